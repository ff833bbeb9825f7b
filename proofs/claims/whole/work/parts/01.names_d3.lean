theorem dX6_textNamed_26 : decode cX6_textNamed 26 = .ok (.iload_n 2, 1) := by decide +kernel
theorem dX6_textNamed_27 : decode cX6_textNamed 27 = .ok (.aload_n 0, 1) := by decide +kernel
theorem dX6_textNamed_28 : decode cX6_textNamed 28 = .ok (.getfield 88, 3) := by decide +kernel
theorem dX6_textNamed_31 : decode cX6_textNamed 31 = .ok (.if_icmp .le 7, 3) := by decide +kernel
theorem dX6_textNamed_34 : decode cX6_textNamed 34 = .ok (.iconst 0, 1) := by decide +kernel
theorem dX6_textNamed_35 : decode cX6_textNamed 35 = .ok (.goto 4, 3) := by decide +kernel
theorem dX6_textNamed_38 : decode cX6_textNamed 38 = .ok (.iload_n 2, 1) := by decide +kernel
theorem dX6_textNamed_39 : decode cX6_textNamed 39 = .ok (.ireturn, 1) := by decide +kernel
theorem dX6_begin_0 : decode cX6_begin 0 = .ok (.aload_n 0, 1) := by decide +kernel
theorem dX6_begin_1 : decode cX6_begin 1 = .ok (.getfield 71, 3) := by decide +kernel
theorem dX6_begin_4 : decode cX6_begin 4 = .ok (.aload_n 0, 1) := by decide +kernel
theorem dX6_begin_5 : decode cX6_begin 5 = .ok (.getfield 147, 3) := by decide +kernel
theorem dX6_begin_8 : decode cX6_begin 8 = .ok (.iload_n 1, 1) := by decide +kernel
theorem dX6_begin_9 : decode cX6_begin 9 = .ok (.iastore, 1) := by decide +kernel
theorem dX6_begin_10 : decode cX6_begin 10 = .ok (.aload_n 0, 1) := by decide +kernel
theorem dX6_begin_11 : decode cX6_begin 11 = .ok (.getfield 74, 3) := by decide +kernel
theorem dX6_begin_14 : decode cX6_begin 14 = .ok (.aload_n 0, 1) := by decide +kernel
theorem dX6_begin_15 : decode cX6_begin 15 = .ok (.getfield 147, 3) := by decide +kernel
theorem dX6_begin_18 : decode cX6_begin 18 = .ok (.iconst 0, 1) := by decide +kernel
theorem dX6_begin_19 : decode cX6_begin 19 = .ok (.iastore, 1) := by decide +kernel
theorem dX6_begin_20 : decode cX6_begin 20 = .ok (.aload_n 0, 1) := by decide +kernel
theorem dX6_begin_21 : decode cX6_begin 21 = .ok (.getfield 77, 3) := by decide +kernel
theorem dX6_begin_24 : decode cX6_begin 24 = .ok (.aload_n 0, 1) := by decide +kernel
theorem dX6_begin_25 : decode cX6_begin 25 = .ok (.getfield 147, 3) := by decide +kernel
theorem dX6_begin_28 : decode cX6_begin 28 = .ok (.iload_n 2, 1) := by decide +kernel
theorem dX6_begin_29 : decode cX6_begin 29 = .ok (.iastore, 1) := by decide +kernel
theorem dX6_begin_30 : decode cX6_begin 30 = .ok (.aload_n 0, 1) := by decide +kernel
theorem dX6_begin_31 : decode cX6_begin 31 = .ok (.getfield 68, 3) := by decide +kernel
theorem dX6_begin_34 : decode cX6_begin 34 = .ok (.aload_n 0, 1) := by decide +kernel
theorem dX6_begin_35 : decode cX6_begin 35 = .ok (.getfield 147, 3) := by decide +kernel
theorem dX6_begin_38 : decode cX6_begin 38 = .ok (.iconst 0, 1) := by decide +kernel
theorem dX6_begin_39 : decode cX6_begin 39 = .ok (.iastore, 1) := by decide +kernel
theorem dX6_begin_40 : decode cX6_begin 40 = .ok (.aload_n 0, 1) := by decide +kernel
theorem dX6_begin_41 : decode cX6_begin 41 = .ok (.dup, 1) := by decide +kernel
theorem dX6_begin_42 : decode cX6_begin 42 = .ok (.getfield 147, 3) := by decide +kernel
theorem dX6_begin_45 : decode cX6_begin 45 = .ok (.iconst 1, 1) := by decide +kernel
theorem dX6_begin_46 : decode cX6_begin 46 = .ok (.iadd, 1) := by decide +kernel
theorem dX6_begin_47 : decode cX6_begin 47 = .ok (.putfield 147, 3) := by decide +kernel
theorem dX6_begin_50 : decode cX6_begin 50 = .ok (.return_, 1) := by decide +kernel
theorem dX6_copied_0 : decode cX6_copied 0 = .ok (.aload_n 0, 1) := by decide +kernel
theorem dX6_copied_1 : decode cX6_copied 1 = .ok (.getfield 150, 3) := by decide +kernel
theorem dX6_copied_4 : decode cX6_copied 4 = .ok (.bipush 100, 2) := by decide +kernel
theorem dX6_copied_6 : decode cX6_copied 6 = .ok (.if_icmp .ne 10, 3) := by decide +kernel
theorem dX6_copied_9 : decode cX6_copied 9 = .ok (.aload_n 0, 1) := by decide +kernel
theorem dX6_copied_10 : decode cX6_copied 10 = .ok (.bipush (-3), 2) := by decide +kernel
theorem dX6_copied_12 : decode cX6_copied 12 = .ok (.putfield 112, 3) := by decide +kernel
theorem dX6_copied_15 : decode cX6_copied 15 = .ok (.return_, 1) := by decide +kernel
theorem dX6_copied_16 : decode cX6_copied 16 = .ok (.aload_n 0, 1) := by decide +kernel
theorem dX6_copied_17 : decode cX6_copied 17 = .ok (.dup, 1) := by decide +kernel
theorem dX6_copied_18 : decode cX6_copied 18 = .ok (.getfield 150, 3) := by decide +kernel
theorem dX6_copied_21 : decode cX6_copied 21 = .ok (.iconst 1, 1) := by decide +kernel
theorem dX6_copied_22 : decode cX6_copied 22 = .ok (.iadd, 1) := by decide +kernel
theorem dX6_copied_23 : decode cX6_copied 23 = .ok (.putfield 150, 3) := by decide +kernel
theorem dX6_copied_26 : decode cX6_copied 26 = .ok (.aload_n 0, 1) := by decide +kernel
theorem dX6_copied_27 : decode cX6_copied 27 = .ok (.aload_n 0, 1) := by decide +kernel
theorem dX6_copied_28 : decode cX6_copied 28 = .ok (.getfield 19, 3) := by decide +kernel
theorem dX6_copied_31 : decode cX6_copied 31 = .ok (.iload_n 1, 1) := by decide +kernel
theorem dX6_copied_32 : decode cX6_copied 32 = .ok (.iaload, 1) := by decide +kernel
theorem dX6_copied_33 : decode cX6_copied 33 = .ok (.invokevirtual 153, 3) := by decide +kernel
theorem dX6_copied_36 : decode cX6_copied 36 = .ok (.istore_n 2, 1) := by decide +kernel
theorem dX6_copied_37 : decode cX6_copied 37 = .ok (.iload_n 2, 1) := by decide +kernel
theorem dX6_copied_38 : decode cX6_copied 38 = .ok (.ifCond .ne 12, 3) := by decide +kernel
theorem dX6_copied_41 : decode cX6_copied 41 = .ok (.aload_n 0, 1) := by decide +kernel
theorem dX6_copied_42 : decode cX6_copied 42 = .ok (.bipush (-10), 2) := by decide +kernel
theorem dX6_copied_44 : decode cX6_copied 44 = .ok (.iload_n 1, 1) := by decide +kernel
theorem dX6_copied_45 : decode cX6_copied 45 = .ok (.isub, 1) := by decide +kernel
theorem dX6_copied_46 : decode cX6_copied 46 = .ok (.putfield 112, 3) := by decide +kernel
theorem dX6_copied_49 : decode cX6_copied 49 = .ok (.return_, 1) := by decide +kernel
theorem dX6_copied_50 : decode cX6_copied 50 = .ok (.iconst 0, 1) := by decide +kernel
theorem dX6_copied_51 : decode cX6_copied 51 = .ok (.istore_n 3, 1) := by decide +kernel
theorem dX6_copied_52 : decode cX6_copied 52 = .ok (.iload_n 3, 1) := by decide +kernel
theorem dX6_copied_53 : decode cX6_copied 53 = .ok (.aload_n 0, 1) := by decide +kernel
theorem dX6_copied_54 : decode cX6_copied 54 = .ok (.getfield 147, 3) := by decide +kernel
theorem dX6_copied_57 : decode cX6_copied 57 = .ok (.if_icmp .ge 19, 3) := by decide +kernel
theorem dX6_copied_60 : decode cX6_copied 60 = .ok (.aload_n 0, 1) := by decide +kernel
theorem dX6_copied_61 : decode cX6_copied 61 = .ok (.getfield 71, 3) := by decide +kernel
theorem dX6_copied_64 : decode cX6_copied 64 = .ok (.iload_n 3, 1) := by decide +kernel
theorem dX6_copied_65 : decode cX6_copied 65 = .ok (.iaload, 1) := by decide +kernel
theorem dX6_copied_66 : decode cX6_copied 66 = .ok (.iload_n 2, 1) := by decide +kernel
theorem dX6_copied_67 : decode cX6_copied 67 = .ok (.if_icmp .eq 9, 3) := by decide +kernel
theorem dX6_copied_70 : decode cX6_copied 70 = .ok (.iinc 3 1, 3) := by decide +kernel
theorem dX6_copied_73 : decode cX6_copied 73 = .ok (.goto (-21), 3) := by decide +kernel
theorem dX6_copied_76 : decode cX6_copied 76 = .ok (.iload_n 3, 1) := by decide +kernel
theorem dX6_copied_77 : decode cX6_copied 77 = .ok (.aload_n 0, 1) := by decide +kernel
theorem dX6_copied_78 : decode cX6_copied 78 = .ok (.getfield 147, 3) := by decide +kernel
theorem dX6_copied_81 : decode cX6_copied 81 = .ok (.if_icmp .ne 10, 3) := by decide +kernel
theorem dX6_copied_84 : decode cX6_copied 84 = .ok (.aload_n 0, 1) := by decide +kernel
theorem dX6_copied_85 : decode cX6_copied 85 = .ok (.iload_n 2, 1) := by decide +kernel
theorem dX6_copied_86 : decode cX6_copied 86 = .ok (.iload_n 1, 1) := by decide +kernel
theorem dX6_copied_87 : decode cX6_copied 87 = .ok (.invokevirtual 156, 3) := by decide +kernel
theorem dX6_copied_90 : decode cX6_copied 90 = .ok (.return_, 1) := by decide +kernel
theorem dX6_copied_91 : decode cX6_copied 91 = .ok (.aload_n 0, 1) := by decide +kernel
theorem dX6_copied_92 : decode cX6_copied 92 = .ok (.iconst (-1), 1) := by decide +kernel
theorem dX6_copied_93 : decode cX6_copied 93 = .ok (.putfield 112, 3) := by decide +kernel
theorem dX6_copied_96 : decode cX6_copied 96 = .ok (.iload_n 3, 1) := by decide +kernel
theorem dX6_copied_97 : decode cX6_copied 97 = .ok (.istore 4, 2) := by decide +kernel
theorem dX6_copied_99 : decode cX6_copied 99 = .ok (.iload 4, 2) := by decide +kernel
theorem dX6_copied_101 : decode cX6_copied 101 = .ok (.aload_n 0, 1) := by decide +kernel
theorem dX6_copied_102 : decode cX6_copied 102 = .ok (.getfield 147, 3) := by decide +kernel
theorem dX6_copied_105 : decode cX6_copied 105 = .ok (.if_icmp .ge 40, 3) := by decide +kernel
theorem dX6_copied_108 : decode cX6_copied 108 = .ok (.aload_n 0, 1) := by decide +kernel
theorem dX6_copied_109 : decode cX6_copied 109 = .ok (.getfield 80, 3) := by decide +kernel
theorem dX6_copied_112 : decode cX6_copied 112 = .ok (.aload_n 0, 1) := by decide +kernel
theorem dX6_copied_113 : decode cX6_copied 113 = .ok (.getfield 160, 3) := by decide +kernel
theorem dX6_copied_116 : decode cX6_copied 116 = .ok (.aload_n 0, 1) := by decide +kernel
theorem dX6_copied_117 : decode cX6_copied 117 = .ok (.getfield 7, 3) := by decide +kernel
theorem dX6_copied_120 : decode cX6_copied 120 = .ok (.aload_n 0, 1) := by decide +kernel
theorem dX6_copied_121 : decode cX6_copied 121 = .ok (.getfield 71, 3) := by decide +kernel
theorem dX6_copied_124 : decode cX6_copied 124 = .ok (.iload 4, 2) := by decide +kernel
theorem dX6_copied_126 : decode cX6_copied 126 = .ok (.iaload, 1) := by decide +kernel
theorem dX6_copied_127 : decode cX6_copied 127 = .ok (.iaload, 1) := by decide +kernel
theorem dX6_copied_128 : decode cX6_copied 128 = .ok (.iastore, 1) := by decide +kernel
theorem dX6_copied_129 : decode cX6_copied 129 = .ok (.aload_n 0, 1) := by decide +kernel
theorem dX6_copied_130 : decode cX6_copied 130 = .ok (.dup, 1) := by decide +kernel
theorem dX6_copied_131 : decode cX6_copied 131 = .ok (.getfield 160, 3) := by decide +kernel
theorem dX6_copied_134 : decode cX6_copied 134 = .ok (.iconst 1, 1) := by decide +kernel
theorem dX6_copied_135 : decode cX6_copied 135 = .ok (.iadd, 1) := by decide +kernel
theorem dX6_copied_136 : decode cX6_copied 136 = .ok (.putfield 160, 3) := by decide +kernel
theorem dX6_copied_139 : decode cX6_copied 139 = .ok (.iinc 4 1, 3) := by decide +kernel
theorem dX6_copied_142 : decode cX6_copied 142 = .ok (.goto (-43), 3) := by decide +kernel
theorem dX6_copied_145 : decode cX6_copied 145 = .ok (.return_, 1) := by decide +kernel
theorem dX6_end_0 : decode cX6_end 0 = .ok (.aload_n 0, 1) := by decide +kernel
theorem dX6_end_1 : decode cX6_end 1 = .ok (.getfield 147, 3) := by decide +kernel
theorem dX6_end_4 : decode cX6_end 4 = .ok (.iconst 1, 1) := by decide +kernel
theorem dX6_end_5 : decode cX6_end 5 = .ok (.isub, 1) := by decide +kernel
theorem dX6_end_6 : decode cX6_end 6 = .ok (.istore_n 1, 1) := by decide +kernel
theorem dX6_end_7 : decode cX6_end 7 = .ok (.aload_n 0, 1) := by decide +kernel
theorem dX6_end_8 : decode cX6_end 8 = .ok (.getfield 77, 3) := by decide +kernel
theorem dX6_end_11 : decode cX6_end 11 = .ok (.iload_n 1, 1) := by decide +kernel
theorem dX6_end_12 : decode cX6_end 12 = .ok (.iaload, 1) := by decide +kernel
theorem dX6_end_13 : decode cX6_end 13 = .ok (.istore_n 2, 1) := by decide +kernel
theorem dX6_end_14 : decode cX6_end 14 = .ok (.aload_n 0, 1) := by decide +kernel
theorem dX6_end_15 : decode cX6_end 15 = .ok (.iload_n 1, 1) := by decide +kernel
theorem dX6_end_16 : decode cX6_end 16 = .ok (.iload_n 2, 1) := by decide +kernel
theorem dX6_end_17 : decode cX6_end 17 = .ok (.invokevirtual 163, 3) := by decide +kernel
theorem dX6_end_20 : decode cX6_end 20 = .ok (.aload_n 0, 1) := by decide +kernel
theorem dX6_end_21 : decode cX6_end 21 = .ok (.getfield 147, 3) := by decide +kernel
theorem dX6_end_24 : decode cX6_end 24 = .ok (.iconst 1, 1) := by decide +kernel
theorem dX6_end_25 : decode cX6_end 25 = .ok (.if_icmp .ne 4, 3) := by decide +kernel
theorem dX6_end_28 : decode cX6_end 28 = .ok (.return_, 1) := by decide +kernel
theorem dX6_end_29 : decode cX6_end 29 = .ok (.iconst 0, 1) := by decide +kernel
theorem dX6_end_30 : decode cX6_end 30 = .ok (.istore_n 3, 1) := by decide +kernel
theorem dX6_end_31 : decode cX6_end 31 = .ok (.iload_n 3, 1) := by decide +kernel
theorem dX6_end_32 : decode cX6_end 32 = .ok (.aload_n 0, 1) := by decide +kernel
theorem dX6_end_33 : decode cX6_end 33 = .ok (.getfield 68, 3) := by decide +kernel
theorem dX6_end_36 : decode cX6_end 36 = .ok (.iload_n 1, 1) := by decide +kernel
theorem dX6_end_37 : decode cX6_end 37 = .ok (.iaload, 1) := by decide +kernel
theorem dX6_end_38 : decode cX6_end 38 = .ok (.if_icmp .ge 90, 3) := by decide +kernel
theorem dX6_end_41 : decode cX6_end 41 = .ok (.aload_n 0, 1) := by decide +kernel
theorem dX6_end_42 : decode cX6_end 42 = .ok (.getfield 112, 3) := by decide +kernel
theorem dX6_end_45 : decode cX6_end 45 = .ok (.ifCond .ne 83, 3) := by decide +kernel
theorem dX6_end_48 : decode cX6_end 48 = .ok (.sipush 302, 3) := by decide +kernel
theorem dX6_end_51 : decode cX6_end 51 = .ok (.iload_n 1, 1) := by decide +kernel
theorem dX6_end_52 : decode cX6_end 52 = .ok (.imul, 1) := by decide +kernel
theorem dX6_end_53 : decode cX6_end 53 = .ok (.iload_n 3, 1) := by decide +kernel
theorem dX6_end_54 : decode cX6_end 54 = .ok (.iadd, 1) := by decide +kernel
theorem dX6_end_55 : decode cX6_end 55 = .ok (.istore 4, 2) := by decide +kernel
theorem dX6_end_57 : decode cX6_end 57 = .ok (.aload_n 0, 1) := by decide +kernel
theorem dX6_end_58 : decode cX6_end 58 = .ok (.iload_n 1, 1) := by decide +kernel
theorem dX6_end_59 : decode cX6_end 59 = .ok (.iconst 1, 1) := by decide +kernel
theorem dX6_end_60 : decode cX6_end 60 = .ok (.isub, 1) := by decide +kernel
theorem dX6_end_61 : decode cX6_end 61 = .ok (.aload_n 0, 1) := by decide +kernel
theorem dX6_end_62 : decode cX6_end 62 = .ok (.getfield 50, 3) := by decide +kernel
theorem dX6_end_65 : decode cX6_end 65 = .ok (.iload 4, 2) := by decide +kernel
theorem dX6_end_67 : decode cX6_end 67 = .ok (.iaload, 1) := by decide +kernel
theorem dX6_end_68 : decode cX6_end 68 = .ok (.aload_n 0, 1) := by decide +kernel
theorem dX6_end_69 : decode cX6_end 69 = .ok (.getfield 53, 3) := by decide +kernel
theorem dX6_end_72 : decode cX6_end 72 = .ok (.iload 4, 2) := by decide +kernel
theorem dX6_end_74 : decode cX6_end 74 = .ok (.iaload, 1) := by decide +kernel
theorem dX6_end_75 : decode cX6_end 75 = .ok (.aload_n 0, 1) := by decide +kernel
theorem dX6_end_76 : decode cX6_end 76 = .ok (.getfield 56, 3) := by decide +kernel
theorem dX6_end_79 : decode cX6_end 79 = .ok (.iload 4, 2) := by decide +kernel
theorem dX6_end_81 : decode cX6_end 81 = .ok (.iaload, 1) := by decide +kernel
theorem dX6_end_82 : decode cX6_end 82 = .ok (.aload_n 0, 1) := by decide +kernel
theorem dX6_end_83 : decode cX6_end 83 = .ok (.getfield 59, 3) := by decide +kernel
theorem dX6_end_86 : decode cX6_end 86 = .ok (.iload 4, 2) := by decide +kernel
theorem dX6_end_88 : decode cX6_end 88 = .ok (.iaload, 1) := by decide +kernel
theorem dX6_end_89 : decode cX6_end 89 = .ok (.aload_n 0, 1) := by decide +kernel
theorem dX6_end_90 : decode cX6_end 90 = .ok (.getfield 32, 3) := by decide +kernel
theorem dX6_end_93 : decode cX6_end 93 = .ok (.iload_n 2, 1) := by decide +kernel
theorem dX6_end_94 : decode cX6_end 94 = .ok (.baload, 1) := by decide +kernel
theorem dX6_end_95 : decode cX6_end 95 = .ok (.ifCond .eq 7, 3) := by decide +kernel
theorem dX6_end_98 : decode cX6_end 98 = .ok (.iconst 1, 1) := by decide +kernel
theorem dX6_end_99 : decode cX6_end 99 = .ok (.goto 10, 3) := by decide +kernel
theorem dX6_end_102 : decode cX6_end 102 = .ok (.aload_n 0, 1) := by decide +kernel
theorem dX6_end_103 : decode cX6_end 103 = .ok (.getfield 62, 3) := by decide +kernel
theorem dX6_end_106 : decode cX6_end 106 = .ok (.iload 4, 2) := by decide +kernel
theorem dX6_end_108 : decode cX6_end 108 = .ok (.iaload, 1) := by decide +kernel
theorem dX6_end_109 : decode cX6_end 109 = .ok (.aload_n 0, 1) := by decide +kernel
theorem dX6_end_110 : decode cX6_end 110 = .ok (.getfield 65, 3) := by decide +kernel
theorem dX6_end_113 : decode cX6_end 113 = .ok (.iload 4, 2) := by decide +kernel
theorem dX6_end_115 : decode cX6_end 115 = .ok (.iaload, 1) := by decide +kernel
theorem dX6_end_116 : decode cX6_end 116 = .ok (.iconst 1, 1) := by decide +kernel
theorem dX6_end_117 : decode cX6_end 117 = .ok (.iadd, 1) := by decide +kernel
theorem dX6_end_118 : decode cX6_end 118 = .ok (.invokevirtual 115, 3) := by decide +kernel
theorem dX6_end_121 : decode cX6_end 121 = .ok (.pop, 1) := by decide +kernel
theorem dX6_end_122 : decode cX6_end 122 = .ok (.iinc 3 1, 3) := by decide +kernel
theorem dX6_end_125 : decode cX6_end 125 = .ok (.goto (-94), 3) := by decide +kernel
theorem dX6_end_128 : decode cX6_end 128 = .ok (.aload_n 0, 1) := by decide +kernel
theorem dX6_end_129 : decode cX6_end 129 = .ok (.dup, 1) := by decide +kernel
theorem dX6_end_130 : decode cX6_end 130 = .ok (.getfield 147, 3) := by decide +kernel
theorem dX6_end_133 : decode cX6_end 133 = .ok (.iconst 1, 1) := by decide +kernel
theorem dX6_end_134 : decode cX6_end 134 = .ok (.isub, 1) := by decide +kernel
theorem dX6_end_135 : decode cX6_end 135 = .ok (.putfield 147, 3) := by decide +kernel
theorem dX6_end_138 : decode cX6_end 138 = .ok (.return_, 1) := by decide +kernel
theorem dX6_run_0 : decode cX6_run 0 = .ok (.aload_n 0, 1) := by decide +kernel
theorem dX6_run_1 : decode cX6_run 1 = .ok (.iconst 0, 1) := by decide +kernel
theorem dX6_run_2 : decode cX6_run 2 = .ok (.putfield 83, 3) := by decide +kernel
theorem dX6_run_5 : decode cX6_run 5 = .ok (.aload_n 0, 1) := by decide +kernel
theorem dX6_run_6 : decode cX6_run 6 = .ok (.iconst 0, 1) := by decide +kernel
theorem dX6_run_7 : decode cX6_run 7 = .ok (.putfield 147, 3) := by decide +kernel
theorem dX6_run_10 : decode cX6_run 10 = .ok (.aload_n 0, 1) := by decide +kernel
theorem dX6_run_11 : decode cX6_run 11 = .ok (.iconst 0, 1) := by decide +kernel
theorem dX6_run_12 : decode cX6_run 12 = .ok (.putfield 112, 3) := by decide +kernel
theorem dX6_run_15 : decode cX6_run 15 = .ok (.aload_n 0, 1) := by decide +kernel
theorem dX6_run_16 : decode cX6_run 16 = .ok (.iconst 0, 1) := by decide +kernel
theorem dX6_run_17 : decode cX6_run 17 = .ok (.putfield 150, 3) := by decide +kernel
theorem dX6_run_20 : decode cX6_run 20 = .ok (.aload_n 0, 1) := by decide +kernel
theorem dX6_run_21 : decode cX6_run 21 = .ok (.iconst 0, 1) := by decide +kernel
theorem dX6_run_22 : decode cX6_run 22 = .ok (.putfield 130, 3) := by decide +kernel
theorem dX6_run_25 : decode cX6_run 25 = .ok (.aload_n 0, 1) := by decide +kernel
theorem dX6_run_26 : decode cX6_run 26 = .ok (.iconst 0, 1) := by decide +kernel
theorem dX6_run_27 : decode cX6_run 27 = .ok (.putfield 160, 3) := by decide +kernel
theorem dX6_run_30 : decode cX6_run 30 = .ok (.aload_n 0, 1) := by decide +kernel
theorem dX6_run_31 : decode cX6_run 31 = .ok (.iconst 0, 1) := by decide +kernel
theorem dX6_run_32 : decode cX6_run 32 = .ok (.putfield 166, 3) := by decide +kernel
theorem dX6_run_35 : decode cX6_run 35 = .ok (.aload_n 0, 1) := by decide +kernel
theorem dX6_run_36 : decode cX6_run 36 = .ok (.iconst 0, 1) := by decide +kernel
theorem dX6_run_37 : decode cX6_run 37 = .ok (.iconst 0, 1) := by decide +kernel
theorem dX6_run_38 : decode cX6_run 38 = .ok (.invokevirtual 156, 3) := by decide +kernel
theorem dX6_run_41 : decode cX6_run 41 = .ok (.iconst 0, 1) := by decide +kernel
theorem dX6_run_42 : decode cX6_run 42 = .ok (.istore_n 1, 1) := by decide +kernel
theorem dX6_run_43 : decode cX6_run 43 = .ok (.iload_n 1, 1) := by decide +kernel
theorem dX6_run_44 : decode cX6_run 44 = .ok (.ifCond .ne 135, 3) := by decide +kernel
theorem dX6_run_47 : decode cX6_run 47 = .ok (.aload_n 0, 1) := by decide +kernel
theorem dX6_run_48 : decode cX6_run 48 = .ok (.getfield 112, 3) := by decide +kernel
theorem dX6_run_51 : decode cX6_run 51 = .ok (.ifCond .ne 128, 3) := by decide +kernel
theorem dX6_run_54 : decode cX6_run 54 = .ok (.aload_n 0, 1) := by decide +kernel
theorem dX6_run_55 : decode cX6_run 55 = .ok (.getfield 147, 3) := by decide +kernel
theorem dX6_run_58 : decode cX6_run 58 = .ok (.iconst 1, 1) := by decide +kernel
theorem dX6_run_59 : decode cX6_run 59 = .ok (.isub, 1) := by decide +kernel
theorem dX6_run_60 : decode cX6_run 60 = .ok (.istore_n 2, 1) := by decide +kernel
theorem dX6_run_61 : decode cX6_run 61 = .ok (.aload_n 0, 1) := by decide +kernel
theorem dX6_run_62 : decode cX6_run 62 = .ok (.getfield 71, 3) := by decide +kernel
theorem dX6_run_65 : decode cX6_run 65 = .ok (.iload_n 2, 1) := by decide +kernel
theorem dX6_run_66 : decode cX6_run 66 = .ok (.iaload, 1) := by decide +kernel
theorem dX6_run_67 : decode cX6_run 67 = .ok (.istore_n 3, 1) := by decide +kernel
theorem dX6_run_68 : decode cX6_run 68 = .ok (.aload_n 0, 1) := by decide +kernel
theorem dX6_run_69 : decode cX6_run 69 = .ok (.getfield 74, 3) := by decide +kernel
theorem dX6_run_72 : decode cX6_run 72 = .ok (.iload_n 2, 1) := by decide +kernel
theorem dX6_run_73 : decode cX6_run 73 = .ok (.iaload, 1) := by decide +kernel
theorem dX6_run_74 : decode cX6_run 74 = .ok (.istore 4, 2) := by decide +kernel
theorem dX6_run_76 : decode cX6_run 76 = .ok (.iload 4, 2) := by decide +kernel
theorem dX6_run_78 : decode cX6_run 78 = .ok (.aload_n 0, 1) := by decide +kernel
theorem dX6_run_79 : decode cX6_run 79 = .ok (.getfield 13, 3) := by decide +kernel
theorem dX6_run_82 : decode cX6_run 82 = .ok (.iload_n 3, 1) := by decide +kernel
theorem dX6_run_83 : decode cX6_run 83 = .ok (.iaload, 1) := by decide +kernel
theorem dX6_run_84 : decode cX6_run 84 = .ok (.if_icmp .ne 24, 3) := by decide +kernel
theorem dX6_run_87 : decode cX6_run 87 = .ok (.aload_n 0, 1) := by decide +kernel
theorem dX6_run_88 : decode cX6_run 88 = .ok (.getfield 147, 3) := by decide +kernel
theorem dX6_run_91 : decode cX6_run 91 = .ok (.iconst 1, 1) := by decide +kernel
theorem dX6_run_92 : decode cX6_run 92 = .ok (.if_icmp .ne 7, 3) := by decide +kernel
theorem dX6_run_95 : decode cX6_run 95 = .ok (.iconst 1, 1) := by decide +kernel
theorem dX6_run_96 : decode cX6_run 96 = .ok (.goto 4, 3) := by decide +kernel
theorem dX6_run_99 : decode cX6_run 99 = .ok (.iconst 0, 1) := by decide +kernel
theorem dX6_run_100 : decode cX6_run 100 = .ok (.istore_n 1, 1) := by decide +kernel
theorem dX6_run_101 : decode cX6_run 101 = .ok (.aload_n 0, 1) := by decide +kernel
theorem dX6_run_102 : decode cX6_run 102 = .ok (.invokevirtual 169, 3) := by decide +kernel
theorem dX6_run_105 : decode cX6_run 105 = .ok (.goto (-62), 3) := by decide +kernel
theorem dX6_run_108 : decode cX6_run 108 = .ok (.aload_n 0, 1) := by decide +kernel
theorem dX6_run_109 : decode cX6_run 109 = .ok (.getfield 74, 3) := by decide +kernel
theorem dX6_run_112 : decode cX6_run 112 = .ok (.iload_n 2, 1) := by decide +kernel
theorem dX6_run_113 : decode cX6_run 113 = .ok (.dup2, 1) := by decide +kernel
theorem dX6_run_114 : decode cX6_run 114 = .ok (.iaload, 1) := by decide +kernel
theorem dX6_run_115 : decode cX6_run 115 = .ok (.iconst 1, 1) := by decide +kernel
theorem dX6_run_116 : decode cX6_run 116 = .ok (.iadd, 1) := by decide +kernel
theorem dX6_run_117 : decode cX6_run 117 = .ok (.iastore, 1) := by decide +kernel
theorem dX6_run_118 : decode cX6_run 118 = .ok (.aload_n 0, 1) := by decide +kernel
theorem dX6_run_119 : decode cX6_run 119 = .ok (.getfield 16, 3) := by decide +kernel
theorem dX6_run_122 : decode cX6_run 122 = .ok (.sipush 200, 3) := by decide +kernel
theorem dX6_run_125 : decode cX6_run 125 = .ok (.iload_n 3, 1) := by decide +kernel
theorem dX6_run_126 : decode cX6_run 126 = .ok (.imul, 1) := by decide +kernel
theorem dX6_run_127 : decode cX6_run 127 = .ok (.iload 4, 2) := by decide +kernel
theorem dX6_run_129 : decode cX6_run 129 = .ok (.iadd, 1) := by decide +kernel
theorem dX6_run_130 : decode cX6_run 130 = .ok (.iaload, 1) := by decide +kernel
theorem dX6_run_131 : decode cX6_run 131 = .ok (.istore 5, 2) := by decide +kernel
theorem dX6_run_133 : decode cX6_run 133 = .ok (.iload 5, 2) := by decide +kernel
theorem dX6_run_135 : decode cX6_run 135 = .ok (.sipush (-1000), 3) := by decide +kernel
theorem dX6_run_138 : decode cX6_run 138 = .ok (.if_icmp .ge 24, 3) := by decide +kernel
theorem dX6_run_141 : decode cX6_run 141 = .ok (.iload 5, 2) := by decide +kernel
theorem dX6_run_143 : decode cX6_run 143 = .ok (.sipush (-1060), 3) := by decide +kernel
theorem dX6_run_146 : decode cX6_run 146 = .ok (.if_icmp .lt 16, 3) := by decide +kernel
theorem dX6_run_149 : decode cX6_run 149 = .ok (.aload_n 0, 1) := by decide +kernel
theorem dX6_run_150 : decode cX6_run 150 = .ok (.sipush (-1000), 3) := by decide +kernel
theorem dX6_run_153 : decode cX6_run 153 = .ok (.iload 5, 2) := by decide +kernel
theorem dX6_run_155 : decode cX6_run 155 = .ok (.isub, 1) := by decide +kernel
theorem dX6_run_156 : decode cX6_run 156 = .ok (.invokevirtual 172, 3) := by decide +kernel
theorem dX6_run_159 : decode cX6_run 159 = .ok (.goto 17, 3) := by decide +kernel
theorem dX6_run_162 : decode cX6_run 162 = .ok (.aload_n 0, 1) := by decide +kernel
theorem dX6_run_163 : decode cX6_run 163 = .ok (.iload_n 2, 1) := by decide +kernel
theorem dX6_run_164 : decode cX6_run 164 = .ok (.iload 5, 2) := by decide +kernel
theorem dX6_run_166 : decode cX6_run 166 = .ok (.iload_n 3, 1) := by decide +kernel
theorem dX6_run_167 : decode cX6_run 167 = .ok (.iload 4, 2) := by decide +kernel
theorem dX6_run_169 : decode cX6_run 169 = .ok (.iconst 0, 1) := by decide +kernel
theorem dX6_run_170 : decode cX6_run 170 = .ok (.iconst 0, 1) := by decide +kernel
theorem dX6_run_171 : decode cX6_run 171 = .ok (.iconst 0, 1) := by decide +kernel
theorem dX6_run_172 : decode cX6_run 172 = .ok (.invokevirtual 115, 3) := by decide +kernel
theorem dX6_run_175 : decode cX6_run 175 = .ok (.pop, 1) := by decide +kernel
theorem dX6_run_176 : decode cX6_run 176 = .ok (.goto (-133), 3) := by decide +kernel
theorem dX6_run_179 : decode cX6_run 179 = .ok (.aload_n 0, 1) := by decide +kernel
theorem dX6_run_180 : decode cX6_run 180 = .ok (.getfield 112, 3) := by decide +kernel
theorem dX6_run_183 : decode cX6_run 183 = .ok (.ifCond .eq 8, 3) := by decide +kernel
theorem dX6_run_186 : decode cX6_run 186 = .ok (.aload_n 0, 1) := by decide +kernel
theorem dX6_run_187 : decode cX6_run 187 = .ok (.getfield 112, 3) := by decide +kernel
theorem dX6_run_190 : decode cX6_run 190 = .ok (.ireturn, 1) := by decide +kernel
theorem dX6_run_191 : decode cX6_run 191 = .ok (.aload_n 0, 1) := by decide +kernel
theorem dX6_run_192 : decode cX6_run 192 = .ok (.aload_n 0, 1) := by decide +kernel
theorem dX6_run_193 : decode cX6_run 193 = .ok (.getfield 68, 3) := by decide +kernel
theorem dX6_run_196 : decode cX6_run 196 = .ok (.iconst 0, 1) := by decide +kernel
theorem dX6_run_197 : decode cX6_run 197 = .ok (.iaload, 1) := by decide +kernel
theorem dX6_run_198 : decode cX6_run 198 = .ok (.putfield 166, 3) := by decide +kernel
theorem dX6_run_201 : decode cX6_run 201 = .ok (.aload_n 0, 1) := by decide +kernel
theorem dX6_run_202 : decode cX6_run 202 = .ok (.getfield 166, 3) := by decide +kernel
theorem dX6_run_205 : decode cX6_run 205 = .ok (.ireturn, 1) := by decide +kernel
theorem dX6_at_0 : decode cX6_at 0 = .ok (.aload_n 0, 1) := by decide +kernel
theorem dX6_at_1 : decode cX6_at 1 = .ok (.iload_n 1, 1) := by decide +kernel
theorem dX6_at_2 : decode cX6_at 2 = .ok (.ifCond .lt 15, 3) := by decide +kernel
theorem dX6_at_5 : decode cX6_at 5 = .ok (.iload_n 1, 1) := by decide +kernel
theorem dX6_at_6 : decode cX6_at 6 = .ok (.aload_n 0, 1) := by decide +kernel
theorem dX6_at_7 : decode cX6_at 7 = .ok (.getfield 166, 3) := by decide +kernel
theorem dX6_at_10 : decode cX6_at 10 = .ok (.if_icmp .ge 7, 3) := by decide +kernel
theorem dX6_at_13 : decode cX6_at 13 = .ok (.iconst 0, 1) := by decide +kernel
theorem dX6_at_14 : decode cX6_at 14 = .ok (.goto 4, 3) := by decide +kernel
theorem dX6_at_17 : decode cX6_at 17 = .ok (.iconst 1, 1) := by decide +kernel
theorem dX6_at_18 : decode cX6_at 18 = .ok (.putfield 83, 3) := by decide +kernel
theorem dX6_at_21 : decode cX6_at 21 = .ok (.aload_n 0, 1) := by decide +kernel
theorem dX6_at_22 : decode cX6_at 22 = .ok (.getfield 83, 3) := by decide +kernel
theorem dX6_at_25 : decode cX6_at 25 = .ok (.ifCond .ne 12, 3) := by decide +kernel
theorem dX6_at_28 : decode cX6_at 28 = .ok (.aload_n 0, 1) := by decide +kernel
theorem dX6_at_29 : decode cX6_at 29 = .ok (.getfield 50, 3) := by decide +kernel
theorem dX6_at_32 : decode cX6_at 32 = .ok (.iload_n 1, 1) := by decide +kernel
theorem dX6_at_33 : decode cX6_at 33 = .ok (.iaload, 1) := by decide +kernel
theorem dX6_at_34 : decode cX6_at 34 = .ok (.goto 4, 3) := by decide +kernel
theorem dX6_at_37 : decode cX6_at 37 = .ok (.iconst 0, 1) := by decide +kernel
theorem dX6_at_38 : decode cX6_at 38 = .ok (.ireturn, 1) := by decide +kernel
theorem dX6_place_0 : decode cX6_place 0 = .ok (.aload_n 0, 1) := by decide +kernel
theorem dX6_place_1 : decode cX6_place 1 = .ok (.iconst 0, 1) := by decide +kernel
theorem dX6_place_2 : decode cX6_place 2 = .ok (.putfield 83, 3) := by decide +kernel
theorem dX6_place_5 : decode cX6_place 5 = .ok (.iload_n 1, 1) := by decide +kernel
theorem dX6_place_6 : decode cX6_place 6 = .ok (.ifCond .lt 11, 3) := by decide +kernel
theorem dX6_place_9 : decode cX6_place 9 = .ok (.iload_n 1, 1) := by decide +kernel
theorem dX6_place_10 : decode cX6_place 10 = .ok (.aload_n 0, 1) := by decide +kernel
theorem dX6_place_11 : decode cX6_place 11 = .ok (.getfield 166, 3) := by decide +kernel
theorem dX6_place_14 : decode cX6_place 14 = .ok (.if_icmp .lt 5, 3) := by decide +kernel
theorem dX6_place_17 : decode cX6_place 17 = .ok (.iconst (-1), 1) := by decide +kernel
theorem dX6_place_18 : decode cX6_place 18 = .ok (.ireturn, 1) := by decide +kernel
theorem dX6_place_19 : decode cX6_place 19 = .ok (.iload_n 2, 1) := by decide +kernel
theorem dX6_place_20 : decode cX6_place 20 = .ok (.tableswitch 71 0 4 #[36, 43, 50, 57, 64], 36) := by decide +kernel
theorem dX6_place_56 : decode cX6_place 56 = .ok (.aload_n 0, 1) := by decide +kernel
theorem dX6_place_57 : decode cX6_place 57 = .ok (.getfield 53, 3) := by decide +kernel
theorem dX6_place_60 : decode cX6_place 60 = .ok (.iload_n 1, 1) := by decide +kernel
theorem dX6_place_61 : decode cX6_place 61 = .ok (.iaload, 1) := by decide +kernel
theorem dX6_place_62 : decode cX6_place 62 = .ok (.ireturn, 1) := by decide +kernel
theorem dX6_place_63 : decode cX6_place 63 = .ok (.aload_n 0, 1) := by decide +kernel
theorem dX6_place_64 : decode cX6_place 64 = .ok (.getfield 56, 3) := by decide +kernel
theorem dX6_place_67 : decode cX6_place 67 = .ok (.iload_n 1, 1) := by decide +kernel
theorem dX6_place_68 : decode cX6_place 68 = .ok (.iaload, 1) := by decide +kernel
theorem dX6_place_69 : decode cX6_place 69 = .ok (.ireturn, 1) := by decide +kernel
theorem dX6_place_70 : decode cX6_place 70 = .ok (.aload_n 0, 1) := by decide +kernel
theorem dX6_place_71 : decode cX6_place 71 = .ok (.getfield 59, 3) := by decide +kernel
theorem dX6_place_74 : decode cX6_place 74 = .ok (.iload_n 1, 1) := by decide +kernel
theorem dX6_place_75 : decode cX6_place 75 = .ok (.iaload, 1) := by decide +kernel
theorem dX6_place_76 : decode cX6_place 76 = .ok (.ireturn, 1) := by decide +kernel
theorem dX6_place_77 : decode cX6_place 77 = .ok (.aload_n 0, 1) := by decide +kernel
theorem dX6_place_78 : decode cX6_place 78 = .ok (.getfield 62, 3) := by decide +kernel
theorem dX6_place_81 : decode cX6_place 81 = .ok (.iload_n 1, 1) := by decide +kernel
theorem dX6_place_82 : decode cX6_place 82 = .ok (.iaload, 1) := by decide +kernel
theorem dX6_place_83 : decode cX6_place 83 = .ok (.ireturn, 1) := by decide +kernel
theorem dX6_place_84 : decode cX6_place 84 = .ok (.aload_n 0, 1) := by decide +kernel
theorem dX6_place_85 : decode cX6_place 85 = .ok (.getfield 65, 3) := by decide +kernel
theorem dX6_place_88 : decode cX6_place 88 = .ok (.iload_n 1, 1) := by decide +kernel
theorem dX6_place_89 : decode cX6_place 89 = .ok (.iaload, 1) := by decide +kernel
theorem dX6_place_90 : decode cX6_place 90 = .ok (.ireturn, 1) := by decide +kernel
theorem dX6_place_91 : decode cX6_place 91 = .ok (.iconst (-1), 1) := by decide +kernel
theorem dX6_place_92 : decode cX6_place 92 = .ok (.ireturn, 1) := by decide +kernel
theorem dX6_ring_0 : decode cX6_ring 0 = .ok (.aload_n 0, 1) := by decide +kernel
theorem dX6_ring_1 : decode cX6_ring 1 = .ok (.iconst 0, 1) := by decide +kernel
theorem dX6_ring_2 : decode cX6_ring 2 = .ok (.putfield 83, 3) := by decide +kernel
theorem dX6_ring_5 : decode cX6_ring 5 = .ok (.iload_n 1, 1) := by decide +kernel
theorem dX6_ring_6 : decode cX6_ring 6 = .ok (.ifCond .lt 20, 3) := by decide +kernel
theorem dX6_ring_9 : decode cX6_ring 9 = .ok (.iload_n 1, 1) := by decide +kernel
theorem dX6_ring_10 : decode cX6_ring 10 = .ok (.aload_n 0, 1) := by decide +kernel
theorem dX6_ring_11 : decode cX6_ring 11 = .ok (.getfield 160, 3) := by decide +kernel
theorem dX6_ring_14 : decode cX6_ring 14 = .ok (.if_icmp .ge 12, 3) := by decide +kernel
theorem dX6_ring_17 : decode cX6_ring 17 = .ok (.aload_n 0, 1) := by decide +kernel
theorem dX6_ring_18 : decode cX6_ring 18 = .ok (.getfield 80, 3) := by decide +kernel
theorem dX6_ring_21 : decode cX6_ring 21 = .ok (.iload_n 1, 1) := by decide +kernel
theorem dX6_ring_22 : decode cX6_ring 22 = .ok (.iaload, 1) := by decide +kernel
theorem dX6_ring_23 : decode cX6_ring 23 = .ok (.goto 4, 3) := by decide +kernel
theorem dX6_ring_26 : decode cX6_ring 26 = .ok (.iconst (-1), 1) := by decide +kernel
theorem dX6_ring_27 : decode cX6_ring 27 = .ok (.ireturn, 1) := by decide +kernel
theorem dX6_count_0 : decode cX6_count 0 = .ok (.aload_n 0, 1) := by decide +kernel
theorem dX6_count_1 : decode cX6_count 1 = .ok (.iconst 0, 1) := by decide +kernel
theorem dX6_count_2 : decode cX6_count 2 = .ok (.putfield 83, 3) := by decide +kernel
theorem dX6_count_5 : decode cX6_count 5 = .ok (.iload_n 1, 1) := by decide +kernel
theorem dX6_count_6 : decode cX6_count 6 = .ok (.tableswitch 59 0 4 #[34, 39, 44, 49, 54], 34) := by decide +kernel
theorem dX6_count_40 : decode cX6_count 40 = .ok (.aload_n 0, 1) := by decide +kernel
theorem dX6_count_41 : decode cX6_count 41 = .ok (.getfield 88, 3) := by decide +kernel
theorem dX6_count_44 : decode cX6_count 44 = .ok (.ireturn, 1) := by decide +kernel
theorem dX6_count_45 : decode cX6_count 45 = .ok (.aload_n 0, 1) := by decide +kernel
theorem dX6_count_46 : decode cX6_count 46 = .ok (.getfield 102, 3) := by decide +kernel
theorem dX6_count_49 : decode cX6_count 49 = .ok (.ireturn, 1) := by decide +kernel
theorem dX6_count_50 : decode cX6_count 50 = .ok (.aload_n 0, 1) := by decide +kernel
theorem dX6_count_51 : decode cX6_count 51 = .ok (.getfield 109, 3) := by decide +kernel
theorem dX6_count_54 : decode cX6_count 54 = .ok (.ireturn, 1) := by decide +kernel
theorem dX6_count_55 : decode cX6_count 55 = .ok (.aload_n 0, 1) := by decide +kernel
theorem dX6_count_56 : decode cX6_count 56 = .ok (.getfield 150, 3) := by decide +kernel
theorem dX6_count_59 : decode cX6_count 59 = .ok (.ireturn, 1) := by decide +kernel
theorem dX6_count_60 : decode cX6_count 60 = .ok (.aload_n 0, 1) := by decide +kernel
theorem dX6_count_61 : decode cX6_count 61 = .ok (.getfield 130, 3) := by decide +kernel
theorem dX6_count_64 : decode cX6_count 64 = .ok (.ireturn, 1) := by decide +kernel
theorem dX6_count_65 : decode cX6_count 65 = .ok (.iconst (-1), 1) := by decide +kernel
theorem dX6_count_66 : decode cX6_count 66 = .ok (.ireturn, 1) := by decide +kernel
theorem dJx00060_init_da8c8_0 : decode cJx00060_init_da8c8 0 = .ok (.aload_n 0, 1) := by decide +kernel
theorem dJx00060_init_da8c8_1 : decode cJx00060_init_da8c8 1 = .ok (.invokespecial 1, 3) := by decide +kernel
theorem dJx00060_init_da8c8_4 : decode cJx00060_init_da8c8 4 = .ok (.return_, 1) := by decide +kernel
theorem dL_at_0 : decode cL_at 0 = .ok (.aload_n 2, 1) := by decide +kernel
theorem dL_at_1 : decode cL_at 1 = .ok (.iconst 0, 1) := by decide +kernel
theorem dL_at_2 : decode cL_at 2 = .ok (.aload_n 0, 1) := by decide +kernel
theorem dL_at_3 : decode cL_at 3 = .ok (.iload_n 1, 1) := by decide +kernel
theorem dL_at_4 : decode cL_at 4 = .ok (.invokevirtual 7, 3) := by decide +kernel
theorem dL_at_7 : decode cL_at 7 = .ok (.i2l, 1) := by decide +kernel
theorem dL_at_8 : decode cL_at 8 = .ok (.lastore, 1) := by decide +kernel
theorem dL_at_9 : decode cL_at 9 = .ok (.goto 6, 3) := by decide +kernel
theorem dL_at_12 : decode cL_at 12 = .ok (.astore_n 3, 1) := by decide +kernel
theorem dL_at_13 : decode cL_at 13 = .ok (.iconst 1, 1) := by decide +kernel
theorem dL_at_14 : decode cL_at 14 = .ok (.ireturn, 1) := by decide +kernel
theorem dL_at_15 : decode cL_at 15 = .ok (.iconst 0, 1) := by decide +kernel
theorem dL_at_16 : decode cL_at 16 = .ok (.ireturn, 1) := by decide +kernel
theorem dL_law_0 : decode cL_law 0 = .ok (.new 8, 3) := by decide +kernel
theorem dL_law_3 : decode cL_law 3 = .ok (.dup, 1) := by decide +kernel
theorem dL_law_4 : decode cL_law 4 = .ok (.invokespecial 15, 3) := by decide +kernel
theorem dL_law_7 : decode cL_law 7 = .ok (.astore_n 1, 1) := by decide +kernel
theorem dL_law_8 : decode cL_law 8 = .ok (.new 16, 3) := by decide +kernel
theorem dL_law_11 : decode cL_law 11 = .ok (.dup, 1) := by decide +kernel
theorem dL_law_12 : decode cL_law 12 = .ok (.invokespecial 18, 3) := by decide +kernel
theorem dL_law_15 : decode cL_law 15 = .ok (.astore_n 2, 1) := by decide +kernel
theorem dL_law_16 : decode cL_law 16 = .ok (.iconst 1, 1) := by decide +kernel
theorem dL_law_17 : decode cL_law 17 = .ok (.newarray .long, 2) := by decide +kernel
theorem dL_law_19 : decode cL_law 19 = .ok (.astore_n 3, 1) := by decide +kernel
theorem dL_law_20 : decode cL_law 20 = .ok (.iconst 0, 1) := by decide +kernel
theorem dL_law_21 : decode cL_law 21 = .ok (.istore 4, 2) := by decide +kernel
theorem dL_law_23 : decode cL_law 23 = .ok (.iload 4, 2) := by decide +kernel
theorem dL_law_25 : decode cL_law 25 = .ok (.aload_n 0, 1) := by decide +kernel
theorem dL_law_26 : decode cL_law 26 = .ok (.arraylength, 1) := by decide +kernel
theorem dL_law_27 : decode cL_law 27 = .ok (.iconst 4, 1) := by decide +kernel
theorem dL_law_28 : decode cL_law 28 = .ok (.isub, 1) := by decide +kernel
theorem dL_law_29 : decode cL_law 29 = .ok (.if_icmp .gt 537, 3) := by decide +kernel
theorem dL_law_32 : decode cL_law 32 = .ok (.aload_n 0, 1) := by decide +kernel
theorem dL_law_33 : decode cL_law 33 = .ok (.iload 4, 2) := by decide +kernel
theorem dL_law_35 : decode cL_law 35 = .ok (.iaload, 1) := by decide +kernel
theorem dL_law_36 : decode cL_law 36 = .ok (.bipush 15, 2) := by decide +kernel
theorem dL_law_38 : decode cL_law 38 = .ok (.iand, 1) := by decide +kernel
theorem dL_law_39 : decode cL_law 39 = .ok (.tableswitch 521 0 12 #[65, 90, 127, 192, 217, 242, 291, 328, 365, 378, 434, 471, 496], 65) := by decide +kernel
theorem dL_law_104 : decode cL_law 104 = .ok (.aload_n 1, 1) := by decide +kernel
theorem dL_law_105 : decode cL_law 105 = .ok (.aload_n 0, 1) := by decide +kernel
theorem dL_law_106 : decode cL_law 106 = .ok (.iload 4, 2) := by decide +kernel
theorem dL_law_108 : decode cL_law 108 = .ok (.iconst 1, 1) := by decide +kernel
theorem dL_law_109 : decode cL_law 109 = .ok (.iadd, 1) := by decide +kernel
theorem dL_law_110 : decode cL_law 110 = .ok (.iaload, 1) := by decide +kernel
theorem dL_law_111 : decode cL_law 111 = .ok (.invokevirtual 19, 3) := by decide +kernel
theorem dL_law_114 : decode cL_law 114 = .ok (.aload_n 2, 1) := by decide +kernel
theorem dL_law_115 : decode cL_law 115 = .ok (.aload_n 0, 1) := by decide +kernel
theorem dL_law_116 : decode cL_law 116 = .ok (.iload 4, 2) := by decide +kernel
theorem dL_law_118 : decode cL_law 118 = .ok (.iconst 1, 1) := by decide +kernel
theorem dL_law_119 : decode cL_law 119 = .ok (.iadd, 1) := by decide +kernel
theorem dL_law_120 : decode cL_law 120 = .ok (.iaload, 1) := by decide +kernel
theorem dL_law_121 : decode cL_law 121 = .ok (.invokevirtual 22, 3) := by decide +kernel
theorem dL_law_124 : decode cL_law 124 = .ok (.if_icmp .eq 436, 3) := by decide +kernel
theorem dL_law_127 : decode cL_law 127 = .ok (.iconst 0, 1) := by decide +kernel
theorem dL_law_128 : decode cL_law 128 = .ok (.ireturn, 1) := by decide +kernel
theorem dL_law_129 : decode cL_law 129 = .ok (.aload_n 1, 1) := by decide +kernel
theorem dL_law_130 : decode cL_law 130 = .ok (.aload_n 0, 1) := by decide +kernel
theorem dL_law_131 : decode cL_law 131 = .ok (.iload 4, 2) := by decide +kernel
theorem dL_law_133 : decode cL_law 133 = .ok (.iconst 1, 1) := by decide +kernel
theorem dL_law_134 : decode cL_law 134 = .ok (.iadd, 1) := by decide +kernel
theorem dL_law_135 : decode cL_law 135 = .ok (.iaload, 1) := by decide +kernel
theorem dL_law_136 : decode cL_law 136 = .ok (.aload_n 0, 1) := by decide +kernel
theorem dL_law_137 : decode cL_law 137 = .ok (.iload 4, 2) := by decide +kernel
theorem dL_law_139 : decode cL_law 139 = .ok (.iconst 2, 1) := by decide +kernel
theorem dL_law_140 : decode cL_law 140 = .ok (.iadd, 1) := by decide +kernel
theorem dL_law_141 : decode cL_law 141 = .ok (.iaload, 1) := by decide +kernel
theorem dL_law_142 : decode cL_law 142 = .ok (.invokevirtual 23, 3) := by decide +kernel
theorem dL_law_145 : decode cL_law 145 = .ok (.aload_n 2, 1) := by decide +kernel
theorem dL_law_146 : decode cL_law 146 = .ok (.aload_n 0, 1) := by decide +kernel
theorem dL_law_147 : decode cL_law 147 = .ok (.iload 4, 2) := by decide +kernel
theorem dL_law_149 : decode cL_law 149 = .ok (.iconst 1, 1) := by decide +kernel
theorem dL_law_150 : decode cL_law 150 = .ok (.iadd, 1) := by decide +kernel
theorem dL_law_151 : decode cL_law 151 = .ok (.iaload, 1) := by decide +kernel
theorem dL_law_152 : decode cL_law 152 = .ok (.aload_n 0, 1) := by decide +kernel
theorem dL_law_153 : decode cL_law 153 = .ok (.iload 4, 2) := by decide +kernel
theorem dL_law_155 : decode cL_law 155 = .ok (.iconst 2, 1) := by decide +kernel
theorem dL_law_156 : decode cL_law 156 = .ok (.iadd, 1) := by decide +kernel
theorem dL_law_157 : decode cL_law 157 = .ok (.iaload, 1) := by decide +kernel
theorem dL_law_158 : decode cL_law 158 = .ok (.invokevirtual 27, 3) := by decide +kernel
theorem dL_law_161 : decode cL_law 161 = .ok (.if_icmp .eq 399, 3) := by decide +kernel
theorem dL_law_164 : decode cL_law 164 = .ok (.iconst 0, 1) := by decide +kernel
theorem dL_law_165 : decode cL_law 165 = .ok (.ireturn, 1) := by decide +kernel
theorem dL_law_166 : decode cL_law 166 = .ok (.aload_n 1, 1) := by decide +kernel
theorem dL_law_167 : decode cL_law 167 = .ok (.aload_n 0, 1) := by decide +kernel
theorem dL_law_168 : decode cL_law 168 = .ok (.iload 4, 2) := by decide +kernel
theorem dL_law_170 : decode cL_law 170 = .ok (.iconst 1, 1) := by decide +kernel
theorem dL_law_171 : decode cL_law 171 = .ok (.iadd, 1) := by decide +kernel
theorem dL_law_172 : decode cL_law 172 = .ok (.iaload, 1) := by decide +kernel
theorem dL_law_173 : decode cL_law 173 = .ok (.aload_n 0, 1) := by decide +kernel
theorem dL_law_174 : decode cL_law 174 = .ok (.iload 4, 2) := by decide +kernel
theorem dL_law_176 : decode cL_law 176 = .ok (.iconst 2, 1) := by decide +kernel
theorem dL_law_177 : decode cL_law 177 = .ok (.iadd, 1) := by decide +kernel
theorem dL_law_178 : decode cL_law 178 = .ok (.iaload, 1) := by decide +kernel
theorem dL_law_179 : decode cL_law 179 = .ok (.aload_n 0, 1) := by decide +kernel
theorem dL_law_180 : decode cL_law 180 = .ok (.iload 4, 2) := by decide +kernel
theorem dL_law_182 : decode cL_law 182 = .ok (.iconst 3, 1) := by decide +kernel
theorem dL_law_183 : decode cL_law 183 = .ok (.iadd, 1) := by decide +kernel
theorem dL_law_184 : decode cL_law 184 = .ok (.iaload, 1) := by decide +kernel
theorem dL_law_185 : decode cL_law 185 = .ok (.ifCond .eq 7, 3) := by decide +kernel
theorem dL_law_188 : decode cL_law 188 = .ok (.iconst 1, 1) := by decide +kernel
theorem dL_law_189 : decode cL_law 189 = .ok (.goto 4, 3) := by decide +kernel
theorem dL_law_192 : decode cL_law 192 = .ok (.iconst 0, 1) := by decide +kernel
theorem dL_law_193 : decode cL_law 193 = .ok (.invokevirtual 28, 3) := by decide +kernel
theorem dL_law_196 : decode cL_law 196 = .ok (.aload_n 2, 1) := by decide +kernel
theorem dL_law_197 : decode cL_law 197 = .ok (.aload_n 0, 1) := by decide +kernel
theorem dL_law_198 : decode cL_law 198 = .ok (.iload 4, 2) := by decide +kernel
theorem dL_law_200 : decode cL_law 200 = .ok (.iconst 1, 1) := by decide +kernel
theorem dL_law_201 : decode cL_law 201 = .ok (.iadd, 1) := by decide +kernel
theorem dL_law_202 : decode cL_law 202 = .ok (.iaload, 1) := by decide +kernel
theorem dL_law_203 : decode cL_law 203 = .ok (.aload_n 0, 1) := by decide +kernel
theorem dL_law_204 : decode cL_law 204 = .ok (.iload 4, 2) := by decide +kernel
theorem dL_law_206 : decode cL_law 206 = .ok (.iconst 2, 1) := by decide +kernel
theorem dL_law_207 : decode cL_law 207 = .ok (.iadd, 1) := by decide +kernel
theorem dL_law_208 : decode cL_law 208 = .ok (.iaload, 1) := by decide +kernel
theorem dL_law_209 : decode cL_law 209 = .ok (.aload_n 0, 1) := by decide +kernel
theorem dL_law_210 : decode cL_law 210 = .ok (.iload 4, 2) := by decide +kernel
theorem dL_law_212 : decode cL_law 212 = .ok (.iconst 3, 1) := by decide +kernel
theorem dL_law_213 : decode cL_law 213 = .ok (.iadd, 1) := by decide +kernel
theorem dL_law_214 : decode cL_law 214 = .ok (.iaload, 1) := by decide +kernel
theorem dL_law_215 : decode cL_law 215 = .ok (.ifCond .eq 7, 3) := by decide +kernel
theorem dL_law_218 : decode cL_law 218 = .ok (.iconst 1, 1) := by decide +kernel
theorem dL_law_219 : decode cL_law 219 = .ok (.goto 4, 3) := by decide +kernel
theorem dL_law_222 : decode cL_law 222 = .ok (.iconst 0, 1) := by decide +kernel
theorem dL_law_223 : decode cL_law 223 = .ok (.invokevirtual 32, 3) := by decide +kernel
theorem dL_law_226 : decode cL_law 226 = .ok (.if_icmp .eq 334, 3) := by decide +kernel
theorem dL_law_229 : decode cL_law 229 = .ok (.iconst 0, 1) := by decide +kernel
theorem dL_law_230 : decode cL_law 230 = .ok (.ireturn, 1) := by decide +kernel
theorem dL_law_231 : decode cL_law 231 = .ok (.aload_n 1, 1) := by decide +kernel
theorem dL_law_232 : decode cL_law 232 = .ok (.aload_n 0, 1) := by decide +kernel
theorem dL_law_233 : decode cL_law 233 = .ok (.iload 4, 2) := by decide +kernel
theorem dL_law_235 : decode cL_law 235 = .ok (.iconst 1, 1) := by decide +kernel
theorem dL_law_236 : decode cL_law 236 = .ok (.iadd, 1) := by decide +kernel
theorem dL_law_237 : decode cL_law 237 = .ok (.iaload, 1) := by decide +kernel
theorem dL_law_238 : decode cL_law 238 = .ok (.invokevirtual 33, 3) := by decide +kernel
theorem dL_law_241 : decode cL_law 241 = .ok (.aload_n 2, 1) := by decide +kernel
theorem dL_law_242 : decode cL_law 242 = .ok (.aload_n 0, 1) := by decide +kernel
theorem dL_law_243 : decode cL_law 243 = .ok (.iload 4, 2) := by decide +kernel
theorem dL_law_245 : decode cL_law 245 = .ok (.iconst 1, 1) := by decide +kernel
theorem dL_law_246 : decode cL_law 246 = .ok (.iadd, 1) := by decide +kernel
theorem dL_law_247 : decode cL_law 247 = .ok (.iaload, 1) := by decide +kernel
theorem dL_law_248 : decode cL_law 248 = .ok (.invokevirtual 36, 3) := by decide +kernel
theorem dL_law_251 : decode cL_law 251 = .ok (.if_icmp .eq 309, 3) := by decide +kernel
theorem dL_law_254 : decode cL_law 254 = .ok (.iconst 0, 1) := by decide +kernel
theorem dL_law_255 : decode cL_law 255 = .ok (.ireturn, 1) := by decide +kernel
theorem dL_law_256 : decode cL_law 256 = .ok (.aload_n 1, 1) := by decide +kernel
theorem dL_law_257 : decode cL_law 257 = .ok (.aload_n 0, 1) := by decide +kernel
theorem dL_law_258 : decode cL_law 258 = .ok (.iload 4, 2) := by decide +kernel
theorem dL_law_260 : decode cL_law 260 = .ok (.iconst 1, 1) := by decide +kernel
theorem dL_law_261 : decode cL_law 261 = .ok (.iadd, 1) := by decide +kernel
theorem dL_law_262 : decode cL_law 262 = .ok (.iaload, 1) := by decide +kernel
theorem dL_law_263 : decode cL_law 263 = .ok (.invokevirtual 37, 3) := by decide +kernel
theorem dL_law_266 : decode cL_law 266 = .ok (.aload_n 2, 1) := by decide +kernel
theorem dL_law_267 : decode cL_law 267 = .ok (.aload_n 0, 1) := by decide +kernel
theorem dL_law_268 : decode cL_law 268 = .ok (.iload 4, 2) := by decide +kernel
theorem dL_law_270 : decode cL_law 270 = .ok (.iconst 1, 1) := by decide +kernel
theorem dL_law_271 : decode cL_law 271 = .ok (.iadd, 1) := by decide +kernel
theorem dL_law_272 : decode cL_law 272 = .ok (.iaload, 1) := by decide +kernel
theorem dL_law_273 : decode cL_law 273 = .ok (.invokevirtual 40, 3) := by decide +kernel
theorem dL_law_276 : decode cL_law 276 = .ok (.if_icmp .eq 284, 3) := by decide +kernel
theorem dL_law_279 : decode cL_law 279 = .ok (.iconst 0, 1) := by decide +kernel
theorem dL_law_280 : decode cL_law 280 = .ok (.ireturn, 1) := by decide +kernel
theorem dL_law_281 : decode cL_law 281 = .ok (.aload_n 1, 1) := by decide +kernel
theorem dL_law_282 : decode cL_law 282 = .ok (.aload_n 0, 1) := by decide +kernel
theorem dL_law_283 : decode cL_law 283 = .ok (.iload 4, 2) := by decide +kernel
theorem dL_law_285 : decode cL_law 285 = .ok (.iconst 1, 1) := by decide +kernel
theorem dL_law_286 : decode cL_law 286 = .ok (.iadd, 1) := by decide +kernel
theorem dL_law_287 : decode cL_law 287 = .ok (.iaload, 1) := by decide +kernel
theorem dL_law_288 : decode cL_law 288 = .ok (.aload_n 0, 1) := by decide +kernel
theorem dL_law_289 : decode cL_law 289 = .ok (.iload 4, 2) := by decide +kernel
theorem dL_law_291 : decode cL_law 291 = .ok (.iconst 2, 1) := by decide +kernel
theorem dL_law_292 : decode cL_law 292 = .ok (.iadd, 1) := by decide +kernel
theorem dL_law_293 : decode cL_law 293 = .ok (.iaload, 1) := by decide +kernel
theorem dL_law_294 : decode cL_law 294 = .ok (.aload_n 0, 1) := by decide +kernel
theorem dL_law_295 : decode cL_law 295 = .ok (.iload 4, 2) := by decide +kernel
theorem dL_law_297 : decode cL_law 297 = .ok (.iconst 3, 1) := by decide +kernel
theorem dL_law_298 : decode cL_law 298 = .ok (.iadd, 1) := by decide +kernel
theorem dL_law_299 : decode cL_law 299 = .ok (.iaload, 1) := by decide +kernel
theorem dL_law_300 : decode cL_law 300 = .ok (.invokevirtual 41, 3) := by decide +kernel
theorem dL_law_303 : decode cL_law 303 = .ok (.aload_n 2, 1) := by decide +kernel
theorem dL_law_304 : decode cL_law 304 = .ok (.aload_n 0, 1) := by decide +kernel
theorem dL_law_305 : decode cL_law 305 = .ok (.iload 4, 2) := by decide +kernel
theorem dL_law_307 : decode cL_law 307 = .ok (.iconst 1, 1) := by decide +kernel
theorem dL_law_308 : decode cL_law 308 = .ok (.iadd, 1) := by decide +kernel
theorem dL_law_309 : decode cL_law 309 = .ok (.iaload, 1) := by decide +kernel
theorem dL_law_310 : decode cL_law 310 = .ok (.aload_n 0, 1) := by decide +kernel
theorem dL_law_311 : decode cL_law 311 = .ok (.iload 4, 2) := by decide +kernel
theorem dL_law_313 : decode cL_law 313 = .ok (.iconst 2, 1) := by decide +kernel
theorem dL_law_314 : decode cL_law 314 = .ok (.iadd, 1) := by decide +kernel
theorem dL_law_315 : decode cL_law 315 = .ok (.iaload, 1) := by decide +kernel
theorem dL_law_316 : decode cL_law 316 = .ok (.aload_n 0, 1) := by decide +kernel
theorem dL_law_317 : decode cL_law 317 = .ok (.iload 4, 2) := by decide +kernel
theorem dL_law_319 : decode cL_law 319 = .ok (.iconst 3, 1) := by decide +kernel
theorem dL_law_320 : decode cL_law 320 = .ok (.iadd, 1) := by decide +kernel
theorem dL_law_321 : decode cL_law 321 = .ok (.iaload, 1) := by decide +kernel
theorem dL_law_322 : decode cL_law 322 = .ok (.invokevirtual 45, 3) := by decide +kernel
theorem dL_law_325 : decode cL_law 325 = .ok (.if_icmp .eq 235, 3) := by decide +kernel
theorem dL_law_328 : decode cL_law 328 = .ok (.iconst 0, 1) := by decide +kernel
theorem dL_law_329 : decode cL_law 329 = .ok (.ireturn, 1) := by decide +kernel
theorem dL_law_330 : decode cL_law 330 = .ok (.aload_n 1, 1) := by decide +kernel
theorem dL_law_331 : decode cL_law 331 = .ok (.aload_n 0, 1) := by decide +kernel
theorem dL_law_332 : decode cL_law 332 = .ok (.iload 4, 2) := by decide +kernel
theorem dL_law_334 : decode cL_law 334 = .ok (.iconst 1, 1) := by decide +kernel
theorem dL_law_335 : decode cL_law 335 = .ok (.iadd, 1) := by decide +kernel
theorem dL_law_336 : decode cL_law 336 = .ok (.iaload, 1) := by decide +kernel
theorem dL_law_337 : decode cL_law 337 = .ok (.aload_n 0, 1) := by decide +kernel
theorem dL_law_338 : decode cL_law 338 = .ok (.iload 4, 2) := by decide +kernel
theorem dL_law_340 : decode cL_law 340 = .ok (.iconst 2, 1) := by decide +kernel
theorem dL_law_341 : decode cL_law 341 = .ok (.iadd, 1) := by decide +kernel
theorem dL_law_342 : decode cL_law 342 = .ok (.iaload, 1) := by decide +kernel
theorem dL_law_343 : decode cL_law 343 = .ok (.invokevirtual 46, 3) := by decide +kernel
theorem dL_law_346 : decode cL_law 346 = .ok (.aload_n 2, 1) := by decide +kernel
theorem dL_law_347 : decode cL_law 347 = .ok (.aload_n 0, 1) := by decide +kernel
theorem dL_law_348 : decode cL_law 348 = .ok (.iload 4, 2) := by decide +kernel
theorem dL_law_350 : decode cL_law 350 = .ok (.iconst 1, 1) := by decide +kernel
theorem dL_law_351 : decode cL_law 351 = .ok (.iadd, 1) := by decide +kernel
theorem dL_law_352 : decode cL_law 352 = .ok (.iaload, 1) := by decide +kernel
theorem dL_law_353 : decode cL_law 353 = .ok (.aload_n 0, 1) := by decide +kernel
theorem dL_law_354 : decode cL_law 354 = .ok (.iload 4, 2) := by decide +kernel
theorem dL_law_356 : decode cL_law 356 = .ok (.iconst 2, 1) := by decide +kernel
theorem dL_law_357 : decode cL_law 357 = .ok (.iadd, 1) := by decide +kernel
theorem dL_law_358 : decode cL_law 358 = .ok (.iaload, 1) := by decide +kernel
theorem dL_law_359 : decode cL_law 359 = .ok (.invokevirtual 49, 3) := by decide +kernel
theorem dL_law_362 : decode cL_law 362 = .ok (.if_icmp .eq 198, 3) := by decide +kernel
theorem dL_law_365 : decode cL_law 365 = .ok (.iconst 0, 1) := by decide +kernel
theorem dL_law_366 : decode cL_law 366 = .ok (.ireturn, 1) := by decide +kernel
theorem dL_law_367 : decode cL_law 367 = .ok (.aload_n 1, 1) := by decide +kernel
theorem dL_law_368 : decode cL_law 368 = .ok (.aload_n 0, 1) := by decide +kernel
theorem dL_law_369 : decode cL_law 369 = .ok (.iload 4, 2) := by decide +kernel
theorem dL_law_371 : decode cL_law 371 = .ok (.iconst 1, 1) := by decide +kernel
theorem dL_law_372 : decode cL_law 372 = .ok (.iadd, 1) := by decide +kernel
theorem dL_law_373 : decode cL_law 373 = .ok (.iaload, 1) := by decide +kernel
theorem dL_law_374 : decode cL_law 374 = .ok (.aload_n 0, 1) := by decide +kernel
theorem dL_law_375 : decode cL_law 375 = .ok (.iload 4, 2) := by decide +kernel
theorem dL_law_377 : decode cL_law 377 = .ok (.iconst 2, 1) := by decide +kernel
theorem dL_law_378 : decode cL_law 378 = .ok (.iadd, 1) := by decide +kernel
theorem dL_law_379 : decode cL_law 379 = .ok (.iaload, 1) := by decide +kernel
theorem dL_law_380 : decode cL_law 380 = .ok (.invokevirtual 50, 3) := by decide +kernel
theorem dL_law_383 : decode cL_law 383 = .ok (.aload_n 2, 1) := by decide +kernel
theorem dL_law_384 : decode cL_law 384 = .ok (.aload_n 0, 1) := by decide +kernel
theorem dL_law_385 : decode cL_law 385 = .ok (.iload 4, 2) := by decide +kernel
theorem dL_law_387 : decode cL_law 387 = .ok (.iconst 1, 1) := by decide +kernel
theorem dL_law_388 : decode cL_law 388 = .ok (.iadd, 1) := by decide +kernel
theorem dL_law_389 : decode cL_law 389 = .ok (.iaload, 1) := by decide +kernel
theorem dL_law_390 : decode cL_law 390 = .ok (.aload_n 0, 1) := by decide +kernel
theorem dL_law_391 : decode cL_law 391 = .ok (.iload 4, 2) := by decide +kernel
theorem dL_law_393 : decode cL_law 393 = .ok (.iconst 2, 1) := by decide +kernel
theorem dL_law_394 : decode cL_law 394 = .ok (.iadd, 1) := by decide +kernel
theorem dL_law_395 : decode cL_law 395 = .ok (.iaload, 1) := by decide +kernel
theorem dL_law_396 : decode cL_law 396 = .ok (.invokevirtual 53, 3) := by decide +kernel
theorem dL_law_399 : decode cL_law 399 = .ok (.if_icmp .eq 161, 3) := by decide +kernel
theorem dL_law_402 : decode cL_law 402 = .ok (.iconst 0, 1) := by decide +kernel
theorem dL_law_403 : decode cL_law 403 = .ok (.ireturn, 1) := by decide +kernel
theorem dL_law_404 : decode cL_law 404 = .ok (.aload_n 1, 1) := by decide +kernel
theorem dL_law_405 : decode cL_law 405 = .ok (.invokevirtual 54, 3) := by decide +kernel
theorem dL_law_408 : decode cL_law 408 = .ok (.aload_n 2, 1) := by decide +kernel
theorem dL_law_409 : decode cL_law 409 = .ok (.invokevirtual 58, 3) := by decide +kernel
theorem dL_law_412 : decode cL_law 412 = .ok (.if_icmp .eq 148, 3) := by decide +kernel
theorem dL_law_415 : decode cL_law 415 = .ok (.iconst 0, 1) := by decide +kernel
theorem dL_law_416 : decode cL_law 416 = .ok (.ireturn, 1) := by decide +kernel
theorem dL_law_417 : decode cL_law 417 = .ok (.aload_n 1, 1) := by decide +kernel
theorem dL_law_418 : decode cL_law 418 = .ok (.aload_n 0, 1) := by decide +kernel
theorem dL_law_419 : decode cL_law 419 = .ok (.iload 4, 2) := by decide +kernel
theorem dL_law_421 : decode cL_law 421 = .ok (.iconst 1, 1) := by decide +kernel
theorem dL_law_422 : decode cL_law 422 = .ok (.iadd, 1) := by decide +kernel
theorem dL_law_423 : decode cL_law 423 = .ok (.iaload, 1) := by decide +kernel
theorem dL_law_424 : decode cL_law 424 = .ok (.aload_n 3, 1) := by decide +kernel
theorem dL_law_425 : decode cL_law 425 = .ok (.invokestatic 59, 3) := by decide +kernel
theorem dL_law_428 : decode cL_law 428 = .ok (.istore 5, 2) := by decide +kernel
theorem dL_law_430 : decode cL_law 430 = .ok (.aload_n 2, 1) := by decide +kernel
theorem dL_law_431 : decode cL_law 431 = .ok (.aload_n 0, 1) := by decide +kernel
theorem dL_law_432 : decode cL_law 432 = .ok (.iload 4, 2) := by decide +kernel
theorem dL_law_434 : decode cL_law 434 = .ok (.iconst 1, 1) := by decide +kernel
theorem dL_law_435 : decode cL_law 435 = .ok (.iadd, 1) := by decide +kernel
theorem dL_law_436 : decode cL_law 436 = .ok (.iaload, 1) := by decide +kernel
theorem dL_law_437 : decode cL_law 437 = .ok (.invokevirtual 64, 3) := by decide +kernel
theorem dL_law_440 : decode cL_law 440 = .ok (.istore 6, 2) := by decide +kernel
theorem dL_law_442 : decode cL_law 442 = .ok (.aload_n 2, 1) := by decide +kernel
theorem dL_law_443 : decode cL_law 443 = .ok (.invokevirtual 65, 3) := by decide +kernel
theorem dL_law_446 : decode cL_law 446 = .ok (.iload 5, 2) := by decide +kernel
theorem dL_law_448 : decode cL_law 448 = .ok (.if_icmp .eq 5, 3) := by decide +kernel
theorem dL_law_451 : decode cL_law 451 = .ok (.iconst 0, 1) := by decide +kernel
theorem dL_law_452 : decode cL_law 452 = .ok (.ireturn, 1) := by decide +kernel
theorem dL_law_453 : decode cL_law 453 = .ok (.iload 5, 2) := by decide +kernel
theorem dL_law_455 : decode cL_law 455 = .ok (.ifCond .ne 15, 3) := by decide +kernel
theorem dL_law_458 : decode cL_law 458 = .ok (.aload_n 3, 1) := by decide +kernel
theorem dL_law_459 : decode cL_law 459 = .ok (.iconst 0, 1) := by decide +kernel
theorem dL_law_460 : decode cL_law 460 = .ok (.laload, 1) := by decide +kernel
theorem dL_law_461 : decode cL_law 461 = .ok (.iload 6, 2) := by decide +kernel
theorem dL_law_463 : decode cL_law 463 = .ok (.i2l, 1) := by decide +kernel
theorem dL_law_464 : decode cL_law 464 = .ok (.lcmp, 1) := by decide +kernel
theorem dL_law_465 : decode cL_law 465 = .ok (.ifCond .eq 5, 3) := by decide +kernel
theorem dL_law_468 : decode cL_law 468 = .ok (.iconst 0, 1) := by decide +kernel
theorem dL_law_469 : decode cL_law 469 = .ok (.ireturn, 1) := by decide +kernel
theorem dL_law_470 : decode cL_law 470 = .ok (.goto 90, 3) := by decide +kernel
theorem dL_law_473 : decode cL_law 473 = .ok (.aload_n 1, 1) := by decide +kernel
theorem dL_law_474 : decode cL_law 474 = .ok (.aload_n 0, 1) := by decide +kernel
theorem dL_law_475 : decode cL_law 475 = .ok (.iload 4, 2) := by decide +kernel
theorem dL_law_477 : decode cL_law 477 = .ok (.iconst 1, 1) := by decide +kernel
theorem dL_law_478 : decode cL_law 478 = .ok (.iadd, 1) := by decide +kernel
theorem dL_law_479 : decode cL_law 479 = .ok (.iaload, 1) := by decide +kernel
theorem dL_law_480 : decode cL_law 480 = .ok (.aload_n 0, 1) := by decide +kernel
theorem dL_law_481 : decode cL_law 481 = .ok (.iload 4, 2) := by decide +kernel
theorem dL_law_483 : decode cL_law 483 = .ok (.iconst 2, 1) := by decide +kernel
theorem dL_law_484 : decode cL_law 484 = .ok (.iadd, 1) := by decide +kernel
theorem dL_law_485 : decode cL_law 485 = .ok (.iaload, 1) := by decide +kernel
theorem dL_law_486 : decode cL_law 486 = .ok (.invokevirtual 68, 3) := by decide +kernel
theorem dL_law_489 : decode cL_law 489 = .ok (.aload_n 2, 1) := by decide +kernel
theorem dL_law_490 : decode cL_law 490 = .ok (.aload_n 0, 1) := by decide +kernel
theorem dL_law_491 : decode cL_law 491 = .ok (.iload 4, 2) := by decide +kernel
theorem dL_law_493 : decode cL_law 493 = .ok (.iconst 1, 1) := by decide +kernel
theorem dL_law_494 : decode cL_law 494 = .ok (.iadd, 1) := by decide +kernel
theorem dL_law_495 : decode cL_law 495 = .ok (.iaload, 1) := by decide +kernel
theorem dL_law_496 : decode cL_law 496 = .ok (.aload_n 0, 1) := by decide +kernel
theorem dL_law_497 : decode cL_law 497 = .ok (.iload 4, 2) := by decide +kernel
theorem dL_law_499 : decode cL_law 499 = .ok (.iconst 2, 1) := by decide +kernel
theorem dL_law_500 : decode cL_law 500 = .ok (.iadd, 1) := by decide +kernel
theorem dL_law_501 : decode cL_law 501 = .ok (.iaload, 1) := by decide +kernel
theorem dL_law_502 : decode cL_law 502 = .ok (.invokevirtual 71, 3) := by decide +kernel
theorem dL_law_505 : decode cL_law 505 = .ok (.if_icmp .eq 55, 3) := by decide +kernel
theorem dL_law_508 : decode cL_law 508 = .ok (.iconst 0, 1) := by decide +kernel
theorem dL_law_509 : decode cL_law 509 = .ok (.ireturn, 1) := by decide +kernel
theorem dL_law_510 : decode cL_law 510 = .ok (.aload_n 1, 1) := by decide +kernel
theorem dL_law_511 : decode cL_law 511 = .ok (.aload_n 0, 1) := by decide +kernel
theorem dL_law_512 : decode cL_law 512 = .ok (.iload 4, 2) := by decide +kernel
theorem dL_law_514 : decode cL_law 514 = .ok (.iconst 1, 1) := by decide +kernel
theorem dL_law_515 : decode cL_law 515 = .ok (.iadd, 1) := by decide +kernel
theorem dL_law_516 : decode cL_law 516 = .ok (.iaload, 1) := by decide +kernel
theorem dL_law_517 : decode cL_law 517 = .ok (.invokevirtual 72, 3) := by decide +kernel
theorem dL_law_520 : decode cL_law 520 = .ok (.aload_n 2, 1) := by decide +kernel
theorem dL_law_521 : decode cL_law 521 = .ok (.aload_n 0, 1) := by decide +kernel
theorem dL_law_522 : decode cL_law 522 = .ok (.iload 4, 2) := by decide +kernel
theorem dL_law_524 : decode cL_law 524 = .ok (.iconst 1, 1) := by decide +kernel
theorem dL_law_525 : decode cL_law 525 = .ok (.iadd, 1) := by decide +kernel
theorem dL_law_526 : decode cL_law 526 = .ok (.iaload, 1) := by decide +kernel
theorem dL_law_527 : decode cL_law 527 = .ok (.invokevirtual 75, 3) := by decide +kernel
theorem dL_law_530 : decode cL_law 530 = .ok (.if_icmp .eq 30, 3) := by decide +kernel
theorem dL_law_533 : decode cL_law 533 = .ok (.iconst 0, 1) := by decide +kernel
theorem dL_law_534 : decode cL_law 534 = .ok (.ireturn, 1) := by decide +kernel
theorem dL_law_535 : decode cL_law 535 = .ok (.aload_n 1, 1) := by decide +kernel
theorem dL_law_536 : decode cL_law 536 = .ok (.aload_n 0, 1) := by decide +kernel
theorem dL_law_537 : decode cL_law 537 = .ok (.iload 4, 2) := by decide +kernel
theorem dL_law_539 : decode cL_law 539 = .ok (.iconst 1, 1) := by decide +kernel
theorem dL_law_540 : decode cL_law 540 = .ok (.iadd, 1) := by decide +kernel
theorem dL_law_541 : decode cL_law 541 = .ok (.iaload, 1) := by decide +kernel
theorem dL_law_542 : decode cL_law 542 = .ok (.invokevirtual 76, 3) := by decide +kernel
theorem dL_law_545 : decode cL_law 545 = .ok (.aload_n 2, 1) := by decide +kernel
theorem dL_law_546 : decode cL_law 546 = .ok (.aload_n 0, 1) := by decide +kernel
theorem dL_law_547 : decode cL_law 547 = .ok (.iload 4, 2) := by decide +kernel
theorem dL_law_549 : decode cL_law 549 = .ok (.iconst 1, 1) := by decide +kernel
theorem dL_law_550 : decode cL_law 550 = .ok (.iadd, 1) := by decide +kernel
theorem dL_law_551 : decode cL_law 551 = .ok (.iaload, 1) := by decide +kernel
theorem dL_law_552 : decode cL_law 552 = .ok (.invokevirtual 79, 3) := by decide +kernel
theorem dL_law_555 : decode cL_law 555 = .ok (.if_icmp .eq 5, 3) := by decide +kernel
theorem dL_law_558 : decode cL_law 558 = .ok (.iconst 0, 1) := by decide +kernel
theorem dL_law_559 : decode cL_law 559 = .ok (.ireturn, 1) := by decide +kernel
theorem dL_law_560 : decode cL_law 560 = .ok (.iinc 4 4, 3) := by decide +kernel
theorem dL_law_563 : decode cL_law 563 = .ok (.goto (-540), 3) := by decide +kernel
theorem dL_law_566 : decode cL_law 566 = .ok (.iconst 1, 1) := by decide +kernel
theorem dL_law_567 : decode cL_law 567 = .ok (.ireturn, 1) := by decide +kernel
