theorem dX5_textNamed_20 : decode cX5_textNamed 20 = .ok (.aload_n 3, 1) := by decide +kernel
theorem dX5_textNamed_21 : decode cX5_textNamed 21 = .ok (.getfield 169, 3) := by decide +kernel
theorem dX5_textNamed_24 : decode cX5_textNamed 24 = .ok (.iload_n 1, 1) := by decide +kernel
theorem dX5_textNamed_25 : decode cX5_textNamed 25 = .ok (.if_icmp .ne 5, 3) := by decide +kernel
theorem dX5_textNamed_28 : decode cX5_textNamed 28 = .ok (.aload_n 3, 1) := by decide +kernel
theorem dX5_textNamed_29 : decode cX5_textNamed 29 = .ok (.areturn, 1) := by decide +kernel
theorem dX5_textNamed_30 : decode cX5_textNamed 30 = .ok (.iinc 2 1, 3) := by decide +kernel
theorem dX5_textNamed_33 : decode cX5_textNamed 33 = .ok (.goto (-31), 3) := by decide +kernel
theorem dX5_textNamed_36 : decode cX5_textNamed 36 = .ok (.aconst_null, 1) := by decide +kernel
theorem dX5_textNamed_37 : decode cX5_textNamed 37 = .ok (.areturn, 1) := by decide +kernel
theorem dX5_makeRow_0 : decode cX5_makeRow 0 = .ok (.iload_n 2, 1) := by decide +kernel
theorem dX5_makeRow_1 : decode cX5_makeRow 1 = .ok (.ifCond .lt 12, 3) := by decide +kernel
theorem dX5_makeRow_4 : decode cX5_makeRow 4 = .ok (.iload_n 2, 1) := by decide +kernel
theorem dX5_makeRow_5 : decode cX5_makeRow 5 = .ok (.aload_n 0, 1) := by decide +kernel
theorem dX5_makeRow_6 : decode cX5_makeRow 6 = .ok (.getfield 27, 3) := by decide +kernel
theorem dX5_makeRow_9 : decode cX5_makeRow 9 = .ok (.arraylength, 1) := by decide +kernel
theorem dX5_makeRow_10 : decode cX5_makeRow 10 = .ok (.if_icmp .lt 6, 3) := by decide +kernel
theorem dX5_makeRow_13 : decode cX5_makeRow 13 = .ok (.bipush (-3), 2) := by decide +kernel
theorem dX5_makeRow_15 : decode cX5_makeRow 15 = .ok (.ireturn, 1) := by decide +kernel
theorem dX5_makeRow_16 : decode cX5_makeRow 16 = .ok (.aload_n 0, 1) := by decide +kernel
theorem dX5_makeRow_17 : decode cX5_makeRow 17 = .ok (.getfield 27, 3) := by decide +kernel
theorem dX5_makeRow_20 : decode cX5_makeRow 20 = .ok (.iload_n 2, 1) := by decide +kernel
theorem dX5_makeRow_21 : decode cX5_makeRow 21 = .ok (.aload_n 1, 1) := by decide +kernel
theorem dX5_makeRow_22 : decode cX5_makeRow 22 = .ok (.aastore, 1) := by decide +kernel
theorem dX5_makeRow_23 : decode cX5_makeRow 23 = .ok (.aload_n 1, 1) := by decide +kernel
theorem dX5_makeRow_24 : decode cX5_makeRow 24 = .ok (.getfield 131, 3) := by decide +kernel
theorem dX5_makeRow_27 : decode cX5_makeRow 27 = .ok (.invokevirtual 114, 3) := by decide +kernel
theorem dX5_makeRow_30 : decode cX5_makeRow 30 = .ok (.iconst 0, 1) := by decide +kernel
theorem dX5_makeRow_31 : decode cX5_makeRow 31 = .ok (.istore 4, 2) := by decide +kernel
theorem dX5_makeRow_33 : decode cX5_makeRow 33 = .ok (.iload 4, 2) := by decide +kernel
theorem dX5_makeRow_35 : decode cX5_makeRow 35 = .ok (.aload_n 1, 1) := by decide +kernel
theorem dX5_makeRow_36 : decode cX5_makeRow 36 = .ok (.getfield 65, 3) := by decide +kernel
theorem dX5_makeRow_39 : decode cX5_makeRow 39 = .ok (.if_icmp .ge 91, 3) := by decide +kernel
theorem dX5_makeRow_42 : decode cX5_makeRow 42 = .ok (.aload_n 1, 1) := by decide +kernel
theorem dX5_makeRow_43 : decode cX5_makeRow 43 = .ok (.iload 4, 2) := by decide +kernel
theorem dX5_makeRow_45 : decode cX5_makeRow 45 = .ok (.invokevirtual 172, 3) := by decide +kernel
theorem dX5_makeRow_48 : decode cX5_makeRow 48 = .ok (.istore 5, 2) := by decide +kernel
theorem dX5_makeRow_50 : decode cX5_makeRow 50 = .ok (.aload_n 0, 1) := by decide +kernel
theorem dX5_makeRow_51 : decode cX5_makeRow 51 = .ok (.iload 5, 2) := by decide +kernel
theorem dX5_makeRow_53 : decode cX5_makeRow 53 = .ok (.invokevirtual 175, 3) := by decide +kernel
theorem dX5_makeRow_56 : decode cX5_makeRow 56 = .ok (.astore 6, 2) := by decide +kernel
theorem dX5_makeRow_58 : decode cX5_makeRow 58 = .ok (.aload 6, 2) := by decide +kernel
theorem dX5_makeRow_60 : decode cX5_makeRow 60 = .ok (.ifnull 28, 3) := by decide +kernel
theorem dX5_makeRow_63 : decode cX5_makeRow 63 = .ok (.aload 6, 2) := by decide +kernel
theorem dX5_makeRow_65 : decode cX5_makeRow 65 = .ok (.getfield 178, 3) := by decide +kernel
theorem dX5_makeRow_68 : decode cX5_makeRow 68 = .ok (.ifCond .eq 20, 3) := by decide +kernel
theorem dX5_makeRow_71 : decode cX5_makeRow 71 = .ok (.aload_n 0, 1) := by decide +kernel
theorem dX5_makeRow_72 : decode cX5_makeRow 72 = .ok (.aload_n 1, 1) := by decide +kernel
theorem dX5_makeRow_73 : decode cX5_makeRow 73 = .ok (.getfield 131, 3) := by decide +kernel
theorem dX5_makeRow_76 : decode cX5_makeRow 76 = .ok (.aload 6, 2) := by decide +kernel
theorem dX5_makeRow_78 : decode cX5_makeRow 78 = .ok (.iload_n 2, 1) := by decide +kernel
theorem dX5_makeRow_79 : decode cX5_makeRow 79 = .ok (.iload_n 3, 1) := by decide +kernel
theorem dX5_makeRow_80 : decode cX5_makeRow 80 = .ok (.invokevirtual 182, 3) := by decide +kernel
theorem dX5_makeRow_83 : decode cX5_makeRow 83 = .ok (.istore 7, 2) := by decide +kernel
theorem dX5_makeRow_85 : decode cX5_makeRow 85 = .ok (.goto 31, 3) := by decide +kernel
theorem dX5_makeRow_88 : decode cX5_makeRow 88 = .ok (.aload_n 1, 1) := by decide +kernel
theorem dX5_makeRow_89 : decode cX5_makeRow 89 = .ok (.getfield 131, 3) := by decide +kernel
theorem dX5_makeRow_92 : decode cX5_makeRow 92 = .ok (.iload 5, 2) := by decide +kernel
theorem dX5_makeRow_94 : decode cX5_makeRow 94 = .ok (.aload_n 1, 1) := by decide +kernel
theorem dX5_makeRow_95 : decode cX5_makeRow 95 = .ok (.getfield 186, 3) := by decide +kernel
theorem dX5_makeRow_98 : decode cX5_makeRow 98 = .ok (.iload 4, 2) := by decide +kernel
theorem dX5_makeRow_100 : decode cX5_makeRow 100 = .ok (.iload_n 2, 1) := by decide +kernel
theorem dX5_makeRow_101 : decode cX5_makeRow 101 = .ok (.iload_n 3, 1) := by decide +kernel
theorem dX5_makeRow_102 : decode cX5_makeRow 102 = .ok (.invokevirtual 187, 3) := by decide +kernel
theorem dX5_makeRow_105 : decode cX5_makeRow 105 = .ok (.ifCond .eq 7, 3) := by decide +kernel
theorem dX5_makeRow_108 : decode cX5_makeRow 108 = .ok (.iconst 0, 1) := by decide +kernel
theorem dX5_makeRow_109 : decode cX5_makeRow 109 = .ok (.goto 5, 3) := by decide +kernel
theorem dX5_makeRow_112 : decode cX5_makeRow 112 = .ok (.bipush (-3), 2) := by decide +kernel
theorem dX5_makeRow_114 : decode cX5_makeRow 114 = .ok (.istore 7, 2) := by decide +kernel
theorem dX5_makeRow_116 : decode cX5_makeRow 116 = .ok (.iload 7, 2) := by decide +kernel
theorem dX5_makeRow_118 : decode cX5_makeRow 118 = .ok (.ifCond .eq 6, 3) := by decide +kernel
theorem dX5_makeRow_121 : decode cX5_makeRow 121 = .ok (.iload 7, 2) := by decide +kernel
theorem dX5_makeRow_123 : decode cX5_makeRow 123 = .ok (.ireturn, 1) := by decide +kernel
theorem dX5_makeRow_124 : decode cX5_makeRow 124 = .ok (.iinc 4 1, 3) := by decide +kernel
theorem dX5_makeRow_127 : decode cX5_makeRow 127 = .ok (.goto (-94), 3) := by decide +kernel
theorem dX5_makeRow_130 : decode cX5_makeRow 130 = .ok (.iconst 0, 1) := by decide +kernel
theorem dX5_makeRow_131 : decode cX5_makeRow 131 = .ok (.ireturn, 1) := by decide +kernel
theorem dX5_addCopy_0 : decode cX5_addCopy 0 = .ok (.aload_n 0, 1) := by decide +kernel
theorem dX5_addCopy_1 : decode cX5_addCopy 1 = .ok (.getfield 120, 3) := by decide +kernel
theorem dX5_addCopy_4 : decode cX5_addCopy 4 = .ok (.bipush 100, 2) := by decide +kernel
theorem dX5_addCopy_6 : decode cX5_addCopy 6 = .ok (.if_icmp .lt 6, 3) := by decide +kernel
theorem dX5_addCopy_9 : decode cX5_addCopy 9 = .ok (.bipush (-3), 2) := by decide +kernel
theorem dX5_addCopy_11 : decode cX5_addCopy 11 = .ok (.ireturn, 1) := by decide +kernel
theorem dX5_addCopy_12 : decode cX5_addCopy 12 = .ok (.aload_n 0, 1) := by decide +kernel
theorem dX5_addCopy_13 : decode cX5_addCopy 13 = .ok (.dup, 1) := by decide +kernel
theorem dX5_addCopy_14 : decode cX5_addCopy 14 = .ok (.getfield 120, 3) := by decide +kernel
theorem dX5_addCopy_17 : decode cX5_addCopy 17 = .ok (.iconst 1, 1) := by decide +kernel
theorem dX5_addCopy_18 : decode cX5_addCopy 18 = .ok (.iadd, 1) := by decide +kernel
theorem dX5_addCopy_19 : decode cX5_addCopy 19 = .ok (.putfield 120, 3) := by decide +kernel
theorem dX5_addCopy_22 : decode cX5_addCopy 22 = .ok (.aload_n 0, 1) := by decide +kernel
theorem dX5_addCopy_23 : decode cX5_addCopy 23 = .ok (.aload_n 2, 1) := by decide +kernel
theorem dX5_addCopy_24 : decode cX5_addCopy 24 = .ok (.getfield 191, 3) := by decide +kernel
theorem dX5_addCopy_27 : decode cX5_addCopy 27 = .ok (.invokevirtual 192, 3) := by decide +kernel
theorem dX5_addCopy_30 : decode cX5_addCopy 30 = .ok (.astore 5, 2) := by decide +kernel
theorem dX5_addCopy_32 : decode cX5_addCopy 32 = .ok (.aload 5, 2) := by decide +kernel
theorem dX5_addCopy_34 : decode cX5_addCopy 34 = .ok (.ifnonnull 11, 3) := by decide +kernel
theorem dX5_addCopy_37 : decode cX5_addCopy 37 = .ok (.bipush (-10), 2) := by decide +kernel
theorem dX5_addCopy_39 : decode cX5_addCopy 39 = .ok (.aload_n 2, 1) := by decide +kernel
theorem dX5_addCopy_40 : decode cX5_addCopy 40 = .ok (.getfield 168, 3) := by decide +kernel
theorem dX5_addCopy_43 : decode cX5_addCopy 43 = .ok (.isub, 1) := by decide +kernel
theorem dX5_addCopy_44 : decode cX5_addCopy 44 = .ok (.ireturn, 1) := by decide +kernel
theorem dX5_addCopy_45 : decode cX5_addCopy 45 = .ok (.aload_n 0, 1) := by decide +kernel
theorem dX5_addCopy_46 : decode cX5_addCopy 46 = .ok (.aload 5, 2) := by decide +kernel
theorem dX5_addCopy_48 : decode cX5_addCopy 48 = .ok (.iload_n 3, 1) := by decide +kernel
theorem dX5_addCopy_49 : decode cX5_addCopy 49 = .ok (.invokevirtual 195, 3) := by decide +kernel
theorem dX5_addCopy_52 : decode cX5_addCopy 52 = .ok (.ifCond .eq 5, 3) := by decide +kernel
theorem dX5_addCopy_55 : decode cX5_addCopy 55 = .ok (.iconst (-1), 1) := by decide +kernel
theorem dX5_addCopy_56 : decode cX5_addCopy 56 = .ok (.ireturn, 1) := by decide +kernel
theorem dX5_addCopy_57 : decode cX5_addCopy 57 = .ok (.aload_n 0, 1) := by decide +kernel
theorem dX5_addCopy_58 : decode cX5_addCopy 58 = .ok (.aload 5, 2) := by decide +kernel
theorem dX5_addCopy_60 : decode cX5_addCopy 60 = .ok (.iload_n 3, 1) := by decide +kernel
theorem dX5_addCopy_61 : decode cX5_addCopy 61 = .ok (.iconst 1, 1) := by decide +kernel
theorem dX5_addCopy_62 : decode cX5_addCopy 62 = .ok (.iadd, 1) := by decide +kernel
theorem dX5_addCopy_63 : decode cX5_addCopy 63 = .ok (.iload 4, 2) := by decide +kernel
theorem dX5_addCopy_65 : decode cX5_addCopy 65 = .ok (.ifCond .ne 10, 3) := by decide +kernel
theorem dX5_addCopy_68 : decode cX5_addCopy 68 = .ok (.aload_n 2, 1) := by decide +kernel
theorem dX5_addCopy_69 : decode cX5_addCopy 69 = .ok (.getfield 199, 3) := by decide +kernel
theorem dX5_addCopy_72 : decode cX5_addCopy 72 = .ok (.ifCond .eq 7, 3) := by decide +kernel
theorem dX5_addCopy_75 : decode cX5_addCopy 75 = .ok (.iconst 1, 1) := by decide +kernel
theorem dX5_addCopy_76 : decode cX5_addCopy 76 = .ok (.goto 4, 3) := by decide +kernel
theorem dX5_addCopy_79 : decode cX5_addCopy 79 = .ok (.iconst 0, 1) := by decide +kernel
theorem dX5_addCopy_80 : decode cX5_addCopy 80 = .ok (.invokevirtual 127, 3) := by decide +kernel
theorem dX5_addCopy_83 : decode cX5_addCopy 83 = .ok (.istore 6, 2) := by decide +kernel
theorem dX5_addCopy_85 : decode cX5_addCopy 85 = .ok (.iload 6, 2) := by decide +kernel
theorem dX5_addCopy_87 : decode cX5_addCopy 87 = .ok (.ifCond .eq 6, 3) := by decide +kernel
theorem dX5_addCopy_90 : decode cX5_addCopy 90 = .ok (.iload 6, 2) := by decide +kernel
theorem dX5_addCopy_92 : decode cX5_addCopy 92 = .ok (.ireturn, 1) := by decide +kernel
theorem dX5_addCopy_93 : decode cX5_addCopy 93 = .ok (.aload_n 0, 1) := by decide +kernel
theorem dX5_addCopy_94 : decode cX5_addCopy 94 = .ok (.getfield 33, 3) := by decide +kernel
theorem dX5_addCopy_97 : decode cX5_addCopy 97 = .ok (.invokevirtual 114, 3) := by decide +kernel
theorem dX5_addCopy_100 : decode cX5_addCopy 100 = .ok (.aload_n 0, 1) := by decide +kernel
theorem dX5_addCopy_101 : decode cX5_addCopy 101 = .ok (.aload 5, 2) := by decide +kernel
theorem dX5_addCopy_103 : decode cX5_addCopy 103 = .ok (.getfield 131, 3) := by decide +kernel
theorem dX5_addCopy_106 : decode cX5_addCopy 106 = .ok (.iconst 0, 1) := by decide +kernel
theorem dX5_addCopy_107 : decode cX5_addCopy 107 = .ok (.aload 5, 2) := by decide +kernel
theorem dX5_addCopy_109 : decode cX5_addCopy 109 = .ok (.getfield 131, 3) := by decide +kernel
theorem dX5_addCopy_112 : decode cX5_addCopy 112 = .ok (.getfield 126, 3) := by decide +kernel
theorem dX5_addCopy_115 : decode cX5_addCopy 115 = .ok (.aload_n 2, 1) := by decide +kernel
theorem dX5_addCopy_116 : decode cX5_addCopy 116 = .ok (.aload_n 0, 1) := by decide +kernel
theorem dX5_addCopy_117 : decode cX5_addCopy 117 = .ok (.getfield 33, 3) := by decide +kernel
theorem dX5_addCopy_120 : decode cX5_addCopy 120 = .ok (.invokevirtual 201, 3) := by decide +kernel
theorem dX5_addCopy_123 : decode cX5_addCopy 123 = .ok (.istore 6, 2) := by decide +kernel
theorem dX5_addCopy_125 : decode cX5_addCopy 125 = .ok (.iload 6, 2) := by decide +kernel
theorem dX5_addCopy_127 : decode cX5_addCopy 127 = .ok (.ifCond .eq 6, 3) := by decide +kernel
theorem dX5_addCopy_130 : decode cX5_addCopy 130 = .ok (.iload 6, 2) := by decide +kernel
theorem dX5_addCopy_132 : decode cX5_addCopy 132 = .ok (.ireturn, 1) := by decide +kernel
theorem dX5_addCopy_133 : decode cX5_addCopy 133 = .ok (.aload_n 1, 1) := by decide +kernel
theorem dX5_addCopy_134 : decode cX5_addCopy 134 = .ok (.aload_n 0, 1) := by decide +kernel
theorem dX5_addCopy_135 : decode cX5_addCopy 135 = .ok (.getfield 33, 3) := by decide +kernel
theorem dX5_addCopy_138 : decode cX5_addCopy 138 = .ok (.invokevirtual 205, 3) := by decide +kernel
theorem dX5_addCopy_141 : decode cX5_addCopy 141 = .ok (.ifCond .eq 7, 3) := by decide +kernel
theorem dX5_addCopy_144 : decode cX5_addCopy 144 = .ok (.iconst 0, 1) := by decide +kernel
theorem dX5_addCopy_145 : decode cX5_addCopy 145 = .ok (.goto 5, 3) := by decide +kernel
theorem dX5_addCopy_148 : decode cX5_addCopy 148 = .ok (.bipush (-3), 2) := by decide +kernel
theorem dX5_addCopy_150 : decode cX5_addCopy 150 = .ok (.ireturn, 1) := by decide +kernel
theorem dX5_closesRing_0 : decode cX5_closesRing 0 = .ok (.iconst 0, 1) := by decide +kernel
theorem dX5_closesRing_1 : decode cX5_closesRing 1 = .ok (.istore_n 3, 1) := by decide +kernel
theorem dX5_closesRing_2 : decode cX5_closesRing 2 = .ok (.iload_n 3, 1) := by decide +kernel
theorem dX5_closesRing_3 : decode cX5_closesRing 3 = .ok (.iload_n 2, 1) := by decide +kernel
theorem dX5_closesRing_4 : decode cX5_closesRing 4 = .ok (.if_icmp .gt 45, 3) := by decide +kernel
theorem dX5_closesRing_7 : decode cX5_closesRing 7 = .ok (.iload_n 3, 1) := by decide +kernel
theorem dX5_closesRing_8 : decode cX5_closesRing 8 = .ok (.aload_n 0, 1) := by decide +kernel
theorem dX5_closesRing_9 : decode cX5_closesRing 9 = .ok (.getfield 27, 3) := by decide +kernel
theorem dX5_closesRing_12 : decode cX5_closesRing 12 = .ok (.arraylength, 1) := by decide +kernel
theorem dX5_closesRing_13 : decode cX5_closesRing 13 = .ok (.if_icmp .ge 36, 3) := by decide +kernel
theorem dX5_closesRing_16 : decode cX5_closesRing 16 = .ok (.aload_n 0, 1) := by decide +kernel
theorem dX5_closesRing_17 : decode cX5_closesRing 17 = .ok (.getfield 27, 3) := by decide +kernel
theorem dX5_closesRing_20 : decode cX5_closesRing 20 = .ok (.iload_n 3, 1) := by decide +kernel
theorem dX5_closesRing_21 : decode cX5_closesRing 21 = .ok (.aaload, 1) := by decide +kernel
theorem dX5_closesRing_22 : decode cX5_closesRing 22 = .ok (.astore 4, 2) := by decide +kernel
theorem dX5_closesRing_24 : decode cX5_closesRing 24 = .ok (.aload 4, 2) := by decide +kernel
theorem dX5_closesRing_26 : decode cX5_closesRing 26 = .ok (.aload_n 1, 1) := by decide +kernel
theorem dX5_closesRing_27 : decode cX5_closesRing 27 = .ok (.if_acmp .eq 10, 3) := by decide +kernel
theorem dX5_closesRing_30 : decode cX5_closesRing 30 = .ok (.aload_n 0, 1) := by decide +kernel
theorem dX5_closesRing_31 : decode cX5_closesRing 31 = .ok (.getfield 117, 3) := by decide +kernel
theorem dX5_closesRing_34 : decode cX5_closesRing 34 = .ok (.ifCond .le 9, 3) := by decide +kernel
theorem dX5_closesRing_37 : decode cX5_closesRing 37 = .ok (.aload_n 0, 1) := by decide +kernel
theorem dX5_closesRing_38 : decode cX5_closesRing 38 = .ok (.aload 4, 2) := by decide +kernel
theorem dX5_closesRing_40 : decode cX5_closesRing 40 = .ok (.invokevirtual 209, 3) := by decide +kernel
theorem dX5_closesRing_43 : decode cX5_closesRing 43 = .ok (.iinc 3 1, 3) := by decide +kernel
theorem dX5_closesRing_46 : decode cX5_closesRing 46 = .ok (.goto (-44), 3) := by decide +kernel
theorem dX5_closesRing_49 : decode cX5_closesRing 49 = .ok (.aload_n 0, 1) := by decide +kernel
theorem dX5_closesRing_50 : decode cX5_closesRing 50 = .ok (.getfield 117, 3) := by decide +kernel
theorem dX5_closesRing_53 : decode cX5_closesRing 53 = .ok (.ifCond .le 7, 3) := by decide +kernel
theorem dX5_closesRing_56 : decode cX5_closesRing 56 = .ok (.iconst 1, 1) := by decide +kernel
theorem dX5_closesRing_57 : decode cX5_closesRing 57 = .ok (.goto 4, 3) := by decide +kernel
theorem dX5_closesRing_60 : decode cX5_closesRing 60 = .ok (.iconst 0, 1) := by decide +kernel
theorem dX5_closesRing_61 : decode cX5_closesRing 61 = .ok (.ireturn, 1) := by decide +kernel
theorem dX5_keepRingName_0 : decode cX5_keepRingName 0 = .ok (.aload_n 1, 1) := by decide +kernel
theorem dX5_keepRingName_1 : decode cX5_keepRingName 1 = .ok (.ifnull 38, 3) := by decide +kernel
theorem dX5_keepRingName_4 : decode cX5_keepRingName 4 = .ok (.aload_n 0, 1) := by decide +kernel
theorem dX5_keepRingName_5 : decode cX5_keepRingName 5 = .ok (.getfield 117, 3) := by decide +kernel
theorem dX5_keepRingName_8 : decode cX5_keepRingName 8 = .ok (.aload_n 0, 1) := by decide +kernel
theorem dX5_keepRingName_9 : decode cX5_keepRingName 9 = .ok (.getfield 40, 3) := by decide +kernel
theorem dX5_keepRingName_12 : decode cX5_keepRingName 12 = .ok (.arraylength, 1) := by decide +kernel
theorem dX5_keepRingName_13 : decode cX5_keepRingName 13 = .ok (.if_icmp .ge 26, 3) := by decide +kernel
theorem dX5_keepRingName_16 : decode cX5_keepRingName 16 = .ok (.aload_n 0, 1) := by decide +kernel
theorem dX5_keepRingName_17 : decode cX5_keepRingName 17 = .ok (.getfield 40, 3) := by decide +kernel
theorem dX5_keepRingName_20 : decode cX5_keepRingName 20 = .ok (.aload_n 0, 1) := by decide +kernel
theorem dX5_keepRingName_21 : decode cX5_keepRingName 21 = .ok (.getfield 117, 3) := by decide +kernel
theorem dX5_keepRingName_24 : decode cX5_keepRingName 24 = .ok (.aload_n 1, 1) := by decide +kernel
theorem dX5_keepRingName_25 : decode cX5_keepRingName 25 = .ok (.getfield 169, 3) := by decide +kernel
theorem dX5_keepRingName_28 : decode cX5_keepRingName 28 = .ok (.iastore, 1) := by decide +kernel
theorem dX5_keepRingName_29 : decode cX5_keepRingName 29 = .ok (.aload_n 0, 1) := by decide +kernel
theorem dX5_keepRingName_30 : decode cX5_keepRingName 30 = .ok (.dup, 1) := by decide +kernel
theorem dX5_keepRingName_31 : decode cX5_keepRingName 31 = .ok (.getfield 117, 3) := by decide +kernel
theorem dX5_keepRingName_34 : decode cX5_keepRingName 34 = .ok (.iconst 1, 1) := by decide +kernel
theorem dX5_keepRingName_35 : decode cX5_keepRingName 35 = .ok (.iadd, 1) := by decide +kernel
theorem dX5_keepRingName_36 : decode cX5_keepRingName 36 = .ok (.putfield 117, 3) := by decide +kernel
theorem dX5_keepRingName_39 : decode cX5_keepRingName 39 = .ok (.return_, 1) := by decide +kernel
theorem dX5_matchByReplaces_0 : decode cX5_matchByReplaces 0 = .ok (.aconst_null, 1) := by decide +kernel
theorem dX5_matchByReplaces_1 : decode cX5_matchByReplaces 1 = .ok (.astore_n 2, 1) := by decide +kernel
theorem dX5_matchByReplaces_2 : decode cX5_matchByReplaces 2 = .ok (.iconst 0, 1) := by decide +kernel
theorem dX5_matchByReplaces_3 : decode cX5_matchByReplaces 3 = .ok (.istore_n 3, 1) := by decide +kernel
theorem dX5_matchByReplaces_4 : decode cX5_matchByReplaces 4 = .ok (.iconst 0, 1) := by decide +kernel
theorem dX5_matchByReplaces_5 : decode cX5_matchByReplaces 5 = .ok (.istore 4, 2) := by decide +kernel
theorem dX5_matchByReplaces_7 : decode cX5_matchByReplaces 7 = .ok (.iload 4, 2) := by decide +kernel
theorem dX5_matchByReplaces_9 : decode cX5_matchByReplaces 9 = .ok (.aload_n 1, 1) := by decide +kernel
theorem dX5_matchByReplaces_10 : decode cX5_matchByReplaces 10 = .ok (.getfield 126, 3) := by decide +kernel
theorem dX5_matchByReplaces_13 : decode cX5_matchByReplaces 13 = .ok (.if_icmp .gt 91, 3) := by decide +kernel
theorem dX5_matchByReplaces_16 : decode cX5_matchByReplaces 16 = .ok (.iload 4, 2) := by decide +kernel
theorem dX5_matchByReplaces_18 : decode cX5_matchByReplaces 18 = .ok (.aload_n 1, 1) := by decide +kernel
theorem dX5_matchByReplaces_19 : decode cX5_matchByReplaces 19 = .ok (.getfield 126, 3) := by decide +kernel
theorem dX5_matchByReplaces_22 : decode cX5_matchByReplaces 22 = .ok (.if_icmp .ne 7, 3) := by decide +kernel
theorem dX5_matchByReplaces_25 : decode cX5_matchByReplaces 25 = .ok (.iconst 1, 1) := by decide +kernel
theorem dX5_matchByReplaces_26 : decode cX5_matchByReplaces 26 = .ok (.goto 4, 3) := by decide +kernel
theorem dX5_matchByReplaces_29 : decode cX5_matchByReplaces 29 = .ok (.iconst 0, 1) := by decide +kernel
theorem dX5_matchByReplaces_30 : decode cX5_matchByReplaces 30 = .ok (.istore 5, 2) := by decide +kernel
theorem dX5_matchByReplaces_32 : decode cX5_matchByReplaces 32 = .ok (.iload 5, 2) := by decide +kernel
theorem dX5_matchByReplaces_34 : decode cX5_matchByReplaces 34 = .ok (.ifCond .ne 16, 3) := by decide +kernel
theorem dX5_matchByReplaces_37 : decode cX5_matchByReplaces 37 = .ok (.aload_n 1, 1) := by decide +kernel
theorem dX5_matchByReplaces_38 : decode cX5_matchByReplaces 38 = .ok (.iload 4, 2) := by decide +kernel
theorem dX5_matchByReplaces_40 : decode cX5_matchByReplaces 40 = .ok (.invokevirtual 144, 3) := by decide +kernel
theorem dX5_matchByReplaces_43 : decode cX5_matchByReplaces 43 = .ok (.iconst (-1), 1) := by decide +kernel
theorem dX5_matchByReplaces_44 : decode cX5_matchByReplaces 44 = .ok (.if_icmp .lt 6, 3) := by decide +kernel
theorem dX5_matchByReplaces_47 : decode cX5_matchByReplaces 47 = .ok (.goto 51, 3) := by decide +kernel
theorem dX5_matchByReplaces_50 : decode cX5_matchByReplaces 50 = .ok (.aload_n 0, 1) := by decide +kernel
theorem dX5_matchByReplaces_51 : decode cX5_matchByReplaces 51 = .ok (.aload_n 1, 1) := by decide +kernel
theorem dX5_matchByReplaces_52 : decode cX5_matchByReplaces 52 = .ok (.iload_n 3, 1) := by decide +kernel
theorem dX5_matchByReplaces_53 : decode cX5_matchByReplaces 53 = .ok (.iload 4, 2) := by decide +kernel
theorem dX5_matchByReplaces_55 : decode cX5_matchByReplaces 55 = .ok (.aload_n 2, 1) := by decide +kernel
theorem dX5_matchByReplaces_56 : decode cX5_matchByReplaces 56 = .ok (.aload_n 0, 1) := by decide +kernel
theorem dX5_matchByReplaces_57 : decode cX5_matchByReplaces 57 = .ok (.getfield 37, 3) := by decide +kernel
theorem dX5_matchByReplaces_60 : decode cX5_matchByReplaces 60 = .ok (.invokevirtual 201, 3) := by decide +kernel
theorem dX5_matchByReplaces_63 : decode cX5_matchByReplaces 63 = .ok (.istore 6, 2) := by decide +kernel
theorem dX5_matchByReplaces_65 : decode cX5_matchByReplaces 65 = .ok (.iload 6, 2) := by decide +kernel
theorem dX5_matchByReplaces_67 : decode cX5_matchByReplaces 67 = .ok (.ifCond .eq 6, 3) := by decide +kernel
theorem dX5_matchByReplaces_70 : decode cX5_matchByReplaces 70 = .ok (.iload 6, 2) := by decide +kernel
theorem dX5_matchByReplaces_72 : decode cX5_matchByReplaces 72 = .ok (.ireturn, 1) := by decide +kernel
theorem dX5_matchByReplaces_73 : decode cX5_matchByReplaces 73 = .ok (.iload 5, 2) := by decide +kernel
theorem dX5_matchByReplaces_75 : decode cX5_matchByReplaces 75 = .ok (.ifCond .eq 7, 3) := by decide +kernel
theorem dX5_matchByReplaces_78 : decode cX5_matchByReplaces 78 = .ok (.aconst_null, 1) := by decide +kernel
theorem dX5_matchByReplaces_79 : decode cX5_matchByReplaces 79 = .ok (.goto 13, 3) := by decide +kernel
theorem dX5_matchByReplaces_82 : decode cX5_matchByReplaces 82 = .ok (.aload_n 0, 1) := by decide +kernel
theorem dX5_matchByReplaces_83 : decode cX5_matchByReplaces 83 = .ok (.aload_n 1, 1) := by decide +kernel
theorem dX5_matchByReplaces_84 : decode cX5_matchByReplaces 84 = .ok (.iload 4, 2) := by decide +kernel
theorem dX5_matchByReplaces_86 : decode cX5_matchByReplaces 86 = .ok (.invokevirtual 144, 3) := by decide +kernel
theorem dX5_matchByReplaces_89 : decode cX5_matchByReplaces 89 = .ok (.invokevirtual 175, 3) := by decide +kernel
theorem dX5_matchByReplaces_92 : decode cX5_matchByReplaces 92 = .ok (.astore_n 2, 1) := by decide +kernel
theorem dX5_matchByReplaces_93 : decode cX5_matchByReplaces 93 = .ok (.iload 4, 2) := by decide +kernel
theorem dX5_matchByReplaces_95 : decode cX5_matchByReplaces 95 = .ok (.iconst 1, 1) := by decide +kernel
theorem dX5_matchByReplaces_96 : decode cX5_matchByReplaces 96 = .ok (.iadd, 1) := by decide +kernel
theorem dX5_matchByReplaces_97 : decode cX5_matchByReplaces 97 = .ok (.istore_n 3, 1) := by decide +kernel
theorem dX5_matchByReplaces_98 : decode cX5_matchByReplaces 98 = .ok (.iinc 4 1, 3) := by decide +kernel
theorem dX5_matchByReplaces_101 : decode cX5_matchByReplaces 101 = .ok (.goto (-94), 3) := by decide +kernel
theorem dX5_matchByReplaces_104 : decode cX5_matchByReplaces 104 = .ok (.iconst 0, 1) := by decide +kernel
theorem dX5_matchByReplaces_105 : decode cX5_matchByReplaces 105 = .ok (.ireturn, 1) := by decide +kernel
theorem dX5_matchPart_0 : decode cX5_matchPart 0 = .ok (.iload_n 2, 1) := by decide +kernel
theorem dX5_matchPart_1 : decode cX5_matchPart 1 = .ok (.istore 6, 2) := by decide +kernel
theorem dX5_matchPart_3 : decode cX5_matchPart 3 = .ok (.iload_n 2, 1) := by decide +kernel
theorem dX5_matchPart_4 : decode cX5_matchPart 4 = .ok (.istore 7, 2) := by decide +kernel
theorem dX5_matchPart_6 : decode cX5_matchPart 6 = .ok (.iload 7, 2) := by decide +kernel
theorem dX5_matchPart_8 : decode cX5_matchPart 8 = .ok (.iload_n 3, 1) := by decide +kernel
theorem dX5_matchPart_9 : decode cX5_matchPart 9 = .ok (.if_icmp .ge 41, 3) := by decide +kernel
theorem dX5_matchPart_12 : decode cX5_matchPart 12 = .ok (.iload 7, 2) := by decide +kernel
theorem dX5_matchPart_14 : decode cX5_matchPart 14 = .ok (.iload 6, 2) := by decide +kernel
theorem dX5_matchPart_16 : decode cX5_matchPart 16 = .ok (.if_icmp .ge 6, 3) := by decide +kernel
theorem dX5_matchPart_19 : decode cX5_matchPart 19 = .ok (.goto 25, 3) := by decide +kernel
theorem dX5_matchPart_22 : decode cX5_matchPart 22 = .ok (.aload_n 0, 1) := by decide +kernel
theorem dX5_matchPart_23 : decode cX5_matchPart 23 = .ok (.aload_n 1, 1) := by decide +kernel
theorem dX5_matchPart_24 : decode cX5_matchPart 24 = .ok (.iload 7, 2) := by decide +kernel
theorem dX5_matchPart_26 : decode cX5_matchPart 26 = .ok (.iload_n 3, 1) := by decide +kernel
theorem dX5_matchPart_27 : decode cX5_matchPart 27 = .ok (.aload 4, 2) := by decide +kernel
theorem dX5_matchPart_29 : decode cX5_matchPart 29 = .ok (.aload 5, 2) := by decide +kernel
theorem dX5_matchPart_31 : decode cX5_matchPart 31 = .ok (.invokevirtual 213, 3) := by decide +kernel
theorem dX5_matchPart_34 : decode cX5_matchPart 34 = .ok (.istore 6, 2) := by decide +kernel
theorem dX5_matchPart_36 : decode cX5_matchPart 36 = .ok (.iload 6, 2) := by decide +kernel
theorem dX5_matchPart_38 : decode cX5_matchPart 38 = .ok (.ifCond .ge 6, 3) := by decide +kernel
theorem dX5_matchPart_41 : decode cX5_matchPart 41 = .ok (.iload 6, 2) := by decide +kernel
theorem dX5_matchPart_43 : decode cX5_matchPart 43 = .ok (.ireturn, 1) := by decide +kernel
theorem dX5_matchPart_44 : decode cX5_matchPart 44 = .ok (.iinc 7 1, 3) := by decide +kernel
theorem dX5_matchPart_47 : decode cX5_matchPart 47 = .ok (.goto (-41), 3) := by decide +kernel
theorem dX5_matchPart_50 : decode cX5_matchPart 50 = .ok (.iconst 0, 1) := by decide +kernel
theorem dX5_matchPart_51 : decode cX5_matchPart 51 = .ok (.ireturn, 1) := by decide +kernel
theorem dX5_matchAt_0 : decode cX5_matchAt 0 = .ok (.aload 4, 2) := by decide +kernel
theorem dX5_matchAt_2 : decode cX5_matchAt 2 = .ok (.ifnull 11, 3) := by decide +kernel
theorem dX5_matchAt_5 : decode cX5_matchAt 5 = .ok (.aload_n 1, 1) := by decide +kernel
theorem dX5_matchAt_6 : decode cX5_matchAt 6 = .ok (.iload_n 2, 1) := by decide +kernel
theorem dX5_matchAt_7 : decode cX5_matchAt 7 = .ok (.invokevirtual 144, 3) := by decide +kernel
theorem dX5_matchAt_10 : decode cX5_matchAt 10 = .ok (.ifCond .gt 7, 3) := by decide +kernel
theorem dX5_matchAt_13 : decode cX5_matchAt 13 = .ok (.iconst 0, 1) := by decide +kernel
theorem dX5_matchAt_14 : decode cX5_matchAt 14 = .ok (.goto 8, 3) := by decide +kernel
theorem dX5_matchAt_17 : decode cX5_matchAt 17 = .ok (.aload 4, 2) := by decide +kernel
theorem dX5_matchAt_19 : decode cX5_matchAt 19 = .ok (.getfield 82, 3) := by decide +kernel
theorem dX5_matchAt_22 : decode cX5_matchAt 22 = .ok (.istore 6, 2) := by decide +kernel
theorem dX5_matchAt_24 : decode cX5_matchAt 24 = .ok (.iconst 0, 1) := by decide +kernel
theorem dX5_matchAt_25 : decode cX5_matchAt 25 = .ok (.istore 7, 2) := by decide +kernel
theorem dX5_matchAt_27 : decode cX5_matchAt 27 = .ok (.iload 7, 2) := by decide +kernel
theorem dX5_matchAt_29 : decode cX5_matchAt 29 = .ok (.iload 6, 2) := by decide +kernel
theorem dX5_matchAt_31 : decode cX5_matchAt 31 = .ok (.if_icmp .ge 77, 3) := by decide +kernel
theorem dX5_matchAt_34 : decode cX5_matchAt 34 = .ok (.aload 4, 2) := by decide +kernel
theorem dX5_matchAt_36 : decode cX5_matchAt 36 = .ok (.iload 7, 2) := by decide +kernel
theorem dX5_matchAt_38 : decode cX5_matchAt 38 = .ok (.invokevirtual 216, 3) := by decide +kernel
theorem dX5_matchAt_41 : decode cX5_matchAt 41 = .ok (.astore 8, 2) := by decide +kernel
theorem dX5_matchAt_43 : decode cX5_matchAt 43 = .ok (.aload 8, 2) := by decide +kernel
theorem dX5_matchAt_45 : decode cX5_matchAt 45 = .ok (.ifnonnull 7, 3) := by decide +kernel
theorem dX5_matchAt_48 : decode cX5_matchAt 48 = .ok (.iconst (-1), 1) := by decide +kernel
theorem dX5_matchAt_49 : decode cX5_matchAt 49 = .ok (.goto 11, 3) := by decide +kernel
theorem dX5_matchAt_52 : decode cX5_matchAt 52 = .ok (.aload 8, 2) := by decide +kernel
theorem dX5_matchAt_54 : decode cX5_matchAt 54 = .ok (.aload_n 1, 1) := by decide +kernel
theorem dX5_matchAt_55 : decode cX5_matchAt 55 = .ok (.iload_n 2, 1) := by decide +kernel
theorem dX5_matchAt_56 : decode cX5_matchAt 56 = .ok (.iload_n 3, 1) := by decide +kernel
theorem dX5_matchAt_57 : decode cX5_matchAt 57 = .ok (.invokestatic 219, 3) := by decide +kernel
theorem dX5_matchAt_60 : decode cX5_matchAt 60 = .ok (.istore 9, 2) := by decide +kernel
theorem dX5_matchAt_62 : decode cX5_matchAt 62 = .ok (.iload 9, 2) := by decide +kernel
theorem dX5_matchAt_64 : decode cX5_matchAt 64 = .ok (.iload_n 2, 1) := by decide +kernel
theorem dX5_matchAt_65 : decode cX5_matchAt 65 = .ok (.if_icmp .le 37, 3) := by decide +kernel
theorem dX5_matchAt_68 : decode cX5_matchAt 68 = .ok (.aload_n 0, 1) := by decide +kernel
theorem dX5_matchAt_69 : decode cX5_matchAt 69 = .ok (.dup, 1) := by decide +kernel
theorem dX5_matchAt_70 : decode cX5_matchAt 70 = .ok (.getfield 123, 3) := by decide +kernel
theorem dX5_matchAt_73 : decode cX5_matchAt 73 = .ok (.iconst 1, 1) := by decide +kernel
theorem dX5_matchAt_74 : decode cX5_matchAt 74 = .ok (.iadd, 1) := by decide +kernel
theorem dX5_matchAt_75 : decode cX5_matchAt 75 = .ok (.putfield 123, 3) := by decide +kernel
theorem dX5_matchAt_78 : decode cX5_matchAt 78 = .ok (.aload 8, 2) := by decide +kernel
theorem dX5_matchAt_80 : decode cX5_matchAt 80 = .ok (.aload_n 1, 1) := by decide +kernel
theorem dX5_matchAt_81 : decode cX5_matchAt 81 = .ok (.iload_n 2, 1) := by decide +kernel
theorem dX5_matchAt_82 : decode cX5_matchAt 82 = .ok (.aload 5, 2) := by decide +kernel
theorem dX5_matchAt_84 : decode cX5_matchAt 84 = .ok (.invokestatic 223, 3) := by decide +kernel
theorem dX5_matchAt_87 : decode cX5_matchAt 87 = .ok (.istore 10, 2) := by decide +kernel
theorem dX5_matchAt_89 : decode cX5_matchAt 89 = .ok (.iload 10, 2) := by decide +kernel
theorem dX5_matchAt_91 : decode cX5_matchAt 91 = .ok (.ifCond .ne 8, 3) := by decide +kernel
theorem dX5_matchAt_94 : decode cX5_matchAt 94 = .ok (.iload 9, 2) := by decide +kernel
theorem dX5_matchAt_96 : decode cX5_matchAt 96 = .ok (.goto 5, 3) := by decide +kernel
theorem dX5_matchAt_99 : decode cX5_matchAt 99 = .ok (.iload 10, 2) := by decide +kernel
theorem dX5_matchAt_101 : decode cX5_matchAt 101 = .ok (.ireturn, 1) := by decide +kernel
theorem dX5_matchAt_102 : decode cX5_matchAt 102 = .ok (.iinc 7 1, 3) := by decide +kernel
theorem dX5_matchAt_105 : decode cX5_matchAt 105 = .ok (.goto (-78), 3) := by decide +kernel
theorem dX5_matchAt_108 : decode cX5_matchAt 108 = .ok (.aload 5, 2) := by decide +kernel
theorem dX5_matchAt_110 : decode cX5_matchAt 110 = .ok (.aload_n 1, 1) := by decide +kernel
theorem dX5_matchAt_111 : decode cX5_matchAt 111 = .ok (.iload_n 2, 1) := by decide +kernel
theorem dX5_matchAt_112 : decode cX5_matchAt 112 = .ok (.invokevirtual 227, 3) := by decide +kernel
theorem dX5_matchAt_115 : decode cX5_matchAt 115 = .ok (.ifCond .eq 9, 3) := by decide +kernel
theorem dX5_matchAt_118 : decode cX5_matchAt 118 = .ok (.iload_n 2, 1) := by decide +kernel
theorem dX5_matchAt_119 : decode cX5_matchAt 119 = .ok (.iconst 1, 1) := by decide +kernel
theorem dX5_matchAt_120 : decode cX5_matchAt 120 = .ok (.iadd, 1) := by decide +kernel
theorem dX5_matchAt_121 : decode cX5_matchAt 121 = .ok (.goto 5, 3) := by decide +kernel
theorem dX5_matchAt_124 : decode cX5_matchAt 124 = .ok (.bipush (-3), 2) := by decide +kernel
theorem dX5_matchAt_126 : decode cX5_matchAt 126 = .ok (.ireturn, 1) := by decide +kernel
theorem dX5_behindMatch_0 : decode cX5_behindMatch 0 = .ok (.aload_n 0, 1) := by decide +kernel
theorem dX5_behindMatch_1 : decode cX5_behindMatch 1 = .ok (.getfield 103, 3) := by decide +kernel
theorem dX5_behindMatch_4 : decode cX5_behindMatch 4 = .ok (.ifCond .eq 23, 3) := by decide +kernel
theorem dX5_behindMatch_7 : decode cX5_behindMatch 7 = .ok (.aload_n 1, 1) := by decide +kernel
theorem dX5_behindMatch_8 : decode cX5_behindMatch 8 = .ok (.iload_n 2, 1) := by decide +kernel
theorem dX5_behindMatch_9 : decode cX5_behindMatch 9 = .ok (.invokevirtual 144, 3) := by decide +kernel
theorem dX5_behindMatch_12 : decode cX5_behindMatch 12 = .ok (.aload_n 0, 1) := by decide +kernel
theorem dX5_behindMatch_13 : decode cX5_behindMatch 13 = .ok (.invokestatic 231, 3) := by decide +kernel
theorem dX5_behindMatch_16 : decode cX5_behindMatch 16 = .ok (.ifCond .eq 9, 3) := by decide +kernel
theorem dX5_behindMatch_19 : decode cX5_behindMatch 19 = .ok (.iload_n 2, 1) := by decide +kernel
theorem dX5_behindMatch_20 : decode cX5_behindMatch 20 = .ok (.iconst 1, 1) := by decide +kernel
theorem dX5_behindMatch_21 : decode cX5_behindMatch 21 = .ok (.iadd, 1) := by decide +kernel
theorem dX5_behindMatch_22 : decode cX5_behindMatch 22 = .ok (.goto 4, 3) := by decide +kernel
theorem dX5_behindMatch_25 : decode cX5_behindMatch 25 = .ok (.iconst (-1), 1) := by decide +kernel
theorem dX5_behindMatch_26 : decode cX5_behindMatch 26 = .ok (.ireturn, 1) := by decide +kernel
theorem dX5_behindMatch_27 : decode cX5_behindMatch 27 = .ok (.iconst 0, 1) := by decide +kernel
theorem dX5_behindMatch_28 : decode cX5_behindMatch 28 = .ok (.istore 4, 2) := by decide +kernel
theorem dX5_behindMatch_30 : decode cX5_behindMatch 30 = .ok (.iload_n 2, 1) := by decide +kernel
theorem dX5_behindMatch_31 : decode cX5_behindMatch 31 = .ok (.istore 5, 2) := by decide +kernel
theorem dX5_behindMatch_33 : decode cX5_behindMatch 33 = .ok (.iload 5, 2) := by decide +kernel
theorem dX5_behindMatch_35 : decode cX5_behindMatch 35 = .ok (.iload_n 3, 1) := by decide +kernel
theorem dX5_behindMatch_36 : decode cX5_behindMatch 36 = .ok (.if_icmp .ge 67, 3) := by decide +kernel
theorem dX5_behindMatch_39 : decode cX5_behindMatch 39 = .ok (.aload_n 1, 1) := by decide +kernel
theorem dX5_behindMatch_40 : decode cX5_behindMatch 40 = .ok (.iload 5, 2) := by decide +kernel
theorem dX5_behindMatch_42 : decode cX5_behindMatch 42 = .ok (.invokevirtual 144, 3) := by decide +kernel
theorem dX5_behindMatch_45 : decode cX5_behindMatch 45 = .ok (.istore 6, 2) := by decide +kernel
theorem dX5_behindMatch_47 : decode cX5_behindMatch 47 = .ok (.iload 6, 2) := by decide +kernel
theorem dX5_behindMatch_49 : decode cX5_behindMatch 49 = .ok (.ifCond .eq 48, 3) := by decide +kernel
theorem dX5_behindMatch_52 : decode cX5_behindMatch 52 = .ok (.iload 6, 2) := by decide +kernel
theorem dX5_behindMatch_54 : decode cX5_behindMatch 54 = .ok (.iconst (-1), 1) := by decide +kernel
theorem dX5_behindMatch_55 : decode cX5_behindMatch 55 = .ok (.if_icmp .ne 6, 3) := by decide +kernel
theorem dX5_behindMatch_58 : decode cX5_behindMatch 58 = .ok (.goto 39, 3) := by decide +kernel
theorem dX5_behindMatch_61 : decode cX5_behindMatch 61 = .ok (.iload 6, 2) := by decide +kernel
theorem dX5_behindMatch_63 : decode cX5_behindMatch 63 = .ok (.aload_n 0, 1) := by decide +kernel
theorem dX5_behindMatch_64 : decode cX5_behindMatch 64 = .ok (.getfield 84, 3) := by decide +kernel
theorem dX5_behindMatch_67 : decode cX5_behindMatch 67 = .ok (.iload 4, 2) := by decide +kernel
theorem dX5_behindMatch_69 : decode cX5_behindMatch 69 = .ok (.invokevirtual 235, 3) := by decide +kernel
theorem dX5_behindMatch_72 : decode cX5_behindMatch 72 = .ok (.if_icmp .eq 5, 3) := by decide +kernel
theorem dX5_behindMatch_75 : decode cX5_behindMatch 75 = .ok (.iconst (-1), 1) := by decide +kernel
theorem dX5_behindMatch_76 : decode cX5_behindMatch 76 = .ok (.ireturn, 1) := by decide +kernel
theorem dX5_behindMatch_77 : decode cX5_behindMatch 77 = .ok (.iinc 4 1, 3) := by decide +kernel
theorem dX5_behindMatch_80 : decode cX5_behindMatch 80 = .ok (.iload 4, 2) := by decide +kernel
theorem dX5_behindMatch_82 : decode cX5_behindMatch 82 = .ok (.aload_n 0, 1) := by decide +kernel
theorem dX5_behindMatch_83 : decode cX5_behindMatch 83 = .ok (.getfield 84, 3) := by decide +kernel
theorem dX5_behindMatch_86 : decode cX5_behindMatch 86 = .ok (.getfield 110, 3) := by decide +kernel
theorem dX5_behindMatch_89 : decode cX5_behindMatch 89 = .ok (.if_icmp .ne 8, 3) := by decide +kernel
theorem dX5_behindMatch_92 : decode cX5_behindMatch 92 = .ok (.iload 5, 2) := by decide +kernel
theorem dX5_behindMatch_94 : decode cX5_behindMatch 94 = .ok (.iconst 1, 1) := by decide +kernel
theorem dX5_behindMatch_95 : decode cX5_behindMatch 95 = .ok (.iadd, 1) := by decide +kernel
theorem dX5_behindMatch_96 : decode cX5_behindMatch 96 = .ok (.ireturn, 1) := by decide +kernel
theorem dX5_behindMatch_97 : decode cX5_behindMatch 97 = .ok (.iinc 5 1, 3) := by decide +kernel
theorem dX5_behindMatch_100 : decode cX5_behindMatch 100 = .ok (.goto (-67), 3) := by decide +kernel
theorem dX5_behindMatch_103 : decode cX5_behindMatch 103 = .ok (.iconst (-1), 1) := by decide +kernel
theorem dX5_behindMatch_104 : decode cX5_behindMatch 104 = .ok (.ireturn, 1) := by decide +kernel
theorem dX5_put_0 : decode cX5_put 0 = .ok (.aload_n 0, 1) := by decide +kernel
theorem dX5_put_1 : decode cX5_put 1 = .ok (.getfield 103, 3) := by decide +kernel
theorem dX5_put_4 : decode cX5_put 4 = .ok (.ifCond .eq 44, 3) := by decide +kernel
theorem dX5_put_7 : decode cX5_put 7 = .ok (.aload_n 1, 1) := by decide +kernel
theorem dX5_put_8 : decode cX5_put 8 = .ok (.iload_n 2, 1) := by decide +kernel
theorem dX5_put_9 : decode cX5_put 9 = .ok (.invokevirtual 144, 3) := by decide +kernel
theorem dX5_put_12 : decode cX5_put 12 = .ok (.aload_n 0, 1) := by decide +kernel
theorem dX5_put_13 : decode cX5_put 13 = .ok (.invokestatic 237, 3) := by decide +kernel
theorem dX5_put_16 : decode cX5_put 16 = .ok (.istore 4, 2) := by decide +kernel
theorem dX5_put_18 : decode cX5_put 18 = .ok (.iload 4, 2) := by decide +kernel
theorem dX5_put_20 : decode cX5_put 20 = .ok (.ifCond .ge 6, 3) := by decide +kernel
theorem dX5_put_23 : decode cX5_put 23 = .ok (.iload 4, 2) := by decide +kernel
theorem dX5_put_25 : decode cX5_put 25 = .ok (.ireturn, 1) := by decide +kernel
theorem dX5_put_26 : decode cX5_put 26 = .ok (.aload_n 3, 1) := by decide +kernel
theorem dX5_put_27 : decode cX5_put 27 = .ok (.iload 4, 2) := by decide +kernel
theorem dX5_put_29 : decode cX5_put 29 = .ok (.aload_n 0, 1) := by decide +kernel
theorem dX5_put_30 : decode cX5_put 30 = .ok (.getfield 96, 3) := by decide +kernel
theorem dX5_put_33 : decode cX5_put 33 = .ok (.aload_n 1, 1) := by decide +kernel
theorem dX5_put_34 : decode cX5_put 34 = .ok (.iload_n 2, 1) := by decide +kernel
theorem dX5_put_35 : decode cX5_put 35 = .ok (.invokevirtual 241, 3) := by decide +kernel
theorem dX5_put_38 : decode cX5_put 38 = .ok (.ifCond .eq 7, 3) := by decide +kernel
theorem dX5_put_41 : decode cX5_put 41 = .ok (.iconst 0, 1) := by decide +kernel
theorem dX5_put_42 : decode cX5_put 42 = .ok (.goto 5, 3) := by decide +kernel
theorem dX5_put_45 : decode cX5_put 45 = .ok (.bipush (-3), 2) := by decide +kernel
theorem dX5_put_47 : decode cX5_put 47 = .ok (.ireturn, 1) := by decide +kernel
theorem dX5_put_48 : decode cX5_put 48 = .ok (.iconst 0, 1) := by decide +kernel
theorem dX5_put_49 : decode cX5_put 49 = .ok (.istore 4, 2) := by decide +kernel
theorem dX5_put_51 : decode cX5_put 51 = .ok (.iload 4, 2) := by decide +kernel
theorem dX5_put_53 : decode cX5_put 53 = .ok (.aload_n 0, 1) := by decide +kernel
theorem dX5_put_54 : decode cX5_put 54 = .ok (.getfield 111, 3) := by decide +kernel
theorem dX5_put_57 : decode cX5_put 57 = .ok (.getfield 110, 3) := by decide +kernel
theorem dX5_put_60 : decode cX5_put 60 = .ok (.if_icmp .ge 34, 3) := by decide +kernel
theorem dX5_put_63 : decode cX5_put 63 = .ok (.aload_n 3, 1) := by decide +kernel
theorem dX5_put_64 : decode cX5_put 64 = .ok (.aload_n 0, 1) := by decide +kernel
theorem dX5_put_65 : decode cX5_put 65 = .ok (.getfield 111, 3) := by decide +kernel
theorem dX5_put_68 : decode cX5_put 68 = .ok (.iload 4, 2) := by decide +kernel
theorem dX5_put_70 : decode cX5_put 70 = .ok (.invokevirtual 235, 3) := by decide +kernel
theorem dX5_put_73 : decode cX5_put 73 = .ok (.aload_n 0, 1) := by decide +kernel
theorem dX5_put_74 : decode cX5_put 74 = .ok (.getfield 96, 3) := by decide +kernel
theorem dX5_put_77 : decode cX5_put 77 = .ok (.aload_n 1, 1) := by decide +kernel
theorem dX5_put_78 : decode cX5_put 78 = .ok (.iload_n 2, 1) := by decide +kernel
theorem dX5_put_79 : decode cX5_put 79 = .ok (.invokevirtual 241, 3) := by decide +kernel
theorem dX5_put_82 : decode cX5_put 82 = .ok (.ifCond .ne 6, 3) := by decide +kernel
theorem dX5_put_85 : decode cX5_put 85 = .ok (.bipush (-3), 2) := by decide +kernel
theorem dX5_put_87 : decode cX5_put 87 = .ok (.ireturn, 1) := by decide +kernel
theorem dX5_put_88 : decode cX5_put 88 = .ok (.iinc 4 1, 3) := by decide +kernel
theorem dX5_put_91 : decode cX5_put 91 = .ok (.goto (-40), 3) := by decide +kernel
theorem dX5_put_94 : decode cX5_put 94 = .ok (.iconst 0, 1) := by decide +kernel
theorem dX5_put_95 : decode cX5_put 95 = .ok (.ireturn, 1) := by decide +kernel
theorem dX5_hasPart_0 : decode cX5_hasPart 0 = .ok (.aload_n 1, 1) := by decide +kernel
theorem dX5_hasPart_1 : decode cX5_hasPart 1 = .ok (.getfield 84, 3) := by decide +kernel
theorem dX5_hasPart_4 : decode cX5_hasPart 4 = .ok (.iconst 0, 1) := by decide +kernel
theorem dX5_hasPart_5 : decode cX5_hasPart 5 = .ok (.invokevirtual 235, 3) := by decide +kernel
theorem dX5_hasPart_8 : decode cX5_hasPart 8 = .ok (.istore_n 2, 1) := by decide +kernel
theorem dX5_hasPart_9 : decode cX5_hasPart 9 = .ok (.iload_n 0, 1) := by decide +kernel
theorem dX5_hasPart_10 : decode cX5_hasPart 10 = .ok (.invokestatic 245, 3) := by decide +kernel
theorem dX5_hasPart_13 : decode cX5_hasPart 13 = .ok (.iload_n 2, 1) := by decide +kernel
theorem dX5_hasPart_14 : decode cX5_hasPart 14 = .ok (.invokestatic 245, 3) := by decide +kernel
theorem dX5_hasPart_17 : decode cX5_hasPart 17 = .ok (.isub, 1) := by decide +kernel
theorem dX5_hasPart_18 : decode cX5_hasPart 18 = .ok (.istore_n 3, 1) := by decide +kernel
theorem dX5_hasPart_19 : decode cX5_hasPart 19 = .ok (.iload_n 3, 1) := by decide +kernel
theorem dX5_hasPart_20 : decode cX5_hasPart 20 = .ok (.ifCond .gt 5, 3) := by decide +kernel
theorem dX5_hasPart_23 : decode cX5_hasPart 23 = .ok (.iconst 0, 1) := by decide +kernel
theorem dX5_hasPart_24 : decode cX5_hasPart 24 = .ok (.ireturn, 1) := by decide +kernel
theorem dX5_hasPart_25 : decode cX5_hasPart 25 = .ok (.aload_n 1, 1) := by decide +kernel
theorem dX5_hasPart_26 : decode cX5_hasPart 26 = .ok (.getfield 103, 3) := by decide +kernel
theorem dX5_hasPart_29 : decode cX5_hasPart 29 = .ok (.iconst 1, 1) := by decide +kernel
theorem dX5_hasPart_30 : decode cX5_hasPart 30 = .ok (.if_icmp .ne 20, 3) := by decide +kernel
theorem dX5_hasPart_33 : decode cX5_hasPart 33 = .ok (.iload_n 0, 1) := by decide +kernel
theorem dX5_hasPart_34 : decode cX5_hasPart 34 = .ok (.iload_n 3, 1) := by decide +kernel
theorem dX5_hasPart_35 : decode cX5_hasPart 35 = .ok (.invokestatic 248, 3) := by decide +kernel
theorem dX5_hasPart_38 : decode cX5_hasPart 38 = .ok (.iload_n 2, 1) := by decide +kernel
theorem dX5_hasPart_39 : decode cX5_hasPart 39 = .ok (.if_icmp .ne 7, 3) := by decide +kernel
theorem dX5_hasPart_42 : decode cX5_hasPart 42 = .ok (.iconst 1, 1) := by decide +kernel
theorem dX5_hasPart_43 : decode cX5_hasPart 43 = .ok (.goto 24, 3) := by decide +kernel
theorem dX5_hasPart_46 : decode cX5_hasPart 46 = .ok (.iconst 0, 1) := by decide +kernel
theorem dX5_hasPart_47 : decode cX5_hasPart 47 = .ok (.goto 20, 3) := by decide +kernel
theorem dX5_hasPart_50 : decode cX5_hasPart 50 = .ok (.iload_n 0, 1) := by decide +kernel
theorem dX5_hasPart_51 : decode cX5_hasPart 51 = .ok (.iload_n 2, 1) := by decide +kernel
theorem dX5_hasPart_52 : decode cX5_hasPart 52 = .ok (.invokestatic 245, 3) := by decide +kernel
theorem dX5_hasPart_55 : decode cX5_hasPart 55 = .ok (.invokestatic 252, 3) := by decide +kernel
theorem dX5_hasPart_58 : decode cX5_hasPart 58 = .ok (.iload_n 2, 1) := by decide +kernel
theorem dX5_hasPart_59 : decode cX5_hasPart 59 = .ok (.if_icmp .ne 7, 3) := by decide +kernel
theorem dX5_hasPart_62 : decode cX5_hasPart 62 = .ok (.iconst 1, 1) := by decide +kernel
theorem dX5_hasPart_63 : decode cX5_hasPart 63 = .ok (.goto 4, 3) := by decide +kernel
theorem dX5_hasPart_66 : decode cX5_hasPart 66 = .ok (.iconst 0, 1) := by decide +kernel
theorem dX5_hasPart_67 : decode cX5_hasPart 67 = .ok (.ireturn, 1) := by decide +kernel
theorem dX5_withPartChanged_0 : decode cX5_withPartChanged 0 = .ok (.aload_n 1, 1) := by decide +kernel
theorem dX5_withPartChanged_1 : decode cX5_withPartChanged 1 = .ok (.getfield 84, 3) := by decide +kernel
theorem dX5_withPartChanged_4 : decode cX5_withPartChanged 4 = .ok (.iconst 0, 1) := by decide +kernel
theorem dX5_withPartChanged_5 : decode cX5_withPartChanged 5 = .ok (.invokevirtual 235, 3) := by decide +kernel
theorem dX5_withPartChanged_8 : decode cX5_withPartChanged 8 = .ok (.invokestatic 245, 3) := by decide +kernel
theorem dX5_withPartChanged_11 : decode cX5_withPartChanged 11 = .ok (.istore_n 2, 1) := by decide +kernel
theorem dX5_withPartChanged_12 : decode cX5_withPartChanged 12 = .ok (.iload_n 0, 1) := by decide +kernel
theorem dX5_withPartChanged_13 : decode cX5_withPartChanged 13 = .ok (.invokestatic 245, 3) := by decide +kernel
theorem dX5_withPartChanged_16 : decode cX5_withPartChanged 16 = .ok (.iload_n 2, 1) := by decide +kernel
theorem dX5_withPartChanged_17 : decode cX5_withPartChanged 17 = .ok (.isub, 1) := by decide +kernel
theorem dX5_withPartChanged_18 : decode cX5_withPartChanged 18 = .ok (.istore_n 3, 1) := by decide +kernel
theorem dX5_withPartChanged_19 : decode cX5_withPartChanged 19 = .ok (.aload_n 1, 1) := by decide +kernel
theorem dX5_withPartChanged_20 : decode cX5_withPartChanged 20 = .ok (.getfield 111, 3) := by decide +kernel
theorem dX5_withPartChanged_23 : decode cX5_withPartChanged 23 = .ok (.getfield 110, 3) := by decide +kernel
theorem dX5_withPartChanged_26 : decode cX5_withPartChanged 26 = .ok (.ifCond .le 14, 3) := by decide +kernel
theorem dX5_withPartChanged_29 : decode cX5_withPartChanged 29 = .ok (.aload_n 1, 1) := by decide +kernel
theorem dX5_withPartChanged_30 : decode cX5_withPartChanged 30 = .ok (.getfield 111, 3) := by decide +kernel
theorem dX5_withPartChanged_33 : decode cX5_withPartChanged 33 = .ok (.iconst 0, 1) := by decide +kernel
theorem dX5_withPartChanged_34 : decode cX5_withPartChanged 34 = .ok (.invokevirtual 235, 3) := by decide +kernel
theorem dX5_withPartChanged_37 : decode cX5_withPartChanged 37 = .ok (.goto 4, 3) := by decide +kernel
theorem dX5_withPartChanged_40 : decode cX5_withPartChanged 40 = .ok (.iconst 0, 1) := by decide +kernel
theorem dX5_withPartChanged_41 : decode cX5_withPartChanged 41 = .ok (.istore 4, 2) := by decide +kernel
theorem dX5_withPartChanged_43 : decode cX5_withPartChanged 43 = .ok (.iload_n 3, 1) := by decide +kernel
theorem dX5_withPartChanged_44 : decode cX5_withPartChanged 44 = .ok (.iload 4, 2) := by decide +kernel
theorem dX5_withPartChanged_46 : decode cX5_withPartChanged 46 = .ok (.invokestatic 245, 3) := by decide +kernel
theorem dX5_withPartChanged_49 : decode cX5_withPartChanged 49 = .ok (.iadd, 1) := by decide +kernel
theorem dX5_withPartChanged_50 : decode cX5_withPartChanged 50 = .ok (.bipush 6, 2) := by decide +kernel
theorem dX5_withPartChanged_52 : decode cX5_withPartChanged 52 = .ok (.if_icmp .le 6, 3) := by decide +kernel
theorem dX5_withPartChanged_55 : decode cX5_withPartChanged 55 = .ok (.bipush (-5), 2) := by decide +kernel
theorem dX5_withPartChanged_57 : decode cX5_withPartChanged 57 = .ok (.ireturn, 1) := by decide +kernel
theorem dX5_withPartChanged_58 : decode cX5_withPartChanged 58 = .ok (.aload_n 1, 1) := by decide +kernel
theorem dX5_withPartChanged_59 : decode cX5_withPartChanged 59 = .ok (.getfield 103, 3) := by decide +kernel
theorem dX5_withPartChanged_62 : decode cX5_withPartChanged 62 = .ok (.iconst 1, 1) := by decide +kernel
theorem dX5_withPartChanged_63 : decode cX5_withPartChanged 63 = .ok (.if_icmp .ne 17, 3) := by decide +kernel
theorem dX5_withPartChanged_66 : decode cX5_withPartChanged 66 = .ok (.iload 4, 2) := by decide +kernel
theorem dX5_withPartChanged_68 : decode cX5_withPartChanged 68 = .ok (.iload_n 3, 1) := by decide +kernel
theorem dX5_withPartChanged_69 : decode cX5_withPartChanged 69 = .ok (.invokestatic 255, 3) := by decide +kernel
theorem dX5_withPartChanged_72 : decode cX5_withPartChanged 72 = .ok (.imul, 1) := by decide +kernel
theorem dX5_withPartChanged_73 : decode cX5_withPartChanged 73 = .ok (.iload_n 0, 1) := by decide +kernel
theorem dX5_withPartChanged_74 : decode cX5_withPartChanged 74 = .ok (.iload_n 3, 1) := by decide +kernel
theorem dX5_withPartChanged_75 : decode cX5_withPartChanged 75 = .ok (.invokestatic 252, 3) := by decide +kernel
theorem dX5_withPartChanged_78 : decode cX5_withPartChanged 78 = .ok (.iadd, 1) := by decide +kernel
theorem dX5_withPartChanged_79 : decode cX5_withPartChanged 79 = .ok (.ireturn, 1) := by decide +kernel
theorem dX5_withPartChanged_80 : decode cX5_withPartChanged 80 = .ok (.iload_n 0, 1) := by decide +kernel
theorem dX5_withPartChanged_81 : decode cX5_withPartChanged 81 = .ok (.iload_n 2, 1) := by decide +kernel
theorem dX5_withPartChanged_82 : decode cX5_withPartChanged 82 = .ok (.invokestatic 248, 3) := by decide +kernel
theorem dX5_withPartChanged_85 : decode cX5_withPartChanged 85 = .ok (.iload 4, 2) := by decide +kernel
theorem dX5_withPartChanged_87 : decode cX5_withPartChanged 87 = .ok (.invokestatic 245, 3) := by decide +kernel
theorem dX5_withPartChanged_90 : decode cX5_withPartChanged 90 = .ok (.invokestatic 255, 3) := by decide +kernel
theorem dX5_withPartChanged_93 : decode cX5_withPartChanged 93 = .ok (.imul, 1) := by decide +kernel
theorem dX5_withPartChanged_94 : decode cX5_withPartChanged 94 = .ok (.iload 4, 2) := by decide +kernel
theorem dX5_withPartChanged_96 : decode cX5_withPartChanged 96 = .ok (.iadd, 1) := by decide +kernel
theorem dX5_withPartChanged_97 : decode cX5_withPartChanged 97 = .ok (.ireturn, 1) := by decide +kernel
theorem dX5_isName_0 : decode cX5_isName 0 = .ok (.iload_n 0, 1) := by decide +kernel
theorem dX5_isName_1 : decode cX5_isName 1 = .ok (.ifCond .lt 13, 3) := by decide +kernel
theorem dX5_isName_4 : decode cX5_isName 4 = .ok (.iload_n 0, 1) := by decide +kernel
theorem dX5_isName_5 : decode cX5_isName 5 = .ok (.bipush 99, 2) := by decide +kernel
theorem dX5_isName_7 : decode cX5_isName 7 = .ok (.if_icmp .gt 7, 3) := by decide +kernel
theorem dX5_isName_10 : decode cX5_isName 10 = .ok (.iconst 1, 1) := by decide +kernel
theorem dX5_isName_11 : decode cX5_isName 11 = .ok (.goto 4, 3) := by decide +kernel
theorem dX5_isName_14 : decode cX5_isName 14 = .ok (.iconst 0, 1) := by decide +kernel
theorem dX5_isName_15 : decode cX5_isName 15 = .ok (.ireturn, 1) := by decide +kernel
theorem dX5_isPlain_0 : decode cX5_isPlain 0 = .ok (.iload_n 0, 1) := by decide +kernel
theorem dX5_isPlain_1 : decode cX5_isPlain 1 = .ok (.ifCond .eq 15, 3) := by decide +kernel
theorem dX5_isPlain_4 : decode cX5_isPlain 4 = .ok (.iload_n 0, 1) := by decide +kernel
theorem dX5_isPlain_5 : decode cX5_isPlain 5 = .ok (.iconst (-1), 1) := by decide +kernel
theorem dX5_isPlain_6 : decode cX5_isPlain 6 = .ok (.if_icmp .eq 10, 3) := by decide +kernel
theorem dX5_isPlain_9 : decode cX5_isPlain 9 = .ok (.iload_n 0, 1) := by decide +kernel
theorem dX5_isPlain_10 : decode cX5_isPlain 10 = .ok (.invokestatic 76, 3) := by decide +kernel
theorem dX5_isPlain_13 : decode cX5_isPlain 13 = .ok (.ifCond .eq 7, 3) := by decide +kernel
theorem dX5_isPlain_16 : decode cX5_isPlain 16 = .ok (.iconst 1, 1) := by decide +kernel
theorem dX5_isPlain_17 : decode cX5_isPlain 17 = .ok (.goto 4, 3) := by decide +kernel
theorem dX5_isPlain_20 : decode cX5_isPlain 20 = .ok (.iconst 0, 1) := by decide +kernel
theorem dX5_isPlain_21 : decode cX5_isPlain 21 = .ok (.ireturn, 1) := by decide +kernel
theorem dX5_isWord_0 : decode cX5_isWord 0 = .ok (.iload_n 0, 1) := by decide +kernel
theorem dX5_isWord_1 : decode cX5_isWord 1 = .ok (.istore_n 1, 1) := by decide +kernel
theorem dX5_isWord_2 : decode cX5_isWord 2 = .ok (.iconst 0, 1) := by decide +kernel
theorem dX5_isWord_3 : decode cX5_isWord 3 = .ok (.istore_n 2, 1) := by decide +kernel
theorem dX5_isWord_4 : decode cX5_isWord 4 = .ok (.iload_n 2, 1) := by decide +kernel
theorem dX5_isWord_5 : decode cX5_isWord 5 = .ok (.bipush 6, 2) := by decide +kernel
theorem dX5_isWord_7 : decode cX5_isWord 7 = .ok (.if_icmp .ge 27, 3) := by decide +kernel
theorem dX5_isWord_10 : decode cX5_isWord 10 = .ok (.iload_n 1, 1) := by decide +kernel
theorem dX5_isWord_11 : decode cX5_isWord 11 = .ok (.ifCond .le 23, 3) := by decide +kernel
theorem dX5_isWord_14 : decode cX5_isWord 14 = .ok (.iload_n 1, 1) := by decide +kernel
theorem dX5_isWord_15 : decode cX5_isWord 15 = .ok (.bipush 27, 2) := by decide +kernel
theorem dX5_isWord_17 : decode cX5_isWord 17 = .ok (.irem, 1) := by decide +kernel
theorem dX5_isWord_18 : decode cX5_isWord 18 = .ok (.ifCond .ne 5, 3) := by decide +kernel
theorem dX5_isWord_21 : decode cX5_isWord 21 = .ok (.iconst 0, 1) := by decide +kernel
theorem dX5_isWord_22 : decode cX5_isWord 22 = .ok (.ireturn, 1) := by decide +kernel
theorem dX5_isWord_23 : decode cX5_isWord 23 = .ok (.iload_n 1, 1) := by decide +kernel
theorem dX5_isWord_24 : decode cX5_isWord 24 = .ok (.bipush 27, 2) := by decide +kernel
theorem dX5_isWord_26 : decode cX5_isWord 26 = .ok (.idiv, 1) := by decide +kernel
theorem dX5_isWord_27 : decode cX5_isWord 27 = .ok (.istore_n 1, 1) := by decide +kernel
theorem dX5_isWord_28 : decode cX5_isWord 28 = .ok (.iinc 2 1, 3) := by decide +kernel
theorem dX5_isWord_31 : decode cX5_isWord 31 = .ok (.goto (-27), 3) := by decide +kernel
theorem dX5_isWord_34 : decode cX5_isWord 34 = .ok (.iload_n 0, 1) := by decide +kernel
theorem dX5_isWord_35 : decode cX5_isWord 35 = .ok (.ifCond .le 11, 3) := by decide +kernel
theorem dX5_isWord_38 : decode cX5_isWord 38 = .ok (.iload_n 1, 1) := by decide +kernel
theorem dX5_isWord_39 : decode cX5_isWord 39 = .ok (.ifCond .ne 7, 3) := by decide +kernel
theorem dX5_isWord_42 : decode cX5_isWord 42 = .ok (.iconst 1, 1) := by decide +kernel
theorem dX5_isWord_43 : decode cX5_isWord 43 = .ok (.goto 4, 3) := by decide +kernel
theorem dX5_isWord_46 : decode cX5_isWord 46 = .ok (.iconst 0, 1) := by decide +kernel
theorem dX5_isWord_47 : decode cX5_isWord 47 = .ok (.ireturn, 1) := by decide +kernel
theorem dX5_letters_0 : decode cX5_letters 0 = .ok (.iconst 0, 1) := by decide +kernel
theorem dX5_letters_1 : decode cX5_letters 1 = .ok (.istore_n 1, 1) := by decide +kernel
theorem dX5_letters_2 : decode cX5_letters 2 = .ok (.iload_n 0, 1) := by decide +kernel
theorem dX5_letters_3 : decode cX5_letters 3 = .ok (.istore_n 2, 1) := by decide +kernel
theorem dX5_letters_4 : decode cX5_letters 4 = .ok (.iload_n 2, 1) := by decide +kernel
theorem dX5_letters_5 : decode cX5_letters 5 = .ok (.ifCond .le 20, 3) := by decide +kernel
theorem dX5_letters_8 : decode cX5_letters 8 = .ok (.iload_n 1, 1) := by decide +kernel
theorem dX5_letters_9 : decode cX5_letters 9 = .ok (.bipush 6, 2) := by decide +kernel
theorem dX5_letters_11 : decode cX5_letters 11 = .ok (.if_icmp .ge 14, 3) := by decide +kernel
theorem dX5_letters_14 : decode cX5_letters 14 = .ok (.iinc 1 1, 3) := by decide +kernel
theorem dX5_letters_17 : decode cX5_letters 17 = .ok (.iload_n 2, 1) := by decide +kernel
theorem dX5_letters_18 : decode cX5_letters 18 = .ok (.bipush 27, 2) := by decide +kernel
theorem dX5_letters_20 : decode cX5_letters 20 = .ok (.idiv, 1) := by decide +kernel
theorem dX5_letters_21 : decode cX5_letters 21 = .ok (.istore_n 2, 1) := by decide +kernel
theorem dX5_letters_22 : decode cX5_letters 22 = .ok (.goto (-18), 3) := by decide +kernel
theorem dX5_letters_25 : decode cX5_letters 25 = .ok (.iload_n 1, 1) := by decide +kernel
theorem dX5_letters_26 : decode cX5_letters 26 = .ok (.ireturn, 1) := by decide +kernel
theorem dX5_power_0 : decode cX5_power 0 = .ok (.iconst 1, 1) := by decide +kernel
theorem dX5_power_1 : decode cX5_power 1 = .ok (.istore_n 1, 1) := by decide +kernel
theorem dX5_power_2 : decode cX5_power 2 = .ok (.iconst 0, 1) := by decide +kernel
theorem dX5_power_3 : decode cX5_power 3 = .ok (.istore_n 2, 1) := by decide +kernel
theorem dX5_power_4 : decode cX5_power 4 = .ok (.iload_n 2, 1) := by decide +kernel
theorem dX5_power_5 : decode cX5_power 5 = .ok (.iload_n 0, 1) := by decide +kernel
theorem dX5_power_6 : decode cX5_power 6 = .ok (.if_icmp .ge 20, 3) := by decide +kernel
theorem dX5_power_9 : decode cX5_power 9 = .ok (.iload_n 2, 1) := by decide +kernel
theorem dX5_power_10 : decode cX5_power 10 = .ok (.bipush 6, 2) := by decide +kernel
theorem dX5_power_12 : decode cX5_power 12 = .ok (.if_icmp .ge 14, 3) := by decide +kernel
theorem dX5_power_15 : decode cX5_power 15 = .ok (.iload_n 1, 1) := by decide +kernel
theorem dX5_power_16 : decode cX5_power 16 = .ok (.bipush 27, 2) := by decide +kernel
theorem dX5_power_18 : decode cX5_power 18 = .ok (.imul, 1) := by decide +kernel
theorem dX5_power_19 : decode cX5_power 19 = .ok (.istore_n 1, 1) := by decide +kernel
theorem dX5_power_20 : decode cX5_power 20 = .ok (.iinc 2 1, 3) := by decide +kernel
theorem dX5_power_23 : decode cX5_power 23 = .ok (.goto (-19), 3) := by decide +kernel
theorem dX5_power_26 : decode cX5_power 26 = .ok (.iload_n 1, 1) := by decide +kernel
theorem dX5_power_27 : decode cX5_power 27 = .ok (.ireturn, 1) := by decide +kernel
theorem dX5_withoutLast_0 : decode cX5_withoutLast 0 = .ok (.iload_n 0, 1) := by decide +kernel
theorem dX5_withoutLast_1 : decode cX5_withoutLast 1 = .ok (.istore_n 2, 1) := by decide +kernel
theorem dX5_withoutLast_2 : decode cX5_withoutLast 2 = .ok (.iconst 0, 1) := by decide +kernel
theorem dX5_withoutLast_3 : decode cX5_withoutLast 3 = .ok (.istore_n 3, 1) := by decide +kernel
theorem dX5_withoutLast_4 : decode cX5_withoutLast 4 = .ok (.iload_n 3, 1) := by decide +kernel
theorem dX5_withoutLast_5 : decode cX5_withoutLast 5 = .ok (.iload_n 1, 1) := by decide +kernel
theorem dX5_withoutLast_6 : decode cX5_withoutLast 6 = .ok (.if_icmp .ge 20, 3) := by decide +kernel
theorem dX5_withoutLast_9 : decode cX5_withoutLast 9 = .ok (.iload_n 3, 1) := by decide +kernel
theorem dX5_withoutLast_10 : decode cX5_withoutLast 10 = .ok (.bipush 6, 2) := by decide +kernel
theorem dX5_withoutLast_12 : decode cX5_withoutLast 12 = .ok (.if_icmp .ge 14, 3) := by decide +kernel
theorem dX5_withoutLast_15 : decode cX5_withoutLast 15 = .ok (.iload_n 2, 1) := by decide +kernel
theorem dX5_withoutLast_16 : decode cX5_withoutLast 16 = .ok (.bipush 27, 2) := by decide +kernel
theorem dX5_withoutLast_18 : decode cX5_withoutLast 18 = .ok (.idiv, 1) := by decide +kernel
theorem dX5_withoutLast_19 : decode cX5_withoutLast 19 = .ok (.istore_n 2, 1) := by decide +kernel
theorem dX5_withoutLast_20 : decode cX5_withoutLast 20 = .ok (.iinc 3 1, 3) := by decide +kernel
theorem dX5_withoutLast_23 : decode cX5_withoutLast 23 = .ok (.goto (-19), 3) := by decide +kernel
theorem dX5_withoutLast_26 : decode cX5_withoutLast 26 = .ok (.iload_n 2, 1) := by decide +kernel
theorem dX5_withoutLast_27 : decode cX5_withoutLast 27 = .ok (.ireturn, 1) := by decide +kernel
theorem dX5_lastOf_0 : decode cX5_lastOf 0 = .ok (.iconst 0, 1) := by decide +kernel
theorem dX5_lastOf_1 : decode cX5_lastOf 1 = .ok (.istore_n 2, 1) := by decide +kernel
theorem dX5_lastOf_2 : decode cX5_lastOf 2 = .ok (.iconst 1, 1) := by decide +kernel
theorem dX5_lastOf_3 : decode cX5_lastOf 3 = .ok (.istore_n 3, 1) := by decide +kernel
theorem dX5_lastOf_4 : decode cX5_lastOf 4 = .ok (.iload_n 0, 1) := by decide +kernel
theorem dX5_lastOf_5 : decode cX5_lastOf 5 = .ok (.istore 4, 2) := by decide +kernel
theorem dX5_lastOf_7 : decode cX5_lastOf 7 = .ok (.iconst 0, 1) := by decide +kernel
theorem dX5_lastOf_8 : decode cX5_lastOf 8 = .ok (.istore 5, 2) := by decide +kernel
theorem dX5_lastOf_10 : decode cX5_lastOf 10 = .ok (.iload 5, 2) := by decide +kernel
theorem dX5_lastOf_12 : decode cX5_lastOf 12 = .ok (.iload_n 1, 1) := by decide +kernel
theorem dX5_lastOf_13 : decode cX5_lastOf 13 = .ok (.if_icmp .ge 38, 3) := by decide +kernel
theorem dX5_lastOf_16 : decode cX5_lastOf 16 = .ok (.iload 5, 2) := by decide +kernel
theorem dX5_lastOf_18 : decode cX5_lastOf 18 = .ok (.bipush 6, 2) := by decide +kernel
theorem dX5_lastOf_20 : decode cX5_lastOf 20 = .ok (.if_icmp .ge 31, 3) := by decide +kernel
theorem dX5_lastOf_23 : decode cX5_lastOf 23 = .ok (.iload_n 2, 1) := by decide +kernel
theorem dX5_lastOf_24 : decode cX5_lastOf 24 = .ok (.iload 4, 2) := by decide +kernel
theorem dX5_lastOf_26 : decode cX5_lastOf 26 = .ok (.bipush 27, 2) := by decide +kernel
theorem dX5_lastOf_28 : decode cX5_lastOf 28 = .ok (.irem, 1) := by decide +kernel
theorem dX5_lastOf_29 : decode cX5_lastOf 29 = .ok (.iload_n 3, 1) := by decide +kernel
theorem dX5_lastOf_30 : decode cX5_lastOf 30 = .ok (.imul, 1) := by decide +kernel
theorem dX5_lastOf_31 : decode cX5_lastOf 31 = .ok (.iadd, 1) := by decide +kernel
theorem dX5_lastOf_32 : decode cX5_lastOf 32 = .ok (.istore_n 2, 1) := by decide +kernel
theorem dX5_lastOf_33 : decode cX5_lastOf 33 = .ok (.iload_n 3, 1) := by decide +kernel
theorem dX5_lastOf_34 : decode cX5_lastOf 34 = .ok (.bipush 27, 2) := by decide +kernel
theorem dX5_lastOf_36 : decode cX5_lastOf 36 = .ok (.imul, 1) := by decide +kernel
theorem dX5_lastOf_37 : decode cX5_lastOf 37 = .ok (.istore_n 3, 1) := by decide +kernel
theorem dX5_lastOf_38 : decode cX5_lastOf 38 = .ok (.iload 4, 2) := by decide +kernel
theorem dX5_lastOf_40 : decode cX5_lastOf 40 = .ok (.bipush 27, 2) := by decide +kernel
theorem dX5_lastOf_42 : decode cX5_lastOf 42 = .ok (.idiv, 1) := by decide +kernel
theorem dX5_lastOf_43 : decode cX5_lastOf 43 = .ok (.istore 4, 2) := by decide +kernel
theorem dX5_lastOf_45 : decode cX5_lastOf 45 = .ok (.iinc 5 1, 3) := by decide +kernel
theorem dX5_lastOf_48 : decode cX5_lastOf 48 = .ok (.goto (-38), 3) := by decide +kernel
theorem dX5_lastOf_51 : decode cX5_lastOf 51 = .ok (.iload_n 2, 1) := by decide +kernel
theorem dX5_lastOf_52 : decode cX5_lastOf 52 = .ok (.ireturn, 1) := by decide +kernel
theorem dX6_init_0 : decode cX6_init 0 = .ok (.aload_n 0, 1) := by decide +kernel
theorem dX6_init_1 : decode cX6_init 1 = .ok (.invokespecial 1, 3) := by decide +kernel
theorem dX6_init_4 : decode cX6_init 4 = .ok (.aload_n 0, 1) := by decide +kernel
theorem dX6_init_5 : decode cX6_init 5 = .ok (.bipush 13, 2) := by decide +kernel
theorem dX6_init_7 : decode cX6_init 7 = .ok (.newarray .int, 2) := by decide +kernel
theorem dX6_init_9 : decode cX6_init 9 = .ok (.putfield 7, 3) := by decide +kernel
theorem dX6_init_12 : decode cX6_init 12 = .ok (.aload_n 0, 1) := by decide +kernel
theorem dX6_init_13 : decode cX6_init 13 = .ok (.bipush 13, 2) := by decide +kernel
theorem dX6_init_15 : decode cX6_init 15 = .ok (.newarray .int, 2) := by decide +kernel
theorem dX6_init_17 : decode cX6_init 17 = .ok (.putfield 13, 3) := by decide +kernel
theorem dX6_init_20 : decode cX6_init 20 = .ok (.aload_n 0, 1) := by decide +kernel
theorem dX6_init_21 : decode cX6_init 21 = .ok (.sipush 2600, 3) := by decide +kernel
theorem dX6_init_24 : decode cX6_init 24 = .ok (.newarray .int, 2) := by decide +kernel
theorem dX6_init_26 : decode cX6_init 26 = .ok (.putfield 16, 3) := by decide +kernel
theorem dX6_init_29 : decode cX6_init 29 = .ok (.aload_n 0, 1) := by decide +kernel
theorem dX6_init_30 : decode cX6_init 30 = .ok (.bipush 61, 2) := by decide +kernel
theorem dX6_init_32 : decode cX6_init 32 = .ok (.newarray .int, 2) := by decide +kernel
theorem dX6_init_34 : decode cX6_init 34 = .ok (.putfield 19, 3) := by decide +kernel
theorem dX6_init_37 : decode cX6_init 37 = .ok (.aload_n 0, 1) := by decide +kernel
theorem dX6_init_38 : decode cX6_init 38 = .ok (.bipush 61, 2) := by decide +kernel
theorem dX6_init_40 : decode cX6_init 40 = .ok (.newarray .int, 2) := by decide +kernel
theorem dX6_init_42 : decode cX6_init 42 = .ok (.putfield 22, 3) := by decide +kernel
theorem dX6_init_45 : decode cX6_init 45 = .ok (.aload_n 0, 1) := by decide +kernel
theorem dX6_init_46 : decode cX6_init 46 = .ok (.sipush 488, 3) := by decide +kernel
theorem dX6_init_49 : decode cX6_init 49 = .ok (.newarray .int, 2) := by decide +kernel
theorem dX6_init_51 : decode cX6_init 51 = .ok (.putfield 25, 3) := by decide +kernel
theorem dX6_init_54 : decode cX6_init 54 = .ok (.aload_n 0, 1) := by decide +kernel
theorem dX6_init_55 : decode cX6_init 55 = .ok (.bipush 61, 2) := by decide +kernel
theorem dX6_init_57 : decode cX6_init 57 = .ok (.newarray .boolean, 2) := by decide +kernel
theorem dX6_init_59 : decode cX6_init 59 = .ok (.putfield 28, 3) := by decide +kernel
theorem dX6_init_62 : decode cX6_init 62 = .ok (.aload_n 0, 1) := by decide +kernel
theorem dX6_init_63 : decode cX6_init 63 = .ok (.bipush 61, 2) := by decide +kernel
theorem dX6_init_65 : decode cX6_init 65 = .ok (.newarray .boolean, 2) := by decide +kernel
theorem dX6_init_67 : decode cX6_init 67 = .ok (.putfield 32, 3) := by decide +kernel
theorem dX6_init_70 : decode cX6_init 70 = .ok (.aload_n 0, 1) := by decide +kernel
theorem dX6_init_71 : decode cX6_init 71 = .ok (.bipush 101, 2) := by decide +kernel
theorem dX6_init_73 : decode cX6_init 73 = .ok (.newarray .int, 2) := by decide +kernel
theorem dX6_init_75 : decode cX6_init 75 = .ok (.putfield 35, 3) := by decide +kernel
theorem dX6_init_78 : decode cX6_init 78 = .ok (.aload_n 0, 1) := by decide +kernel
theorem dX6_init_79 : decode cX6_init 79 = .ok (.bipush 101, 2) := by decide +kernel
theorem dX6_init_81 : decode cX6_init 81 = .ok (.newarray .int, 2) := by decide +kernel
theorem dX6_init_83 : decode cX6_init 83 = .ok (.putfield 38, 3) := by decide +kernel
theorem dX6_init_86 : decode cX6_init 86 = .ok (.aload_n 0, 1) := by decide +kernel
theorem dX6_init_87 : decode cX6_init 87 = .ok (.bipush 101, 2) := by decide +kernel
theorem dX6_init_89 : decode cX6_init 89 = .ok (.newarray .int, 2) := by decide +kernel
theorem dX6_init_91 : decode cX6_init 91 = .ok (.putfield 41, 3) := by decide +kernel
theorem dX6_init_94 : decode cX6_init 94 = .ok (.aload_n 0, 1) := by decide +kernel
theorem dX6_init_95 : decode cX6_init 95 = .ok (.sipush 1010, 3) := by decide +kernel
theorem dX6_init_98 : decode cX6_init 98 = .ok (.newarray .int, 2) := by decide +kernel
theorem dX6_init_100 : decode cX6_init 100 = .ok (.putfield 44, 3) := by decide +kernel
theorem dX6_init_103 : decode cX6_init 103 = .ok (.aload_n 0, 1) := by decide +kernel
theorem dX6_init_104 : decode cX6_init 104 = .ok (.sipush 1010, 3) := by decide +kernel
theorem dX6_init_107 : decode cX6_init 107 = .ok (.newarray .int, 2) := by decide +kernel
theorem dX6_init_109 : decode cX6_init 109 = .ok (.putfield 47, 3) := by decide +kernel
theorem dX6_init_112 : decode cX6_init 112 = .ok (.aload_n 0, 1) := by decide +kernel
theorem dX6_init_113 : decode cX6_init 113 = .ok (.sipush 4530, 3) := by decide +kernel
theorem dX6_init_116 : decode cX6_init 116 = .ok (.newarray .int, 2) := by decide +kernel
theorem dX6_init_118 : decode cX6_init 118 = .ok (.putfield 50, 3) := by decide +kernel
theorem dX6_init_121 : decode cX6_init 121 = .ok (.aload_n 0, 1) := by decide +kernel
theorem dX6_init_122 : decode cX6_init 122 = .ok (.sipush 4530, 3) := by decide +kernel
theorem dX6_init_125 : decode cX6_init 125 = .ok (.newarray .int, 2) := by decide +kernel
theorem dX6_init_127 : decode cX6_init 127 = .ok (.putfield 53, 3) := by decide +kernel
theorem dX6_init_130 : decode cX6_init 130 = .ok (.aload_n 0, 1) := by decide +kernel
theorem dX6_init_131 : decode cX6_init 131 = .ok (.sipush 4530, 3) := by decide +kernel
theorem dX6_init_134 : decode cX6_init 134 = .ok (.newarray .int, 2) := by decide +kernel
theorem dX6_init_136 : decode cX6_init 136 = .ok (.putfield 56, 3) := by decide +kernel
theorem dX6_init_139 : decode cX6_init 139 = .ok (.aload_n 0, 1) := by decide +kernel
theorem dX6_init_140 : decode cX6_init 140 = .ok (.sipush 4530, 3) := by decide +kernel
theorem dX6_init_143 : decode cX6_init 143 = .ok (.newarray .int, 2) := by decide +kernel
theorem dX6_init_145 : decode cX6_init 145 = .ok (.putfield 59, 3) := by decide +kernel
theorem dX6_init_148 : decode cX6_init 148 = .ok (.aload_n 0, 1) := by decide +kernel
theorem dX6_init_149 : decode cX6_init 149 = .ok (.sipush 4530, 3) := by decide +kernel
theorem dX6_init_152 : decode cX6_init 152 = .ok (.newarray .int, 2) := by decide +kernel
theorem dX6_init_154 : decode cX6_init 154 = .ok (.putfield 62, 3) := by decide +kernel
theorem dX6_init_157 : decode cX6_init 157 = .ok (.aload_n 0, 1) := by decide +kernel
theorem dX6_init_158 : decode cX6_init 158 = .ok (.sipush 4530, 3) := by decide +kernel
theorem dX6_init_161 : decode cX6_init 161 = .ok (.newarray .int, 2) := by decide +kernel
theorem dX6_init_163 : decode cX6_init 163 = .ok (.putfield 65, 3) := by decide +kernel
theorem dX6_init_166 : decode cX6_init 166 = .ok (.aload_n 0, 1) := by decide +kernel
theorem dX6_init_167 : decode cX6_init 167 = .ok (.bipush 15, 2) := by decide +kernel
theorem dX6_init_169 : decode cX6_init 169 = .ok (.newarray .int, 2) := by decide +kernel
theorem dX6_init_171 : decode cX6_init 171 = .ok (.putfield 68, 3) := by decide +kernel
theorem dX6_init_174 : decode cX6_init 174 = .ok (.aload_n 0, 1) := by decide +kernel
theorem dX6_init_175 : decode cX6_init 175 = .ok (.bipush 15, 2) := by decide +kernel
theorem dX6_init_177 : decode cX6_init 177 = .ok (.newarray .int, 2) := by decide +kernel
theorem dX6_init_179 : decode cX6_init 179 = .ok (.putfield 71, 3) := by decide +kernel
theorem dX6_init_182 : decode cX6_init 182 = .ok (.aload_n 0, 1) := by decide +kernel
theorem dX6_init_183 : decode cX6_init 183 = .ok (.bipush 15, 2) := by decide +kernel
theorem dX6_init_185 : decode cX6_init 185 = .ok (.newarray .int, 2) := by decide +kernel
theorem dX6_init_187 : decode cX6_init 187 = .ok (.putfield 74, 3) := by decide +kernel
theorem dX6_init_190 : decode cX6_init 190 = .ok (.aload_n 0, 1) := by decide +kernel
theorem dX6_init_191 : decode cX6_init 191 = .ok (.bipush 15, 2) := by decide +kernel
theorem dX6_init_193 : decode cX6_init 193 = .ok (.newarray .int, 2) := by decide +kernel
theorem dX6_init_195 : decode cX6_init 195 = .ok (.putfield 77, 3) := by decide +kernel
theorem dX6_init_198 : decode cX6_init 198 = .ok (.aload_n 0, 1) := by decide +kernel
theorem dX6_init_199 : decode cX6_init 199 = .ok (.bipush 14, 2) := by decide +kernel
theorem dX6_init_201 : decode cX6_init 201 = .ok (.newarray .int, 2) := by decide +kernel
theorem dX6_init_203 : decode cX6_init 203 = .ok (.putfield 80, 3) := by decide +kernel
theorem dX6_init_206 : decode cX6_init 206 = .ok (.return_, 1) := by decide +kernel
theorem dX6_thrown_0 : decode cX6_thrown 0 = .ok (.aload_n 0, 1) := by decide +kernel
theorem dX6_thrown_1 : decode cX6_thrown 1 = .ok (.getfield 83, 3) := by decide +kernel
theorem dX6_thrown_4 : decode cX6_thrown 4 = .ok (.ireturn, 1) := by decide +kernel
theorem dX6_isWord_0 : decode cX6_isWord 0 = .ok (.iload_n 0, 1) := by decide +kernel
theorem dX6_isWord_1 : decode cX6_isWord 1 = .ok (.iconst 1, 1) := by decide +kernel
theorem dX6_isWord_2 : decode cX6_isWord 2 = .ok (.if_icmp .lt 9, 3) := by decide +kernel
theorem dX6_isWord_5 : decode cX6_isWord 5 = .ok (.iload_n 0, 1) := by decide +kernel
theorem dX6_isWord_6 : decode cX6_isWord 6 = .ok (.ldc 87, 2) := by decide +kernel
theorem dX6_isWord_8 : decode cX6_isWord 8 = .ok (.if_icmp .lt 5, 3) := by decide +kernel
theorem dX6_isWord_11 : decode cX6_isWord 11 = .ok (.iconst 0, 1) := by decide +kernel
theorem dX6_isWord_12 : decode cX6_isWord 12 = .ok (.ireturn, 1) := by decide +kernel
theorem dX6_isWord_13 : decode cX6_isWord 13 = .ok (.iload_n 0, 1) := by decide +kernel
theorem dX6_isWord_14 : decode cX6_isWord 14 = .ok (.istore_n 1, 1) := by decide +kernel
theorem dX6_isWord_15 : decode cX6_isWord 15 = .ok (.iload_n 1, 1) := by decide +kernel
theorem dX6_isWord_16 : decode cX6_isWord 16 = .ok (.ifCond .le 18, 3) := by decide +kernel
theorem dX6_isWord_19 : decode cX6_isWord 19 = .ok (.iload_n 1, 1) := by decide +kernel
theorem dX6_isWord_20 : decode cX6_isWord 20 = .ok (.bipush 27, 2) := by decide +kernel
theorem dX6_isWord_22 : decode cX6_isWord 22 = .ok (.irem, 1) := by decide +kernel
theorem dX6_isWord_23 : decode cX6_isWord 23 = .ok (.ifCond .le 11, 3) := by decide +kernel
theorem dX6_isWord_26 : decode cX6_isWord 26 = .ok (.iload_n 1, 1) := by decide +kernel
theorem dX6_isWord_27 : decode cX6_isWord 27 = .ok (.bipush 27, 2) := by decide +kernel
theorem dX6_isWord_29 : decode cX6_isWord 29 = .ok (.idiv, 1) := by decide +kernel
theorem dX6_isWord_30 : decode cX6_isWord 30 = .ok (.istore_n 1, 1) := by decide +kernel
theorem dX6_isWord_31 : decode cX6_isWord 31 = .ok (.goto (-16), 3) := by decide +kernel
theorem dX6_isWord_34 : decode cX6_isWord 34 = .ok (.iload_n 1, 1) := by decide +kernel
theorem dX6_isWord_35 : decode cX6_isWord 35 = .ok (.ifCond .ne 7, 3) := by decide +kernel
theorem dX6_isWord_38 : decode cX6_isWord 38 = .ok (.iconst 1, 1) := by decide +kernel
theorem dX6_isWord_39 : decode cX6_isWord 39 = .ok (.goto 4, 3) := by decide +kernel
theorem dX6_isWord_42 : decode cX6_isWord 42 = .ok (.iconst 0, 1) := by decide +kernel
theorem dX6_isWord_43 : decode cX6_isWord 43 = .ok (.ireturn, 1) := by decide +kernel
theorem dX6_isText_0 : decode cX6_isText 0 = .ok (.iload_n 1, 1) := by decide +kernel
theorem dX6_isText_1 : decode cX6_isText 1 = .ok (.ifCond .lt 15, 3) := by decide +kernel
theorem dX6_isText_4 : decode cX6_isText 4 = .ok (.iload_n 1, 1) := by decide +kernel
theorem dX6_isText_5 : decode cX6_isText 5 = .ok (.aload_n 0, 1) := by decide +kernel
theorem dX6_isText_6 : decode cX6_isText 6 = .ok (.getfield 88, 3) := by decide +kernel
theorem dX6_isText_9 : decode cX6_isText 9 = .ok (.if_icmp .gt 7, 3) := by decide +kernel
theorem dX6_isText_12 : decode cX6_isText 12 = .ok (.iconst 1, 1) := by decide +kernel
theorem dX6_isText_13 : decode cX6_isText 13 = .ok (.goto 4, 3) := by decide +kernel
theorem dX6_isText_16 : decode cX6_isText 16 = .ok (.iconst 0, 1) := by decide +kernel
theorem dX6_isText_17 : decode cX6_isText 17 = .ok (.ireturn, 1) := by decide +kernel
theorem dX6_add_0 : decode cX6_add 0 = .ok (.aload_n 0, 1) := by decide +kernel
theorem dX6_add_1 : decode cX6_add 1 = .ok (.getfield 16, 3) := by decide +kernel
theorem dX6_add_4 : decode cX6_add 4 = .ok (.sipush 200, 3) := by decide +kernel
theorem dX6_add_7 : decode cX6_add 7 = .ok (.iload_n 1, 1) := by decide +kernel
theorem dX6_add_8 : decode cX6_add 8 = .ok (.imul, 1) := by decide +kernel
theorem dX6_add_9 : decode cX6_add 9 = .ok (.aload_n 0, 1) := by decide +kernel
theorem dX6_add_10 : decode cX6_add 10 = .ok (.getfield 13, 3) := by decide +kernel
theorem dX6_add_13 : decode cX6_add 13 = .ok (.iload_n 1, 1) := by decide +kernel
theorem dX6_add_14 : decode cX6_add 14 = .ok (.iaload, 1) := by decide +kernel
theorem dX6_add_15 : decode cX6_add 15 = .ok (.iadd, 1) := by decide +kernel
theorem dX6_add_16 : decode cX6_add 16 = .ok (.iload_n 2, 1) := by decide +kernel
theorem dX6_add_17 : decode cX6_add 17 = .ok (.iastore, 1) := by decide +kernel
theorem dX6_add_18 : decode cX6_add 18 = .ok (.aload_n 0, 1) := by decide +kernel
theorem dX6_add_19 : decode cX6_add 19 = .ok (.getfield 13, 3) := by decide +kernel
theorem dX6_add_22 : decode cX6_add 22 = .ok (.iload_n 1, 1) := by decide +kernel
theorem dX6_add_23 : decode cX6_add 23 = .ok (.dup2, 1) := by decide +kernel
theorem dX6_add_24 : decode cX6_add 24 = .ok (.iaload, 1) := by decide +kernel
theorem dX6_add_25 : decode cX6_add 25 = .ok (.iconst 1, 1) := by decide +kernel
theorem dX6_add_26 : decode cX6_add 26 = .ok (.iadd, 1) := by decide +kernel
theorem dX6_add_27 : decode cX6_add 27 = .ok (.iastore, 1) := by decide +kernel
theorem dX6_add_28 : decode cX6_add 28 = .ok (.aload_n 0, 1) := by decide +kernel
theorem dX6_add_29 : decode cX6_add 29 = .ok (.getfield 13, 3) := by decide +kernel
theorem dX6_add_32 : decode cX6_add 32 = .ok (.iload_n 1, 1) := by decide +kernel
theorem dX6_add_33 : decode cX6_add 33 = .ok (.iaload, 1) := by decide +kernel
theorem dX6_add_34 : decode cX6_add 34 = .ok (.ireturn, 1) := by decide +kernel
theorem dX6_library_0 : decode cX6_library 0 = .ok (.aload_n 0, 1) := by decide +kernel
theorem dX6_library_1 : decode cX6_library 1 = .ok (.iconst 0, 1) := by decide +kernel
theorem dX6_library_2 : decode cX6_library 2 = .ok (.putfield 83, 3) := by decide +kernel
theorem dX6_library_5 : decode cX6_library 5 = .ok (.iload_n 1, 1) := by decide +kernel
theorem dX6_library_6 : decode cX6_library 6 = .ok (.ifCond .lt 9, 3) := by decide +kernel
theorem dX6_library_9 : decode cX6_library 9 = .ok (.iload_n 1, 1) := by decide +kernel
theorem dX6_library_10 : decode cX6_library 10 = .ok (.bipush 99, 2) := by decide +kernel
theorem dX6_library_12 : decode cX6_library 12 = .ok (.if_icmp .le 6, 3) := by decide +kernel
theorem dX6_library_15 : decode cX6_library 15 = .ok (.bipush (-4), 2) := by decide +kernel
theorem dX6_library_17 : decode cX6_library 17 = .ok (.ireturn, 1) := by decide +kernel
theorem dX6_library_18 : decode cX6_library 18 = .ok (.aload_n 0, 1) := by decide +kernel
theorem dX6_library_19 : decode cX6_library 19 = .ok (.getfield 88, 3) := by decide +kernel
theorem dX6_library_22 : decode cX6_library 22 = .ok (.bipush 12, 2) := by decide +kernel
theorem dX6_library_24 : decode cX6_library 24 = .ok (.if_icmp .ne 5, 3) := by decide +kernel
theorem dX6_library_27 : decode cX6_library 27 = .ok (.iconst (-1), 1) := by decide +kernel
theorem dX6_library_28 : decode cX6_library 28 = .ok (.ireturn, 1) := by decide +kernel
theorem dX6_library_29 : decode cX6_library 29 = .ok (.aload_n 0, 1) := by decide +kernel
theorem dX6_library_30 : decode cX6_library 30 = .ok (.dup, 1) := by decide +kernel
theorem dX6_library_31 : decode cX6_library 31 = .ok (.getfield 88, 3) := by decide +kernel
theorem dX6_library_34 : decode cX6_library 34 = .ok (.iconst 1, 1) := by decide +kernel
theorem dX6_library_35 : decode cX6_library 35 = .ok (.iadd, 1) := by decide +kernel
theorem dX6_library_36 : decode cX6_library 36 = .ok (.putfield 88, 3) := by decide +kernel
theorem dX6_library_39 : decode cX6_library 39 = .ok (.aload_n 0, 1) := by decide +kernel
theorem dX6_library_40 : decode cX6_library 40 = .ok (.getfield 7, 3) := by decide +kernel
theorem dX6_library_43 : decode cX6_library 43 = .ok (.aload_n 0, 1) := by decide +kernel
theorem dX6_library_44 : decode cX6_library 44 = .ok (.getfield 88, 3) := by decide +kernel
theorem dX6_library_47 : decode cX6_library 47 = .ok (.iload_n 1, 1) := by decide +kernel
theorem dX6_library_48 : decode cX6_library 48 = .ok (.iastore, 1) := by decide +kernel
theorem dX6_library_49 : decode cX6_library 49 = .ok (.aload_n 0, 1) := by decide +kernel
theorem dX6_library_50 : decode cX6_library 50 = .ok (.getfield 88, 3) := by decide +kernel
theorem dX6_library_53 : decode cX6_library 53 = .ok (.ireturn, 1) := by decide +kernel
theorem dX6_word_0 : decode cX6_word 0 = .ok (.aload_n 0, 1) := by decide +kernel
theorem dX6_word_1 : decode cX6_word 1 = .ok (.iconst 0, 1) := by decide +kernel
theorem dX6_word_2 : decode cX6_word 2 = .ok (.putfield 83, 3) := by decide +kernel
theorem dX6_word_5 : decode cX6_word 5 = .ok (.aload_n 0, 1) := by decide +kernel
theorem dX6_word_6 : decode cX6_word 6 = .ok (.iload_n 1, 1) := by decide +kernel
theorem dX6_word_7 : decode cX6_word 7 = .ok (.invokevirtual 91, 3) := by decide +kernel
theorem dX6_word_10 : decode cX6_word 10 = .ok (.ifCond .ne 6, 3) := by decide +kernel
theorem dX6_word_13 : decode cX6_word 13 = .ok (.bipush (-2), 2) := by decide +kernel
theorem dX6_word_15 : decode cX6_word 15 = .ok (.ireturn, 1) := by decide +kernel
theorem dX6_word_16 : decode cX6_word 16 = .ok (.iload_n 2, 1) := by decide +kernel
theorem dX6_word_17 : decode cX6_word 17 = .ok (.ifCond .eq 18, 3) := by decide +kernel
theorem dX6_word_20 : decode cX6_word 20 = .ok (.iload_n 2, 1) := by decide +kernel
theorem dX6_word_21 : decode cX6_word 21 = .ok (.iconst (-1), 1) := by decide +kernel
theorem dX6_word_22 : decode cX6_word 22 = .ok (.if_icmp .eq 13, 3) := by decide +kernel
theorem dX6_word_25 : decode cX6_word 25 = .ok (.iload_n 2, 1) := by decide +kernel
theorem dX6_word_26 : decode cX6_word 26 = .ok (.invokestatic 95, 3) := by decide +kernel
