theorem dX11_linear_135 : decode cX11_linear 135 = .ok (.ireturn, 1) := by decide +kernel
theorem dX11_looksFor_0 : decode cX11_looksFor 0 = .ok (.aload_n 0, 1) := by decide +kernel
theorem dX11_looksFor_1 : decode cX11_looksFor 1 = .ok (.lload 6, 2) := by decide +kernel
theorem dX11_looksFor_3 : decode cX11_looksFor 3 = .ok (.lload 8, 2) := by decide +kernel
theorem dX11_looksFor_5 : decode cX11_looksFor 5 = .ok (.invokevirtual 259, 3) := by decide +kernel
theorem dX11_looksFor_8 : decode cX11_looksFor 8 = .ok (.aload_n 0, 1) := by decide +kernel
theorem dX11_looksFor_9 : decode cX11_looksFor 9 = .ok (.invokevirtual 328, 3) := by decide +kernel
theorem dX11_looksFor_12 : decode cX11_looksFor 12 = .ok (.istore 12, 2) := by decide +kernel
theorem dX11_looksFor_14 : decode cX11_looksFor 14 = .ok (.aload_n 0, 1) := by decide +kernel
theorem dX11_looksFor_15 : decode cX11_looksFor 15 = .ok (.lload_n 2, 1) := by decide +kernel
theorem dX11_looksFor_16 : decode cX11_looksFor 16 = .ok (.lload 4, 2) := by decide +kernel
theorem dX11_looksFor_18 : decode cX11_looksFor 18 = .ok (.invokevirtual 259, 3) := by decide +kernel
theorem dX11_looksFor_21 : decode cX11_looksFor 21 = .ok (.aload_n 0, 1) := by decide +kernel
theorem dX11_looksFor_22 : decode cX11_looksFor 22 = .ok (.getfield 105, 3) := by decide +kernel
theorem dX11_looksFor_25 : decode cX11_looksFor 25 = .ok (.lstore 13, 2) := by decide +kernel
theorem dX11_looksFor_27 : decode cX11_looksFor 27 = .ok (.aload_n 0, 1) := by decide +kernel
theorem dX11_looksFor_28 : decode cX11_looksFor 28 = .ok (.getfield 109, 3) := by decide +kernel
theorem dX11_looksFor_31 : decode cX11_looksFor 31 = .ok (.lstore 15, 2) := by decide +kernel
theorem dX11_looksFor_33 : decode cX11_looksFor 33 = .ok (.iconst 0, 1) := by decide +kernel
theorem dX11_looksFor_34 : decode cX11_looksFor 34 = .ok (.istore 17, 2) := by decide +kernel
theorem dX11_looksFor_36 : decode cX11_looksFor 36 = .ok (.iconst 0, 1) := by decide +kernel
theorem dX11_looksFor_37 : decode cX11_looksFor 37 = .ok (.istore 18, 2) := by decide +kernel
theorem dX11_looksFor_39 : decode cX11_looksFor 39 = .ok (.iload 18, 2) := by decide +kernel
theorem dX11_looksFor_41 : decode cX11_looksFor 41 = .ok (.aload_n 0, 1) := by decide +kernel
theorem dX11_looksFor_42 : decode cX11_looksFor 42 = .ok (.invokevirtual 321, 3) := by decide +kernel
theorem dX11_looksFor_45 : decode cX11_looksFor 45 = .ok (.if_icmp .ge 82, 3) := by decide +kernel
theorem dX11_looksFor_48 : decode cX11_looksFor 48 = .ok (.iload_n 1, 1) := by decide +kernel
theorem dX11_looksFor_49 : decode cX11_looksFor 49 = .ok (.ifCond .eq 12, 3) := by decide +kernel
theorem dX11_looksFor_52 : decode cX11_looksFor 52 = .ok (.aload_n 0, 1) := by decide +kernel
theorem dX11_looksFor_53 : decode cX11_looksFor 53 = .ok (.iload 18, 2) := by decide +kernel
theorem dX11_looksFor_55 : decode cX11_looksFor 55 = .ok (.invokevirtual 325, 3) := by decide +kernel
theorem dX11_looksFor_58 : decode cX11_looksFor 58 = .ok (.goto 25, 3) := by decide +kernel
theorem dX11_looksFor_61 : decode cX11_looksFor 61 = .ok (.aload_n 0, 1) := by decide +kernel
theorem dX11_looksFor_62 : decode cX11_looksFor 62 = .ok (.iload 18, 2) := by decide +kernel
theorem dX11_looksFor_64 : decode cX11_looksFor 64 = .ok (.invokevirtual 318, 3) := by decide +kernel
theorem dX11_looksFor_67 : decode cX11_looksFor 67 = .ok (.aload_n 0, 1) := by decide +kernel
theorem dX11_looksFor_68 : decode cX11_looksFor 68 = .ok (.lload 13, 2) := by decide +kernel
theorem dX11_looksFor_70 : decode cX11_looksFor 70 = .ok (.lload 15, 2) := by decide +kernel
theorem dX11_looksFor_72 : decode cX11_looksFor 72 = .ok (.aload_n 0, 1) := by decide +kernel
theorem dX11_looksFor_73 : decode cX11_looksFor 73 = .ok (.getfield 105, 3) := by decide +kernel
theorem dX11_looksFor_76 : decode cX11_looksFor 76 = .ok (.aload_n 0, 1) := by decide +kernel
theorem dX11_looksFor_77 : decode cX11_looksFor 77 = .ok (.getfield 109, 3) := by decide +kernel
theorem dX11_looksFor_80 : decode cX11_looksFor 80 = .ok (.invokevirtual 262, 3) := by decide +kernel
theorem dX11_looksFor_83 : decode cX11_looksFor 83 = .ok (.aload_n 0, 1) := by decide +kernel
theorem dX11_looksFor_84 : decode cX11_looksFor 84 = .ok (.invokevirtual 328, 3) := by decide +kernel
theorem dX11_looksFor_87 : decode cX11_looksFor 87 = .ok (.iload 12, 2) := by decide +kernel
theorem dX11_looksFor_89 : decode cX11_looksFor 89 = .ok (.if_icmp .eq 6, 3) := by decide +kernel
theorem dX11_looksFor_92 : decode cX11_looksFor 92 = .ok (.goto 29, 3) := by decide +kernel
theorem dX11_looksFor_95 : decode cX11_looksFor 95 = .ok (.iload 17, 2) := by decide +kernel
theorem dX11_looksFor_97 : decode cX11_looksFor 97 = .ok (.iload 10, 2) := by decide +kernel
theorem dX11_looksFor_99 : decode cX11_looksFor 99 = .ok (.if_icmp .ne 16, 3) := by decide +kernel
theorem dX11_looksFor_102 : decode cX11_looksFor 102 = .ok (.aload_n 0, 1) := by decide +kernel
theorem dX11_looksFor_103 : decode cX11_looksFor 103 = .ok (.iload 18, 2) := by decide +kernel
theorem dX11_looksFor_105 : decode cX11_looksFor 105 = .ok (.invokevirtual 318, 3) := by decide +kernel
theorem dX11_looksFor_108 : decode cX11_looksFor 108 = .ok (.aload_n 0, 1) := by decide +kernel
theorem dX11_looksFor_109 : decode cX11_looksFor 109 = .ok (.iload 11, 2) := by decide +kernel
theorem dX11_looksFor_111 : decode cX11_looksFor 111 = .ok (.invokevirtual 276, 3) := by decide +kernel
theorem dX11_looksFor_114 : decode cX11_looksFor 114 = .ok (.ireturn, 1) := by decide +kernel
theorem dX11_looksFor_115 : decode cX11_looksFor 115 = .ok (.iload 17, 2) := by decide +kernel
theorem dX11_looksFor_117 : decode cX11_looksFor 117 = .ok (.iconst 1, 1) := by decide +kernel
theorem dX11_looksFor_118 : decode cX11_looksFor 118 = .ok (.iadd, 1) := by decide +kernel
theorem dX11_looksFor_119 : decode cX11_looksFor 119 = .ok (.istore 17, 2) := by decide +kernel
theorem dX11_looksFor_121 : decode cX11_looksFor 121 = .ok (.iinc 18 1, 3) := by decide +kernel
theorem dX11_looksFor_124 : decode cX11_looksFor 124 = .ok (.goto (-85), 3) := by decide +kernel
theorem dX11_looksFor_127 : decode cX11_looksFor 127 = .ok (.iload 10, 2) := by decide +kernel
theorem dX11_looksFor_129 : decode cX11_looksFor 129 = .ok (.iconst (-1), 1) := by decide +kernel
theorem dX11_looksFor_130 : decode cX11_looksFor 130 = .ok (.if_icmp .ne 8, 3) := by decide +kernel
theorem dX11_looksFor_133 : decode cX11_looksFor 133 = .ok (.iload 17, 2) := by decide +kernel
theorem dX11_looksFor_135 : decode cX11_looksFor 135 = .ok (.goto 5, 3) := by decide +kernel
theorem dX11_looksFor_138 : decode cX11_looksFor 138 = .ok (.bipush (-4), 2) := by decide +kernel
theorem dX11_looksFor_140 : decode cX11_looksFor 140 = .ok (.ireturn, 1) := by decide +kernel
theorem dX11_middle_0 : decode cX11_middle 0 = .ok (.iconst 0, 1) := by decide +kernel
theorem dX11_middle_1 : decode cX11_middle 1 = .ok (.istore_n 2, 1) := by decide +kernel
theorem dX11_middle_2 : decode cX11_middle 2 = .ok (.iconst 0, 1) := by decide +kernel
theorem dX11_middle_3 : decode cX11_middle 3 = .ok (.istore_n 3, 1) := by decide +kernel
theorem dX11_middle_4 : decode cX11_middle 4 = .ok (.iconst 0, 1) := by decide +kernel
theorem dX11_middle_5 : decode cX11_middle 5 = .ok (.istore 4, 2) := by decide +kernel
theorem dX11_middle_7 : decode cX11_middle 7 = .ok (.iload 4, 2) := by decide +kernel
theorem dX11_middle_9 : decode cX11_middle 9 = .ok (.bipush 8, 2) := by decide +kernel
theorem dX11_middle_11 : decode cX11_middle 11 = .ok (.if_icmp .ge 50, 3) := by decide +kernel
theorem dX11_middle_14 : decode cX11_middle 14 = .ok (.aload_n 0, 1) := by decide +kernel
theorem dX11_middle_15 : decode cX11_middle 15 = .ok (.getfield 13, 3) := by decide +kernel
theorem dX11_middle_18 : decode cX11_middle 18 = .ok (.iload 4, 2) := by decide +kernel
theorem dX11_middle_20 : decode cX11_middle 20 = .ok (.baload, 1) := by decide +kernel
theorem dX11_middle_21 : decode cX11_middle 21 = .ok (.ifCond .ne 6, 3) := by decide +kernel
theorem dX11_middle_24 : decode cX11_middle 24 = .ok (.goto 31, 3) := by decide +kernel
theorem dX11_middle_27 : decode cX11_middle 27 = .ok (.iload_n 2, 1) := by decide +kernel
theorem dX11_middle_28 : decode cX11_middle 28 = .ok (.iconst 1, 1) := by decide +kernel
theorem dX11_middle_29 : decode cX11_middle 29 = .ok (.iadd, 1) := by decide +kernel
theorem dX11_middle_30 : decode cX11_middle 30 = .ok (.istore_n 2, 1) := by decide +kernel
theorem dX11_middle_31 : decode cX11_middle 31 = .ok (.iload_n 3, 1) := by decide +kernel
theorem dX11_middle_32 : decode cX11_middle 32 = .ok (.iload_n 1, 1) := by decide +kernel
theorem dX11_middle_33 : decode cX11_middle 33 = .ok (.ifCond .ne 13, 3) := by decide +kernel
theorem dX11_middle_36 : decode cX11_middle 36 = .ok (.aload_n 0, 1) := by decide +kernel
theorem dX11_middle_37 : decode cX11_middle 37 = .ok (.getfield 20, 3) := by decide +kernel
theorem dX11_middle_40 : decode cX11_middle 40 = .ok (.iload 4, 2) := by decide +kernel
theorem dX11_middle_42 : decode cX11_middle 42 = .ok (.iaload, 1) := by decide +kernel
theorem dX11_middle_43 : decode cX11_middle 43 = .ok (.goto 10, 3) := by decide +kernel
theorem dX11_middle_46 : decode cX11_middle 46 = .ok (.aload_n 0, 1) := by decide +kernel
theorem dX11_middle_47 : decode cX11_middle 47 = .ok (.getfield 24, 3) := by decide +kernel
theorem dX11_middle_50 : decode cX11_middle 50 = .ok (.iload 4, 2) := by decide +kernel
theorem dX11_middle_52 : decode cX11_middle 52 = .ok (.iaload, 1) := by decide +kernel
theorem dX11_middle_53 : decode cX11_middle 53 = .ok (.iadd, 1) := by decide +kernel
theorem dX11_middle_54 : decode cX11_middle 54 = .ok (.istore_n 3, 1) := by decide +kernel
theorem dX11_middle_55 : decode cX11_middle 55 = .ok (.iinc 4 1, 3) := by decide +kernel
theorem dX11_middle_58 : decode cX11_middle 58 = .ok (.goto (-51), 3) := by decide +kernel
theorem dX11_middle_61 : decode cX11_middle 61 = .ok (.iload_n 2, 1) := by decide +kernel
theorem dX11_middle_62 : decode cX11_middle 62 = .ok (.ifCond .eq 13, 3) := by decide +kernel
theorem dX11_middle_65 : decode cX11_middle 65 = .ok (.iload_n 1, 1) := by decide +kernel
theorem dX11_middle_66 : decode cX11_middle 66 = .ok (.i2l, 1) := by decide +kernel
theorem dX11_middle_67 : decode cX11_middle 67 = .ok (.lconst 0, 1) := by decide +kernel
theorem dX11_middle_68 : decode cX11_middle 68 = .ok (.lconst 1, 1) := by decide +kernel
theorem dX11_middle_69 : decode cX11_middle 69 = .ok (.invokestatic 77, 3) := by decide +kernel
theorem dX11_middle_72 : decode cX11_middle 72 = .ok (.ifCond .ne 6, 3) := by decide +kernel
theorem dX11_middle_75 : decode cX11_middle 75 = .ok (.ldc 164, 2) := by decide +kernel
theorem dX11_middle_77 : decode cX11_middle 77 = .ok (.ireturn, 1) := by decide +kernel
theorem dX11_middle_78 : decode cX11_middle 78 = .ok (.iload_n 3, 1) := by decide +kernel
theorem dX11_middle_79 : decode cX11_middle 79 = .ok (.ifCond .ne 5, 3) := by decide +kernel
theorem dX11_middle_82 : decode cX11_middle 82 = .ok (.iconst 0, 1) := by decide +kernel
theorem dX11_middle_83 : decode cX11_middle 83 = .ok (.ireturn, 1) := by decide +kernel
theorem dX11_middle_84 : decode cX11_middle 84 = .ok (.iload_n 3, 1) := by decide +kernel
theorem dX11_middle_85 : decode cX11_middle 85 = .ok (.i2l, 1) := by decide +kernel
theorem dX11_middle_86 : decode cX11_middle 86 = .ok (.invokestatic 246, 3) := by decide +kernel
theorem dX11_middle_89 : decode cX11_middle 89 = .ok (.bipush 38, 2) := by decide +kernel
theorem dX11_middle_91 : decode cX11_middle 91 = .ok (.lshl, 1) := by decide +kernel
theorem dX11_middle_92 : decode cX11_middle 92 = .ok (.lstore 4, 2) := by decide +kernel
theorem dX11_middle_94 : decode cX11_middle 94 = .ok (.aload_n 0, 1) := by decide +kernel
theorem dX11_middle_95 : decode cX11_middle 95 = .ok (.lload 4, 2) := by decide +kernel
theorem dX11_middle_97 : decode cX11_middle 97 = .ok (.iload_n 2, 1) := by decide +kernel
theorem dX11_middle_98 : decode cX11_middle 98 = .ok (.i2l, 1) := by decide +kernel
theorem dX11_middle_99 : decode cX11_middle 99 = .ok (.ldiv, 1) := by decide +kernel
theorem dX11_middle_100 : decode cX11_middle 100 = .ok (.bipush (-38), 2) := by decide +kernel
theorem dX11_middle_102 : decode cX11_middle 102 = .ok (.lload 4, 2) := by decide +kernel
theorem dX11_middle_104 : decode cX11_middle 104 = .ok (.iload_n 2, 1) := by decide +kernel
theorem dX11_middle_105 : decode cX11_middle 105 = .ok (.i2l, 1) := by decide +kernel
theorem dX11_middle_106 : decode cX11_middle 106 = .ok (.lrem, 1) := by decide +kernel
theorem dX11_middle_107 : decode cX11_middle 107 = .ok (.lconst 0, 1) := by decide +kernel
theorem dX11_middle_108 : decode cX11_middle 108 = .ok (.lcmp, 1) := by decide +kernel
theorem dX11_middle_109 : decode cX11_middle 109 = .ok (.ifCond .eq 7, 3) := by decide +kernel
theorem dX11_middle_112 : decode cX11_middle 112 = .ok (.iconst 1, 1) := by decide +kernel
theorem dX11_middle_113 : decode cX11_middle 113 = .ok (.goto 4, 3) := by decide +kernel
theorem dX11_middle_116 : decode cX11_middle 116 = .ok (.iconst 0, 1) := by decide +kernel
theorem dX11_middle_117 : decode cX11_middle 117 = .ok (.invokevirtual 423, 3) := by decide +kernel
theorem dX11_middle_120 : decode cX11_middle 120 = .ok (.aload_n 0, 1) := by decide +kernel
theorem dX11_middle_121 : decode cX11_middle 121 = .ok (.aload_n 0, 1) := by decide +kernel
theorem dX11_middle_122 : decode cX11_middle 122 = .ok (.getfield 416, 3) := by decide +kernel
theorem dX11_middle_125 : decode cX11_middle 125 = .ok (.ldc2_w 397, 3) := by decide +kernel
theorem dX11_middle_128 : decode cX11_middle 128 = .ok (.lmul, 1) := by decide +kernel
theorem dX11_middle_129 : decode cX11_middle 129 = .ok (.aload_n 0, 1) := by decide +kernel
theorem dX11_middle_130 : decode cX11_middle 130 = .ok (.getfield 419, 3) := by decide +kernel
theorem dX11_middle_133 : decode cX11_middle 133 = .ok (.iconst 0, 1) := by decide +kernel
theorem dX11_middle_134 : decode cX11_middle 134 = .ok (.invokevirtual 423, 3) := by decide +kernel
theorem dX11_middle_137 : decode cX11_middle 137 = .ok (.iload_n 3, 1) := by decide +kernel
theorem dX11_middle_138 : decode cX11_middle 138 = .ok (.ifCond .ge 11, 3) := by decide +kernel
theorem dX11_middle_141 : decode cX11_middle 141 = .ok (.aload_n 0, 1) := by decide +kernel
theorem dX11_middle_142 : decode cX11_middle 142 = .ok (.invokevirtual 429, 3) := by decide +kernel
theorem dX11_middle_145 : decode cX11_middle 145 = .ok (.ineg, 1) := by decide +kernel
theorem dX11_middle_146 : decode cX11_middle 146 = .ok (.goto 7, 3) := by decide +kernel
theorem dX11_middle_149 : decode cX11_middle 149 = .ok (.aload_n 0, 1) := by decide +kernel
theorem dX11_middle_150 : decode cX11_middle 150 = .ok (.invokevirtual 429, 3) := by decide +kernel
theorem dX11_middle_153 : decode cX11_middle 153 = .ok (.ireturn, 1) := by decide +kernel
theorem dX11_nearest_0 : decode cX11_nearest 0 = .ok (.iload_n 1, 1) := by decide +kernel
theorem dX11_nearest_1 : decode cX11_nearest 1 = .ok (.invokestatic 85, 3) := by decide +kernel
theorem dX11_nearest_4 : decode cX11_nearest 4 = .ok (.ifCond .eq 13, 3) := by decide +kernel
theorem dX11_nearest_7 : decode cX11_nearest 7 = .ok (.iload_n 2, 1) := by decide +kernel
theorem dX11_nearest_8 : decode cX11_nearest 8 = .ok (.i2l, 1) := by decide +kernel
theorem dX11_nearest_9 : decode cX11_nearest 9 = .ok (.lconst 0, 1) := by decide +kernel
theorem dX11_nearest_10 : decode cX11_nearest 10 = .ok (.lconst 1, 1) := by decide +kernel
theorem dX11_nearest_11 : decode cX11_nearest 11 = .ok (.invokestatic 77, 3) := by decide +kernel
theorem dX11_nearest_14 : decode cX11_nearest 14 = .ok (.ifCond .ne 5, 3) := by decide +kernel
theorem dX11_nearest_17 : decode cX11_nearest 17 = .ok (.iconst (-1), 1) := by decide +kernel
theorem dX11_nearest_18 : decode cX11_nearest 18 = .ok (.ireturn, 1) := by decide +kernel
theorem dX11_nearest_19 : decode cX11_nearest 19 = .ok (.aload_n 0, 1) := by decide +kernel
theorem dX11_nearest_20 : decode cX11_nearest 20 = .ok (.getfield 13, 3) := by decide +kernel
theorem dX11_nearest_23 : decode cX11_nearest 23 = .ok (.iload_n 1, 1) := by decide +kernel
theorem dX11_nearest_24 : decode cX11_nearest 24 = .ok (.baload, 1) := by decide +kernel
theorem dX11_nearest_25 : decode cX11_nearest 25 = .ok (.ifCond .ne 6, 3) := by decide +kernel
theorem dX11_nearest_28 : decode cX11_nearest 28 = .ok (.bipush (-2), 2) := by decide +kernel
theorem dX11_nearest_30 : decode cX11_nearest 30 = .ok (.ireturn, 1) := by decide +kernel
theorem dX11_nearest_31 : decode cX11_nearest 31 = .ok (.iconst (-1), 1) := by decide +kernel
theorem dX11_nearest_32 : decode cX11_nearest 32 = .ok (.istore_n 3, 1) := by decide +kernel
theorem dX11_nearest_33 : decode cX11_nearest 33 = .ok (.iconst 0, 1) := by decide +kernel
theorem dX11_nearest_34 : decode cX11_nearest 34 = .ok (.istore 4, 2) := by decide +kernel
theorem dX11_nearest_36 : decode cX11_nearest 36 = .ok (.iconst 0, 1) := by decide +kernel
theorem dX11_nearest_37 : decode cX11_nearest 37 = .ok (.istore 5, 2) := by decide +kernel
theorem dX11_nearest_39 : decode cX11_nearest 39 = .ok (.iload 5, 2) := by decide +kernel
theorem dX11_nearest_41 : decode cX11_nearest 41 = .ok (.bipush 8, 2) := by decide +kernel
theorem dX11_nearest_43 : decode cX11_nearest 43 = .ok (.if_icmp .ge 85, 3) := by decide +kernel
theorem dX11_nearest_46 : decode cX11_nearest 46 = .ok (.iload 5, 2) := by decide +kernel
theorem dX11_nearest_48 : decode cX11_nearest 48 = .ok (.iload_n 1, 1) := by decide +kernel
theorem dX11_nearest_49 : decode cX11_nearest 49 = .ok (.if_icmp .eq 73, 3) := by decide +kernel
theorem dX11_nearest_52 : decode cX11_nearest 52 = .ok (.aload_n 0, 1) := by decide +kernel
theorem dX11_nearest_53 : decode cX11_nearest 53 = .ok (.getfield 13, 3) := by decide +kernel
theorem dX11_nearest_56 : decode cX11_nearest 56 = .ok (.iload 5, 2) := by decide +kernel
theorem dX11_nearest_58 : decode cX11_nearest 58 = .ok (.baload, 1) := by decide +kernel
theorem dX11_nearest_59 : decode cX11_nearest 59 = .ok (.ifCond .ne 6, 3) := by decide +kernel
theorem dX11_nearest_62 : decode cX11_nearest 62 = .ok (.goto 60, 3) := by decide +kernel
theorem dX11_nearest_65 : decode cX11_nearest 65 = .ok (.aload_n 0, 1) := by decide +kernel
theorem dX11_nearest_66 : decode cX11_nearest 66 = .ok (.getfield 20, 3) := by decide +kernel
theorem dX11_nearest_69 : decode cX11_nearest 69 = .ok (.iload 5, 2) := by decide +kernel
theorem dX11_nearest_71 : decode cX11_nearest 71 = .ok (.iaload, 1) := by decide +kernel
theorem dX11_nearest_72 : decode cX11_nearest 72 = .ok (.aload_n 0, 1) := by decide +kernel
theorem dX11_nearest_73 : decode cX11_nearest 73 = .ok (.getfield 20, 3) := by decide +kernel
theorem dX11_nearest_76 : decode cX11_nearest 76 = .ok (.iload_n 1, 1) := by decide +kernel
theorem dX11_nearest_77 : decode cX11_nearest 77 = .ok (.iaload, 1) := by decide +kernel
theorem dX11_nearest_78 : decode cX11_nearest 78 = .ok (.isub, 1) := by decide +kernel
theorem dX11_nearest_79 : decode cX11_nearest 79 = .ok (.i2l, 1) := by decide +kernel
theorem dX11_nearest_80 : decode cX11_nearest 80 = .ok (.aload_n 0, 1) := by decide +kernel
theorem dX11_nearest_81 : decode cX11_nearest 81 = .ok (.getfield 24, 3) := by decide +kernel
theorem dX11_nearest_84 : decode cX11_nearest 84 = .ok (.iload 5, 2) := by decide +kernel
theorem dX11_nearest_86 : decode cX11_nearest 86 = .ok (.iaload, 1) := by decide +kernel
theorem dX11_nearest_87 : decode cX11_nearest 87 = .ok (.aload_n 0, 1) := by decide +kernel
theorem dX11_nearest_88 : decode cX11_nearest 88 = .ok (.getfield 24, 3) := by decide +kernel
theorem dX11_nearest_91 : decode cX11_nearest 91 = .ok (.iload_n 1, 1) := by decide +kernel
theorem dX11_nearest_92 : decode cX11_nearest 92 = .ok (.iaload, 1) := by decide +kernel
theorem dX11_nearest_93 : decode cX11_nearest 93 = .ok (.isub, 1) := by decide +kernel
theorem dX11_nearest_94 : decode cX11_nearest 94 = .ok (.i2l, 1) := by decide +kernel
theorem dX11_nearest_95 : decode cX11_nearest 95 = .ok (.invokestatic 160, 3) := by decide +kernel
theorem dX11_nearest_98 : decode cX11_nearest 98 = .ok (.istore 6, 2) := by decide +kernel
theorem dX11_nearest_100 : decode cX11_nearest 100 = .ok (.iload_n 3, 1) := by decide +kernel
theorem dX11_nearest_101 : decode cX11_nearest 101 = .ok (.iconst (-1), 1) := by decide +kernel
theorem dX11_nearest_102 : decode cX11_nearest 102 = .ok (.if_icmp .eq 13, 3) := by decide +kernel
theorem dX11_nearest_105 : decode cX11_nearest 105 = .ok (.iload 6, 2) := by decide +kernel
theorem dX11_nearest_107 : decode cX11_nearest 107 = .ok (.iload 4, 2) := by decide +kernel
theorem dX11_nearest_109 : decode cX11_nearest 109 = .ok (.if_icmp .lt 6, 3) := by decide +kernel
theorem dX11_nearest_112 : decode cX11_nearest 112 = .ok (.goto 10, 3) := by decide +kernel
theorem dX11_nearest_115 : decode cX11_nearest 115 = .ok (.iload 5, 2) := by decide +kernel
theorem dX11_nearest_117 : decode cX11_nearest 117 = .ok (.istore_n 3, 1) := by decide +kernel
theorem dX11_nearest_118 : decode cX11_nearest 118 = .ok (.iload 6, 2) := by decide +kernel
theorem dX11_nearest_120 : decode cX11_nearest 120 = .ok (.istore 4, 2) := by decide +kernel
theorem dX11_nearest_122 : decode cX11_nearest 122 = .ok (.iinc 5 1, 3) := by decide +kernel
theorem dX11_nearest_125 : decode cX11_nearest 125 = .ok (.goto (-86), 3) := by decide +kernel
theorem dX11_nearest_128 : decode cX11_nearest 128 = .ok (.iload_n 3, 1) := by decide +kernel
theorem dX11_nearest_129 : decode cX11_nearest 129 = .ok (.iconst (-1), 1) := by decide +kernel
theorem dX11_nearest_130 : decode cX11_nearest 130 = .ok (.if_icmp .ne 8, 3) := by decide +kernel
theorem dX11_nearest_133 : decode cX11_nearest 133 = .ok (.bipush (-3), 2) := by decide +kernel
theorem dX11_nearest_135 : decode cX11_nearest 135 = .ok (.goto 13, 3) := by decide +kernel
theorem dX11_nearest_138 : decode cX11_nearest 138 = .ok (.iload_n 2, 1) := by decide +kernel
theorem dX11_nearest_139 : decode cX11_nearest 139 = .ok (.ifCond .ne 7, 3) := by decide +kernel
theorem dX11_nearest_142 : decode cX11_nearest 142 = .ok (.iload_n 3, 1) := by decide +kernel
theorem dX11_nearest_143 : decode cX11_nearest 143 = .ok (.goto 5, 3) := by decide +kernel
theorem dX11_nearest_146 : decode cX11_nearest 146 = .ok (.iload 4, 2) := by decide +kernel
theorem dX11_nearest_148 : decode cX11_nearest 148 = .ok (.ireturn, 1) := by decide +kernel
theorem dX11_nearestTo_0 : decode cX11_nearestTo 0 = .ok (.ldc2_w 119, 3) := by decide +kernel
theorem dX11_nearestTo_3 : decode cX11_nearestTo 3 = .ok (.lload_n 0, 1) := by decide +kernel
theorem dX11_nearestTo_4 : decode cX11_nearestTo 4 = .ok (.lmul, 1) := by decide +kernel
theorem dX11_nearestTo_5 : decode cX11_nearestTo 5 = .ok (.lload_n 2, 1) := by decide +kernel
theorem dX11_nearestTo_6 : decode cX11_nearestTo 6 = .ok (.ladd, 1) := by decide +kernel
theorem dX11_nearestTo_7 : decode cX11_nearestTo 7 = .ok (.ldc2_w 119, 3) := by decide +kernel
theorem dX11_nearestTo_10 : decode cX11_nearestTo 10 = .ok (.lload_n 2, 1) := by decide +kernel
theorem dX11_nearestTo_11 : decode cX11_nearestTo 11 = .ok (.lmul, 1) := by decide +kernel
theorem dX11_nearestTo_12 : decode cX11_nearestTo 12 = .ok (.invokestatic 63, 3) := by decide +kernel
theorem dX11_nearestTo_15 : decode cX11_nearestTo 15 = .ok (.lreturn, 1) := by decide +kernel
theorem dX11_norm_0 : decode cX11_norm 0 = .ok (.lload_n 0, 1) := by decide +kernel
theorem dX11_norm_1 : decode cX11_norm 1 = .ok (.lload_n 0, 1) := by decide +kernel
theorem dX11_norm_2 : decode cX11_norm 2 = .ok (.lmul, 1) := by decide +kernel
theorem dX11_norm_3 : decode cX11_norm 3 = .ok (.lload_n 0, 1) := by decide +kernel
theorem dX11_norm_4 : decode cX11_norm 4 = .ok (.lload_n 2, 1) := by decide +kernel
theorem dX11_norm_5 : decode cX11_norm 5 = .ok (.lmul, 1) := by decide +kernel
theorem dX11_norm_6 : decode cX11_norm 6 = .ok (.lsub, 1) := by decide +kernel
theorem dX11_norm_7 : decode cX11_norm 7 = .ok (.lload_n 2, 1) := by decide +kernel
theorem dX11_norm_8 : decode cX11_norm 8 = .ok (.lload_n 2, 1) := by decide +kernel
theorem dX11_norm_9 : decode cX11_norm 9 = .ok (.lmul, 1) := by decide +kernel
theorem dX11_norm_10 : decode cX11_norm 10 = .ok (.ladd, 1) := by decide +kernel
theorem dX11_norm_11 : decode cX11_norm 11 = .ok (.lreturn, 1) := by decide +kernel
theorem dX11_normOf_0 : decode cX11_normOf 0 = .ok (.lload_n 0, 1) := by decide +kernel
theorem dX11_normOf_1 : decode cX11_normOf 1 = .ok (.lload_n 2, 1) := by decide +kernel
theorem dX11_normOf_2 : decode cX11_normOf 2 = .ok (.invokestatic 112, 3) := by decide +kernel
theorem dX11_normOf_5 : decode cX11_normOf 5 = .ok (.l2i, 1) := by decide +kernel
theorem dX11_normOf_6 : decode cX11_normOf 6 = .ok (.ireturn, 1) := by decide +kernel
theorem dX11_notes_0 : decode cX11_notes 0 = .ok (.iload_n 1, 1) := by decide +kernel
theorem dX11_notes_1 : decode cX11_notes 1 = .ok (.i2l, 1) := by decide +kernel
theorem dX11_notes_2 : decode cX11_notes 2 = .ok (.iload_n 2, 1) := by decide +kernel
theorem dX11_notes_3 : decode cX11_notes 3 = .ok (.i2l, 1) := by decide +kernel
theorem dX11_notes_4 : decode cX11_notes 4 = .ok (.invokestatic 160, 3) := by decide +kernel
theorem dX11_notes_7 : decode cX11_notes 7 = .ok (.istore_n 3, 1) := by decide +kernel
theorem dX11_notes_8 : decode cX11_notes 8 = .ok (.aload_n 0, 1) := by decide +kernel
theorem dX11_notes_9 : decode cX11_notes 9 = .ok (.getfield 201, 3) := by decide +kernel
theorem dX11_notes_12 : decode cX11_notes 12 = .ok (.istore 4, 2) := by decide +kernel
theorem dX11_notes_14 : decode cX11_notes 14 = .ok (.iload 4, 2) := by decide +kernel
theorem dX11_notes_16 : decode cX11_notes 16 = .ok (.ifCond .le 99, 3) := by decide +kernel
theorem dX11_notes_19 : decode cX11_notes 19 = .ok (.aload_n 0, 1) := by decide +kernel
theorem dX11_notes_20 : decode cX11_notes 20 = .ok (.getfield 39, 3) := by decide +kernel
theorem dX11_notes_23 : decode cX11_notes 23 = .ok (.iload 4, 2) := by decide +kernel
theorem dX11_notes_25 : decode cX11_notes 25 = .ok (.iconst 1, 1) := by decide +kernel
theorem dX11_notes_26 : decode cX11_notes 26 = .ok (.isub, 1) := by decide +kernel
theorem dX11_notes_27 : decode cX11_notes 27 = .ok (.iaload, 1) := by decide +kernel
theorem dX11_notes_28 : decode cX11_notes 28 = .ok (.iload_n 3, 1) := by decide +kernel
theorem dX11_notes_29 : decode cX11_notes 29 = .ok (.if_icmp .gt 29, 3) := by decide +kernel
theorem dX11_notes_32 : decode cX11_notes 32 = .ok (.aload_n 0, 1) := by decide +kernel
theorem dX11_notes_33 : decode cX11_notes 33 = .ok (.getfield 39, 3) := by decide +kernel
theorem dX11_notes_36 : decode cX11_notes 36 = .ok (.iload 4, 2) := by decide +kernel
theorem dX11_notes_38 : decode cX11_notes 38 = .ok (.iconst 1, 1) := by decide +kernel
theorem dX11_notes_39 : decode cX11_notes 39 = .ok (.isub, 1) := by decide +kernel
theorem dX11_notes_40 : decode cX11_notes 40 = .ok (.iaload, 1) := by decide +kernel
theorem dX11_notes_41 : decode cX11_notes 41 = .ok (.iload_n 3, 1) := by decide +kernel
theorem dX11_notes_42 : decode cX11_notes 42 = .ok (.if_icmp .ne 73, 3) := by decide +kernel
theorem dX11_notes_45 : decode cX11_notes 45 = .ok (.aload_n 0, 1) := by decide +kernel
theorem dX11_notes_46 : decode cX11_notes 46 = .ok (.getfield 36, 3) := by decide +kernel
theorem dX11_notes_49 : decode cX11_notes 49 = .ok (.iload 4, 2) := by decide +kernel
theorem dX11_notes_51 : decode cX11_notes 51 = .ok (.iconst 1, 1) := by decide +kernel
theorem dX11_notes_52 : decode cX11_notes 52 = .ok (.isub, 1) := by decide +kernel
theorem dX11_notes_53 : decode cX11_notes 53 = .ok (.iaload, 1) := by decide +kernel
theorem dX11_notes_54 : decode cX11_notes 54 = .ok (.iload_n 2, 1) := by decide +kernel
theorem dX11_notes_55 : decode cX11_notes 55 = .ok (.if_icmp .le 60, 3) := by decide +kernel
theorem dX11_notes_58 : decode cX11_notes 58 = .ok (.aload_n 0, 1) := by decide +kernel
theorem dX11_notes_59 : decode cX11_notes 59 = .ok (.getfield 33, 3) := by decide +kernel
theorem dX11_notes_62 : decode cX11_notes 62 = .ok (.iload 4, 2) := by decide +kernel
theorem dX11_notes_64 : decode cX11_notes 64 = .ok (.aload_n 0, 1) := by decide +kernel
theorem dX11_notes_65 : decode cX11_notes 65 = .ok (.getfield 33, 3) := by decide +kernel
theorem dX11_notes_68 : decode cX11_notes 68 = .ok (.iload 4, 2) := by decide +kernel
theorem dX11_notes_70 : decode cX11_notes 70 = .ok (.iconst 1, 1) := by decide +kernel
theorem dX11_notes_71 : decode cX11_notes 71 = .ok (.isub, 1) := by decide +kernel
theorem dX11_notes_72 : decode cX11_notes 72 = .ok (.iaload, 1) := by decide +kernel
theorem dX11_notes_73 : decode cX11_notes 73 = .ok (.iastore, 1) := by decide +kernel
theorem dX11_notes_74 : decode cX11_notes 74 = .ok (.aload_n 0, 1) := by decide +kernel
theorem dX11_notes_75 : decode cX11_notes 75 = .ok (.getfield 36, 3) := by decide +kernel
theorem dX11_notes_78 : decode cX11_notes 78 = .ok (.iload 4, 2) := by decide +kernel
theorem dX11_notes_80 : decode cX11_notes 80 = .ok (.aload_n 0, 1) := by decide +kernel
theorem dX11_notes_81 : decode cX11_notes 81 = .ok (.getfield 36, 3) := by decide +kernel
theorem dX11_notes_84 : decode cX11_notes 84 = .ok (.iload 4, 2) := by decide +kernel
theorem dX11_notes_86 : decode cX11_notes 86 = .ok (.iconst 1, 1) := by decide +kernel
theorem dX11_notes_87 : decode cX11_notes 87 = .ok (.isub, 1) := by decide +kernel
theorem dX11_notes_88 : decode cX11_notes 88 = .ok (.iaload, 1) := by decide +kernel
theorem dX11_notes_89 : decode cX11_notes 89 = .ok (.iastore, 1) := by decide +kernel
theorem dX11_notes_90 : decode cX11_notes 90 = .ok (.aload_n 0, 1) := by decide +kernel
theorem dX11_notes_91 : decode cX11_notes 91 = .ok (.getfield 39, 3) := by decide +kernel
theorem dX11_notes_94 : decode cX11_notes 94 = .ok (.iload 4, 2) := by decide +kernel
theorem dX11_notes_96 : decode cX11_notes 96 = .ok (.aload_n 0, 1) := by decide +kernel
theorem dX11_notes_97 : decode cX11_notes 97 = .ok (.getfield 39, 3) := by decide +kernel
theorem dX11_notes_100 : decode cX11_notes 100 = .ok (.iload 4, 2) := by decide +kernel
theorem dX11_notes_102 : decode cX11_notes 102 = .ok (.iconst 1, 1) := by decide +kernel
theorem dX11_notes_103 : decode cX11_notes 103 = .ok (.isub, 1) := by decide +kernel
theorem dX11_notes_104 : decode cX11_notes 104 = .ok (.iaload, 1) := by decide +kernel
theorem dX11_notes_105 : decode cX11_notes 105 = .ok (.iastore, 1) := by decide +kernel
theorem dX11_notes_106 : decode cX11_notes 106 = .ok (.iload 4, 2) := by decide +kernel
theorem dX11_notes_108 : decode cX11_notes 108 = .ok (.iconst 1, 1) := by decide +kernel
theorem dX11_notes_109 : decode cX11_notes 109 = .ok (.isub, 1) := by decide +kernel
theorem dX11_notes_110 : decode cX11_notes 110 = .ok (.istore 4, 2) := by decide +kernel
theorem dX11_notes_112 : decode cX11_notes 112 = .ok (.goto (-98), 3) := by decide +kernel
theorem dX11_notes_115 : decode cX11_notes 115 = .ok (.aload_n 0, 1) := by decide +kernel
theorem dX11_notes_116 : decode cX11_notes 116 = .ok (.getfield 33, 3) := by decide +kernel
theorem dX11_notes_119 : decode cX11_notes 119 = .ok (.iload 4, 2) := by decide +kernel
theorem dX11_notes_121 : decode cX11_notes 121 = .ok (.iload_n 1, 1) := by decide +kernel
theorem dX11_notes_122 : decode cX11_notes 122 = .ok (.iastore, 1) := by decide +kernel
theorem dX11_notes_123 : decode cX11_notes 123 = .ok (.aload_n 0, 1) := by decide +kernel
theorem dX11_notes_124 : decode cX11_notes 124 = .ok (.getfield 36, 3) := by decide +kernel
theorem dX11_notes_127 : decode cX11_notes 127 = .ok (.iload 4, 2) := by decide +kernel
theorem dX11_notes_129 : decode cX11_notes 129 = .ok (.iload_n 2, 1) := by decide +kernel
theorem dX11_notes_130 : decode cX11_notes 130 = .ok (.iastore, 1) := by decide +kernel
theorem dX11_notes_131 : decode cX11_notes 131 = .ok (.aload_n 0, 1) := by decide +kernel
theorem dX11_notes_132 : decode cX11_notes 132 = .ok (.getfield 39, 3) := by decide +kernel
theorem dX11_notes_135 : decode cX11_notes 135 = .ok (.iload 4, 2) := by decide +kernel
theorem dX11_notes_137 : decode cX11_notes 137 = .ok (.iload_n 3, 1) := by decide +kernel
theorem dX11_notes_138 : decode cX11_notes 138 = .ok (.iastore, 1) := by decide +kernel
theorem dX11_notes_139 : decode cX11_notes 139 = .ok (.aload_n 0, 1) := by decide +kernel
theorem dX11_notes_140 : decode cX11_notes 140 = .ok (.aload_n 0, 1) := by decide +kernel
theorem dX11_notes_141 : decode cX11_notes 141 = .ok (.getfield 201, 3) := by decide +kernel
theorem dX11_notes_144 : decode cX11_notes 144 = .ok (.iconst 1, 1) := by decide +kernel
theorem dX11_notes_145 : decode cX11_notes 145 = .ok (.iadd, 1) := by decide +kernel
theorem dX11_notes_146 : decode cX11_notes 146 = .ok (.putfield 201, 3) := by decide +kernel
theorem dX11_notes_149 : decode cX11_notes 149 = .ok (.return_, 1) := by decide +kernel
theorem dX11_oftenThree_0 : decode cX11_oftenThree 0 = .ok (.lload_n 1, 1) := by decide +kernel
theorem dX11_oftenThree_1 : decode cX11_oftenThree 1 = .ok (.lconst 0, 1) := by decide +kernel
theorem dX11_oftenThree_2 : decode cX11_oftenThree 2 = .ok (.lcmp, 1) := by decide +kernel
theorem dX11_oftenThree_3 : decode cX11_oftenThree 3 = .ok (.ifCond .ne 11, 3) := by decide +kernel
theorem dX11_oftenThree_6 : decode cX11_oftenThree 6 = .ok (.lload_n 3, 1) := by decide +kernel
theorem dX11_oftenThree_7 : decode cX11_oftenThree 7 = .ok (.lconst 0, 1) := by decide +kernel
theorem dX11_oftenThree_8 : decode cX11_oftenThree 8 = .ok (.lcmp, 1) := by decide +kernel
theorem dX11_oftenThree_9 : decode cX11_oftenThree 9 = .ok (.ifCond .ne 5, 3) := by decide +kernel
theorem dX11_oftenThree_12 : decode cX11_oftenThree 12 = .ok (.iconst (-1), 1) := by decide +kernel
theorem dX11_oftenThree_13 : decode cX11_oftenThree 13 = .ok (.ireturn, 1) := by decide +kernel
theorem dX11_oftenThree_14 : decode cX11_oftenThree 14 = .ok (.aload_n 0, 1) := by decide +kernel
theorem dX11_oftenThree_15 : decode cX11_oftenThree 15 = .ok (.lload_n 1, 1) := by decide +kernel
theorem dX11_oftenThree_16 : decode cX11_oftenThree 16 = .ok (.lload_n 3, 1) := by decide +kernel
theorem dX11_oftenThree_17 : decode cX11_oftenThree 17 = .ok (.invokevirtual 148, 3) := by decide +kernel
theorem dX11_oftenThree_20 : decode cX11_oftenThree 20 = .ok (.aload_n 0, 1) := by decide +kernel
theorem dX11_oftenThree_21 : decode cX11_oftenThree 21 = .ok (.getfield 139, 3) := by decide +kernel
theorem dX11_oftenThree_24 : decode cX11_oftenThree 24 = .ok (.ireturn, 1) := by decide +kernel
theorem dX11_order_0 : decode cX11_order 0 = .ok (.iload_n 1, 1) := by decide +kernel
theorem dX11_order_1 : decode cX11_order 1 = .ok (.invokestatic 85, 3) := by decide +kernel
theorem dX11_order_4 : decode cX11_order 4 = .ok (.ifCond .eq 10, 3) := by decide +kernel
theorem dX11_order_7 : decode cX11_order 7 = .ok (.iload_n 2, 1) := by decide +kernel
theorem dX11_order_8 : decode cX11_order 8 = .ok (.invokestatic 85, 3) := by decide +kernel
theorem dX11_order_11 : decode cX11_order 11 = .ok (.ifCond .ne 5, 3) := by decide +kernel
theorem dX11_order_14 : decode cX11_order 14 = .ok (.iconst (-1), 1) := by decide +kernel
theorem dX11_order_15 : decode cX11_order 15 = .ok (.ireturn, 1) := by decide +kernel
theorem dX11_order_16 : decode cX11_order 16 = .ok (.aload_n 0, 1) := by decide +kernel
theorem dX11_order_17 : decode cX11_order 17 = .ok (.iload_n 1, 1) := by decide +kernel
theorem dX11_order_18 : decode cX11_order 18 = .ok (.iload_n 2, 1) := by decide +kernel
theorem dX11_order_19 : decode cX11_order 19 = .ok (.invokevirtual 269, 3) := by decide +kernel
theorem dX11_order_22 : decode cX11_order 22 = .ok (.ifCond .ne 6, 3) := by decide +kernel
theorem dX11_order_25 : decode cX11_order 25 = .ok (.bipush (-2), 2) := by decide +kernel
theorem dX11_order_27 : decode cX11_order 27 = .ok (.ireturn, 1) := by decide +kernel
theorem dX11_order_28 : decode cX11_order 28 = .ok (.aload_n 0, 1) := by decide +kernel
theorem dX11_order_29 : decode cX11_order 29 = .ok (.iload_n 2, 1) := by decide +kernel
theorem dX11_order_30 : decode cX11_order 30 = .ok (.sipush 2000, 3) := by decide +kernel
theorem dX11_order_33 : decode cX11_order 33 = .ok (.invokevirtual 331, 3) := by decide +kernel
theorem dX11_order_36 : decode cX11_order 36 = .ok (.ifCond .eq 6, 3) := by decide +kernel
theorem dX11_order_39 : decode cX11_order 39 = .ok (.bipush (-3), 2) := by decide +kernel
theorem dX11_order_41 : decode cX11_order 41 = .ok (.ireturn, 1) := by decide +kernel
theorem dX11_order_42 : decode cX11_order 42 = .ok (.aload_n 0, 1) := by decide +kernel
theorem dX11_order_43 : decode cX11_order 43 = .ok (.aload_n 0, 1) := by decide +kernel
theorem dX11_order_44 : decode cX11_order 44 = .ok (.getfield 20, 3) := by decide +kernel
theorem dX11_order_47 : decode cX11_order 47 = .ok (.iload_n 1, 1) := by decide +kernel
theorem dX11_order_48 : decode cX11_order 48 = .ok (.iaload, 1) := by decide +kernel
theorem dX11_order_49 : decode cX11_order 49 = .ok (.i2l, 1) := by decide +kernel
theorem dX11_order_50 : decode cX11_order 50 = .ok (.aload_n 0, 1) := by decide +kernel
theorem dX11_order_51 : decode cX11_order 51 = .ok (.getfield 24, 3) := by decide +kernel
theorem dX11_order_54 : decode cX11_order 54 = .ok (.iload_n 1, 1) := by decide +kernel
theorem dX11_order_55 : decode cX11_order 55 = .ok (.iaload, 1) := by decide +kernel
theorem dX11_order_56 : decode cX11_order 56 = .ok (.i2l, 1) := by decide +kernel
theorem dX11_order_57 : decode cX11_order 57 = .ok (.aload_n 0, 1) := by decide +kernel
theorem dX11_order_58 : decode cX11_order 58 = .ok (.getfield 20, 3) := by decide +kernel
theorem dX11_order_61 : decode cX11_order 61 = .ok (.iload_n 2, 1) := by decide +kernel
theorem dX11_order_62 : decode cX11_order 62 = .ok (.iaload, 1) := by decide +kernel
theorem dX11_order_63 : decode cX11_order 63 = .ok (.i2l, 1) := by decide +kernel
theorem dX11_order_64 : decode cX11_order 64 = .ok (.aload_n 0, 1) := by decide +kernel
theorem dX11_order_65 : decode cX11_order 65 = .ok (.getfield 24, 3) := by decide +kernel
theorem dX11_order_68 : decode cX11_order 68 = .ok (.iload_n 2, 1) := by decide +kernel
theorem dX11_order_69 : decode cX11_order 69 = .ok (.iaload, 1) := by decide +kernel
theorem dX11_order_70 : decode cX11_order 70 = .ok (.i2l, 1) := by decide +kernel
theorem dX11_order_71 : decode cX11_order 71 = .ok (.invokevirtual 195, 3) := by decide +kernel
theorem dX11_order_74 : decode cX11_order 74 = .ok (.ifCond .ne 6, 3) := by decide +kernel
theorem dX11_order_77 : decode cX11_order 77 = .ok (.bipush (-4), 2) := by decide +kernel
theorem dX11_order_79 : decode cX11_order 79 = .ok (.ireturn, 1) := by decide +kernel
theorem dX11_order_80 : decode cX11_order 80 = .ok (.aload_n 0, 1) := by decide +kernel
theorem dX11_order_81 : decode cX11_order 81 = .ok (.aload_n 0, 1) := by decide +kernel
theorem dX11_order_82 : decode cX11_order 82 = .ok (.getfield 20, 3) := by decide +kernel
theorem dX11_order_85 : decode cX11_order 85 = .ok (.iload_n 2, 1) := by decide +kernel
theorem dX11_order_86 : decode cX11_order 86 = .ok (.iaload, 1) := by decide +kernel
theorem dX11_order_87 : decode cX11_order 87 = .ok (.i2l, 1) := by decide +kernel
theorem dX11_order_88 : decode cX11_order 88 = .ok (.aload_n 0, 1) := by decide +kernel
theorem dX11_order_89 : decode cX11_order 89 = .ok (.getfield 24, 3) := by decide +kernel
theorem dX11_order_92 : decode cX11_order 92 = .ok (.iload_n 2, 1) := by decide +kernel
theorem dX11_order_93 : decode cX11_order 93 = .ok (.iaload, 1) := by decide +kernel
theorem dX11_order_94 : decode cX11_order 94 = .ok (.i2l, 1) := by decide +kernel
theorem dX11_order_95 : decode cX11_order 95 = .ok (.invokevirtual 273, 3) := by decide +kernel
theorem dX11_order_98 : decode cX11_order 98 = .ok (.aload_n 0, 1) := by decide +kernel
theorem dX11_order_99 : decode cX11_order 99 = .ok (.aload_n 0, 1) := by decide +kernel
theorem dX11_order_100 : decode cX11_order 100 = .ok (.getfield 20, 3) := by decide +kernel
theorem dX11_order_103 : decode cX11_order 103 = .ok (.iload_n 1, 1) := by decide +kernel
theorem dX11_order_104 : decode cX11_order 104 = .ok (.iaload, 1) := by decide +kernel
theorem dX11_order_105 : decode cX11_order 105 = .ok (.i2l, 1) := by decide +kernel
theorem dX11_order_106 : decode cX11_order 106 = .ok (.aload_n 0, 1) := by decide +kernel
theorem dX11_order_107 : decode cX11_order 107 = .ok (.getfield 24, 3) := by decide +kernel
theorem dX11_order_110 : decode cX11_order 110 = .ok (.iload_n 1, 1) := by decide +kernel
theorem dX11_order_111 : decode cX11_order 111 = .ok (.iaload, 1) := by decide +kernel
theorem dX11_order_112 : decode cX11_order 112 = .ok (.i2l, 1) := by decide +kernel
theorem dX11_order_113 : decode cX11_order 113 = .ok (.invokevirtual 346, 3) := by decide +kernel
theorem dX11_order_116 : decode cX11_order 116 = .ok (.ireturn, 1) := by decide +kernel
theorem dX11_orderOf_0 : decode cX11_orderOf 0 = .ok (.aload_n 0, 1) := by decide +kernel
theorem dX11_orderOf_1 : decode cX11_orderOf 1 = .ok (.lconst 1, 1) := by decide +kernel
theorem dX11_orderOf_2 : decode cX11_orderOf 2 = .ok (.lconst 0, 1) := by decide +kernel
theorem dX11_orderOf_3 : decode cX11_orderOf 3 = .ok (.invokevirtual 259, 3) := by decide +kernel
theorem dX11_orderOf_6 : decode cX11_orderOf 6 = .ok (.aload_n 0, 1) := by decide +kernel
theorem dX11_orderOf_7 : decode cX11_orderOf 7 = .ok (.invokevirtual 328, 3) := by decide +kernel
theorem dX11_orderOf_10 : decode cX11_orderOf 10 = .ok (.istore 5, 2) := by decide +kernel
theorem dX11_orderOf_12 : decode cX11_orderOf 12 = .ok (.aload_n 0, 1) := by decide +kernel
theorem dX11_orderOf_13 : decode cX11_orderOf 13 = .ok (.lload_n 1, 1) := by decide +kernel
theorem dX11_orderOf_14 : decode cX11_orderOf 14 = .ok (.lload_n 3, 1) := by decide +kernel
theorem dX11_orderOf_15 : decode cX11_orderOf 15 = .ok (.invokevirtual 259, 3) := by decide +kernel
theorem dX11_orderOf_18 : decode cX11_orderOf 18 = .ok (.aload_n 0, 1) := by decide +kernel
theorem dX11_orderOf_19 : decode cX11_orderOf 19 = .ok (.getfield 105, 3) := by decide +kernel
theorem dX11_orderOf_22 : decode cX11_orderOf 22 = .ok (.lstore 6, 2) := by decide +kernel
theorem dX11_orderOf_24 : decode cX11_orderOf 24 = .ok (.aload_n 0, 1) := by decide +kernel
theorem dX11_orderOf_25 : decode cX11_orderOf 25 = .ok (.getfield 109, 3) := by decide +kernel
theorem dX11_orderOf_28 : decode cX11_orderOf 28 = .ok (.lstore 8, 2) := by decide +kernel
theorem dX11_orderOf_30 : decode cX11_orderOf 30 = .ok (.iconst 1, 1) := by decide +kernel
theorem dX11_orderOf_31 : decode cX11_orderOf 31 = .ok (.istore 10, 2) := by decide +kernel
theorem dX11_orderOf_33 : decode cX11_orderOf 33 = .ok (.aload_n 0, 1) := by decide +kernel
theorem dX11_orderOf_34 : decode cX11_orderOf 34 = .ok (.invokevirtual 328, 3) := by decide +kernel
theorem dX11_orderOf_37 : decode cX11_orderOf 37 = .ok (.iload 5, 2) := by decide +kernel
theorem dX11_orderOf_39 : decode cX11_orderOf 39 = .ok (.if_icmp .eq 28, 3) := by decide +kernel
theorem dX11_orderOf_42 : decode cX11_orderOf 42 = .ok (.aload_n 0, 1) := by decide +kernel
theorem dX11_orderOf_43 : decode cX11_orderOf 43 = .ok (.aload_n 0, 1) := by decide +kernel
theorem dX11_orderOf_44 : decode cX11_orderOf 44 = .ok (.getfield 105, 3) := by decide +kernel
theorem dX11_orderOf_47 : decode cX11_orderOf 47 = .ok (.aload_n 0, 1) := by decide +kernel
theorem dX11_orderOf_48 : decode cX11_orderOf 48 = .ok (.getfield 109, 3) := by decide +kernel
theorem dX11_orderOf_51 : decode cX11_orderOf 51 = .ok (.lload 6, 2) := by decide +kernel
theorem dX11_orderOf_53 : decode cX11_orderOf 53 = .ok (.lload 8, 2) := by decide +kernel
theorem dX11_orderOf_55 : decode cX11_orderOf 55 = .ok (.invokevirtual 262, 3) := by decide +kernel
theorem dX11_orderOf_58 : decode cX11_orderOf 58 = .ok (.iload 10, 2) := by decide +kernel
theorem dX11_orderOf_60 : decode cX11_orderOf 60 = .ok (.iconst 1, 1) := by decide +kernel
theorem dX11_orderOf_61 : decode cX11_orderOf 61 = .ok (.iadd, 1) := by decide +kernel
theorem dX11_orderOf_62 : decode cX11_orderOf 62 = .ok (.istore 10, 2) := by decide +kernel
theorem dX11_orderOf_64 : decode cX11_orderOf 64 = .ok (.goto (-31), 3) := by decide +kernel
theorem dX11_orderOf_67 : decode cX11_orderOf 67 = .ok (.iload 10, 2) := by decide +kernel
theorem dX11_orderOf_69 : decode cX11_orderOf 69 = .ok (.ireturn, 1) := by decide +kernel
theorem dX11_owns_0 : decode cX11_owns 0 = .ok (.lload_n 1, 1) := by decide +kernel
theorem dX11_owns_1 : decode cX11_owns 1 = .ok (.lconst 0, 1) := by decide +kernel
theorem dX11_owns_2 : decode cX11_owns 2 = .ok (.lcmp, 1) := by decide +kernel
theorem dX11_owns_3 : decode cX11_owns 3 = .ok (.ifCond .ne 16, 3) := by decide +kernel
theorem dX11_owns_6 : decode cX11_owns 6 = .ok (.lload_n 3, 1) := by decide +kernel
theorem dX11_owns_7 : decode cX11_owns 7 = .ok (.lconst 0, 1) := by decide +kernel
theorem dX11_owns_8 : decode cX11_owns 8 = .ok (.lcmp, 1) := by decide +kernel
theorem dX11_owns_9 : decode cX11_owns 9 = .ok (.ifCond .ne 10, 3) := by decide +kernel
theorem dX11_owns_12 : decode cX11_owns 12 = .ok (.aload_n 0, 1) := by decide +kernel
theorem dX11_owns_13 : decode cX11_owns 13 = .ok (.lconst 0, 1) := by decide +kernel
theorem dX11_owns_14 : decode cX11_owns 14 = .ok (.lconst 0, 1) := by decide +kernel
theorem dX11_owns_15 : decode cX11_owns 15 = .ok (.invokevirtual 115, 3) := by decide +kernel
theorem dX11_owns_18 : decode cX11_owns 18 = .ok (.return_, 1) := by decide +kernel
theorem dX11_owns_19 : decode cX11_owns 19 = .ok (.aload_n 0, 1) := by decide +kernel
theorem dX11_owns_20 : decode cX11_owns 20 = .ok (.lload_n 1, 1) := by decide +kernel
theorem dX11_owns_21 : decode cX11_owns 21 = .ok (.lload_n 3, 1) := by decide +kernel
theorem dX11_owns_22 : decode cX11_owns 22 = .ok (.invokevirtual 148, 3) := by decide +kernel
theorem dX11_owns_25 : decode cX11_owns 25 = .ok (.iconst 0, 1) := by decide +kernel
theorem dX11_owns_26 : decode cX11_owns 26 = .ok (.istore 5, 2) := by decide +kernel
theorem dX11_owns_28 : decode cX11_owns 28 = .ok (.iload 5, 2) := by decide +kernel
theorem dX11_owns_30 : decode cX11_owns 30 = .ok (.aload_n 0, 1) := by decide +kernel
theorem dX11_owns_31 : decode cX11_owns 31 = .ok (.getfield 139, 3) := by decide +kernel
theorem dX11_owns_34 : decode cX11_owns 34 = .ok (.if_icmp .ge 25, 3) := by decide +kernel
theorem dX11_owns_37 : decode cX11_owns 37 = .ok (.aload_n 0, 1) := by decide +kernel
theorem dX11_owns_38 : decode cX11_owns 38 = .ok (.aload_n 0, 1) := by decide +kernel
theorem dX11_owns_39 : decode cX11_owns 39 = .ok (.getfield 105, 3) := by decide +kernel
theorem dX11_owns_42 : decode cX11_owns 42 = .ok (.aload_n 0, 1) := by decide +kernel
theorem dX11_owns_43 : decode cX11_owns 43 = .ok (.getfield 109, 3) := by decide +kernel
theorem dX11_owns_46 : decode cX11_owns 46 = .ok (.lconst 1, 1) := by decide +kernel
theorem dX11_owns_47 : decode cX11_owns 47 = .ok (.ldc2_w 151, 3) := by decide +kernel
theorem dX11_owns_50 : decode cX11_owns 50 = .ok (.invokevirtual 121, 3) := by decide +kernel
theorem dX11_owns_53 : decode cX11_owns 53 = .ok (.iinc 5 1, 3) := by decide +kernel
theorem dX11_owns_56 : decode cX11_owns 56 = .ok (.goto (-28), 3) := by decide +kernel
theorem dX11_owns_59 : decode cX11_owns 59 = .ok (.return_, 1) := by decide +kernel
theorem dX11_part_0 : decode cX11_part 0 = .ok (.iload_n 1, 1) := by decide +kernel
theorem dX11_part_1 : decode cX11_part 1 = .ok (.ifCond .ne 10, 3) := by decide +kernel
theorem dX11_part_4 : decode cX11_part 4 = .ok (.aload_n 0, 1) := by decide +kernel
theorem dX11_part_5 : decode cX11_part 5 = .ok (.getfield 105, 3) := by decide +kernel
theorem dX11_part_8 : decode cX11_part 8 = .ok (.goto 7, 3) := by decide +kernel
theorem dX11_part_11 : decode cX11_part 11 = .ok (.aload_n 0, 1) := by decide +kernel
theorem dX11_part_12 : decode cX11_part 12 = .ok (.getfield 109, 3) := by decide +kernel
theorem dX11_part_15 : decode cX11_part 15 = .ok (.l2i, 1) := by decide +kernel
theorem dX11_part_16 : decode cX11_part 16 = .ok (.ireturn, 1) := by decide +kernel
theorem dX11_parted_0 : decode cX11_parted 0 = .ok (.lload_n 1, 1) := by decide +kernel
theorem dX11_parted_1 : decode cX11_parted 1 = .ok (.lstore 10, 2) := by decide +kernel
theorem dX11_parted_3 : decode cX11_parted 3 = .ok (.lload_n 3, 1) := by decide +kernel
theorem dX11_parted_4 : decode cX11_parted 4 = .ok (.lstore 12, 2) := by decide +kernel
theorem dX11_parted_6 : decode cX11_parted 6 = .ok (.lload 5, 2) := by decide +kernel
theorem dX11_parted_8 : decode cX11_parted 8 = .ok (.lstore 14, 2) := by decide +kernel
theorem dX11_parted_10 : decode cX11_parted 10 = .ok (.lload 7, 2) := by decide +kernel
theorem dX11_parted_12 : decode cX11_parted 12 = .ok (.lstore 16, 2) := by decide +kernel
theorem dX11_parted_14 : decode cX11_parted 14 = .ok (.aload_n 0, 1) := by decide +kernel
theorem dX11_parted_15 : decode cX11_parted 15 = .ok (.lconst 1, 1) := by decide +kernel
theorem dX11_parted_16 : decode cX11_parted 16 = .ok (.putfield 284, 3) := by decide +kernel
theorem dX11_parted_19 : decode cX11_parted 19 = .ok (.aload_n 0, 1) := by decide +kernel
theorem dX11_parted_20 : decode cX11_parted 20 = .ok (.lconst 0, 1) := by decide +kernel
theorem dX11_parted_21 : decode cX11_parted 21 = .ok (.putfield 287, 3) := by decide +kernel
theorem dX11_parted_24 : decode cX11_parted 24 = .ok (.aload_n 0, 1) := by decide +kernel
theorem dX11_parted_25 : decode cX11_parted 25 = .ok (.lconst 0, 1) := by decide +kernel
theorem dX11_parted_26 : decode cX11_parted 26 = .ok (.putfield 290, 3) := by decide +kernel
theorem dX11_parted_29 : decode cX11_parted 29 = .ok (.aload_n 0, 1) := by decide +kernel
theorem dX11_parted_30 : decode cX11_parted 30 = .ok (.lconst 0, 1) := by decide +kernel
theorem dX11_parted_31 : decode cX11_parted 31 = .ok (.putfield 293, 3) := by decide +kernel
theorem dX11_parted_34 : decode cX11_parted 34 = .ok (.lconst 0, 1) := by decide +kernel
theorem dX11_parted_35 : decode cX11_parted 35 = .ok (.lstore 18, 2) := by decide +kernel
theorem dX11_parted_37 : decode cX11_parted 37 = .ok (.lconst 0, 1) := by decide +kernel
theorem dX11_parted_38 : decode cX11_parted 38 = .ok (.lstore 20, 2) := by decide +kernel
theorem dX11_parted_40 : decode cX11_parted 40 = .ok (.lconst 1, 1) := by decide +kernel
theorem dX11_parted_41 : decode cX11_parted 41 = .ok (.lstore 22, 2) := by decide +kernel
theorem dX11_parted_43 : decode cX11_parted 43 = .ok (.lconst 0, 1) := by decide +kernel
theorem dX11_parted_44 : decode cX11_parted 44 = .ok (.lstore 24, 2) := by decide +kernel
theorem dX11_parted_46 : decode cX11_parted 46 = .ok (.aload_n 0, 1) := by decide +kernel
theorem dX11_parted_47 : decode cX11_parted 47 = .ok (.iconst 0, 1) := by decide +kernel
theorem dX11_parted_48 : decode cX11_parted 48 = .ok (.putfield 296, 3) := by decide +kernel
theorem dX11_parted_51 : decode cX11_parted 51 = .ok (.lload 14, 2) := by decide +kernel
theorem dX11_parted_53 : decode cX11_parted 53 = .ok (.lconst 0, 1) := by decide +kernel
theorem dX11_parted_54 : decode cX11_parted 54 = .ok (.lcmp, 1) := by decide +kernel
theorem dX11_parted_55 : decode cX11_parted 55 = .ok (.ifCond .ne 10, 3) := by decide +kernel
theorem dX11_parted_58 : decode cX11_parted 58 = .ok (.lload 16, 2) := by decide +kernel
theorem dX11_parted_60 : decode cX11_parted 60 = .ok (.lconst 0, 1) := by decide +kernel
theorem dX11_parted_61 : decode cX11_parted 61 = .ok (.lcmp, 1) := by decide +kernel
theorem dX11_parted_62 : decode cX11_parted 62 = .ok (.ifCond .eq 215, 3) := by decide +kernel
theorem dX11_parted_65 : decode cX11_parted 65 = .ok (.aload_n 0, 1) := by decide +kernel
theorem dX11_parted_66 : decode cX11_parted 66 = .ok (.lload 10, 2) := by decide +kernel
theorem dX11_parted_68 : decode cX11_parted 68 = .ok (.lload 12, 2) := by decide +kernel
theorem dX11_parted_70 : decode cX11_parted 70 = .ok (.lload 14, 2) := by decide +kernel
theorem dX11_parted_72 : decode cX11_parted 72 = .ok (.lload 16, 2) := by decide +kernel
theorem dX11_parted_74 : decode cX11_parted 74 = .ok (.invokevirtual 128, 3) := by decide +kernel
theorem dX11_parted_77 : decode cX11_parted 77 = .ok (.aload_n 0, 1) := by decide +kernel
theorem dX11_parted_78 : decode cX11_parted 78 = .ok (.getfield 105, 3) := by decide +kernel
theorem dX11_parted_81 : decode cX11_parted 81 = .ok (.lstore 26, 2) := by decide +kernel
theorem dX11_parted_83 : decode cX11_parted 83 = .ok (.aload_n 0, 1) := by decide +kernel
theorem dX11_parted_84 : decode cX11_parted 84 = .ok (.getfield 109, 3) := by decide +kernel
theorem dX11_parted_87 : decode cX11_parted 87 = .ok (.lstore 28, 2) := by decide +kernel
theorem dX11_parted_89 : decode cX11_parted 89 = .ok (.aload_n 0, 1) := by decide +kernel
theorem dX11_parted_90 : decode cX11_parted 90 = .ok (.getfield 296, 3) := by decide +kernel
theorem dX11_parted_93 : decode cX11_parted 93 = .ok (.iload 9, 2) := by decide +kernel
theorem dX11_parted_95 : decode cX11_parted 95 = .ok (.if_icmp .ne 15, 3) := by decide +kernel
theorem dX11_parted_98 : decode cX11_parted 98 = .ok (.aload_n 0, 1) := by decide +kernel
theorem dX11_parted_99 : decode cX11_parted 99 = .ok (.lload 26, 2) := by decide +kernel
theorem dX11_parted_101 : decode cX11_parted 101 = .ok (.putfield 299, 3) := by decide +kernel
theorem dX11_parted_104 : decode cX11_parted 104 = .ok (.aload_n 0, 1) := by decide +kernel
theorem dX11_parted_105 : decode cX11_parted 105 = .ok (.lload 28, 2) := by decide +kernel
theorem dX11_parted_107 : decode cX11_parted 107 = .ok (.putfield 302, 3) := by decide +kernel
theorem dX11_parted_110 : decode cX11_parted 110 = .ok (.aload_n 0, 1) := by decide +kernel
theorem dX11_parted_111 : decode cX11_parted 111 = .ok (.aload_n 0, 1) := by decide +kernel
theorem dX11_parted_112 : decode cX11_parted 112 = .ok (.getfield 296, 3) := by decide +kernel
theorem dX11_parted_115 : decode cX11_parted 115 = .ok (.iconst 1, 1) := by decide +kernel
theorem dX11_parted_116 : decode cX11_parted 116 = .ok (.iadd, 1) := by decide +kernel
theorem dX11_parted_117 : decode cX11_parted 117 = .ok (.putfield 296, 3) := by decide +kernel
theorem dX11_parted_120 : decode cX11_parted 120 = .ok (.aload_n 0, 1) := by decide +kernel
theorem dX11_parted_121 : decode cX11_parted 121 = .ok (.lload 26, 2) := by decide +kernel
theorem dX11_parted_123 : decode cX11_parted 123 = .ok (.lload 28, 2) := by decide +kernel
theorem dX11_parted_125 : decode cX11_parted 125 = .ok (.lload 14, 2) := by decide +kernel
theorem dX11_parted_127 : decode cX11_parted 127 = .ok (.lload 16, 2) := by decide +kernel
theorem dX11_parted_129 : decode cX11_parted 129 = .ok (.invokevirtual 121, 3) := by decide +kernel
theorem dX11_parted_132 : decode cX11_parted 132 = .ok (.lload 10, 2) := by decide +kernel
theorem dX11_parted_134 : decode cX11_parted 134 = .ok (.aload_n 0, 1) := by decide +kernel
theorem dX11_parted_135 : decode cX11_parted 135 = .ok (.getfield 105, 3) := by decide +kernel
theorem dX11_parted_138 : decode cX11_parted 138 = .ok (.lsub, 1) := by decide +kernel
theorem dX11_parted_139 : decode cX11_parted 139 = .ok (.lstore 30, 2) := by decide +kernel
theorem dX11_parted_141 : decode cX11_parted 141 = .ok (.lload 12, 2) := by decide +kernel
theorem dX11_parted_143 : decode cX11_parted 143 = .ok (.aload_n 0, 1) := by decide +kernel
theorem dX11_parted_144 : decode cX11_parted 144 = .ok (.getfield 109, 3) := by decide +kernel
theorem dX11_parted_147 : decode cX11_parted 147 = .ok (.lsub, 1) := by decide +kernel
theorem dX11_parted_148 : decode cX11_parted 148 = .ok (.lstore 32, 2) := by decide +kernel
theorem dX11_parted_150 : decode cX11_parted 150 = .ok (.lload 14, 2) := by decide +kernel
theorem dX11_parted_152 : decode cX11_parted 152 = .ok (.lstore 10, 2) := by decide +kernel
theorem dX11_parted_154 : decode cX11_parted 154 = .ok (.lload 16, 2) := by decide +kernel
theorem dX11_parted_156 : decode cX11_parted 156 = .ok (.lstore 12, 2) := by decide +kernel
theorem dX11_parted_158 : decode cX11_parted 158 = .ok (.lload 30, 2) := by decide +kernel
theorem dX11_parted_160 : decode cX11_parted 160 = .ok (.lstore 14, 2) := by decide +kernel
theorem dX11_parted_162 : decode cX11_parted 162 = .ok (.lload 32, 2) := by decide +kernel
theorem dX11_parted_164 : decode cX11_parted 164 = .ok (.lstore 16, 2) := by decide +kernel
theorem dX11_parted_166 : decode cX11_parted 166 = .ok (.aload_n 0, 1) := by decide +kernel
theorem dX11_parted_167 : decode cX11_parted 167 = .ok (.lload 26, 2) := by decide +kernel
theorem dX11_parted_169 : decode cX11_parted 169 = .ok (.lload 28, 2) := by decide +kernel
theorem dX11_parted_171 : decode cX11_parted 171 = .ok (.lload 18, 2) := by decide +kernel
theorem dX11_parted_173 : decode cX11_parted 173 = .ok (.lload 20, 2) := by decide +kernel
theorem dX11_parted_175 : decode cX11_parted 175 = .ok (.invokevirtual 121, 3) := by decide +kernel
theorem dX11_parted_178 : decode cX11_parted 178 = .ok (.aload_n 0, 1) := by decide +kernel
theorem dX11_parted_179 : decode cX11_parted 179 = .ok (.getfield 284, 3) := by decide +kernel
theorem dX11_parted_182 : decode cX11_parted 182 = .ok (.aload_n 0, 1) := by decide +kernel
theorem dX11_parted_183 : decode cX11_parted 183 = .ok (.getfield 105, 3) := by decide +kernel
theorem dX11_parted_186 : decode cX11_parted 186 = .ok (.lsub, 1) := by decide +kernel
theorem dX11_parted_187 : decode cX11_parted 187 = .ok (.lstore 30, 2) := by decide +kernel
theorem dX11_parted_189 : decode cX11_parted 189 = .ok (.aload_n 0, 1) := by decide +kernel
theorem dX11_parted_190 : decode cX11_parted 190 = .ok (.getfield 287, 3) := by decide +kernel
theorem dX11_parted_193 : decode cX11_parted 193 = .ok (.aload_n 0, 1) := by decide +kernel
theorem dX11_parted_194 : decode cX11_parted 194 = .ok (.getfield 109, 3) := by decide +kernel
theorem dX11_parted_197 : decode cX11_parted 197 = .ok (.lsub, 1) := by decide +kernel
theorem dX11_parted_198 : decode cX11_parted 198 = .ok (.lstore 32, 2) := by decide +kernel
theorem dX11_parted_200 : decode cX11_parted 200 = .ok (.aload_n 0, 1) := by decide +kernel
theorem dX11_parted_201 : decode cX11_parted 201 = .ok (.lload 18, 2) := by decide +kernel
theorem dX11_parted_203 : decode cX11_parted 203 = .ok (.putfield 284, 3) := by decide +kernel
theorem dX11_parted_206 : decode cX11_parted 206 = .ok (.aload_n 0, 1) := by decide +kernel
theorem dX11_parted_207 : decode cX11_parted 207 = .ok (.lload 20, 2) := by decide +kernel
theorem dX11_parted_209 : decode cX11_parted 209 = .ok (.putfield 287, 3) := by decide +kernel
theorem dX11_parted_212 : decode cX11_parted 212 = .ok (.lload 30, 2) := by decide +kernel
theorem dX11_parted_214 : decode cX11_parted 214 = .ok (.lstore 18, 2) := by decide +kernel
theorem dX11_parted_216 : decode cX11_parted 216 = .ok (.lload 32, 2) := by decide +kernel
theorem dX11_parted_218 : decode cX11_parted 218 = .ok (.lstore 20, 2) := by decide +kernel
theorem dX11_parted_220 : decode cX11_parted 220 = .ok (.aload_n 0, 1) := by decide +kernel
theorem dX11_parted_221 : decode cX11_parted 221 = .ok (.lload 26, 2) := by decide +kernel
theorem dX11_parted_223 : decode cX11_parted 223 = .ok (.lload 28, 2) := by decide +kernel
theorem dX11_parted_225 : decode cX11_parted 225 = .ok (.lload 22, 2) := by decide +kernel
theorem dX11_parted_227 : decode cX11_parted 227 = .ok (.lload 24, 2) := by decide +kernel
theorem dX11_parted_229 : decode cX11_parted 229 = .ok (.invokevirtual 121, 3) := by decide +kernel
theorem dX11_parted_232 : decode cX11_parted 232 = .ok (.aload_n 0, 1) := by decide +kernel
theorem dX11_parted_233 : decode cX11_parted 233 = .ok (.getfield 290, 3) := by decide +kernel
theorem dX11_parted_236 : decode cX11_parted 236 = .ok (.aload_n 0, 1) := by decide +kernel
theorem dX11_parted_237 : decode cX11_parted 237 = .ok (.getfield 105, 3) := by decide +kernel
theorem dX11_parted_240 : decode cX11_parted 240 = .ok (.lsub, 1) := by decide +kernel
theorem dX11_parted_241 : decode cX11_parted 241 = .ok (.lstore 30, 2) := by decide +kernel
theorem dX11_parted_243 : decode cX11_parted 243 = .ok (.aload_n 0, 1) := by decide +kernel
theorem dX11_parted_244 : decode cX11_parted 244 = .ok (.getfield 293, 3) := by decide +kernel
theorem dX11_parted_247 : decode cX11_parted 247 = .ok (.aload_n 0, 1) := by decide +kernel
theorem dX11_parted_248 : decode cX11_parted 248 = .ok (.getfield 109, 3) := by decide +kernel
theorem dX11_parted_251 : decode cX11_parted 251 = .ok (.lsub, 1) := by decide +kernel
theorem dX11_parted_252 : decode cX11_parted 252 = .ok (.lstore 32, 2) := by decide +kernel
theorem dX11_parted_254 : decode cX11_parted 254 = .ok (.aload_n 0, 1) := by decide +kernel
theorem dX11_parted_255 : decode cX11_parted 255 = .ok (.lload 22, 2) := by decide +kernel
theorem dX11_parted_257 : decode cX11_parted 257 = .ok (.putfield 290, 3) := by decide +kernel
theorem dX11_parted_260 : decode cX11_parted 260 = .ok (.aload_n 0, 1) := by decide +kernel
theorem dX11_parted_261 : decode cX11_parted 261 = .ok (.lload 24, 2) := by decide +kernel
theorem dX11_parted_263 : decode cX11_parted 263 = .ok (.putfield 293, 3) := by decide +kernel
theorem dX11_parted_266 : decode cX11_parted 266 = .ok (.lload 30, 2) := by decide +kernel
theorem dX11_parted_268 : decode cX11_parted 268 = .ok (.lstore 22, 2) := by decide +kernel
theorem dX11_parted_270 : decode cX11_parted 270 = .ok (.lload 32, 2) := by decide +kernel
theorem dX11_parted_272 : decode cX11_parted 272 = .ok (.lstore 24, 2) := by decide +kernel
theorem dX11_parted_274 : decode cX11_parted 274 = .ok (.goto (-223), 3) := by decide +kernel
theorem dX11_parted_277 : decode cX11_parted 277 = .ok (.aload_n 0, 1) := by decide +kernel
theorem dX11_parted_278 : decode cX11_parted 278 = .ok (.lload 10, 2) := by decide +kernel
theorem dX11_parted_280 : decode cX11_parted 280 = .ok (.putfield 305, 3) := by decide +kernel
theorem dX11_parted_283 : decode cX11_parted 283 = .ok (.aload_n 0, 1) := by decide +kernel
theorem dX11_parted_284 : decode cX11_parted 284 = .ok (.lload 12, 2) := by decide +kernel
theorem dX11_parted_286 : decode cX11_parted 286 = .ok (.putfield 308, 3) := by decide +kernel
theorem dX11_parted_289 : decode cX11_parted 289 = .ok (.return_, 1) := by decide +kernel
theorem dX11_parting_0 : decode cX11_parting 0 = .ok (.iload_n 1, 1) := by decide +kernel
theorem dX11_parting_1 : decode cX11_parting 1 = .ok (.invokestatic 85, 3) := by decide +kernel
theorem dX11_parting_4 : decode cX11_parting 4 = .ok (.ifCond .eq 46, 3) := by decide +kernel
theorem dX11_parting_7 : decode cX11_parting 7 = .ok (.iload_n 2, 1) := by decide +kernel
theorem dX11_parting_8 : decode cX11_parting 8 = .ok (.invokestatic 85, 3) := by decide +kernel
theorem dX11_parting_11 : decode cX11_parting 11 = .ok (.ifCond .eq 39, 3) := by decide +kernel
theorem dX11_parting_14 : decode cX11_parting 14 = .ok (.aload_n 0, 1) := by decide +kernel
theorem dX11_parting_15 : decode cX11_parting 15 = .ok (.iload_n 1, 1) := by decide +kernel
theorem dX11_parting_16 : decode cX11_parting 16 = .ok (.iload_n 2, 1) := by decide +kernel
theorem dX11_parting_17 : decode cX11_parting 17 = .ok (.invokevirtual 269, 3) := by decide +kernel
theorem dX11_parting_20 : decode cX11_parting 20 = .ok (.ifCond .eq 30, 3) := by decide +kernel
theorem dX11_parting_23 : decode cX11_parting 23 = .ok (.iload_n 3, 1) := by decide +kernel
theorem dX11_parting_24 : decode cX11_parting 24 = .ok (.iconst (-1), 1) := by decide +kernel
theorem dX11_parting_25 : decode cX11_parting 25 = .ok (.if_icmp .lt 25, 3) := by decide +kernel
theorem dX11_parting_28 : decode cX11_parting 28 = .ok (.iload 4, 2) := by decide +kernel
theorem dX11_parting_30 : decode cX11_parting 30 = .ok (.i2l, 1) := by decide +kernel
theorem dX11_parting_31 : decode cX11_parting 31 = .ok (.lconst 0, 1) := by decide +kernel
theorem dX11_parting_32 : decode cX11_parting 32 = .ok (.iload_n 3, 1) := by decide +kernel
theorem dX11_parting_33 : decode cX11_parting 33 = .ok (.iconst (-1), 1) := by decide +kernel
theorem dX11_parting_34 : decode cX11_parting 34 = .ok (.if_icmp .ne 9, 3) := by decide +kernel
theorem dX11_parting_37 : decode cX11_parting 37 = .ok (.ldc2_w 174, 3) := by decide +kernel
theorem dX11_parting_40 : decode cX11_parting 40 = .ok (.goto 4, 3) := by decide +kernel
theorem dX11_parting_43 : decode cX11_parting 43 = .ok (.lconst 1, 1) := by decide +kernel
theorem dX11_parting_44 : decode cX11_parting 44 = .ok (.invokestatic 77, 3) := by decide +kernel
theorem dX11_parting_47 : decode cX11_parting 47 = .ok (.ifCond .ne 6, 3) := by decide +kernel
theorem dX11_parting_50 : decode cX11_parting 50 = .ok (.ldc 164, 2) := by decide +kernel
theorem dX11_parting_52 : decode cX11_parting 52 = .ok (.ireturn, 1) := by decide +kernel
theorem dX11_parting_53 : decode cX11_parting 53 = .ok (.aload_n 0, 1) := by decide +kernel
theorem dX11_parting_54 : decode cX11_parting 54 = .ok (.aload_n 0, 1) := by decide +kernel
theorem dX11_parting_55 : decode cX11_parting 55 = .ok (.getfield 20, 3) := by decide +kernel
theorem dX11_parting_58 : decode cX11_parting 58 = .ok (.iload_n 1, 1) := by decide +kernel
theorem dX11_parting_59 : decode cX11_parting 59 = .ok (.iaload, 1) := by decide +kernel
theorem dX11_parting_60 : decode cX11_parting 60 = .ok (.i2l, 1) := by decide +kernel
theorem dX11_parting_61 : decode cX11_parting 61 = .ok (.aload_n 0, 1) := by decide +kernel
theorem dX11_parting_62 : decode cX11_parting 62 = .ok (.getfield 24, 3) := by decide +kernel
theorem dX11_parting_65 : decode cX11_parting 65 = .ok (.iload_n 1, 1) := by decide +kernel
theorem dX11_parting_66 : decode cX11_parting 66 = .ok (.iaload, 1) := by decide +kernel
theorem dX11_parting_67 : decode cX11_parting 67 = .ok (.i2l, 1) := by decide +kernel
theorem dX11_parting_68 : decode cX11_parting 68 = .ok (.aload_n 0, 1) := by decide +kernel
theorem dX11_parting_69 : decode cX11_parting 69 = .ok (.getfield 20, 3) := by decide +kernel
theorem dX11_parting_72 : decode cX11_parting 72 = .ok (.iload_n 2, 1) := by decide +kernel
theorem dX11_parting_73 : decode cX11_parting 73 = .ok (.iaload, 1) := by decide +kernel
theorem dX11_parting_74 : decode cX11_parting 74 = .ok (.i2l, 1) := by decide +kernel
theorem dX11_parting_75 : decode cX11_parting 75 = .ok (.aload_n 0, 1) := by decide +kernel
theorem dX11_parting_76 : decode cX11_parting 76 = .ok (.getfield 24, 3) := by decide +kernel
theorem dX11_parting_79 : decode cX11_parting 79 = .ok (.iload_n 2, 1) := by decide +kernel
theorem dX11_parting_80 : decode cX11_parting 80 = .ok (.iaload, 1) := by decide +kernel
theorem dX11_parting_81 : decode cX11_parting 81 = .ok (.i2l, 1) := by decide +kernel
theorem dX11_parting_82 : decode cX11_parting 82 = .ok (.iload_n 3, 1) := by decide +kernel
theorem dX11_parting_83 : decode cX11_parting 83 = .ok (.invokevirtual 311, 3) := by decide +kernel
theorem dX11_parting_86 : decode cX11_parting 86 = .ok (.iload_n 3, 1) := by decide +kernel
theorem dX11_parting_87 : decode cX11_parting 87 = .ok (.aload_n 0, 1) := by decide +kernel
theorem dX11_parting_88 : decode cX11_parting 88 = .ok (.getfield 296, 3) := by decide +kernel
theorem dX11_parting_91 : decode cX11_parting 91 = .ok (.if_icmp .lt 6, 3) := by decide +kernel
theorem dX11_parting_94 : decode cX11_parting 94 = .ok (.ldc 164, 2) := by decide +kernel
theorem dX11_parting_96 : decode cX11_parting 96 = .ok (.ireturn, 1) := by decide +kernel
theorem dX11_parting_97 : decode cX11_parting 97 = .ok (.iload_n 3, 1) := by decide +kernel
theorem dX11_parting_98 : decode cX11_parting 98 = .ok (.ifCond .lt 21, 3) := by decide +kernel
theorem dX11_parting_101 : decode cX11_parting 101 = .ok (.iload 4, 2) := by decide +kernel
theorem dX11_parting_103 : decode cX11_parting 103 = .ok (.ifCond .ne 10, 3) := by decide +kernel
theorem dX11_parting_106 : decode cX11_parting 106 = .ok (.aload_n 0, 1) := by decide +kernel
theorem dX11_parting_107 : decode cX11_parting 107 = .ok (.getfield 299, 3) := by decide +kernel
theorem dX11_parting_110 : decode cX11_parting 110 = .ok (.goto 7, 3) := by decide +kernel
theorem dX11_parting_113 : decode cX11_parting 113 = .ok (.aload_n 0, 1) := by decide +kernel
theorem dX11_parting_114 : decode cX11_parting 114 = .ok (.getfield 302, 3) := by decide +kernel
theorem dX11_parting_117 : decode cX11_parting 117 = .ok (.l2i, 1) := by decide +kernel
theorem dX11_parting_118 : decode cX11_parting 118 = .ok (.ireturn, 1) := by decide +kernel
theorem dX11_parting_119 : decode cX11_parting 119 = .ok (.iload 4, 2) := by decide +kernel
theorem dX11_parting_121 : decode cX11_parting 121 = .ok (.tableswitch 65 0 4 #[35, 41, 47, 53, 59], 35) := by decide +kernel
theorem dX11_parting_156 : decode cX11_parting 156 = .ok (.aload_n 0, 1) := by decide +kernel
theorem dX11_parting_157 : decode cX11_parting 157 = .ok (.getfield 305, 3) := by decide +kernel
theorem dX11_parting_160 : decode cX11_parting 160 = .ok (.l2i, 1) := by decide +kernel
theorem dX11_parting_161 : decode cX11_parting 161 = .ok (.ireturn, 1) := by decide +kernel
theorem dX11_parting_162 : decode cX11_parting 162 = .ok (.aload_n 0, 1) := by decide +kernel
theorem dX11_parting_163 : decode cX11_parting 163 = .ok (.getfield 308, 3) := by decide +kernel
theorem dX11_parting_166 : decode cX11_parting 166 = .ok (.l2i, 1) := by decide +kernel
theorem dX11_parting_167 : decode cX11_parting 167 = .ok (.ireturn, 1) := by decide +kernel
theorem dX11_parting_168 : decode cX11_parting 168 = .ok (.aload_n 0, 1) := by decide +kernel
theorem dX11_parting_169 : decode cX11_parting 169 = .ok (.getfield 284, 3) := by decide +kernel
theorem dX11_parting_172 : decode cX11_parting 172 = .ok (.l2i, 1) := by decide +kernel
theorem dX11_parting_173 : decode cX11_parting 173 = .ok (.ireturn, 1) := by decide +kernel
theorem dX11_parting_174 : decode cX11_parting 174 = .ok (.aload_n 0, 1) := by decide +kernel
theorem dX11_parting_175 : decode cX11_parting 175 = .ok (.getfield 287, 3) := by decide +kernel
theorem dX11_parting_178 : decode cX11_parting 178 = .ok (.l2i, 1) := by decide +kernel
theorem dX11_parting_179 : decode cX11_parting 179 = .ok (.ireturn, 1) := by decide +kernel
theorem dX11_parting_180 : decode cX11_parting 180 = .ok (.aload_n 0, 1) := by decide +kernel
theorem dX11_parting_181 : decode cX11_parting 181 = .ok (.getfield 290, 3) := by decide +kernel
theorem dX11_parting_184 : decode cX11_parting 184 = .ok (.l2i, 1) := by decide +kernel
theorem dX11_parting_185 : decode cX11_parting 185 = .ok (.ireturn, 1) := by decide +kernel
theorem dX11_parting_186 : decode cX11_parting 186 = .ok (.aload_n 0, 1) := by decide +kernel
theorem dX11_parting_187 : decode cX11_parting 187 = .ok (.getfield 293, 3) := by decide +kernel
theorem dX11_parting_190 : decode cX11_parting 190 = .ok (.l2i, 1) := by decide +kernel
theorem dX11_parting_191 : decode cX11_parting 191 = .ok (.ireturn, 1) := by decide +kernel
theorem dX11_partings_0 : decode cX11_partings 0 = .ok (.iload_n 1, 1) := by decide +kernel
theorem dX11_partings_1 : decode cX11_partings 1 = .ok (.invokestatic 85, 3) := by decide +kernel
theorem dX11_partings_4 : decode cX11_partings 4 = .ok (.ifCond .eq 10, 3) := by decide +kernel
theorem dX11_partings_7 : decode cX11_partings 7 = .ok (.iload_n 2, 1) := by decide +kernel
theorem dX11_partings_8 : decode cX11_partings 8 = .ok (.invokestatic 85, 3) := by decide +kernel
theorem dX11_partings_11 : decode cX11_partings 11 = .ok (.ifCond .ne 5, 3) := by decide +kernel
theorem dX11_partings_14 : decode cX11_partings 14 = .ok (.iconst (-1), 1) := by decide +kernel
theorem dX11_partings_15 : decode cX11_partings 15 = .ok (.ireturn, 1) := by decide +kernel
theorem dX11_partings_16 : decode cX11_partings 16 = .ok (.aload_n 0, 1) := by decide +kernel
theorem dX11_partings_17 : decode cX11_partings 17 = .ok (.iload_n 1, 1) := by decide +kernel
theorem dX11_partings_18 : decode cX11_partings 18 = .ok (.iload_n 2, 1) := by decide +kernel
theorem dX11_partings_19 : decode cX11_partings 19 = .ok (.invokevirtual 269, 3) := by decide +kernel
theorem dX11_partings_22 : decode cX11_partings 22 = .ok (.ifCond .ne 6, 3) := by decide +kernel
theorem dX11_partings_25 : decode cX11_partings 25 = .ok (.bipush (-2), 2) := by decide +kernel
theorem dX11_partings_27 : decode cX11_partings 27 = .ok (.ireturn, 1) := by decide +kernel
theorem dX11_partings_28 : decode cX11_partings 28 = .ok (.aload_n 0, 1) := by decide +kernel
theorem dX11_partings_29 : decode cX11_partings 29 = .ok (.aload_n 0, 1) := by decide +kernel
theorem dX11_partings_30 : decode cX11_partings 30 = .ok (.getfield 20, 3) := by decide +kernel
theorem dX11_partings_33 : decode cX11_partings 33 = .ok (.iload_n 1, 1) := by decide +kernel
theorem dX11_partings_34 : decode cX11_partings 34 = .ok (.iaload, 1) := by decide +kernel
theorem dX11_partings_35 : decode cX11_partings 35 = .ok (.i2l, 1) := by decide +kernel
theorem dX11_partings_36 : decode cX11_partings 36 = .ok (.aload_n 0, 1) := by decide +kernel
theorem dX11_partings_37 : decode cX11_partings 37 = .ok (.getfield 24, 3) := by decide +kernel
theorem dX11_partings_40 : decode cX11_partings 40 = .ok (.iload_n 1, 1) := by decide +kernel
theorem dX11_partings_41 : decode cX11_partings 41 = .ok (.iaload, 1) := by decide +kernel
theorem dX11_partings_42 : decode cX11_partings 42 = .ok (.i2l, 1) := by decide +kernel
theorem dX11_partings_43 : decode cX11_partings 43 = .ok (.aload_n 0, 1) := by decide +kernel
theorem dX11_partings_44 : decode cX11_partings 44 = .ok (.getfield 20, 3) := by decide +kernel
theorem dX11_partings_47 : decode cX11_partings 47 = .ok (.iload_n 2, 1) := by decide +kernel
theorem dX11_partings_48 : decode cX11_partings 48 = .ok (.iaload, 1) := by decide +kernel
theorem dX11_partings_49 : decode cX11_partings 49 = .ok (.i2l, 1) := by decide +kernel
theorem dX11_partings_50 : decode cX11_partings 50 = .ok (.aload_n 0, 1) := by decide +kernel
theorem dX11_partings_51 : decode cX11_partings 51 = .ok (.getfield 24, 3) := by decide +kernel
theorem dX11_partings_54 : decode cX11_partings 54 = .ok (.iload_n 2, 1) := by decide +kernel
theorem dX11_partings_55 : decode cX11_partings 55 = .ok (.iaload, 1) := by decide +kernel
theorem dX11_partings_56 : decode cX11_partings 56 = .ok (.i2l, 1) := by decide +kernel
theorem dX11_partings_57 : decode cX11_partings 57 = .ok (.iconst (-1), 1) := by decide +kernel
theorem dX11_partings_58 : decode cX11_partings 58 = .ok (.invokevirtual 311, 3) := by decide +kernel
theorem dX11_partings_61 : decode cX11_partings 61 = .ok (.aload_n 0, 1) := by decide +kernel
theorem dX11_partings_62 : decode cX11_partings 62 = .ok (.getfield 296, 3) := by decide +kernel
theorem dX11_partings_65 : decode cX11_partings 65 = .ok (.ireturn, 1) := by decide +kernel
theorem dX11_parts_0 : decode cX11_parts 0 = .ok (.lload 5, 2) := by decide +kernel
theorem dX11_parts_2 : decode cX11_parts 2 = .ok (.lload 7, 2) := by decide +kernel
theorem dX11_parts_4 : decode cX11_parts 4 = .ok (.invokestatic 112, 3) := by decide +kernel
theorem dX11_parts_7 : decode cX11_parts 7 = .ok (.lstore 9, 2) := by decide +kernel
theorem dX11_parts_9 : decode cX11_parts 9 = .ok (.aload_n 0, 1) := by decide +kernel
theorem dX11_parts_10 : decode cX11_parts 10 = .ok (.lload_n 1, 1) := by decide +kernel
theorem dX11_parts_11 : decode cX11_parts 11 = .ok (.lload_n 3, 1) := by decide +kernel
theorem dX11_parts_12 : decode cX11_parts 12 = .ok (.lload 5, 2) := by decide +kernel
theorem dX11_parts_14 : decode cX11_parts 14 = .ok (.lload 7, 2) := by decide +kernel
theorem dX11_parts_16 : decode cX11_parts 16 = .ok (.lsub, 1) := by decide +kernel
theorem dX11_parts_17 : decode cX11_parts 17 = .ok (.lload 7, 2) := by decide +kernel
theorem dX11_parts_19 : decode cX11_parts 19 = .ok (.lneg, 1) := by decide +kernel
theorem dX11_parts_20 : decode cX11_parts 20 = .ok (.invokevirtual 121, 3) := by decide +kernel
theorem dX11_parts_23 : decode cX11_parts 23 = .ok (.aload_n 0, 1) := by decide +kernel
theorem dX11_parts_24 : decode cX11_parts 24 = .ok (.aload_n 0, 1) := by decide +kernel
theorem dX11_parts_25 : decode cX11_parts 25 = .ok (.getfield 105, 3) := by decide +kernel
theorem dX11_parts_28 : decode cX11_parts 28 = .ok (.lload 9, 2) := by decide +kernel
theorem dX11_parts_30 : decode cX11_parts 30 = .ok (.invokestatic 125, 3) := by decide +kernel
theorem dX11_parts_33 : decode cX11_parts 33 = .ok (.aload_n 0, 1) := by decide +kernel
theorem dX11_parts_34 : decode cX11_parts 34 = .ok (.getfield 109, 3) := by decide +kernel
theorem dX11_parts_37 : decode cX11_parts 37 = .ok (.lload 9, 2) := by decide +kernel
theorem dX11_parts_39 : decode cX11_parts 39 = .ok (.invokestatic 125, 3) := by decide +kernel
theorem dX11_parts_42 : decode cX11_parts 42 = .ok (.invokevirtual 115, 3) := by decide +kernel
theorem dX11_parts_45 : decode cX11_parts 45 = .ok (.return_, 1) := by decide +kernel
theorem dX11_placeNow_0 : decode cX11_placeNow 0 = .ok (.aload_n 0, 1) := by decide +kernel
theorem dX11_placeNow_1 : decode cX11_placeNow 1 = .ok (.getfield 253, 3) := by decide +kernel
theorem dX11_placeNow_4 : decode cX11_placeNow 4 = .ok (.aload_n 0, 1) := by decide +kernel
theorem dX11_placeNow_5 : decode cX11_placeNow 5 = .ok (.getfield 109, 3) := by decide +kernel
theorem dX11_placeNow_8 : decode cX11_placeNow 8 = .ok (.lmul, 1) := by decide +kernel
theorem dX11_placeNow_9 : decode cX11_placeNow 9 = .ok (.aload_n 0, 1) := by decide +kernel
theorem dX11_placeNow_10 : decode cX11_placeNow 10 = .ok (.getfield 105, 3) := by decide +kernel
theorem dX11_placeNow_13 : decode cX11_placeNow 13 = .ok (.ladd, 1) := by decide +kernel
theorem dX11_placeNow_14 : decode cX11_placeNow 14 = .ok (.l2i, 1) := by decide +kernel
theorem dX11_placeNow_15 : decode cX11_placeNow 15 = .ok (.ireturn, 1) := by decide +kernel
theorem dX11_pointsOf_0 : decode cX11_pointsOf 0 = .ok (.iconst 0, 1) := by decide +kernel
theorem dX11_pointsOf_1 : decode cX11_pointsOf 1 = .ok (.istore_n 2, 1) := by decide +kernel
theorem dX11_pointsOf_2 : decode cX11_pointsOf 2 = .ok (.iload_n 2, 1) := by decide +kernel
theorem dX11_pointsOf_3 : decode cX11_pointsOf 3 = .ok (.iload_n 1, 1) := by decide +kernel
theorem dX11_pointsOf_4 : decode cX11_pointsOf 4 = .ok (.if_icmp .ge 16, 3) := by decide +kernel
theorem dX11_pointsOf_7 : decode cX11_pointsOf 7 = .ok (.aload_n 0, 1) := by decide +kernel
theorem dX11_pointsOf_8 : decode cX11_pointsOf 8 = .ok (.getfield 51, 3) := by decide +kernel
theorem dX11_pointsOf_11 : decode cX11_pointsOf 11 = .ok (.iload_n 2, 1) := by decide +kernel
theorem dX11_pointsOf_12 : decode cX11_pointsOf 12 = .ok (.iconst 0, 1) := by decide +kernel
theorem dX11_pointsOf_13 : decode cX11_pointsOf 13 = .ok (.iastore, 1) := by decide +kernel
theorem dX11_pointsOf_14 : decode cX11_pointsOf 14 = .ok (.iinc 2 1, 3) := by decide +kernel
theorem dX11_pointsOf_17 : decode cX11_pointsOf 17 = .ok (.goto (-15), 3) := by decide +kernel
theorem dX11_pointsOf_20 : decode cX11_pointsOf 20 = .ok (.iconst 0, 1) := by decide +kernel
theorem dX11_pointsOf_21 : decode cX11_pointsOf 21 = .ok (.istore_n 2, 1) := by decide +kernel
theorem dX11_pointsOf_22 : decode cX11_pointsOf 22 = .ok (.iload_n 2, 1) := by decide +kernel
theorem dX11_pointsOf_23 : decode cX11_pointsOf 23 = .ok (.iload_n 1, 1) := by decide +kernel
theorem dX11_pointsOf_24 : decode cX11_pointsOf 24 = .ok (.if_icmp .ge 39, 3) := by decide +kernel
theorem dX11_pointsOf_27 : decode cX11_pointsOf 27 = .ok (.aload_n 0, 1) := by decide +kernel
theorem dX11_pointsOf_28 : decode cX11_pointsOf 28 = .ok (.getfield 51, 3) := by decide +kernel
theorem dX11_pointsOf_31 : decode cX11_pointsOf 31 = .ok (.iload_n 2, 1) := by decide +kernel
theorem dX11_pointsOf_32 : decode cX11_pointsOf 32 = .ok (.iload_n 2, 1) := by decide +kernel
theorem dX11_pointsOf_33 : decode cX11_pointsOf 33 = .ok (.imul, 1) := by decide +kernel
theorem dX11_pointsOf_34 : decode cX11_pointsOf 34 = .ok (.iload_n 1, 1) := by decide +kernel
theorem dX11_pointsOf_35 : decode cX11_pointsOf 35 = .ok (.irem, 1) := by decide +kernel
theorem dX11_pointsOf_36 : decode cX11_pointsOf 36 = .ok (.iload_n 2, 1) := by decide +kernel
theorem dX11_pointsOf_37 : decode cX11_pointsOf 37 = .ok (.imul, 1) := by decide +kernel
theorem dX11_pointsOf_38 : decode cX11_pointsOf 38 = .ok (.iload_n 1, 1) := by decide +kernel
theorem dX11_pointsOf_39 : decode cX11_pointsOf 39 = .ok (.irem, 1) := by decide +kernel
theorem dX11_pointsOf_40 : decode cX11_pointsOf 40 = .ok (.aload_n 0, 1) := by decide +kernel
theorem dX11_pointsOf_41 : decode cX11_pointsOf 41 = .ok (.getfield 51, 3) := by decide +kernel
theorem dX11_pointsOf_44 : decode cX11_pointsOf 44 = .ok (.iload_n 2, 1) := by decide +kernel
theorem dX11_pointsOf_45 : decode cX11_pointsOf 45 = .ok (.iload_n 2, 1) := by decide +kernel
theorem dX11_pointsOf_46 : decode cX11_pointsOf 46 = .ok (.imul, 1) := by decide +kernel
theorem dX11_pointsOf_47 : decode cX11_pointsOf 47 = .ok (.iload_n 1, 1) := by decide +kernel
theorem dX11_pointsOf_48 : decode cX11_pointsOf 48 = .ok (.irem, 1) := by decide +kernel
theorem dX11_pointsOf_49 : decode cX11_pointsOf 49 = .ok (.iload_n 2, 1) := by decide +kernel
theorem dX11_pointsOf_50 : decode cX11_pointsOf 50 = .ok (.imul, 1) := by decide +kernel
theorem dX11_pointsOf_51 : decode cX11_pointsOf 51 = .ok (.iload_n 1, 1) := by decide +kernel
theorem dX11_pointsOf_52 : decode cX11_pointsOf 52 = .ok (.irem, 1) := by decide +kernel
theorem dX11_pointsOf_53 : decode cX11_pointsOf 53 = .ok (.iaload, 1) := by decide +kernel
theorem dX11_pointsOf_54 : decode cX11_pointsOf 54 = .ok (.iconst 1, 1) := by decide +kernel
theorem dX11_pointsOf_55 : decode cX11_pointsOf 55 = .ok (.iadd, 1) := by decide +kernel
theorem dX11_pointsOf_56 : decode cX11_pointsOf 56 = .ok (.iastore, 1) := by decide +kernel
theorem dX11_pointsOf_57 : decode cX11_pointsOf 57 = .ok (.iinc 2 1, 3) := by decide +kernel
theorem dX11_pointsOf_60 : decode cX11_pointsOf 60 = .ok (.goto (-38), 3) := by decide +kernel
theorem dX11_pointsOf_63 : decode cX11_pointsOf 63 = .ok (.iconst 0, 1) := by decide +kernel
theorem dX11_pointsOf_64 : decode cX11_pointsOf 64 = .ok (.istore_n 2, 1) := by decide +kernel
theorem dX11_pointsOf_65 : decode cX11_pointsOf 65 = .ok (.iconst 0, 1) := by decide +kernel
theorem dX11_pointsOf_66 : decode cX11_pointsOf 66 = .ok (.istore_n 3, 1) := by decide +kernel
theorem dX11_pointsOf_67 : decode cX11_pointsOf 67 = .ok (.iload_n 3, 1) := by decide +kernel
theorem dX11_pointsOf_68 : decode cX11_pointsOf 68 = .ok (.iload_n 1, 1) := by decide +kernel
theorem dX11_pointsOf_69 : decode cX11_pointsOf 69 = .ok (.if_icmp .ge 31, 3) := by decide +kernel
theorem dX11_pointsOf_72 : decode cX11_pointsOf 72 = .ok (.iload_n 2, 1) := by decide +kernel
theorem dX11_pointsOf_73 : decode cX11_pointsOf 73 = .ok (.aload_n 0, 1) := by decide +kernel
theorem dX11_pointsOf_74 : decode cX11_pointsOf 74 = .ok (.getfield 51, 3) := by decide +kernel
theorem dX11_pointsOf_77 : decode cX11_pointsOf 77 = .ok (.iload_n 3, 1) := by decide +kernel
theorem dX11_pointsOf_78 : decode cX11_pointsOf 78 = .ok (.iaload, 1) := by decide +kernel
theorem dX11_pointsOf_79 : decode cX11_pointsOf 79 = .ok (.aload_n 0, 1) := by decide +kernel
theorem dX11_pointsOf_80 : decode cX11_pointsOf 80 = .ok (.getfield 51, 3) := by decide +kernel
theorem dX11_pointsOf_83 : decode cX11_pointsOf 83 = .ok (.iload_n 1, 1) := by decide +kernel
theorem dX11_pointsOf_84 : decode cX11_pointsOf 84 = .ok (.iconst 1, 1) := by decide +kernel
theorem dX11_pointsOf_85 : decode cX11_pointsOf 85 = .ok (.iadd, 1) := by decide +kernel
theorem dX11_pointsOf_86 : decode cX11_pointsOf 86 = .ok (.iload_n 3, 1) := by decide +kernel
theorem dX11_pointsOf_87 : decode cX11_pointsOf 87 = .ok (.isub, 1) := by decide +kernel
theorem dX11_pointsOf_88 : decode cX11_pointsOf 88 = .ok (.iload_n 1, 1) := by decide +kernel
theorem dX11_pointsOf_89 : decode cX11_pointsOf 89 = .ok (.irem, 1) := by decide +kernel
theorem dX11_pointsOf_90 : decode cX11_pointsOf 90 = .ok (.iaload, 1) := by decide +kernel
theorem dX11_pointsOf_91 : decode cX11_pointsOf 91 = .ok (.imul, 1) := by decide +kernel
theorem dX11_pointsOf_92 : decode cX11_pointsOf 92 = .ok (.iadd, 1) := by decide +kernel
theorem dX11_pointsOf_93 : decode cX11_pointsOf 93 = .ok (.istore_n 2, 1) := by decide +kernel
theorem dX11_pointsOf_94 : decode cX11_pointsOf 94 = .ok (.iinc 3 1, 3) := by decide +kernel
theorem dX11_pointsOf_97 : decode cX11_pointsOf 97 = .ok (.goto (-30), 3) := by decide +kernel
theorem dX11_pointsOf_100 : decode cX11_pointsOf 100 = .ok (.iload_n 2, 1) := by decide +kernel
theorem dX11_pointsOf_101 : decode cX11_pointsOf 101 = .ok (.ireturn, 1) := by decide +kernel
theorem dX11_power_0 : decode cX11_power 0 = .ok (.iload_n 1, 1) := by decide +kernel
theorem dX11_power_1 : decode cX11_power 1 = .ok (.iload_n 3, 1) := by decide +kernel
theorem dX11_power_2 : decode cX11_power 2 = .ok (.iload 4, 2) := by decide +kernel
theorem dX11_power_4 : decode cX11_power 4 = .ok (.invokestatic 265, 3) := by decide +kernel
theorem dX11_power_7 : decode cX11_power 7 = .ok (.ifCond .eq 15, 3) := by decide +kernel
theorem dX11_power_10 : decode cX11_power 10 = .ok (.iload_n 2, 1) := by decide +kernel
theorem dX11_power_11 : decode cX11_power 11 = .ok (.i2l, 1) := by decide +kernel
theorem dX11_power_12 : decode cX11_power 12 = .ok (.lconst 0, 1) := by decide +kernel
theorem dX11_power_13 : decode cX11_power 13 = .ok (.ldc2_w 279, 3) := by decide +kernel
theorem dX11_power_16 : decode cX11_power 16 = .ok (.invokestatic 77, 3) := by decide +kernel
theorem dX11_power_19 : decode cX11_power 19 = .ok (.ifCond .ne 5, 3) := by decide +kernel
theorem dX11_power_22 : decode cX11_power 22 = .ok (.iconst (-1), 1) := by decide +kernel
theorem dX11_power_23 : decode cX11_power 23 = .ok (.ireturn, 1) := by decide +kernel
theorem dX11_power_24 : decode cX11_power 24 = .ok (.aload_n 0, 1) := by decide +kernel
theorem dX11_power_25 : decode cX11_power 25 = .ok (.iload_n 1, 1) := by decide +kernel
theorem dX11_power_26 : decode cX11_power 26 = .ok (.iload_n 3, 1) := by decide +kernel
theorem dX11_power_27 : decode cX11_power 27 = .ok (.invokevirtual 269, 3) := by decide +kernel
theorem dX11_power_30 : decode cX11_power 30 = .ok (.ifCond .ne 6, 3) := by decide +kernel
theorem dX11_power_33 : decode cX11_power 33 = .ok (.bipush (-2), 2) := by decide +kernel
theorem dX11_power_35 : decode cX11_power 35 = .ok (.ireturn, 1) := by decide +kernel
theorem dX11_power_36 : decode cX11_power 36 = .ok (.aload_n 0, 1) := by decide +kernel
theorem dX11_power_37 : decode cX11_power 37 = .ok (.iload_n 3, 1) := by decide +kernel
theorem dX11_power_38 : decode cX11_power 38 = .ok (.invokevirtual 178, 3) := by decide +kernel
theorem dX11_power_41 : decode cX11_power 41 = .ok (.ifCond .eq 6, 3) := by decide +kernel
theorem dX11_power_44 : decode cX11_power 44 = .ok (.bipush (-3), 2) := by decide +kernel
theorem dX11_power_46 : decode cX11_power 46 = .ok (.ireturn, 1) := by decide +kernel
theorem dX11_power_47 : decode cX11_power 47 = .ok (.aload_n 0, 1) := by decide +kernel
theorem dX11_power_48 : decode cX11_power 48 = .ok (.aload_n 0, 1) := by decide +kernel
theorem dX11_power_49 : decode cX11_power 49 = .ok (.getfield 20, 3) := by decide +kernel
theorem dX11_power_52 : decode cX11_power 52 = .ok (.iload_n 3, 1) := by decide +kernel
theorem dX11_power_53 : decode cX11_power 53 = .ok (.iaload, 1) := by decide +kernel
theorem dX11_power_54 : decode cX11_power 54 = .ok (.i2l, 1) := by decide +kernel
theorem dX11_power_55 : decode cX11_power 55 = .ok (.aload_n 0, 1) := by decide +kernel
theorem dX11_power_56 : decode cX11_power 56 = .ok (.getfield 24, 3) := by decide +kernel
theorem dX11_power_59 : decode cX11_power 59 = .ok (.iload_n 3, 1) := by decide +kernel
theorem dX11_power_60 : decode cX11_power 60 = .ok (.iaload, 1) := by decide +kernel
theorem dX11_power_61 : decode cX11_power 61 = .ok (.i2l, 1) := by decide +kernel
theorem dX11_power_62 : decode cX11_power 62 = .ok (.invokevirtual 273, 3) := by decide +kernel
theorem dX11_power_65 : decode cX11_power 65 = .ok (.aload_n 0, 1) := by decide +kernel
theorem dX11_power_66 : decode cX11_power 66 = .ok (.aload_n 0, 1) := by decide +kernel
theorem dX11_power_67 : decode cX11_power 67 = .ok (.getfield 20, 3) := by decide +kernel
theorem dX11_power_70 : decode cX11_power 70 = .ok (.iload_n 1, 1) := by decide +kernel
theorem dX11_power_71 : decode cX11_power 71 = .ok (.iaload, 1) := by decide +kernel
theorem dX11_power_72 : decode cX11_power 72 = .ok (.i2l, 1) := by decide +kernel
theorem dX11_power_73 : decode cX11_power 73 = .ok (.aload_n 0, 1) := by decide +kernel
theorem dX11_power_74 : decode cX11_power 74 = .ok (.getfield 24, 3) := by decide +kernel
theorem dX11_power_77 : decode cX11_power 77 = .ok (.iload_n 1, 1) := by decide +kernel
theorem dX11_power_78 : decode cX11_power 78 = .ok (.iaload, 1) := by decide +kernel
theorem dX11_power_79 : decode cX11_power 79 = .ok (.i2l, 1) := by decide +kernel
theorem dX11_power_80 : decode cX11_power 80 = .ok (.iload_n 2, 1) := by decide +kernel
theorem dX11_power_81 : decode cX11_power 81 = .ok (.invokevirtual 281, 3) := by decide +kernel
theorem dX11_power_84 : decode cX11_power 84 = .ok (.aload_n 0, 1) := by decide +kernel
theorem dX11_power_85 : decode cX11_power 85 = .ok (.iload 4, 2) := by decide +kernel
theorem dX11_power_87 : decode cX11_power 87 = .ok (.invokevirtual 276, 3) := by decide +kernel
theorem dX11_power_90 : decode cX11_power 90 = .ok (.ireturn, 1) := by decide +kernel
theorem dX11_powerBy_0 : decode cX11_powerBy 0 = .ok (.iconst 1, 1) := by decide +kernel
theorem dX11_powerBy_1 : decode cX11_powerBy 1 = .ok (.istore_n 3, 1) := by decide +kernel
theorem dX11_powerBy_2 : decode cX11_powerBy 2 = .ok (.iload_n 0, 1) := by decide +kernel
theorem dX11_powerBy_3 : decode cX11_powerBy 3 = .ok (.iload_n 2, 1) := by decide +kernel
theorem dX11_powerBy_4 : decode cX11_powerBy 4 = .ok (.irem, 1) := by decide +kernel
theorem dX11_powerBy_5 : decode cX11_powerBy 5 = .ok (.istore 4, 2) := by decide +kernel
theorem dX11_powerBy_7 : decode cX11_powerBy 7 = .ok (.iload_n 1, 1) := by decide +kernel
theorem dX11_powerBy_8 : decode cX11_powerBy 8 = .ok (.istore 5, 2) := by decide +kernel
theorem dX11_powerBy_10 : decode cX11_powerBy 10 = .ok (.iload 5, 2) := by decide +kernel
theorem dX11_powerBy_12 : decode cX11_powerBy 12 = .ok (.ifCond .le 40, 3) := by decide +kernel
theorem dX11_powerBy_15 : decode cX11_powerBy 15 = .ok (.iload 5, 2) := by decide +kernel
theorem dX11_powerBy_17 : decode cX11_powerBy 17 = .ok (.iconst 2, 1) := by decide +kernel
theorem dX11_powerBy_18 : decode cX11_powerBy 18 = .ok (.irem, 1) := by decide +kernel
theorem dX11_powerBy_19 : decode cX11_powerBy 19 = .ok (.iconst 1, 1) := by decide +kernel
theorem dX11_powerBy_20 : decode cX11_powerBy 20 = .ok (.if_icmp .ne 12, 3) := by decide +kernel
theorem dX11_powerBy_23 : decode cX11_powerBy 23 = .ok (.iload_n 3, 1) := by decide +kernel
theorem dX11_powerBy_24 : decode cX11_powerBy 24 = .ok (.iload 4, 2) := by decide +kernel
theorem dX11_powerBy_26 : decode cX11_powerBy 26 = .ok (.imul, 1) := by decide +kernel
theorem dX11_powerBy_27 : decode cX11_powerBy 27 = .ok (.iload_n 2, 1) := by decide +kernel
theorem dX11_powerBy_28 : decode cX11_powerBy 28 = .ok (.irem, 1) := by decide +kernel
theorem dX11_powerBy_29 : decode cX11_powerBy 29 = .ok (.goto 4, 3) := by decide +kernel
theorem dX11_powerBy_32 : decode cX11_powerBy 32 = .ok (.iload_n 3, 1) := by decide +kernel
theorem dX11_powerBy_33 : decode cX11_powerBy 33 = .ok (.istore_n 3, 1) := by decide +kernel
theorem dX11_powerBy_34 : decode cX11_powerBy 34 = .ok (.iload 4, 2) := by decide +kernel
theorem dX11_powerBy_36 : decode cX11_powerBy 36 = .ok (.iload 4, 2) := by decide +kernel
theorem dX11_powerBy_38 : decode cX11_powerBy 38 = .ok (.imul, 1) := by decide +kernel
theorem dX11_powerBy_39 : decode cX11_powerBy 39 = .ok (.iload_n 2, 1) := by decide +kernel
theorem dX11_powerBy_40 : decode cX11_powerBy 40 = .ok (.irem, 1) := by decide +kernel
theorem dX11_powerBy_41 : decode cX11_powerBy 41 = .ok (.istore 4, 2) := by decide +kernel
theorem dX11_powerBy_43 : decode cX11_powerBy 43 = .ok (.iload 5, 2) := by decide +kernel
theorem dX11_powerBy_45 : decode cX11_powerBy 45 = .ok (.iconst 2, 1) := by decide +kernel
theorem dX11_powerBy_46 : decode cX11_powerBy 46 = .ok (.idiv, 1) := by decide +kernel
theorem dX11_powerBy_47 : decode cX11_powerBy 47 = .ok (.istore 5, 2) := by decide +kernel
theorem dX11_powerBy_49 : decode cX11_powerBy 49 = .ok (.goto (-39), 3) := by decide +kernel
theorem dX11_powerBy_52 : decode cX11_powerBy 52 = .ok (.iload_n 3, 1) := by decide +kernel
theorem dX11_powerBy_53 : decode cX11_powerBy 53 = .ok (.ireturn, 1) := by decide +kernel
theorem dX11_powers_0 : decode cX11_powers 0 = .ok (.aload_n 0, 1) := by decide +kernel
theorem dX11_powers_1 : decode cX11_powers 1 = .ok (.lload_n 1, 1) := by decide +kernel
theorem dX11_powers_2 : decode cX11_powers 2 = .ok (.lload_n 3, 1) := by decide +kernel
theorem dX11_powers_3 : decode cX11_powers 3 = .ok (.invokevirtual 259, 3) := by decide +kernel
theorem dX11_powers_6 : decode cX11_powers 6 = .ok (.aload_n 0, 1) := by decide +kernel
theorem dX11_powers_7 : decode cX11_powers 7 = .ok (.getfield 105, 3) := by decide +kernel
theorem dX11_powers_10 : decode cX11_powers 10 = .ok (.lstore 6, 2) := by decide +kernel
theorem dX11_powers_12 : decode cX11_powers 12 = .ok (.aload_n 0, 1) := by decide +kernel
theorem dX11_powers_13 : decode cX11_powers 13 = .ok (.getfield 109, 3) := by decide +kernel
theorem dX11_powers_16 : decode cX11_powers 16 = .ok (.lstore 8, 2) := by decide +kernel
theorem dX11_powers_18 : decode cX11_powers 18 = .ok (.aload_n 0, 1) := by decide +kernel
theorem dX11_powers_19 : decode cX11_powers 19 = .ok (.lconst 1, 1) := by decide +kernel
theorem dX11_powers_20 : decode cX11_powers 20 = .ok (.lconst 0, 1) := by decide +kernel
theorem dX11_powers_21 : decode cX11_powers 21 = .ok (.invokevirtual 259, 3) := by decide +kernel
theorem dX11_powers_24 : decode cX11_powers 24 = .ok (.aload_n 0, 1) := by decide +kernel
theorem dX11_powers_25 : decode cX11_powers 25 = .ok (.getfield 105, 3) := by decide +kernel
theorem dX11_powers_28 : decode cX11_powers 28 = .ok (.lstore 10, 2) := by decide +kernel
theorem dX11_powers_30 : decode cX11_powers 30 = .ok (.aload_n 0, 1) := by decide +kernel
theorem dX11_powers_31 : decode cX11_powers 31 = .ok (.getfield 109, 3) := by decide +kernel
theorem dX11_powers_34 : decode cX11_powers 34 = .ok (.lstore 12, 2) := by decide +kernel
theorem dX11_powers_36 : decode cX11_powers 36 = .ok (.iload 5, 2) := by decide +kernel
theorem dX11_powers_38 : decode cX11_powers 38 = .ok (.istore 14, 2) := by decide +kernel
theorem dX11_powers_40 : decode cX11_powers 40 = .ok (.iload 14, 2) := by decide +kernel
theorem dX11_powers_42 : decode cX11_powers 42 = .ok (.ifCond .le 68, 3) := by decide +kernel
theorem dX11_powers_45 : decode cX11_powers 45 = .ok (.iload 14, 2) := by decide +kernel
theorem dX11_powers_47 : decode cX11_powers 47 = .ok (.iconst 2, 1) := by decide +kernel
theorem dX11_powers_48 : decode cX11_powers 48 = .ok (.irem, 1) := by decide +kernel
theorem dX11_powers_49 : decode cX11_powers 49 = .ok (.iconst 1, 1) := by decide +kernel
theorem dX11_powers_50 : decode cX11_powers 50 = .ok (.if_icmp .ne 27, 3) := by decide +kernel
theorem dX11_powers_53 : decode cX11_powers 53 = .ok (.aload_n 0, 1) := by decide +kernel
theorem dX11_powers_54 : decode cX11_powers 54 = .ok (.lload 10, 2) := by decide +kernel
theorem dX11_powers_56 : decode cX11_powers 56 = .ok (.lload 12, 2) := by decide +kernel
theorem dX11_powers_58 : decode cX11_powers 58 = .ok (.lload 6, 2) := by decide +kernel
theorem dX11_powers_60 : decode cX11_powers 60 = .ok (.lload 8, 2) := by decide +kernel
theorem dX11_powers_62 : decode cX11_powers 62 = .ok (.invokevirtual 262, 3) := by decide +kernel
theorem dX11_powers_65 : decode cX11_powers 65 = .ok (.aload_n 0, 1) := by decide +kernel
theorem dX11_powers_66 : decode cX11_powers 66 = .ok (.getfield 105, 3) := by decide +kernel
theorem dX11_powers_69 : decode cX11_powers 69 = .ok (.lstore 10, 2) := by decide +kernel
theorem dX11_powers_71 : decode cX11_powers 71 = .ok (.aload_n 0, 1) := by decide +kernel
theorem dX11_powers_72 : decode cX11_powers 72 = .ok (.getfield 109, 3) := by decide +kernel
theorem dX11_powers_75 : decode cX11_powers 75 = .ok (.lstore 12, 2) := by decide +kernel
theorem dX11_powers_77 : decode cX11_powers 77 = .ok (.aload_n 0, 1) := by decide +kernel
theorem dX11_powers_78 : decode cX11_powers 78 = .ok (.lload 6, 2) := by decide +kernel
theorem dX11_powers_80 : decode cX11_powers 80 = .ok (.lload 8, 2) := by decide +kernel
theorem dX11_powers_82 : decode cX11_powers 82 = .ok (.lload 6, 2) := by decide +kernel
theorem dX11_powers_84 : decode cX11_powers 84 = .ok (.lload 8, 2) := by decide +kernel
theorem dX11_powers_86 : decode cX11_powers 86 = .ok (.invokevirtual 262, 3) := by decide +kernel
theorem dX11_powers_89 : decode cX11_powers 89 = .ok (.aload_n 0, 1) := by decide +kernel
theorem dX11_powers_90 : decode cX11_powers 90 = .ok (.getfield 105, 3) := by decide +kernel
theorem dX11_powers_93 : decode cX11_powers 93 = .ok (.lstore 6, 2) := by decide +kernel
theorem dX11_powers_95 : decode cX11_powers 95 = .ok (.aload_n 0, 1) := by decide +kernel
theorem dX11_powers_96 : decode cX11_powers 96 = .ok (.getfield 109, 3) := by decide +kernel
theorem dX11_powers_99 : decode cX11_powers 99 = .ok (.lstore 8, 2) := by decide +kernel
theorem dX11_powers_101 : decode cX11_powers 101 = .ok (.iload 14, 2) := by decide +kernel
theorem dX11_powers_103 : decode cX11_powers 103 = .ok (.iconst 2, 1) := by decide +kernel
theorem dX11_powers_104 : decode cX11_powers 104 = .ok (.idiv, 1) := by decide +kernel
theorem dX11_powers_105 : decode cX11_powers 105 = .ok (.istore 14, 2) := by decide +kernel
theorem dX11_powers_107 : decode cX11_powers 107 = .ok (.goto (-67), 3) := by decide +kernel
theorem dX11_powers_110 : decode cX11_powers 110 = .ok (.aload_n 0, 1) := by decide +kernel
theorem dX11_powers_111 : decode cX11_powers 111 = .ok (.lload 10, 2) := by decide +kernel
theorem dX11_powers_113 : decode cX11_powers 113 = .ok (.lload 12, 2) := by decide +kernel
theorem dX11_powers_115 : decode cX11_powers 115 = .ok (.invokevirtual 115, 3) := by decide +kernel
theorem dX11_powers_118 : decode cX11_powers 118 = .ok (.return_, 1) := by decide +kernel
theorem dX11_prime_0 : decode cX11_prime 0 = .ok (.iload_n 1, 1) := by decide +kernel
theorem dX11_prime_1 : decode cX11_prime 1 = .ok (.invokestatic 378, 3) := by decide +kernel
theorem dX11_prime_4 : decode cX11_prime 4 = .ok (.ifCond .eq 15, 3) := by decide +kernel
theorem dX11_prime_7 : decode cX11_prime 7 = .ok (.iload_n 2, 1) := by decide +kernel
theorem dX11_prime_8 : decode cX11_prime 8 = .ok (.i2l, 1) := by decide +kernel
theorem dX11_prime_9 : decode cX11_prime 9 = .ok (.lconst 0, 1) := by decide +kernel
theorem dX11_prime_10 : decode cX11_prime 10 = .ok (.ldc2_w 75, 3) := by decide +kernel
theorem dX11_prime_13 : decode cX11_prime 13 = .ok (.invokestatic 77, 3) := by decide +kernel
theorem dX11_prime_16 : decode cX11_prime 16 = .ok (.ifCond .ne 6, 3) := by decide +kernel
theorem dX11_prime_19 : decode cX11_prime 19 = .ok (.ldc 164, 2) := by decide +kernel
theorem dX11_prime_21 : decode cX11_prime 21 = .ok (.ireturn, 1) := by decide +kernel
theorem dX11_prime_22 : decode cX11_prime 22 = .ok (.aload_n 0, 1) := by decide +kernel
theorem dX11_prime_23 : decode cX11_prime 23 = .ok (.iload_n 1, 1) := by decide +kernel
theorem dX11_prime_24 : decode cX11_prime 24 = .ok (.invokevirtual 211, 3) := by decide +kernel
theorem dX11_prime_27 : decode cX11_prime 27 = .ok (.iload_n 2, 1) := by decide +kernel
theorem dX11_prime_28 : decode cX11_prime 28 = .ok (.tableswitch 103 0 5 #[40, 46, 52, 67, 75, 89], 40) := by decide +kernel
theorem dX11_prime_68 : decode cX11_prime 68 = .ok (.aload_n 0, 1) := by decide +kernel
theorem dX11_prime_69 : decode cX11_prime 69 = .ok (.getfield 105, 3) := by decide +kernel
theorem dX11_prime_72 : decode cX11_prime 72 = .ok (.l2i, 1) := by decide +kernel
theorem dX11_prime_73 : decode cX11_prime 73 = .ok (.ireturn, 1) := by decide +kernel
theorem dX11_prime_74 : decode cX11_prime 74 = .ok (.aload_n 0, 1) := by decide +kernel
theorem dX11_prime_75 : decode cX11_prime 75 = .ok (.getfield 109, 3) := by decide +kernel
theorem dX11_prime_78 : decode cX11_prime 78 = .ok (.l2i, 1) := by decide +kernel
theorem dX11_prime_79 : decode cX11_prime 79 = .ok (.ireturn, 1) := by decide +kernel
theorem dX11_prime_80 : decode cX11_prime 80 = .ok (.ldc2_w 119, 3) := by decide +kernel
theorem dX11_prime_83 : decode cX11_prime 83 = .ok (.aload_n 0, 1) := by decide +kernel
theorem dX11_prime_84 : decode cX11_prime 84 = .ok (.getfield 105, 3) := by decide +kernel
theorem dX11_prime_87 : decode cX11_prime 87 = .ok (.lmul, 1) := by decide +kernel
theorem dX11_prime_88 : decode cX11_prime 88 = .ok (.aload_n 0, 1) := by decide +kernel
theorem dX11_prime_89 : decode cX11_prime 89 = .ok (.getfield 109, 3) := by decide +kernel
theorem dX11_prime_92 : decode cX11_prime 92 = .ok (.lsub, 1) := by decide +kernel
theorem dX11_prime_93 : decode cX11_prime 93 = .ok (.l2i, 1) := by decide +kernel
theorem dX11_prime_94 : decode cX11_prime 94 = .ok (.ireturn, 1) := by decide +kernel
theorem dX11_prime_95 : decode cX11_prime 95 = .ok (.aload_n 0, 1) := by decide +kernel
theorem dX11_prime_96 : decode cX11_prime 96 = .ok (.getfield 109, 3) := by decide +kernel
theorem dX11_prime_99 : decode cX11_prime 99 = .ok (.l2i, 1) := by decide +kernel
theorem dX11_prime_100 : decode cX11_prime 100 = .ok (.iconst 3, 1) := by decide +kernel
theorem dX11_prime_101 : decode cX11_prime 101 = .ok (.idiv, 1) := by decide +kernel
theorem dX11_prime_102 : decode cX11_prime 102 = .ok (.ireturn, 1) := by decide +kernel
theorem dX11_prime_103 : decode cX11_prime 103 = .ok (.iconst 2, 1) := by decide +kernel
theorem dX11_prime_104 : decode cX11_prime 104 = .ok (.iload_n 1, 1) := by decide +kernel
theorem dX11_prime_105 : decode cX11_prime 105 = .ok (.invokestatic 375, 3) := by decide +kernel
theorem dX11_prime_108 : decode cX11_prime 108 = .ok (.ifCond .eq 7, 3) := by decide +kernel
theorem dX11_prime_111 : decode cX11_prime 111 = .ok (.iconst 1, 1) := by decide +kernel
theorem dX11_prime_112 : decode cX11_prime 112 = .ok (.goto 4, 3) := by decide +kernel
theorem dX11_prime_115 : decode cX11_prime 115 = .ok (.iconst 0, 1) := by decide +kernel
theorem dX11_prime_116 : decode cX11_prime 116 = .ok (.ireturn, 1) := by decide +kernel
theorem dX11_prime_117 : decode cX11_prime 117 = .ok (.iconst 3, 1) := by decide +kernel
theorem dX11_prime_118 : decode cX11_prime 118 = .ok (.iload_n 1, 1) := by decide +kernel
theorem dX11_prime_119 : decode cX11_prime 119 = .ok (.invokestatic 375, 3) := by decide +kernel
theorem dX11_prime_122 : decode cX11_prime 122 = .ok (.ifCond .eq 7, 3) := by decide +kernel
theorem dX11_prime_125 : decode cX11_prime 125 = .ok (.iconst 1, 1) := by decide +kernel
theorem dX11_prime_126 : decode cX11_prime 126 = .ok (.goto 4, 3) := by decide +kernel
theorem dX11_prime_129 : decode cX11_prime 129 = .ok (.iconst 0, 1) := by decide +kernel
theorem dX11_prime_130 : decode cX11_prime 130 = .ok (.ireturn, 1) := by decide +kernel
theorem dX11_prime_131 : decode cX11_prime 131 = .ok (.iload_n 1, 1) := by decide +kernel
theorem dX11_prime_132 : decode cX11_prime 132 = .ok (.iload_n 2, 1) := by decide +kernel
theorem dX11_prime_133 : decode cX11_prime 133 = .ok (.bipush 6, 2) := by decide +kernel
theorem dX11_prime_135 : decode cX11_prime 135 = .ok (.if_icmp .ne 7, 3) := by decide +kernel
theorem dX11_prime_138 : decode cX11_prime 138 = .ok (.iconst 1, 1) := by decide +kernel
theorem dX11_prime_139 : decode cX11_prime 139 = .ok (.goto 4, 3) := by decide +kernel
theorem dX11_prime_142 : decode cX11_prime 142 = .ok (.iconst 0, 1) := by decide +kernel
theorem dX11_prime_143 : decode cX11_prime 143 = .ok (.invokestatic 381, 3) := by decide +kernel
theorem dX11_prime_146 : decode cX11_prime 146 = .ok (.ireturn, 1) := by decide +kernel
theorem dX11_primeAt_0 : decode cX11_primeAt 0 = .ok (.iload_n 1, 1) := by decide +kernel
theorem dX11_primeAt_1 : decode cX11_primeAt 1 = .ok (.iconst (-1), 1) := by decide +kernel
theorem dX11_primeAt_2 : decode cX11_primeAt 2 = .ok (.if_icmp .lt 27, 3) := by decide +kernel
theorem dX11_primeAt_5 : decode cX11_primeAt 5 = .ok (.iload_n 1, 1) := by decide +kernel
theorem dX11_primeAt_6 : decode cX11_primeAt 6 = .ok (.aload_n 0, 1) := by decide +kernel
theorem dX11_primeAt_7 : decode cX11_primeAt 7 = .ok (.getfield 391, 3) := by decide +kernel
theorem dX11_primeAt_10 : decode cX11_primeAt 10 = .ok (.if_icmp .ge 19, 3) := by decide +kernel
theorem dX11_primeAt_13 : decode cX11_primeAt 13 = .ok (.iload_n 1, 1) := by decide +kernel
theorem dX11_primeAt_14 : decode cX11_primeAt 14 = .ok (.ifCond .lt 18, 3) := by decide +kernel
theorem dX11_primeAt_17 : decode cX11_primeAt 17 = .ok (.iload_n 2, 1) := by decide +kernel
theorem dX11_primeAt_18 : decode cX11_primeAt 18 = .ok (.i2l, 1) := by decide +kernel
theorem dX11_primeAt_19 : decode cX11_primeAt 19 = .ok (.lconst 0, 1) := by decide +kernel
theorem dX11_primeAt_20 : decode cX11_primeAt 20 = .ok (.ldc2_w 119, 3) := by decide +kernel
theorem dX11_primeAt_23 : decode cX11_primeAt 23 = .ok (.invokestatic 77, 3) := by decide +kernel
theorem dX11_primeAt_26 : decode cX11_primeAt 26 = .ok (.ifCond .ne 6, 3) := by decide +kernel
theorem dX11_primeAt_29 : decode cX11_primeAt 29 = .ok (.ldc 164, 2) := by decide +kernel
theorem dX11_primeAt_31 : decode cX11_primeAt 31 = .ok (.ireturn, 1) := by decide +kernel
theorem dX11_primeAt_32 : decode cX11_primeAt 32 = .ok (.iload_n 1, 1) := by decide +kernel
theorem dX11_primeAt_33 : decode cX11_primeAt 33 = .ok (.iconst (-1), 1) := by decide +kernel
theorem dX11_primeAt_34 : decode cX11_primeAt 34 = .ok (.if_icmp .ne 8, 3) := by decide +kernel
theorem dX11_primeAt_37 : decode cX11_primeAt 37 = .ok (.aload_n 0, 1) := by decide +kernel
theorem dX11_primeAt_38 : decode cX11_primeAt 38 = .ok (.getfield 391, 3) := by decide +kernel
theorem dX11_primeAt_41 : decode cX11_primeAt 41 = .ok (.ireturn, 1) := by decide +kernel
theorem dX11_primeAt_42 : decode cX11_primeAt 42 = .ok (.iload_n 2, 1) := by decide +kernel
theorem dX11_primeAt_43 : decode cX11_primeAt 43 = .ok (.ifCond .ne 12, 3) := by decide +kernel
theorem dX11_primeAt_46 : decode cX11_primeAt 46 = .ok (.aload_n 0, 1) := by decide +kernel
theorem dX11_primeAt_47 : decode cX11_primeAt 47 = .ok (.getfield 54, 3) := by decide +kernel
theorem dX11_primeAt_50 : decode cX11_primeAt 50 = .ok (.iload_n 1, 1) := by decide +kernel
theorem dX11_primeAt_51 : decode cX11_primeAt 51 = .ok (.iaload, 1) := by decide +kernel
theorem dX11_primeAt_52 : decode cX11_primeAt 52 = .ok (.goto 34, 3) := by decide +kernel
theorem dX11_primeAt_55 : decode cX11_primeAt 55 = .ok (.iload_n 2, 1) := by decide +kernel
theorem dX11_primeAt_56 : decode cX11_primeAt 56 = .ok (.iconst 1, 1) := by decide +kernel
theorem dX11_primeAt_57 : decode cX11_primeAt 57 = .ok (.if_icmp .ne 12, 3) := by decide +kernel
theorem dX11_primeAt_60 : decode cX11_primeAt 60 = .ok (.aload_n 0, 1) := by decide +kernel
theorem dX11_primeAt_61 : decode cX11_primeAt 61 = .ok (.getfield 57, 3) := by decide +kernel
theorem dX11_primeAt_64 : decode cX11_primeAt 64 = .ok (.iload_n 1, 1) := by decide +kernel
theorem dX11_primeAt_65 : decode cX11_primeAt 65 = .ok (.iaload, 1) := by decide +kernel
theorem dX11_primeAt_66 : decode cX11_primeAt 66 = .ok (.goto 20, 3) := by decide +kernel
theorem dX11_primeAt_69 : decode cX11_primeAt 69 = .ok (.aload_n 0, 1) := by decide +kernel
theorem dX11_primeAt_70 : decode cX11_primeAt 70 = .ok (.getfield 54, 3) := by decide +kernel
theorem dX11_primeAt_73 : decode cX11_primeAt 73 = .ok (.iload_n 1, 1) := by decide +kernel
theorem dX11_primeAt_74 : decode cX11_primeAt 74 = .ok (.iaload, 1) := by decide +kernel
theorem dX11_primeAt_75 : decode cX11_primeAt 75 = .ok (.i2l, 1) := by decide +kernel
theorem dX11_primeAt_76 : decode cX11_primeAt 76 = .ok (.aload_n 0, 1) := by decide +kernel
theorem dX11_primeAt_77 : decode cX11_primeAt 77 = .ok (.getfield 57, 3) := by decide +kernel
theorem dX11_primeAt_80 : decode cX11_primeAt 80 = .ok (.iload_n 1, 1) := by decide +kernel
theorem dX11_primeAt_81 : decode cX11_primeAt 81 = .ok (.iaload, 1) := by decide +kernel
theorem dX11_primeAt_82 : decode cX11_primeAt 82 = .ok (.i2l, 1) := by decide +kernel
theorem dX11_primeAt_83 : decode cX11_primeAt 83 = .ok (.invokestatic 160, 3) := by decide +kernel
theorem dX11_primeAt_86 : decode cX11_primeAt 86 = .ok (.ireturn, 1) := by decide +kernel
theorem dX11_put_0 : decode cX11_put 0 = .ok (.iload_n 1, 1) := by decide +kernel
theorem dX11_put_1 : decode cX11_put 1 = .ok (.invokestatic 85, 3) := by decide +kernel
theorem dX11_put_4 : decode cX11_put 4 = .ok (.ifCond .eq 13, 3) := by decide +kernel
theorem dX11_put_7 : decode cX11_put 7 = .ok (.iload_n 2, 1) := by decide +kernel
theorem dX11_put_8 : decode cX11_put 8 = .ok (.i2l, 1) := by decide +kernel
theorem dX11_put_9 : decode cX11_put 9 = .ok (.iload_n 3, 1) := by decide +kernel
theorem dX11_put_10 : decode cX11_put 10 = .ok (.i2l, 1) := by decide +kernel
theorem dX11_put_11 : decode cX11_put 11 = .ok (.invokestatic 89, 3) := by decide +kernel
theorem dX11_put_14 : decode cX11_put 14 = .ok (.ifCond .ne 5, 3) := by decide +kernel
theorem dX11_put_17 : decode cX11_put 17 = .ok (.iconst 0, 1) := by decide +kernel
theorem dX11_put_18 : decode cX11_put 18 = .ok (.ireturn, 1) := by decide +kernel
theorem dX11_put_19 : decode cX11_put 19 = .ok (.aload_n 0, 1) := by decide +kernel
theorem dX11_put_20 : decode cX11_put 20 = .ok (.iload_n 1, 1) := by decide +kernel
theorem dX11_put_21 : decode cX11_put 21 = .ok (.iload_n 2, 1) := by decide +kernel
theorem dX11_put_22 : decode cX11_put 22 = .ok (.i2l, 1) := by decide +kernel
theorem dX11_put_23 : decode cX11_put 23 = .ok (.iload_n 3, 1) := by decide +kernel
theorem dX11_put_24 : decode cX11_put 24 = .ok (.i2l, 1) := by decide +kernel
theorem dX11_put_25 : decode cX11_put 25 = .ok (.invokevirtual 93, 3) := by decide +kernel
theorem dX11_put_28 : decode cX11_put 28 = .ok (.iconst 1, 1) := by decide +kernel
theorem dX11_put_29 : decode cX11_put 29 = .ok (.ireturn, 1) := by decide +kernel
theorem dX11_puts_0 : decode cX11_puts 0 = .ok (.aload_n 0, 1) := by decide +kernel
theorem dX11_puts_1 : decode cX11_puts 1 = .ok (.getfield 13, 3) := by decide +kernel
theorem dX11_puts_4 : decode cX11_puts 4 = .ok (.iload_n 1, 1) := by decide +kernel
theorem dX11_puts_5 : decode cX11_puts 5 = .ok (.iconst 1, 1) := by decide +kernel
theorem dX11_puts_6 : decode cX11_puts 6 = .ok (.bastore, 1) := by decide +kernel
theorem dX11_puts_7 : decode cX11_puts 7 = .ok (.aload_n 0, 1) := by decide +kernel
theorem dX11_puts_8 : decode cX11_puts 8 = .ok (.getfield 20, 3) := by decide +kernel
theorem dX11_puts_11 : decode cX11_puts 11 = .ok (.iload_n 1, 1) := by decide +kernel
theorem dX11_puts_12 : decode cX11_puts 12 = .ok (.lload_n 2, 1) := by decide +kernel
theorem dX11_puts_13 : decode cX11_puts 13 = .ok (.l2i, 1) := by decide +kernel
theorem dX11_puts_14 : decode cX11_puts 14 = .ok (.iastore, 1) := by decide +kernel
theorem dX11_puts_15 : decode cX11_puts 15 = .ok (.aload_n 0, 1) := by decide +kernel
theorem dX11_puts_16 : decode cX11_puts 16 = .ok (.getfield 24, 3) := by decide +kernel
theorem dX11_puts_19 : decode cX11_puts 19 = .ok (.iload_n 1, 1) := by decide +kernel
theorem dX11_puts_20 : decode cX11_puts 20 = .ok (.lload 4, 2) := by decide +kernel
theorem dX11_puts_22 : decode cX11_puts 22 = .ok (.l2i, 1) := by decide +kernel
theorem dX11_puts_23 : decode cX11_puts 23 = .ok (.iastore, 1) := by decide +kernel
theorem dX11_puts_24 : decode cX11_puts 24 = .ok (.return_, 1) := by decide +kernel
theorem dX11_residue_0 : decode cX11_residue 0 = .ok (.iload_n 1, 1) := by decide +kernel
theorem dX11_residue_1 : decode cX11_residue 1 = .ok (.iload_n 2, 1) := by decide +kernel
theorem dX11_residue_2 : decode cX11_residue 2 = .ok (.iload_n 3, 1) := by decide +kernel
theorem dX11_residue_3 : decode cX11_residue 3 = .ok (.invokestatic 265, 3) := by decide +kernel
theorem dX11_residue_6 : decode cX11_residue 6 = .ok (.ifCond .ne 5, 3) := by decide +kernel
theorem dX11_residue_9 : decode cX11_residue 9 = .ok (.iconst (-1), 1) := by decide +kernel
theorem dX11_residue_10 : decode cX11_residue 10 = .ok (.ireturn, 1) := by decide +kernel
theorem dX11_residue_11 : decode cX11_residue 11 = .ok (.aload_n 0, 1) := by decide +kernel
theorem dX11_residue_12 : decode cX11_residue 12 = .ok (.iload_n 1, 1) := by decide +kernel
theorem dX11_residue_13 : decode cX11_residue 13 = .ok (.iload_n 2, 1) := by decide +kernel
theorem dX11_residue_14 : decode cX11_residue 14 = .ok (.invokevirtual 269, 3) := by decide +kernel
theorem dX11_residue_17 : decode cX11_residue 17 = .ok (.ifCond .ne 6, 3) := by decide +kernel
theorem dX11_residue_20 : decode cX11_residue 20 = .ok (.bipush (-2), 2) := by decide +kernel
theorem dX11_residue_22 : decode cX11_residue 22 = .ok (.ireturn, 1) := by decide +kernel
theorem dX11_residue_23 : decode cX11_residue 23 = .ok (.aload_n 0, 1) := by decide +kernel
theorem dX11_residue_24 : decode cX11_residue 24 = .ok (.iload_n 2, 1) := by decide +kernel
theorem dX11_residue_25 : decode cX11_residue 25 = .ok (.invokevirtual 178, 3) := by decide +kernel
theorem dX11_residue_28 : decode cX11_residue 28 = .ok (.ifCond .eq 6, 3) := by decide +kernel
theorem dX11_residue_31 : decode cX11_residue 31 = .ok (.bipush (-3), 2) := by decide +kernel
theorem dX11_residue_33 : decode cX11_residue 33 = .ok (.ireturn, 1) := by decide +kernel
theorem dX11_residue_34 : decode cX11_residue 34 = .ok (.aload_n 0, 1) := by decide +kernel
theorem dX11_residue_35 : decode cX11_residue 35 = .ok (.aload_n 0, 1) := by decide +kernel
theorem dX11_residue_36 : decode cX11_residue 36 = .ok (.getfield 20, 3) := by decide +kernel
theorem dX11_residue_39 : decode cX11_residue 39 = .ok (.iload_n 2, 1) := by decide +kernel
theorem dX11_residue_40 : decode cX11_residue 40 = .ok (.iaload, 1) := by decide +kernel
theorem dX11_residue_41 : decode cX11_residue 41 = .ok (.i2l, 1) := by decide +kernel
theorem dX11_residue_42 : decode cX11_residue 42 = .ok (.aload_n 0, 1) := by decide +kernel
theorem dX11_residue_43 : decode cX11_residue 43 = .ok (.getfield 24, 3) := by decide +kernel
theorem dX11_residue_46 : decode cX11_residue 46 = .ok (.iload_n 2, 1) := by decide +kernel
theorem dX11_residue_47 : decode cX11_residue 47 = .ok (.iaload, 1) := by decide +kernel
theorem dX11_residue_48 : decode cX11_residue 48 = .ok (.i2l, 1) := by decide +kernel
theorem dX11_residue_49 : decode cX11_residue 49 = .ok (.invokevirtual 273, 3) := by decide +kernel
theorem dX11_residue_52 : decode cX11_residue 52 = .ok (.aload_n 0, 1) := by decide +kernel
theorem dX11_residue_53 : decode cX11_residue 53 = .ok (.aload_n 0, 1) := by decide +kernel
theorem dX11_residue_54 : decode cX11_residue 54 = .ok (.getfield 20, 3) := by decide +kernel
theorem dX11_residue_57 : decode cX11_residue 57 = .ok (.iload_n 1, 1) := by decide +kernel
theorem dX11_residue_58 : decode cX11_residue 58 = .ok (.iaload, 1) := by decide +kernel
theorem dX11_residue_59 : decode cX11_residue 59 = .ok (.i2l, 1) := by decide +kernel
theorem dX11_residue_60 : decode cX11_residue 60 = .ok (.aload_n 0, 1) := by decide +kernel
theorem dX11_residue_61 : decode cX11_residue 61 = .ok (.getfield 24, 3) := by decide +kernel
theorem dX11_residue_64 : decode cX11_residue 64 = .ok (.iload_n 1, 1) := by decide +kernel
theorem dX11_residue_65 : decode cX11_residue 65 = .ok (.iaload, 1) := by decide +kernel
theorem dX11_residue_66 : decode cX11_residue 66 = .ok (.i2l, 1) := by decide +kernel
theorem dX11_residue_67 : decode cX11_residue 67 = .ok (.invokevirtual 259, 3) := by decide +kernel
theorem dX11_residue_70 : decode cX11_residue 70 = .ok (.aload_n 0, 1) := by decide +kernel
theorem dX11_residue_71 : decode cX11_residue 71 = .ok (.iload_n 3, 1) := by decide +kernel
theorem dX11_residue_72 : decode cX11_residue 72 = .ok (.invokevirtual 276, 3) := by decide +kernel
theorem dX11_residue_75 : decode cX11_residue 75 = .ok (.ireturn, 1) := by decide +kernel
theorem dX11_rest_0 : decode cX11_rest 0 = .ok (.lload_n 0, 1) := by decide +kernel
theorem dX11_rest_1 : decode cX11_rest 1 = .ok (.lload_n 0, 1) := by decide +kernel
theorem dX11_rest_2 : decode cX11_rest 2 = .ok (.lload_n 2, 1) := by decide +kernel
theorem dX11_rest_3 : decode cX11_rest 3 = .ok (.invokestatic 63, 3) := by decide +kernel
theorem dX11_rest_6 : decode cX11_rest 6 = .ok (.lload_n 2, 1) := by decide +kernel
theorem dX11_rest_7 : decode cX11_rest 7 = .ok (.lmul, 1) := by decide +kernel
theorem dX11_rest_8 : decode cX11_rest 8 = .ok (.lsub, 1) := by decide +kernel
theorem dX11_rest_9 : decode cX11_rest 9 = .ok (.lreturn, 1) := by decide +kernel
theorem dX11_rests_0 : decode cX11_rests 0 = .ok (.aload_n 0, 1) := by decide +kernel
theorem dX11_rests_1 : decode cX11_rests 1 = .ok (.lload_n 1, 1) := by decide +kernel
theorem dX11_rests_2 : decode cX11_rests 2 = .ok (.lload_n 3, 1) := by decide +kernel
theorem dX11_rests_3 : decode cX11_rests 3 = .ok (.lload 5, 2) := by decide +kernel
theorem dX11_rests_5 : decode cX11_rests 5 = .ok (.lload 7, 2) := by decide +kernel
theorem dX11_rests_7 : decode cX11_rests 7 = .ok (.invokevirtual 128, 3) := by decide +kernel
theorem dX11_rests_10 : decode cX11_rests 10 = .ok (.aload_n 0, 1) := by decide +kernel
theorem dX11_rests_11 : decode cX11_rests 11 = .ok (.aload_n 0, 1) := by decide +kernel
theorem dX11_rests_12 : decode cX11_rests 12 = .ok (.getfield 105, 3) := by decide +kernel
theorem dX11_rests_15 : decode cX11_rests 15 = .ok (.aload_n 0, 1) := by decide +kernel
theorem dX11_rests_16 : decode cX11_rests 16 = .ok (.getfield 109, 3) := by decide +kernel
theorem dX11_rests_19 : decode cX11_rests 19 = .ok (.lload 5, 2) := by decide +kernel
theorem dX11_rests_21 : decode cX11_rests 21 = .ok (.lload 7, 2) := by decide +kernel
theorem dX11_rests_23 : decode cX11_rests 23 = .ok (.invokevirtual 121, 3) := by decide +kernel
theorem dX11_rests_26 : decode cX11_rests 26 = .ok (.aload_n 0, 1) := by decide +kernel
theorem dX11_rests_27 : decode cX11_rests 27 = .ok (.lload_n 1, 1) := by decide +kernel
theorem dX11_rests_28 : decode cX11_rests 28 = .ok (.aload_n 0, 1) := by decide +kernel
theorem dX11_rests_29 : decode cX11_rests 29 = .ok (.getfield 105, 3) := by decide +kernel
theorem dX11_rests_32 : decode cX11_rests 32 = .ok (.lsub, 1) := by decide +kernel
theorem dX11_rests_33 : decode cX11_rests 33 = .ok (.lload_n 3, 1) := by decide +kernel
theorem dX11_rests_34 : decode cX11_rests 34 = .ok (.aload_n 0, 1) := by decide +kernel
theorem dX11_rests_35 : decode cX11_rests 35 = .ok (.getfield 109, 3) := by decide +kernel
theorem dX11_rests_38 : decode cX11_rests 38 = .ok (.lsub, 1) := by decide +kernel
theorem dX11_rests_39 : decode cX11_rests 39 = .ok (.invokevirtual 115, 3) := by decide +kernel
theorem dX11_rests_42 : decode cX11_rests 42 = .ok (.return_, 1) := by decide +kernel
theorem dX11_ring_0 : decode cX11_ring 0 = .ok (.iload_n 1, 1) := by decide +kernel
theorem dX11_ring_1 : decode cX11_ring 1 = .ok (.i2l, 1) := by decide +kernel
theorem dX11_ring_2 : decode cX11_ring 2 = .ok (.lconst 0, 1) := by decide +kernel
theorem dX11_ring_3 : decode cX11_ring 3 = .ok (.ldc2_w 441, 3) := by decide +kernel
theorem dX11_ring_6 : decode cX11_ring 6 = .ok (.invokestatic 77, 3) := by decide +kernel
theorem dX11_ring_9 : decode cX11_ring 9 = .ok (.ifCond .eq 15, 3) := by decide +kernel
theorem dX11_ring_12 : decode cX11_ring 12 = .ok (.iload_n 2, 1) := by decide +kernel
theorem dX11_ring_13 : decode cX11_ring 13 = .ok (.i2l, 1) := by decide +kernel
theorem dX11_ring_14 : decode cX11_ring 14 = .ok (.lconst 0, 1) := by decide +kernel
theorem dX11_ring_15 : decode cX11_ring 15 = .ok (.ldc2_w 119, 3) := by decide +kernel
theorem dX11_ring_18 : decode cX11_ring 18 = .ok (.invokestatic 77, 3) := by decide +kernel
theorem dX11_ring_21 : decode cX11_ring 21 = .ok (.ifCond .ne 5, 3) := by decide +kernel
theorem dX11_ring_24 : decode cX11_ring 24 = .ok (.iconst (-1), 1) := by decide +kernel
theorem dX11_ring_25 : decode cX11_ring 25 = .ok (.ireturn, 1) := by decide +kernel
theorem dX11_ring_26 : decode cX11_ring 26 = .ok (.aload_n 0, 1) := by decide +kernel
theorem dX11_ring_27 : decode cX11_ring 27 = .ok (.iload_n 1, 1) := by decide +kernel
theorem dX11_ring_28 : decode cX11_ring 28 = .ok (.iconst (-1), 1) := by decide +kernel
theorem dX11_ring_29 : decode cX11_ring 29 = .ok (.iload_n 2, 1) := by decide +kernel
theorem dX11_ring_30 : decode cX11_ring 30 = .ok (.invokevirtual 443, 3) := by decide +kernel
theorem dX11_ring_33 : decode cX11_ring 33 = .ok (.aload_n 0, 1) := by decide +kernel
theorem dX11_ring_34 : decode cX11_ring 34 = .ok (.getfield 432, 3) := by decide +kernel
theorem dX11_ring_37 : decode cX11_ring 37 = .ok (.ireturn, 1) := by decide +kernel
theorem dX11_ringAt_0 : decode cX11_ringAt 0 = .ok (.iload_n 1, 1) := by decide +kernel
theorem dX11_ringAt_1 : decode cX11_ringAt 1 = .ok (.i2l, 1) := by decide +kernel
theorem dX11_ringAt_2 : decode cX11_ringAt 2 = .ok (.lconst 0, 1) := by decide +kernel
theorem dX11_ringAt_3 : decode cX11_ringAt 3 = .ok (.ldc2_w 441, 3) := by decide +kernel
theorem dX11_ringAt_6 : decode cX11_ringAt 6 = .ok (.invokestatic 77, 3) := by decide +kernel
theorem dX11_ringAt_9 : decode cX11_ringAt 9 = .ok (.ifCond .eq 17, 3) := by decide +kernel
theorem dX11_ringAt_12 : decode cX11_ringAt 12 = .ok (.iload_n 3, 1) := by decide +kernel
theorem dX11_ringAt_13 : decode cX11_ringAt 13 = .ok (.i2l, 1) := by decide +kernel
theorem dX11_ringAt_14 : decode cX11_ringAt 14 = .ok (.lconst 0, 1) := by decide +kernel
theorem dX11_ringAt_15 : decode cX11_ringAt 15 = .ok (.lconst 1, 1) := by decide +kernel
theorem dX11_ringAt_16 : decode cX11_ringAt 16 = .ok (.invokestatic 77, 3) := by decide +kernel
theorem dX11_ringAt_19 : decode cX11_ringAt 19 = .ok (.ifCond .eq 7, 3) := by decide +kernel
theorem dX11_ringAt_22 : decode cX11_ringAt 22 = .ok (.iload_n 2, 1) := by decide +kernel
theorem dX11_ringAt_23 : decode cX11_ringAt 23 = .ok (.ifCond .ge 6, 3) := by decide +kernel
theorem dX11_ringAt_26 : decode cX11_ringAt 26 = .ok (.ldc 164, 2) := by decide +kernel
theorem dX11_ringAt_28 : decode cX11_ringAt 28 = .ok (.ireturn, 1) := by decide +kernel
theorem dX11_ringAt_29 : decode cX11_ringAt 29 = .ok (.aload_n 0, 1) := by decide +kernel
theorem dX11_ringAt_30 : decode cX11_ringAt 30 = .ok (.iload_n 1, 1) := by decide +kernel
theorem dX11_ringAt_31 : decode cX11_ringAt 31 = .ok (.iload_n 2, 1) := by decide +kernel
theorem dX11_ringAt_32 : decode cX11_ringAt 32 = .ok (.iconst 0, 1) := by decide +kernel
theorem dX11_ringAt_33 : decode cX11_ringAt 33 = .ok (.invokevirtual 443, 3) := by decide +kernel
theorem dX11_ringAt_36 : decode cX11_ringAt 36 = .ok (.iload_n 2, 1) := by decide +kernel
theorem dX11_ringAt_37 : decode cX11_ringAt 37 = .ok (.aload_n 0, 1) := by decide +kernel
theorem dX11_ringAt_38 : decode cX11_ringAt 38 = .ok (.getfield 432, 3) := by decide +kernel
theorem dX11_ringAt_41 : decode cX11_ringAt 41 = .ok (.if_icmp .ge 21, 3) := by decide +kernel
theorem dX11_ringAt_44 : decode cX11_ringAt 44 = .ok (.iload_n 3, 1) := by decide +kernel
theorem dX11_ringAt_45 : decode cX11_ringAt 45 = .ok (.ifCond .ne 10, 3) := by decide +kernel
theorem dX11_ringAt_48 : decode cX11_ringAt 48 = .ok (.aload_n 0, 1) := by decide +kernel
theorem dX11_ringAt_49 : decode cX11_ringAt 49 = .ok (.getfield 435, 3) := by decide +kernel
theorem dX11_ringAt_52 : decode cX11_ringAt 52 = .ok (.goto 12, 3) := by decide +kernel
theorem dX11_ringAt_55 : decode cX11_ringAt 55 = .ok (.aload_n 0, 1) := by decide +kernel
theorem dX11_ringAt_56 : decode cX11_ringAt 56 = .ok (.getfield 438, 3) := by decide +kernel
theorem dX11_ringAt_59 : decode cX11_ringAt 59 = .ok (.goto 5, 3) := by decide +kernel
theorem dX11_ringAt_62 : decode cX11_ringAt 62 = .ok (.ldc 164, 2) := by decide +kernel
theorem dX11_ringAt_64 : decode cX11_ringAt 64 = .ok (.ireturn, 1) := by decide +kernel
theorem dX11_root_0 : decode cX11_root 0 = .ok (.iload_n 1, 1) := by decide +kernel
theorem dX11_root_1 : decode cX11_root 1 = .ok (.invokestatic 85, 3) := by decide +kernel
theorem dX11_root_4 : decode cX11_root 4 = .ok (.ifCond .eq 30, 3) := by decide +kernel
theorem dX11_root_7 : decode cX11_root 7 = .ok (.iload_n 2, 1) := by decide +kernel
theorem dX11_root_8 : decode cX11_root 8 = .ok (.invokestatic 85, 3) := by decide +kernel
theorem dX11_root_11 : decode cX11_root 11 = .ok (.ifCond .eq 23, 3) := by decide +kernel
theorem dX11_root_14 : decode cX11_root 14 = .ok (.iload_n 3, 1) := by decide +kernel
theorem dX11_root_15 : decode cX11_root 15 = .ok (.iconst (-1), 1) := by decide +kernel
theorem dX11_root_16 : decode cX11_root 16 = .ok (.if_icmp .lt 18, 3) := by decide +kernel
theorem dX11_root_19 : decode cX11_root 19 = .ok (.iload_n 3, 1) := by decide +kernel
theorem dX11_root_20 : decode cX11_root 20 = .ok (.ifCond .lt 16, 3) := by decide +kernel
theorem dX11_root_23 : decode cX11_root 23 = .ok (.iload 4, 2) := by decide +kernel
theorem dX11_root_25 : decode cX11_root 25 = .ok (.i2l, 1) := by decide +kernel
theorem dX11_root_26 : decode cX11_root 26 = .ok (.lconst 0, 1) := by decide +kernel
theorem dX11_root_27 : decode cX11_root 27 = .ok (.lconst 1, 1) := by decide +kernel
theorem dX11_root_28 : decode cX11_root 28 = .ok (.invokestatic 77, 3) := by decide +kernel
theorem dX11_root_31 : decode cX11_root 31 = .ok (.ifCond .ne 5, 3) := by decide +kernel
theorem dX11_root_34 : decode cX11_root 34 = .ok (.iconst (-1), 1) := by decide +kernel
theorem dX11_root_35 : decode cX11_root 35 = .ok (.ireturn, 1) := by decide +kernel
theorem dX11_root_36 : decode cX11_root 36 = .ok (.aload_n 0, 1) := by decide +kernel
theorem dX11_root_37 : decode cX11_root 37 = .ok (.iload_n 1, 1) := by decide +kernel
theorem dX11_root_38 : decode cX11_root 38 = .ok (.iload_n 2, 1) := by decide +kernel
theorem dX11_root_39 : decode cX11_root 39 = .ok (.invokevirtual 269, 3) := by decide +kernel
theorem dX11_root_42 : decode cX11_root 42 = .ok (.ifCond .ne 6, 3) := by decide +kernel
theorem dX11_root_45 : decode cX11_root 45 = .ok (.bipush (-2), 2) := by decide +kernel
theorem dX11_root_47 : decode cX11_root 47 = .ok (.ireturn, 1) := by decide +kernel
theorem dX11_root_48 : decode cX11_root 48 = .ok (.aload_n 0, 1) := by decide +kernel
theorem dX11_root_49 : decode cX11_root 49 = .ok (.iload_n 2, 1) := by decide +kernel
theorem dX11_root_50 : decode cX11_root 50 = .ok (.sipush 2000, 3) := by decide +kernel
theorem dX11_root_53 : decode cX11_root 53 = .ok (.invokevirtual 331, 3) := by decide +kernel
theorem dX11_root_56 : decode cX11_root 56 = .ok (.ifCond .eq 6, 3) := by decide +kernel
theorem dX11_root_59 : decode cX11_root 59 = .ok (.bipush (-3), 2) := by decide +kernel
theorem dX11_root_61 : decode cX11_root 61 = .ok (.ireturn, 1) := by decide +kernel
theorem dX11_root_62 : decode cX11_root 62 = .ok (.aload_n 0, 1) := by decide +kernel
theorem dX11_root_63 : decode cX11_root 63 = .ok (.aload_n 0, 1) := by decide +kernel
theorem dX11_root_64 : decode cX11_root 64 = .ok (.getfield 20, 3) := by decide +kernel
theorem dX11_root_67 : decode cX11_root 67 = .ok (.iload_n 2, 1) := by decide +kernel
theorem dX11_root_68 : decode cX11_root 68 = .ok (.iaload, 1) := by decide +kernel
theorem dX11_root_69 : decode cX11_root 69 = .ok (.i2l, 1) := by decide +kernel
theorem dX11_root_70 : decode cX11_root 70 = .ok (.aload_n 0, 1) := by decide +kernel
theorem dX11_root_71 : decode cX11_root 71 = .ok (.getfield 24, 3) := by decide +kernel
theorem dX11_root_74 : decode cX11_root 74 = .ok (.iload_n 2, 1) := by decide +kernel
theorem dX11_root_75 : decode cX11_root 75 = .ok (.iaload, 1) := by decide +kernel
theorem dX11_root_76 : decode cX11_root 76 = .ok (.i2l, 1) := by decide +kernel
theorem dX11_root_77 : decode cX11_root 77 = .ok (.invokevirtual 273, 3) := by decide +kernel
theorem dX11_root_80 : decode cX11_root 80 = .ok (.aload_n 0, 1) := by decide +kernel
theorem dX11_root_81 : decode cX11_root 81 = .ok (.iconst 1, 1) := by decide +kernel
theorem dX11_root_82 : decode cX11_root 82 = .ok (.lconst 0, 1) := by decide +kernel
theorem dX11_root_83 : decode cX11_root 83 = .ok (.lconst 0, 1) := by decide +kernel
theorem dX11_root_84 : decode cX11_root 84 = .ok (.aload_n 0, 1) := by decide +kernel
theorem dX11_root_85 : decode cX11_root 85 = .ok (.getfield 20, 3) := by decide +kernel
theorem dX11_root_88 : decode cX11_root 88 = .ok (.iload_n 1, 1) := by decide +kernel
theorem dX11_root_89 : decode cX11_root 89 = .ok (.iaload, 1) := by decide +kernel
theorem dX11_root_90 : decode cX11_root 90 = .ok (.i2l, 1) := by decide +kernel
theorem dX11_root_91 : decode cX11_root 91 = .ok (.aload_n 0, 1) := by decide +kernel
theorem dX11_root_92 : decode cX11_root 92 = .ok (.getfield 24, 3) := by decide +kernel
theorem dX11_root_95 : decode cX11_root 95 = .ok (.iload_n 1, 1) := by decide +kernel
theorem dX11_root_96 : decode cX11_root 96 = .ok (.iaload, 1) := by decide +kernel
theorem dX11_root_97 : decode cX11_root 97 = .ok (.i2l, 1) := by decide +kernel
theorem dX11_root_98 : decode cX11_root 98 = .ok (.iload_n 3, 1) := by decide +kernel
theorem dX11_root_99 : decode cX11_root 99 = .ok (.iload 4, 2) := by decide +kernel
theorem dX11_root_101 : decode cX11_root 101 = .ok (.invokevirtual 342, 3) := by decide +kernel
theorem dX11_root_104 : decode cX11_root 104 = .ok (.ireturn, 1) := by decide +kernel
theorem dX11_rootOf_0 : decode cX11_rootOf 0 = .ok (.iload_n 0, 1) := by decide +kernel
theorem dX11_rootOf_1 : decode cX11_rootOf 1 = .ok (.ifCond .ge 5, 3) := by decide +kernel
theorem dX11_rootOf_4 : decode cX11_rootOf 4 = .ok (.iconst (-1), 1) := by decide +kernel
theorem dX11_rootOf_5 : decode cX11_rootOf 5 = .ok (.ireturn, 1) := by decide +kernel
theorem dX11_rootOf_6 : decode cX11_rootOf 6 = .ok (.lconst 0, 1) := by decide +kernel
theorem dX11_rootOf_7 : decode cX11_rootOf 7 = .ok (.lstore_n 1, 1) := by decide +kernel
theorem dX11_rootOf_8 : decode cX11_rootOf 8 = .ok (.ldc2_w 220, 3) := by decide +kernel
theorem dX11_rootOf_11 : decode cX11_rootOf 11 = .ok (.lstore_n 3, 1) := by decide +kernel
theorem dX11_rootOf_12 : decode cX11_rootOf 12 = .ok (.lload_n 1, 1) := by decide +kernel
theorem dX11_rootOf_13 : decode cX11_rootOf 13 = .ok (.lload_n 3, 1) := by decide +kernel
theorem dX11_rootOf_14 : decode cX11_rootOf 14 = .ok (.lcmp, 1) := by decide +kernel
theorem dX11_rootOf_15 : decode cX11_rootOf 15 = .ok (.ifCond .ge 39, 3) := by decide +kernel
theorem dX11_rootOf_18 : decode cX11_rootOf 18 = .ok (.lload_n 1, 1) := by decide +kernel
theorem dX11_rootOf_19 : decode cX11_rootOf 19 = .ok (.lload_n 3, 1) := by decide +kernel
theorem dX11_rootOf_20 : decode cX11_rootOf 20 = .ok (.ladd, 1) := by decide +kernel
theorem dX11_rootOf_21 : decode cX11_rootOf 21 = .ok (.lconst 1, 1) := by decide +kernel
theorem dX11_rootOf_22 : decode cX11_rootOf 22 = .ok (.ladd, 1) := by decide +kernel
theorem dX11_rootOf_23 : decode cX11_rootOf 23 = .ok (.ldc2_w 119, 3) := by decide +kernel
theorem dX11_rootOf_26 : decode cX11_rootOf 26 = .ok (.ldiv, 1) := by decide +kernel
theorem dX11_rootOf_27 : decode cX11_rootOf 27 = .ok (.lstore 5, 2) := by decide +kernel
theorem dX11_rootOf_29 : decode cX11_rootOf 29 = .ok (.lload 5, 2) := by decide +kernel
theorem dX11_rootOf_31 : decode cX11_rootOf 31 = .ok (.lload 5, 2) := by decide +kernel
theorem dX11_rootOf_33 : decode cX11_rootOf 33 = .ok (.lmul, 1) := by decide +kernel
theorem dX11_rootOf_34 : decode cX11_rootOf 34 = .ok (.iload_n 0, 1) := by decide +kernel
theorem dX11_rootOf_35 : decode cX11_rootOf 35 = .ok (.i2l, 1) := by decide +kernel
theorem dX11_rootOf_36 : decode cX11_rootOf 36 = .ok (.lcmp, 1) := by decide +kernel
theorem dX11_rootOf_37 : decode cX11_rootOf 37 = .ok (.ifCond .gt 9, 3) := by decide +kernel
theorem dX11_rootOf_40 : decode cX11_rootOf 40 = .ok (.lload 5, 2) := by decide +kernel
theorem dX11_rootOf_42 : decode cX11_rootOf 42 = .ok (.lstore_n 1, 1) := by decide +kernel
theorem dX11_rootOf_43 : decode cX11_rootOf 43 = .ok (.goto 8, 3) := by decide +kernel
theorem dX11_rootOf_46 : decode cX11_rootOf 46 = .ok (.lload 5, 2) := by decide +kernel
theorem dX11_rootOf_48 : decode cX11_rootOf 48 = .ok (.lconst 1, 1) := by decide +kernel
theorem dX11_rootOf_49 : decode cX11_rootOf 49 = .ok (.lsub, 1) := by decide +kernel
theorem dX11_rootOf_50 : decode cX11_rootOf 50 = .ok (.lstore_n 3, 1) := by decide +kernel
theorem dX11_rootOf_51 : decode cX11_rootOf 51 = .ok (.goto (-39), 3) := by decide +kernel
theorem dX11_rootOf_54 : decode cX11_rootOf 54 = .ok (.lload_n 1, 1) := by decide +kernel
theorem dX11_rootOf_55 : decode cX11_rootOf 55 = .ok (.l2i, 1) := by decide +kernel
theorem dX11_rootOf_56 : decode cX11_rootOf 56 = .ok (.ireturn, 1) := by decide +kernel
theorem dX11_sets_0 : decode cX11_sets 0 = .ok (.aload_n 0, 1) := by decide +kernel
theorem dX11_sets_1 : decode cX11_sets 1 = .ok (.lload_n 1, 1) := by decide +kernel
theorem dX11_sets_2 : decode cX11_sets 2 = .ok (.putfield 105, 3) := by decide +kernel
theorem dX11_sets_5 : decode cX11_sets 5 = .ok (.aload_n 0, 1) := by decide +kernel
theorem dX11_sets_6 : decode cX11_sets 6 = .ok (.lload_n 3, 1) := by decide +kernel
theorem dX11_sets_7 : decode cX11_sets 7 = .ok (.putfield 109, 3) := by decide +kernel
theorem dX11_sets_10 : decode cX11_sets 10 = .ok (.return_, 1) := by decide +kernel
theorem dX11_sign_0 : decode cX11_sign 0 = .ok (.iload_n 1, 1) := by decide +kernel
theorem dX11_sign_1 : decode cX11_sign 1 = .ok (.invokestatic 85, 3) := by decide +kernel
theorem dX11_sign_4 : decode cX11_sign 4 = .ok (.ifCond .eq 10, 3) := by decide +kernel
theorem dX11_sign_7 : decode cX11_sign 7 = .ok (.iload_n 2, 1) := by decide +kernel
theorem dX11_sign_8 : decode cX11_sign 8 = .ok (.invokestatic 85, 3) := by decide +kernel
theorem dX11_sign_11 : decode cX11_sign 11 = .ok (.ifCond .ne 5, 3) := by decide +kernel
theorem dX11_sign_14 : decode cX11_sign 14 = .ok (.iconst (-1), 1) := by decide +kernel
theorem dX11_sign_15 : decode cX11_sign 15 = .ok (.ireturn, 1) := by decide +kernel
theorem dX11_sign_16 : decode cX11_sign 16 = .ok (.aload_n 0, 1) := by decide +kernel
theorem dX11_sign_17 : decode cX11_sign 17 = .ok (.iload_n 1, 1) := by decide +kernel
theorem dX11_sign_18 : decode cX11_sign 18 = .ok (.iload_n 2, 1) := by decide +kernel
theorem dX11_sign_19 : decode cX11_sign 19 = .ok (.invokevirtual 269, 3) := by decide +kernel
theorem dX11_sign_22 : decode cX11_sign 22 = .ok (.ifCond .ne 6, 3) := by decide +kernel
theorem dX11_sign_25 : decode cX11_sign 25 = .ok (.bipush (-2), 2) := by decide +kernel
theorem dX11_sign_27 : decode cX11_sign 27 = .ok (.ireturn, 1) := by decide +kernel
theorem dX11_sign_28 : decode cX11_sign 28 = .ok (.aload_n 0, 1) := by decide +kernel
theorem dX11_sign_29 : decode cX11_sign 29 = .ok (.iload_n 2, 1) := by decide +kernel
theorem dX11_sign_30 : decode cX11_sign 30 = .ok (.invokevirtual 353, 3) := by decide +kernel
theorem dX11_sign_33 : decode cX11_sign 33 = .ok (.ifCond .eq 12, 3) := by decide +kernel
theorem dX11_sign_36 : decode cX11_sign 36 = .ok (.aload_n 0, 1) := by decide +kernel
theorem dX11_sign_37 : decode cX11_sign 37 = .ok (.iload_n 1, 1) := by decide +kernel
theorem dX11_sign_38 : decode cX11_sign 38 = .ok (.iload_n 2, 1) := by decide +kernel
theorem dX11_sign_39 : decode cX11_sign 39 = .ok (.invokevirtual 359, 3) := by decide +kernel
theorem dX11_sign_42 : decode cX11_sign 42 = .ok (.goto 5, 3) := by decide +kernel
theorem dX11_sign_45 : decode cX11_sign 45 = .ok (.bipush (-3), 2) := by decide +kernel
theorem dX11_sign_47 : decode cX11_sign 47 = .ok (.ireturn, 1) := by decide +kernel
theorem dX11_signAt_0 : decode cX11_signAt 0 = .ok (.aload_n 0, 1) := by decide +kernel
theorem dX11_signAt_1 : decode cX11_signAt 1 = .ok (.lload 5, 2) := by decide +kernel
theorem dX11_signAt_3 : decode cX11_signAt 3 = .ok (.lload 7, 2) := by decide +kernel
theorem dX11_signAt_5 : decode cX11_signAt 5 = .ok (.lload_n 1, 1) := by decide +kernel
theorem dX11_signAt_6 : decode cX11_signAt 6 = .ok (.lload_n 3, 1) := by decide +kernel
theorem dX11_signAt_7 : decode cX11_signAt 7 = .ok (.invokevirtual 198, 3) := by decide +kernel
theorem dX11_signAt_10 : decode cX11_signAt 10 = .ok (.ifCond .eq 5, 3) := by decide +kernel
theorem dX11_signAt_13 : decode cX11_signAt 13 = .ok (.iconst 3, 1) := by decide +kernel
theorem dX11_signAt_14 : decode cX11_signAt 14 = .ok (.ireturn, 1) := by decide +kernel
theorem dX11_signAt_15 : decode cX11_signAt 15 = .ok (.aload_n 0, 1) := by decide +kernel
theorem dX11_signAt_16 : decode cX11_signAt 16 = .ok (.lload 5, 2) := by decide +kernel
theorem dX11_signAt_18 : decode cX11_signAt 18 = .ok (.lload 7, 2) := by decide +kernel
theorem dX11_signAt_20 : decode cX11_signAt 20 = .ok (.invokevirtual 273, 3) := by decide +kernel
theorem dX11_signAt_23 : decode cX11_signAt 23 = .ok (.aload_n 0, 1) := by decide +kernel
theorem dX11_signAt_24 : decode cX11_signAt 24 = .ok (.lload_n 1, 1) := by decide +kernel
theorem dX11_signAt_25 : decode cX11_signAt 25 = .ok (.lload_n 3, 1) := by decide +kernel
theorem dX11_signAt_26 : decode cX11_signAt 26 = .ok (.lload 5, 2) := by decide +kernel
theorem dX11_signAt_28 : decode cX11_signAt 28 = .ok (.lload 7, 2) := by decide +kernel
theorem dX11_signAt_30 : decode cX11_signAt 30 = .ok (.invokestatic 160, 3) := by decide +kernel
theorem dX11_signAt_33 : decode cX11_signAt 33 = .ok (.iconst 1, 1) := by decide +kernel
theorem dX11_signAt_34 : decode cX11_signAt 34 = .ok (.isub, 1) := by decide +kernel
theorem dX11_signAt_35 : decode cX11_signAt 35 = .ok (.iconst 3, 1) := by decide +kernel
theorem dX11_signAt_36 : decode cX11_signAt 36 = .ok (.idiv, 1) := by decide +kernel
theorem dX11_signAt_37 : decode cX11_signAt 37 = .ok (.invokevirtual 281, 3) := by decide +kernel
theorem dX11_signAt_40 : decode cX11_signAt 40 = .ok (.aload_n 0, 1) := by decide +kernel
theorem dX11_signAt_41 : decode cX11_signAt 41 = .ok (.getfield 105, 3) := by decide +kernel
theorem dX11_signAt_44 : decode cX11_signAt 44 = .ok (.lstore 9, 2) := by decide +kernel
theorem dX11_signAt_46 : decode cX11_signAt 46 = .ok (.aload_n 0, 1) := by decide +kernel
theorem dX11_signAt_47 : decode cX11_signAt 47 = .ok (.getfield 109, 3) := by decide +kernel
theorem dX11_signAt_50 : decode cX11_signAt 50 = .ok (.lstore 11, 2) := by decide +kernel
theorem dX11_signAt_52 : decode cX11_signAt 52 = .ok (.iconst 0, 1) := by decide +kernel
theorem dX11_signAt_53 : decode cX11_signAt 53 = .ok (.istore 13, 2) := by decide +kernel
theorem dX11_signAt_55 : decode cX11_signAt 55 = .ok (.aload_n 0, 1) := by decide +kernel
theorem dX11_signAt_56 : decode cX11_signAt 56 = .ok (.lconst 1, 1) := by decide +kernel
theorem dX11_signAt_57 : decode cX11_signAt 57 = .ok (.lconst 0, 1) := by decide +kernel
theorem dX11_signAt_58 : decode cX11_signAt 58 = .ok (.invokevirtual 259, 3) := by decide +kernel
theorem dX11_signAt_61 : decode cX11_signAt 61 = .ok (.aload_n 0, 1) := by decide +kernel
theorem dX11_signAt_62 : decode cX11_signAt 62 = .ok (.getfield 105, 3) := by decide +kernel
theorem dX11_signAt_65 : decode cX11_signAt 65 = .ok (.lload 9, 2) := by decide +kernel
theorem dX11_signAt_67 : decode cX11_signAt 67 = .ok (.lcmp, 1) := by decide +kernel
theorem dX11_signAt_68 : decode cX11_signAt 68 = .ok (.ifCond .ne 13, 3) := by decide +kernel
theorem dX11_signAt_71 : decode cX11_signAt 71 = .ok (.aload_n 0, 1) := by decide +kernel
theorem dX11_signAt_72 : decode cX11_signAt 72 = .ok (.getfield 109, 3) := by decide +kernel
theorem dX11_signAt_75 : decode cX11_signAt 75 = .ok (.lload 11, 2) := by decide +kernel
theorem dX11_signAt_77 : decode cX11_signAt 77 = .ok (.lcmp, 1) := by decide +kernel
theorem dX11_signAt_78 : decode cX11_signAt 78 = .ok (.ifCond .eq 42, 3) := by decide +kernel
theorem dX11_signAt_81 : decode cX11_signAt 81 = .ok (.iload 13, 2) := by decide +kernel
theorem dX11_signAt_83 : decode cX11_signAt 83 = .ok (.iconst 1, 1) := by decide +kernel
theorem dX11_signAt_84 : decode cX11_signAt 84 = .ok (.iadd, 1) := by decide +kernel
theorem dX11_signAt_85 : decode cX11_signAt 85 = .ok (.istore 13, 2) := by decide +kernel
theorem dX11_signAt_87 : decode cX11_signAt 87 = .ok (.aload_n 0, 1) := by decide +kernel
theorem dX11_signAt_88 : decode cX11_signAt 88 = .ok (.iload 13, 2) := by decide +kernel
theorem dX11_signAt_90 : decode cX11_signAt 90 = .ok (.iconst 1, 1) := by decide +kernel
theorem dX11_signAt_91 : decode cX11_signAt 91 = .ok (.if_icmp .ne 7, 3) := by decide +kernel
theorem dX11_signAt_94 : decode cX11_signAt 94 = .ok (.lconst 0, 1) := by decide +kernel
theorem dX11_signAt_95 : decode cX11_signAt 95 = .ok (.goto 6, 3) := by decide +kernel
theorem dX11_signAt_98 : decode cX11_signAt 98 = .ok (.ldc2_w 151, 3) := by decide +kernel
theorem dX11_signAt_101 : decode cX11_signAt 101 = .ok (.iload 13, 2) := by decide +kernel
theorem dX11_signAt_103 : decode cX11_signAt 103 = .ok (.iconst 1, 1) := by decide +kernel
theorem dX11_signAt_104 : decode cX11_signAt 104 = .ok (.if_icmp .ne 7, 3) := by decide +kernel
theorem dX11_signAt_107 : decode cX11_signAt 107 = .ok (.lconst 1, 1) := by decide +kernel
theorem dX11_signAt_108 : decode cX11_signAt 108 = .ok (.goto 6, 3) := by decide +kernel
theorem dX11_signAt_111 : decode cX11_signAt 111 = .ok (.ldc2_w 151, 3) := by decide +kernel
theorem dX11_signAt_114 : decode cX11_signAt 114 = .ok (.invokevirtual 259, 3) := by decide +kernel
theorem dX11_signAt_117 : decode cX11_signAt 117 = .ok (.goto (-56), 3) := by decide +kernel
theorem dX11_signAt_120 : decode cX11_signAt 120 = .ok (.iload 13, 2) := by decide +kernel
theorem dX11_signAt_122 : decode cX11_signAt 122 = .ok (.ireturn, 1) := by decide +kernel
theorem dX11_signBy_0 : decode cX11_signBy 0 = .ok (.iload_n 1, 1) := by decide +kernel
theorem dX11_signBy_1 : decode cX11_signBy 1 = .ok (.invokestatic 85, 3) := by decide +kernel
theorem dX11_signBy_4 : decode cX11_signBy 4 = .ok (.ifCond .eq 14, 3) := by decide +kernel
theorem dX11_signBy_7 : decode cX11_signBy 7 = .ok (.iload_n 2, 1) := by decide +kernel
theorem dX11_signBy_8 : decode cX11_signBy 8 = .ok (.invokestatic 85, 3) := by decide +kernel
theorem dX11_signBy_11 : decode cX11_signBy 11 = .ok (.ifCond .eq 7, 3) := by decide +kernel
theorem dX11_signBy_14 : decode cX11_signBy 14 = .ok (.iload_n 3, 1) := by decide +kernel
theorem dX11_signBy_15 : decode cX11_signBy 15 = .ok (.ifCond .ge 5, 3) := by decide +kernel
theorem dX11_signBy_18 : decode cX11_signBy 18 = .ok (.iconst (-1), 1) := by decide +kernel
theorem dX11_signBy_19 : decode cX11_signBy 19 = .ok (.ireturn, 1) := by decide +kernel
theorem dX11_signBy_20 : decode cX11_signBy 20 = .ok (.aload_n 0, 1) := by decide +kernel
theorem dX11_signBy_21 : decode cX11_signBy 21 = .ok (.iload_n 1, 1) := by decide +kernel
theorem dX11_signBy_22 : decode cX11_signBy 22 = .ok (.iload_n 2, 1) := by decide +kernel
theorem dX11_signBy_23 : decode cX11_signBy 23 = .ok (.invokevirtual 269, 3) := by decide +kernel
theorem dX11_signBy_26 : decode cX11_signBy 26 = .ok (.ifCond .ne 6, 3) := by decide +kernel
theorem dX11_signBy_29 : decode cX11_signBy 29 = .ok (.bipush (-2), 2) := by decide +kernel
theorem dX11_signBy_31 : decode cX11_signBy 31 = .ok (.ireturn, 1) := by decide +kernel
theorem dX11_signBy_32 : decode cX11_signBy 32 = .ok (.aload_n 0, 1) := by decide +kernel
theorem dX11_signBy_33 : decode cX11_signBy 33 = .ok (.iload_n 2, 1) := by decide +kernel
theorem dX11_signBy_34 : decode cX11_signBy 34 = .ok (.invokevirtual 353, 3) := by decide +kernel
theorem dX11_signBy_37 : decode cX11_signBy 37 = .ok (.ifCond .ne 6, 3) := by decide +kernel
theorem dX11_signBy_40 : decode cX11_signBy 40 = .ok (.bipush (-3), 2) := by decide +kernel
theorem dX11_signBy_42 : decode cX11_signBy 42 = .ok (.ireturn, 1) := by decide +kernel
theorem dX11_signBy_43 : decode cX11_signBy 43 = .ok (.aload_n 0, 1) := by decide +kernel
theorem dX11_signBy_44 : decode cX11_signBy 44 = .ok (.aload_n 0, 1) := by decide +kernel
theorem dX11_signBy_45 : decode cX11_signBy 45 = .ok (.getfield 20, 3) := by decide +kernel
theorem dX11_signBy_48 : decode cX11_signBy 48 = .ok (.iload_n 2, 1) := by decide +kernel
theorem dX11_signBy_49 : decode cX11_signBy 49 = .ok (.iaload, 1) := by decide +kernel
theorem dX11_signBy_50 : decode cX11_signBy 50 = .ok (.i2l, 1) := by decide +kernel
theorem dX11_signBy_51 : decode cX11_signBy 51 = .ok (.aload_n 0, 1) := by decide +kernel
theorem dX11_signBy_52 : decode cX11_signBy 52 = .ok (.getfield 24, 3) := by decide +kernel
theorem dX11_signBy_55 : decode cX11_signBy 55 = .ok (.iload_n 2, 1) := by decide +kernel
theorem dX11_signBy_56 : decode cX11_signBy 56 = .ok (.iaload, 1) := by decide +kernel
theorem dX11_signBy_57 : decode cX11_signBy 57 = .ok (.i2l, 1) := by decide +kernel
theorem dX11_signBy_58 : decode cX11_signBy 58 = .ok (.invokevirtual 222, 3) := by decide +kernel
theorem dX11_signBy_61 : decode cX11_signBy 61 = .ok (.iload_n 3, 1) := by decide +kernel
theorem dX11_signBy_62 : decode cX11_signBy 62 = .ok (.aload_n 0, 1) := by decide +kernel
theorem dX11_signBy_63 : decode cX11_signBy 63 = .ok (.getfield 201, 3) := by decide +kernel
theorem dX11_signBy_66 : decode cX11_signBy 66 = .ok (.if_icmp .ge 38, 3) := by decide +kernel
theorem dX11_signBy_69 : decode cX11_signBy 69 = .ok (.aload_n 0, 1) := by decide +kernel
theorem dX11_signBy_70 : decode cX11_signBy 70 = .ok (.aload_n 0, 1) := by decide +kernel
theorem dX11_signBy_71 : decode cX11_signBy 71 = .ok (.getfield 20, 3) := by decide +kernel
theorem dX11_signBy_74 : decode cX11_signBy 74 = .ok (.iload_n 1, 1) := by decide +kernel
theorem dX11_signBy_75 : decode cX11_signBy 75 = .ok (.iaload, 1) := by decide +kernel
theorem dX11_signBy_76 : decode cX11_signBy 76 = .ok (.i2l, 1) := by decide +kernel
theorem dX11_signBy_77 : decode cX11_signBy 77 = .ok (.aload_n 0, 1) := by decide +kernel
theorem dX11_signBy_78 : decode cX11_signBy 78 = .ok (.getfield 24, 3) := by decide +kernel
theorem dX11_signBy_81 : decode cX11_signBy 81 = .ok (.iload_n 1, 1) := by decide +kernel
theorem dX11_signBy_82 : decode cX11_signBy 82 = .ok (.iaload, 1) := by decide +kernel
theorem dX11_signBy_83 : decode cX11_signBy 83 = .ok (.i2l, 1) := by decide +kernel
theorem dX11_signBy_84 : decode cX11_signBy 84 = .ok (.aload_n 0, 1) := by decide +kernel
theorem dX11_signBy_85 : decode cX11_signBy 85 = .ok (.getfield 33, 3) := by decide +kernel
theorem dX11_signBy_88 : decode cX11_signBy 88 = .ok (.iload_n 3, 1) := by decide +kernel
theorem dX11_signBy_89 : decode cX11_signBy 89 = .ok (.iaload, 1) := by decide +kernel
theorem dX11_signBy_90 : decode cX11_signBy 90 = .ok (.i2l, 1) := by decide +kernel
theorem dX11_signBy_91 : decode cX11_signBy 91 = .ok (.aload_n 0, 1) := by decide +kernel
theorem dX11_signBy_92 : decode cX11_signBy 92 = .ok (.getfield 36, 3) := by decide +kernel
theorem dX11_signBy_95 : decode cX11_signBy 95 = .ok (.iload_n 3, 1) := by decide +kernel
theorem dX11_signBy_96 : decode cX11_signBy 96 = .ok (.iaload, 1) := by decide +kernel
theorem dX11_signBy_97 : decode cX11_signBy 97 = .ok (.i2l, 1) := by decide +kernel
theorem dX11_signBy_98 : decode cX11_signBy 98 = .ok (.invokevirtual 349, 3) := by decide +kernel
theorem dX11_signBy_101 : decode cX11_signBy 101 = .ok (.goto 5, 3) := by decide +kernel
theorem dX11_signBy_104 : decode cX11_signBy 104 = .ok (.bipush (-4), 2) := by decide +kernel
theorem dX11_signBy_106 : decode cX11_signBy 106 = .ok (.ireturn, 1) := by decide +kernel
theorem dX11_signNow_0 : decode cX11_signNow 0 = .ok (.iconst 0, 1) := by decide +kernel
theorem dX11_signNow_1 : decode cX11_signNow 1 = .ok (.istore 5, 2) := by decide +kernel
theorem dX11_signNow_3 : decode cX11_signNow 3 = .ok (.iconst 0, 1) := by decide +kernel
theorem dX11_signNow_4 : decode cX11_signNow 4 = .ok (.istore 6, 2) := by decide +kernel
theorem dX11_signNow_6 : decode cX11_signNow 6 = .ok (.iconst 0, 1) := by decide +kernel
theorem dX11_signNow_7 : decode cX11_signNow 7 = .ok (.istore 7, 2) := by decide +kernel
theorem dX11_signNow_9 : decode cX11_signNow 9 = .ok (.iload 7, 2) := by decide +kernel
theorem dX11_signNow_11 : decode cX11_signNow 11 = .ok (.aload_n 0, 1) := by decide +kernel
theorem dX11_signNow_12 : decode cX11_signNow 12 = .ok (.getfield 201, 3) := by decide +kernel
theorem dX11_signNow_15 : decode cX11_signNow 15 = .ok (.if_icmp .ge 58, 3) := by decide +kernel
theorem dX11_signNow_18 : decode cX11_signNow 18 = .ok (.aload_n 0, 1) := by decide +kernel
theorem dX11_signNow_19 : decode cX11_signNow 19 = .ok (.lload_n 1, 1) := by decide +kernel
theorem dX11_signNow_20 : decode cX11_signNow 20 = .ok (.lload_n 3, 1) := by decide +kernel
theorem dX11_signNow_21 : decode cX11_signNow 21 = .ok (.aload_n 0, 1) := by decide +kernel
theorem dX11_signNow_22 : decode cX11_signNow 22 = .ok (.getfield 33, 3) := by decide +kernel
theorem dX11_signNow_25 : decode cX11_signNow 25 = .ok (.iload 7, 2) := by decide +kernel
theorem dX11_signNow_27 : decode cX11_signNow 27 = .ok (.iaload, 1) := by decide +kernel
theorem dX11_signNow_28 : decode cX11_signNow 28 = .ok (.i2l, 1) := by decide +kernel
theorem dX11_signNow_29 : decode cX11_signNow 29 = .ok (.aload_n 0, 1) := by decide +kernel
theorem dX11_signNow_30 : decode cX11_signNow 30 = .ok (.getfield 36, 3) := by decide +kernel
theorem dX11_signNow_33 : decode cX11_signNow 33 = .ok (.iload 7, 2) := by decide +kernel
theorem dX11_signNow_35 : decode cX11_signNow 35 = .ok (.iaload, 1) := by decide +kernel
theorem dX11_signNow_36 : decode cX11_signNow 36 = .ok (.i2l, 1) := by decide +kernel
theorem dX11_signNow_37 : decode cX11_signNow 37 = .ok (.invokevirtual 349, 3) := by decide +kernel
theorem dX11_signNow_40 : decode cX11_signNow 40 = .ok (.istore 8, 2) := by decide +kernel
theorem dX11_signNow_42 : decode cX11_signNow 42 = .ok (.iload 6, 2) := by decide +kernel
theorem dX11_signNow_44 : decode cX11_signNow 44 = .ok (.ifCond .ne 9, 3) := by decide +kernel
theorem dX11_signNow_47 : decode cX11_signNow 47 = .ok (.iload 8, 2) := by decide +kernel
theorem dX11_signNow_49 : decode cX11_signNow 49 = .ok (.iconst 3, 1) := by decide +kernel
theorem dX11_signNow_50 : decode cX11_signNow 50 = .ok (.if_icmp .ne 7, 3) := by decide +kernel
theorem dX11_signNow_53 : decode cX11_signNow 53 = .ok (.iconst 1, 1) := by decide +kernel
theorem dX11_signNow_54 : decode cX11_signNow 54 = .ok (.goto 4, 3) := by decide +kernel
theorem dX11_signNow_57 : decode cX11_signNow 57 = .ok (.iconst 0, 1) := by decide +kernel
theorem dX11_signNow_58 : decode cX11_signNow 58 = .ok (.istore 6, 2) := by decide +kernel
theorem dX11_signNow_60 : decode cX11_signNow 60 = .ok (.iload 5, 2) := by decide +kernel
theorem dX11_signNow_62 : decode cX11_signNow 62 = .ok (.iload 8, 2) := by decide +kernel
theorem dX11_signNow_64 : decode cX11_signNow 64 = .ok (.iadd, 1) := by decide +kernel
theorem dX11_signNow_65 : decode cX11_signNow 65 = .ok (.istore 5, 2) := by decide +kernel
theorem dX11_signNow_67 : decode cX11_signNow 67 = .ok (.iinc 7 1, 3) := by decide +kernel
theorem dX11_signNow_70 : decode cX11_signNow 70 = .ok (.goto (-61), 3) := by decide +kernel
theorem dX11_signNow_73 : decode cX11_signNow 73 = .ok (.iload 6, 2) := by decide +kernel
theorem dX11_signNow_75 : decode cX11_signNow 75 = .ok (.ifCond .eq 7, 3) := by decide +kernel
theorem dX11_signNow_78 : decode cX11_signNow 78 = .ok (.iconst 3, 1) := by decide +kernel
theorem dX11_signNow_79 : decode cX11_signNow 79 = .ok (.goto 7, 3) := by decide +kernel
theorem dX11_signNow_82 : decode cX11_signNow 82 = .ok (.iload 5, 2) := by decide +kernel
theorem dX11_signNow_84 : decode cX11_signNow 84 = .ok (.iconst 3, 1) := by decide +kernel
theorem dX11_signNow_85 : decode cX11_signNow 85 = .ok (.irem, 1) := by decide +kernel
theorem dX11_signNow_86 : decode cX11_signNow 86 = .ok (.ireturn, 1) := by decide +kernel
theorem dX11_signOf_0 : decode cX11_signOf 0 = .ok (.aload_n 0, 1) := by decide +kernel
theorem dX11_signOf_1 : decode cX11_signOf 1 = .ok (.aload_n 0, 1) := by decide +kernel
theorem dX11_signOf_2 : decode cX11_signOf 2 = .ok (.getfield 20, 3) := by decide +kernel
theorem dX11_signOf_5 : decode cX11_signOf 5 = .ok (.iload_n 2, 1) := by decide +kernel
theorem dX11_signOf_6 : decode cX11_signOf 6 = .ok (.iaload, 1) := by decide +kernel
theorem dX11_signOf_7 : decode cX11_signOf 7 = .ok (.i2l, 1) := by decide +kernel
theorem dX11_signOf_8 : decode cX11_signOf 8 = .ok (.aload_n 0, 1) := by decide +kernel
theorem dX11_signOf_9 : decode cX11_signOf 9 = .ok (.getfield 24, 3) := by decide +kernel
theorem dX11_signOf_12 : decode cX11_signOf 12 = .ok (.iload_n 2, 1) := by decide +kernel
theorem dX11_signOf_13 : decode cX11_signOf 13 = .ok (.iaload, 1) := by decide +kernel
theorem dX11_signOf_14 : decode cX11_signOf 14 = .ok (.i2l, 1) := by decide +kernel
theorem dX11_signOf_15 : decode cX11_signOf 15 = .ok (.invokevirtual 222, 3) := by decide +kernel
theorem dX11_signOf_18 : decode cX11_signOf 18 = .ok (.aload_n 0, 1) := by decide +kernel
theorem dX11_signOf_19 : decode cX11_signOf 19 = .ok (.aload_n 0, 1) := by decide +kernel
theorem dX11_signOf_20 : decode cX11_signOf 20 = .ok (.getfield 20, 3) := by decide +kernel
theorem dX11_signOf_23 : decode cX11_signOf 23 = .ok (.iload_n 1, 1) := by decide +kernel
theorem dX11_signOf_24 : decode cX11_signOf 24 = .ok (.iaload, 1) := by decide +kernel
theorem dX11_signOf_25 : decode cX11_signOf 25 = .ok (.i2l, 1) := by decide +kernel
theorem dX11_signOf_26 : decode cX11_signOf 26 = .ok (.aload_n 0, 1) := by decide +kernel
theorem dX11_signOf_27 : decode cX11_signOf 27 = .ok (.getfield 24, 3) := by decide +kernel
theorem dX11_signOf_30 : decode cX11_signOf 30 = .ok (.iload_n 1, 1) := by decide +kernel
theorem dX11_signOf_31 : decode cX11_signOf 31 = .ok (.iaload, 1) := by decide +kernel
theorem dX11_signOf_32 : decode cX11_signOf 32 = .ok (.i2l, 1) := by decide +kernel
theorem dX11_signOf_33 : decode cX11_signOf 33 = .ok (.invokevirtual 356, 3) := by decide +kernel
theorem dX11_signOf_36 : decode cX11_signOf 36 = .ok (.ireturn, 1) := by decide +kernel
theorem dX11_split_0 : decode cX11_split 0 = .ok (.iload_n 1, 1) := by decide +kernel
theorem dX11_split_1 : decode cX11_split 1 = .ok (.invokestatic 378, 3) := by decide +kernel
theorem dX11_split_4 : decode cX11_split 4 = .ok (.ifCond .eq 10, 3) := by decide +kernel
theorem dX11_split_7 : decode cX11_split 7 = .ok (.iload_n 2, 1) := by decide +kernel
theorem dX11_split_8 : decode cX11_split 8 = .ok (.invokestatic 85, 3) := by decide +kernel
theorem dX11_split_11 : decode cX11_split 11 = .ok (.ifCond .ne 5, 3) := by decide +kernel
theorem dX11_split_14 : decode cX11_split 14 = .ok (.iconst (-1), 1) := by decide +kernel
theorem dX11_split_15 : decode cX11_split 15 = .ok (.ireturn, 1) := by decide +kernel
theorem dX11_split_16 : decode cX11_split 16 = .ok (.aload_n 0, 1) := by decide +kernel
theorem dX11_split_17 : decode cX11_split 17 = .ok (.iload_n 1, 1) := by decide +kernel
theorem dX11_split_18 : decode cX11_split 18 = .ok (.invokevirtual 211, 3) := by decide +kernel
theorem dX11_split_21 : decode cX11_split 21 = .ok (.aload_n 0, 1) := by decide +kernel
theorem dX11_split_22 : decode cX11_split 22 = .ok (.iload_n 2, 1) := by decide +kernel
theorem dX11_split_23 : decode cX11_split 23 = .ok (.aload_n 0, 1) := by decide +kernel
theorem dX11_split_24 : decode cX11_split 24 = .ok (.getfield 105, 3) := by decide +kernel
theorem dX11_split_27 : decode cX11_split 27 = .ok (.aload_n 0, 1) := by decide +kernel
theorem dX11_split_28 : decode cX11_split 28 = .ok (.getfield 109, 3) := by decide +kernel
theorem dX11_split_31 : decode cX11_split 31 = .ok (.invokevirtual 93, 3) := by decide +kernel
theorem dX11_split_34 : decode cX11_split 34 = .ok (.aload_n 0, 1) := by decide +kernel
theorem dX11_split_35 : decode cX11_split 35 = .ok (.getfield 24, 3) := by decide +kernel
theorem dX11_split_38 : decode cX11_split 38 = .ok (.iload_n 2, 1) := by decide +kernel
theorem dX11_split_39 : decode cX11_split 39 = .ok (.iaload, 1) := by decide +kernel
theorem dX11_split_40 : decode cX11_split 40 = .ok (.ireturn, 1) := by decide +kernel
theorem dX11_splits_0 : decode cX11_splits 0 = .ok (.iconst 3, 1) := by decide +kernel
theorem dX11_splits_1 : decode cX11_splits 1 = .ok (.istore_n 2, 1) := by decide +kernel
theorem dX11_splits_2 : decode cX11_splits 2 = .ok (.iconst 4, 1) := by decide +kernel
theorem dX11_splits_3 : decode cX11_splits 3 = .ok (.iload_n 1, 1) := by decide +kernel
theorem dX11_splits_4 : decode cX11_splits 4 = .ok (.imul, 1) := by decide +kernel
theorem dX11_splits_5 : decode cX11_splits 5 = .ok (.iconst 3, 1) := by decide +kernel
theorem dX11_splits_6 : decode cX11_splits 6 = .ok (.iload_n 2, 1) := by decide +kernel
theorem dX11_splits_7 : decode cX11_splits 7 = .ok (.imul, 1) := by decide +kernel
theorem dX11_splits_8 : decode cX11_splits 8 = .ok (.iload_n 2, 1) := by decide +kernel
theorem dX11_splits_9 : decode cX11_splits 9 = .ok (.imul, 1) := by decide +kernel
theorem dX11_splits_10 : decode cX11_splits 10 = .ok (.isub, 1) := by decide +kernel
theorem dX11_splits_11 : decode cX11_splits 11 = .ok (.invokestatic 217, 3) := by decide +kernel
theorem dX11_splits_14 : decode cX11_splits 14 = .ok (.istore_n 3, 1) := by decide +kernel
theorem dX11_splits_15 : decode cX11_splits 15 = .ok (.iload_n 3, 1) := by decide +kernel
theorem dX11_splits_16 : decode cX11_splits 16 = .ok (.iload_n 3, 1) := by decide +kernel
theorem dX11_splits_17 : decode cX11_splits 17 = .ok (.imul, 1) := by decide +kernel
theorem dX11_splits_18 : decode cX11_splits 18 = .ok (.iconst 4, 1) := by decide +kernel
theorem dX11_splits_19 : decode cX11_splits 19 = .ok (.iload_n 1, 1) := by decide +kernel
theorem dX11_splits_20 : decode cX11_splits 20 = .ok (.imul, 1) := by decide +kernel
theorem dX11_splits_21 : decode cX11_splits 21 = .ok (.iconst 3, 1) := by decide +kernel
theorem dX11_splits_22 : decode cX11_splits 22 = .ok (.iload_n 2, 1) := by decide +kernel
theorem dX11_splits_23 : decode cX11_splits 23 = .ok (.imul, 1) := by decide +kernel
theorem dX11_splits_24 : decode cX11_splits 24 = .ok (.iload_n 2, 1) := by decide +kernel
theorem dX11_splits_25 : decode cX11_splits 25 = .ok (.imul, 1) := by decide +kernel
theorem dX11_splits_26 : decode cX11_splits 26 = .ok (.isub, 1) := by decide +kernel
theorem dX11_splits_27 : decode cX11_splits 27 = .ok (.if_icmp .eq 23, 3) := by decide +kernel
theorem dX11_splits_30 : decode cX11_splits 30 = .ok (.iload_n 2, 1) := by decide +kernel
theorem dX11_splits_31 : decode cX11_splits 31 = .ok (.iconst 3, 1) := by decide +kernel
theorem dX11_splits_32 : decode cX11_splits 32 = .ok (.iadd, 1) := by decide +kernel
theorem dX11_splits_33 : decode cX11_splits 33 = .ok (.istore_n 2, 1) := by decide +kernel
theorem dX11_splits_34 : decode cX11_splits 34 = .ok (.iconst 4, 1) := by decide +kernel
theorem dX11_splits_35 : decode cX11_splits 35 = .ok (.iload_n 1, 1) := by decide +kernel
theorem dX11_splits_36 : decode cX11_splits 36 = .ok (.imul, 1) := by decide +kernel
theorem dX11_splits_37 : decode cX11_splits 37 = .ok (.iconst 3, 1) := by decide +kernel
theorem dX11_splits_38 : decode cX11_splits 38 = .ok (.iload_n 2, 1) := by decide +kernel
theorem dX11_splits_39 : decode cX11_splits 39 = .ok (.imul, 1) := by decide +kernel
theorem dX11_splits_40 : decode cX11_splits 40 = .ok (.iload_n 2, 1) := by decide +kernel
theorem dX11_splits_41 : decode cX11_splits 41 = .ok (.imul, 1) := by decide +kernel
theorem dX11_splits_42 : decode cX11_splits 42 = .ok (.isub, 1) := by decide +kernel
theorem dX11_splits_43 : decode cX11_splits 43 = .ok (.invokestatic 217, 3) := by decide +kernel
theorem dX11_splits_46 : decode cX11_splits 46 = .ok (.istore_n 3, 1) := by decide +kernel
theorem dX11_splits_47 : decode cX11_splits 47 = .ok (.goto (-32), 3) := by decide +kernel
theorem dX11_splits_50 : decode cX11_splits 50 = .ok (.iload_n 2, 1) := by decide +kernel
theorem dX11_splits_51 : decode cX11_splits 51 = .ok (.iload_n 3, 1) := by decide +kernel
theorem dX11_splits_52 : decode cX11_splits 52 = .ok (.iadd, 1) := by decide +kernel
theorem dX11_splits_53 : decode cX11_splits 53 = .ok (.iconst 2, 1) := by decide +kernel
theorem dX11_splits_54 : decode cX11_splits 54 = .ok (.idiv, 1) := by decide +kernel
theorem dX11_splits_55 : decode cX11_splits 55 = .ok (.istore 4, 2) := by decide +kernel
theorem dX11_splits_57 : decode cX11_splits 57 = .ok (.aload_n 0, 1) := by decide +kernel
theorem dX11_splits_58 : decode cX11_splits 58 = .ok (.iload 4, 2) := by decide +kernel
theorem dX11_splits_60 : decode cX11_splits 60 = .ok (.i2l, 1) := by decide +kernel
theorem dX11_splits_61 : decode cX11_splits 61 = .ok (.ldc2_w 134, 3) := by decide +kernel
theorem dX11_splits_64 : decode cX11_splits 64 = .ok (.invokestatic 136, 3) := by decide +kernel
theorem dX11_splits_67 : decode cX11_splits 67 = .ok (.ldc2_w 119, 3) := by decide +kernel
theorem dX11_splits_70 : decode cX11_splits 70 = .ok (.lcmp, 1) := by decide +kernel
theorem dX11_splits_71 : decode cX11_splits 71 = .ok (.ifCond .ne 9, 3) := by decide +kernel
theorem dX11_splits_74 : decode cX11_splits 74 = .ok (.iload 4, 2) := by decide +kernel
theorem dX11_splits_76 : decode cX11_splits 76 = .ok (.i2l, 1) := by decide +kernel
theorem dX11_splits_77 : decode cX11_splits 77 = .ok (.goto 8, 3) := by decide +kernel
theorem dX11_splits_80 : decode cX11_splits 80 = .ok (.iload_n 2, 1) := by decide +kernel
theorem dX11_splits_81 : decode cX11_splits 81 = .ok (.iload 4, 2) := by decide +kernel
theorem dX11_splits_83 : decode cX11_splits 83 = .ok (.isub, 1) := by decide +kernel
theorem dX11_splits_84 : decode cX11_splits 84 = .ok (.i2l, 1) := by decide +kernel
theorem dX11_splits_85 : decode cX11_splits 85 = .ok (.iload_n 2, 1) := by decide +kernel
theorem dX11_splits_86 : decode cX11_splits 86 = .ok (.i2l, 1) := by decide +kernel
theorem dX11_splits_87 : decode cX11_splits 87 = .ok (.invokevirtual 115, 3) := by decide +kernel
theorem dX11_splits_90 : decode cX11_splits 90 = .ok (.return_, 1) := by decide +kernel
theorem dX11_spread_0 : decode cX11_spread 0 = .ok (.iload_n 1, 1) := by decide +kernel
theorem dX11_spread_1 : decode cX11_spread 1 = .ok (.invokestatic 85, 3) := by decide +kernel
theorem dX11_spread_4 : decode cX11_spread 4 = .ok (.ifCond .eq 15, 3) := by decide +kernel
theorem dX11_spread_7 : decode cX11_spread 7 = .ok (.iload_n 2, 1) := by decide +kernel
theorem dX11_spread_8 : decode cX11_spread 8 = .ok (.i2l, 1) := by decide +kernel
theorem dX11_spread_9 : decode cX11_spread 9 = .ok (.lconst 0, 1) := by decide +kernel
theorem dX11_spread_10 : decode cX11_spread 10 = .ok (.ldc2_w 340, 3) := by decide +kernel
theorem dX11_spread_13 : decode cX11_spread 13 = .ok (.invokestatic 77, 3) := by decide +kernel
theorem dX11_spread_16 : decode cX11_spread 16 = .ok (.ifCond .ne 5, 3) := by decide +kernel
theorem dX11_spread_19 : decode cX11_spread 19 = .ok (.iconst (-1), 1) := by decide +kernel
theorem dX11_spread_20 : decode cX11_spread 20 = .ok (.ireturn, 1) := by decide +kernel
theorem dX11_spread_21 : decode cX11_spread 21 = .ok (.aload_n 0, 1) := by decide +kernel
theorem dX11_spread_22 : decode cX11_spread 22 = .ok (.getfield 13, 3) := by decide +kernel
theorem dX11_spread_25 : decode cX11_spread 25 = .ok (.iload_n 1, 1) := by decide +kernel
theorem dX11_spread_26 : decode cX11_spread 26 = .ok (.baload, 1) := by decide +kernel
theorem dX11_spread_27 : decode cX11_spread 27 = .ok (.ifCond .ne 6, 3) := by decide +kernel
theorem dX11_spread_30 : decode cX11_spread 30 = .ok (.bipush (-2), 2) := by decide +kernel
theorem dX11_spread_32 : decode cX11_spread 32 = .ok (.ireturn, 1) := by decide +kernel
theorem dX11_spread_33 : decode cX11_spread 33 = .ok (.aload_n 0, 1) := by decide +kernel
theorem dX11_spread_34 : decode cX11_spread 34 = .ok (.iload_n 1, 1) := by decide +kernel
theorem dX11_spread_35 : decode cX11_spread 35 = .ok (.sipush 2000, 3) := by decide +kernel
theorem dX11_spread_38 : decode cX11_spread 38 = .ok (.invokevirtual 331, 3) := by decide +kernel
theorem dX11_spread_41 : decode cX11_spread 41 = .ok (.ifCond .eq 6, 3) := by decide +kernel
theorem dX11_spread_44 : decode cX11_spread 44 = .ok (.bipush (-3), 2) := by decide +kernel
theorem dX11_spread_46 : decode cX11_spread 46 = .ok (.ireturn, 1) := by decide +kernel
theorem dX11_spread_47 : decode cX11_spread 47 = .ok (.aload_n 0, 1) := by decide +kernel
theorem dX11_spread_48 : decode cX11_spread 48 = .ok (.aload_n 0, 1) := by decide +kernel
theorem dX11_spread_49 : decode cX11_spread 49 = .ok (.getfield 20, 3) := by decide +kernel
theorem dX11_spread_52 : decode cX11_spread 52 = .ok (.iload_n 1, 1) := by decide +kernel
theorem dX11_spread_53 : decode cX11_spread 53 = .ok (.iaload, 1) := by decide +kernel
theorem dX11_spread_54 : decode cX11_spread 54 = .ok (.i2l, 1) := by decide +kernel
theorem dX11_spread_55 : decode cX11_spread 55 = .ok (.aload_n 0, 1) := by decide +kernel
theorem dX11_spread_56 : decode cX11_spread 56 = .ok (.getfield 24, 3) := by decide +kernel
theorem dX11_spread_59 : decode cX11_spread 59 = .ok (.iload_n 1, 1) := by decide +kernel
theorem dX11_spread_60 : decode cX11_spread 60 = .ok (.iaload, 1) := by decide +kernel
theorem dX11_spread_61 : decode cX11_spread 61 = .ok (.i2l, 1) := by decide +kernel
theorem dX11_spread_62 : decode cX11_spread 62 = .ok (.invokevirtual 334, 3) := by decide +kernel
theorem dX11_spread_65 : decode cX11_spread 65 = .ok (.iconst 0, 1) := by decide +kernel
theorem dX11_spread_66 : decode cX11_spread 66 = .ok (.istore_n 3, 1) := by decide +kernel
theorem dX11_spread_67 : decode cX11_spread 67 = .ok (.iconst 0, 1) := by decide +kernel
theorem dX11_spread_68 : decode cX11_spread 68 = .ok (.istore 4, 2) := by decide +kernel
theorem dX11_spread_70 : decode cX11_spread 70 = .ok (.iload 4, 2) := by decide +kernel
theorem dX11_spread_72 : decode cX11_spread 72 = .ok (.aload_n 0, 1) := by decide +kernel
theorem dX11_spread_73 : decode cX11_spread 73 = .ok (.invokevirtual 321, 3) := by decide +kernel
theorem dX11_spread_76 : decode cX11_spread 76 = .ok (.if_icmp .ge 28, 3) := by decide +kernel
theorem dX11_spread_79 : decode cX11_spread 79 = .ok (.iload_n 3, 1) := by decide +kernel
theorem dX11_spread_80 : decode cX11_spread 80 = .ok (.aload_n 0, 1) := by decide +kernel
theorem dX11_spread_81 : decode cX11_spread 81 = .ok (.getfield 42, 3) := by decide +kernel
theorem dX11_spread_84 : decode cX11_spread 84 = .ok (.iload 4, 2) := by decide +kernel
theorem dX11_spread_86 : decode cX11_spread 86 = .ok (.iaload, 1) := by decide +kernel
theorem dX11_spread_87 : decode cX11_spread 87 = .ok (.iload_n 2, 1) := by decide +kernel
theorem dX11_spread_88 : decode cX11_spread 88 = .ok (.if_icmp .ne 7, 3) := by decide +kernel
theorem dX11_spread_91 : decode cX11_spread 91 = .ok (.iconst 1, 1) := by decide +kernel
theorem dX11_spread_92 : decode cX11_spread 92 = .ok (.goto 4, 3) := by decide +kernel
theorem dX11_spread_95 : decode cX11_spread 95 = .ok (.iconst 0, 1) := by decide +kernel
theorem dX11_spread_96 : decode cX11_spread 96 = .ok (.iadd, 1) := by decide +kernel
theorem dX11_spread_97 : decode cX11_spread 97 = .ok (.istore_n 3, 1) := by decide +kernel
theorem dX11_spread_98 : decode cX11_spread 98 = .ok (.iinc 4 1, 3) := by decide +kernel
theorem dX11_spread_101 : decode cX11_spread 101 = .ok (.goto (-31), 3) := by decide +kernel
theorem dX11_spread_104 : decode cX11_spread 104 = .ok (.iload_n 3, 1) := by decide +kernel
theorem dX11_spread_105 : decode cX11_spread 105 = .ok (.ireturn, 1) := by decide +kernel
theorem dX11_steps_0 : decode cX11_steps 0 = .ok (.iload_n 1, 1) := by decide +kernel
theorem dX11_steps_1 : decode cX11_steps 1 = .ok (.invokestatic 85, 3) := by decide +kernel
theorem dX11_steps_4 : decode cX11_steps 4 = .ok (.ifCond .eq 10, 3) := by decide +kernel
theorem dX11_steps_7 : decode cX11_steps 7 = .ok (.iload_n 2, 1) := by decide +kernel
theorem dX11_steps_8 : decode cX11_steps 8 = .ok (.invokestatic 85, 3) := by decide +kernel
theorem dX11_steps_11 : decode cX11_steps 11 = .ok (.ifCond .ne 5, 3) := by decide +kernel
theorem dX11_steps_14 : decode cX11_steps 14 = .ok (.iconst (-1), 1) := by decide +kernel
theorem dX11_steps_15 : decode cX11_steps 15 = .ok (.ireturn, 1) := by decide +kernel
theorem dX11_steps_16 : decode cX11_steps 16 = .ok (.aload_n 0, 1) := by decide +kernel
theorem dX11_steps_17 : decode cX11_steps 17 = .ok (.iload_n 1, 1) := by decide +kernel
theorem dX11_steps_18 : decode cX11_steps 18 = .ok (.iload_n 2, 1) := by decide +kernel
theorem dX11_steps_19 : decode cX11_steps 19 = .ok (.invokevirtual 269, 3) := by decide +kernel
theorem dX11_steps_22 : decode cX11_steps 22 = .ok (.ifCond .ne 6, 3) := by decide +kernel
theorem dX11_steps_25 : decode cX11_steps 25 = .ok (.bipush (-2), 2) := by decide +kernel
theorem dX11_steps_27 : decode cX11_steps 27 = .ok (.ireturn, 1) := by decide +kernel
theorem dX11_steps_28 : decode cX11_steps 28 = .ok (.aload_n 0, 1) := by decide +kernel
theorem dX11_steps_29 : decode cX11_steps 29 = .ok (.getfield 20, 3) := by decide +kernel
theorem dX11_steps_32 : decode cX11_steps 32 = .ok (.iload_n 2, 1) := by decide +kernel
theorem dX11_steps_33 : decode cX11_steps 33 = .ok (.iaload, 1) := by decide +kernel
theorem dX11_steps_34 : decode cX11_steps 34 = .ok (.aload_n 0, 1) := by decide +kernel
theorem dX11_steps_35 : decode cX11_steps 35 = .ok (.getfield 20, 3) := by decide +kernel
theorem dX11_steps_38 : decode cX11_steps 38 = .ok (.iload_n 1, 1) := by decide +kernel
theorem dX11_steps_39 : decode cX11_steps 39 = .ok (.iaload, 1) := by decide +kernel
theorem dX11_steps_40 : decode cX11_steps 40 = .ok (.isub, 1) := by decide +kernel
theorem dX11_steps_41 : decode cX11_steps 41 = .ok (.i2l, 1) := by decide +kernel
theorem dX11_steps_42 : decode cX11_steps 42 = .ok (.lstore_n 3, 1) := by decide +kernel
theorem dX11_steps_43 : decode cX11_steps 43 = .ok (.aload_n 0, 1) := by decide +kernel
theorem dX11_steps_44 : decode cX11_steps 44 = .ok (.getfield 24, 3) := by decide +kernel
theorem dX11_steps_47 : decode cX11_steps 47 = .ok (.iload_n 2, 1) := by decide +kernel
theorem dX11_steps_48 : decode cX11_steps 48 = .ok (.iaload, 1) := by decide +kernel
theorem dX11_steps_49 : decode cX11_steps 49 = .ok (.aload_n 0, 1) := by decide +kernel
theorem dX11_steps_50 : decode cX11_steps 50 = .ok (.getfield 24, 3) := by decide +kernel
theorem dX11_steps_53 : decode cX11_steps 53 = .ok (.iload_n 1, 1) := by decide +kernel
theorem dX11_steps_54 : decode cX11_steps 54 = .ok (.iaload, 1) := by decide +kernel
theorem dX11_steps_55 : decode cX11_steps 55 = .ok (.isub, 1) := by decide +kernel
theorem dX11_steps_56 : decode cX11_steps 56 = .ok (.i2l, 1) := by decide +kernel
theorem dX11_steps_57 : decode cX11_steps 57 = .ok (.lstore 5, 2) := by decide +kernel
theorem dX11_steps_59 : decode cX11_steps 59 = .ok (.lload_n 3, 1) := by decide +kernel
theorem dX11_steps_60 : decode cX11_steps 60 = .ok (.invokestatic 246, 3) := by decide +kernel
theorem dX11_steps_63 : decode cX11_steps 63 = .ok (.lstore 7, 2) := by decide +kernel
theorem dX11_steps_65 : decode cX11_steps 65 = .ok (.lload 5, 2) := by decide +kernel
theorem dX11_steps_67 : decode cX11_steps 67 = .ok (.invokestatic 246, 3) := by decide +kernel
theorem dX11_steps_70 : decode cX11_steps 70 = .ok (.lstore 9, 2) := by decide +kernel
theorem dX11_steps_72 : decode cX11_steps 72 = .ok (.lload_n 3, 1) := by decide +kernel
theorem dX11_steps_73 : decode cX11_steps 73 = .ok (.lconst 0, 1) := by decide +kernel
theorem dX11_steps_74 : decode cX11_steps 74 = .ok (.lcmp, 1) := by decide +kernel
theorem dX11_steps_75 : decode cX11_steps 75 = .ok (.ifCond .ge 7, 3) := by decide +kernel
theorem dX11_steps_78 : decode cX11_steps 78 = .ok (.iconst 1, 1) := by decide +kernel
theorem dX11_steps_79 : decode cX11_steps 79 = .ok (.goto 4, 3) := by decide +kernel
theorem dX11_steps_82 : decode cX11_steps 82 = .ok (.iconst 0, 1) := by decide +kernel
theorem dX11_steps_83 : decode cX11_steps 83 = .ok (.lload 5, 2) := by decide +kernel
theorem dX11_steps_85 : decode cX11_steps 85 = .ok (.lconst 0, 1) := by decide +kernel
theorem dX11_steps_86 : decode cX11_steps 86 = .ok (.lcmp, 1) := by decide +kernel
theorem dX11_steps_87 : decode cX11_steps 87 = .ok (.ifCond .ge 7, 3) := by decide +kernel
theorem dX11_steps_90 : decode cX11_steps 90 = .ok (.iconst 1, 1) := by decide +kernel
theorem dX11_steps_91 : decode cX11_steps 91 = .ok (.goto 4, 3) := by decide +kernel
theorem dX11_steps_94 : decode cX11_steps 94 = .ok (.iconst 0, 1) := by decide +kernel
theorem dX11_steps_95 : decode cX11_steps 95 = .ok (.if_icmp .eq 11, 3) := by decide +kernel
theorem dX11_steps_98 : decode cX11_steps 98 = .ok (.lload 7, 2) := by decide +kernel
theorem dX11_steps_100 : decode cX11_steps 100 = .ok (.lload 9, 2) := by decide +kernel
theorem dX11_steps_102 : decode cX11_steps 102 = .ok (.ladd, 1) := by decide +kernel
theorem dX11_steps_103 : decode cX11_steps 103 = .ok (.goto 18, 3) := by decide +kernel
theorem dX11_steps_106 : decode cX11_steps 106 = .ok (.lload 7, 2) := by decide +kernel
theorem dX11_steps_108 : decode cX11_steps 108 = .ok (.lload 9, 2) := by decide +kernel
theorem dX11_steps_110 : decode cX11_steps 110 = .ok (.lcmp, 1) := by decide +kernel
theorem dX11_steps_111 : decode cX11_steps 111 = .ok (.ifCond .le 8, 3) := by decide +kernel
theorem dX11_steps_114 : decode cX11_steps 114 = .ok (.lload 7, 2) := by decide +kernel
theorem dX11_steps_116 : decode cX11_steps 116 = .ok (.goto 5, 3) := by decide +kernel
theorem dX11_steps_119 : decode cX11_steps 119 = .ok (.lload 9, 2) := by decide +kernel
theorem dX11_steps_121 : decode cX11_steps 121 = .ok (.l2i, 1) := by decide +kernel
theorem dX11_steps_122 : decode cX11_steps 122 = .ok (.ireturn, 1) := by decide +kernel
theorem dX11_sum_0 : decode cX11_sum 0 = .ok (.iload_n 1, 1) := by decide +kernel
theorem dX11_sum_1 : decode cX11_sum 1 = .ok (.invokestatic 378, 3) := by decide +kernel
theorem dX11_sum_4 : decode cX11_sum 4 = .ok (.ifCond .eq 15, 3) := by decide +kernel
theorem dX11_sum_7 : decode cX11_sum 7 = .ok (.iload_n 2, 1) := by decide +kernel
theorem dX11_sum_8 : decode cX11_sum 8 = .ok (.i2l, 1) := by decide +kernel
theorem dX11_sum_9 : decode cX11_sum 9 = .ok (.lconst 0, 1) := by decide +kernel
theorem dX11_sum_10 : decode cX11_sum 10 = .ok (.ldc2_w 134, 3) := by decide +kernel
theorem dX11_sum_13 : decode cX11_sum 13 = .ok (.invokestatic 77, 3) := by decide +kernel
theorem dX11_sum_16 : decode cX11_sum 16 = .ok (.ifCond .ne 6, 3) := by decide +kernel
theorem dX11_sum_19 : decode cX11_sum 19 = .ok (.ldc 164, 2) := by decide +kernel
theorem dX11_sum_21 : decode cX11_sum 21 = .ok (.ireturn, 1) := by decide +kernel
theorem dX11_sum_22 : decode cX11_sum 22 = .ok (.iload_n 2, 1) := by decide +kernel
theorem dX11_sum_23 : decode cX11_sum 23 = .ok (.iconst 3, 1) := by decide +kernel
theorem dX11_sum_24 : decode cX11_sum 24 = .ok (.if_icmp .ne 9, 3) := by decide +kernel
theorem dX11_sum_27 : decode cX11_sum 27 = .ok (.aload_n 0, 1) := by decide +kernel
theorem dX11_sum_28 : decode cX11_sum 28 = .ok (.iload_n 1, 1) := by decide +kernel
theorem dX11_sum_29 : decode cX11_sum 29 = .ok (.invokevirtual 385, 3) := by decide +kernel
theorem dX11_sum_32 : decode cX11_sum 32 = .ok (.ireturn, 1) := by decide +kernel
theorem dX11_sum_33 : decode cX11_sum 33 = .ok (.aload_n 0, 1) := by decide +kernel
theorem dX11_sum_34 : decode cX11_sum 34 = .ok (.iload_n 1, 1) := by decide +kernel
theorem dX11_sum_35 : decode cX11_sum 35 = .ok (.invokevirtual 388, 3) := by decide +kernel
theorem dX11_sum_38 : decode cX11_sum 38 = .ok (.iconst 0, 1) := by decide +kernel
theorem dX11_sum_39 : decode cX11_sum 39 = .ok (.istore_n 3, 1) := by decide +kernel
theorem dX11_sum_40 : decode cX11_sum 40 = .ok (.iconst 0, 1) := by decide +kernel
theorem dX11_sum_41 : decode cX11_sum 41 = .ok (.istore 4, 2) := by decide +kernel
theorem dX11_sum_43 : decode cX11_sum 43 = .ok (.iconst 2, 1) := by decide +kernel
theorem dX11_sum_44 : decode cX11_sum 44 = .ok (.istore 5, 2) := by decide +kernel
theorem dX11_sum_46 : decode cX11_sum 46 = .ok (.iload 5, 2) := by decide +kernel
theorem dX11_sum_48 : decode cX11_sum 48 = .ok (.iload_n 1, 1) := by decide +kernel
theorem dX11_sum_49 : decode cX11_sum 49 = .ok (.if_icmp .ge 81, 3) := by decide +kernel
theorem dX11_sum_52 : decode cX11_sum 52 = .ok (.aload_n 0, 1) := by decide +kernel
theorem dX11_sum_53 : decode cX11_sum 53 = .ok (.getfield 48, 3) := by decide +kernel
theorem dX11_sum_56 : decode cX11_sum 56 = .ok (.iload 5, 2) := by decide +kernel
theorem dX11_sum_58 : decode cX11_sum 58 = .ok (.iaload, 1) := by decide +kernel
theorem dX11_sum_59 : decode cX11_sum 59 = .ok (.aload_n 0, 1) := by decide +kernel
theorem dX11_sum_60 : decode cX11_sum 60 = .ok (.getfield 48, 3) := by decide +kernel
theorem dX11_sum_63 : decode cX11_sum 63 = .ok (.iload_n 1, 1) := by decide +kernel
theorem dX11_sum_64 : decode cX11_sum 64 = .ok (.iconst 1, 1) := by decide +kernel
theorem dX11_sum_65 : decode cX11_sum 65 = .ok (.iadd, 1) := by decide +kernel
theorem dX11_sum_66 : decode cX11_sum 66 = .ok (.iload 5, 2) := by decide +kernel
theorem dX11_sum_68 : decode cX11_sum 68 = .ok (.isub, 1) := by decide +kernel
theorem dX11_sum_69 : decode cX11_sum 69 = .ok (.iaload, 1) := by decide +kernel
theorem dX11_sum_70 : decode cX11_sum 70 = .ok (.iadd, 1) := by decide +kernel
theorem dX11_sum_71 : decode cX11_sum 71 = .ok (.iconst 3, 1) := by decide +kernel
theorem dX11_sum_72 : decode cX11_sum 72 = .ok (.irem, 1) := by decide +kernel
theorem dX11_sum_73 : decode cX11_sum 73 = .ok (.istore 6, 2) := by decide +kernel
theorem dX11_sum_75 : decode cX11_sum 75 = .ok (.iload_n 3, 1) := by decide +kernel
theorem dX11_sum_76 : decode cX11_sum 76 = .ok (.iload 6, 2) := by decide +kernel
theorem dX11_sum_78 : decode cX11_sum 78 = .ok (.ifCond .ne 7, 3) := by decide +kernel
theorem dX11_sum_81 : decode cX11_sum 81 = .ok (.iconst 1, 1) := by decide +kernel
theorem dX11_sum_82 : decode cX11_sum 82 = .ok (.goto 14, 3) := by decide +kernel
theorem dX11_sum_85 : decode cX11_sum 85 = .ok (.iload 6, 2) := by decide +kernel
theorem dX11_sum_87 : decode cX11_sum 87 = .ok (.iconst 2, 1) := by decide +kernel
theorem dX11_sum_88 : decode cX11_sum 88 = .ok (.if_icmp .ne 7, 3) := by decide +kernel
theorem dX11_sum_91 : decode cX11_sum 91 = .ok (.iconst (-1), 1) := by decide +kernel
theorem dX11_sum_92 : decode cX11_sum 92 = .ok (.goto 4, 3) := by decide +kernel
theorem dX11_sum_95 : decode cX11_sum 95 = .ok (.iconst 0, 1) := by decide +kernel
theorem dX11_sum_96 : decode cX11_sum 96 = .ok (.iadd, 1) := by decide +kernel
theorem dX11_sum_97 : decode cX11_sum 97 = .ok (.istore_n 3, 1) := by decide +kernel
theorem dX11_sum_98 : decode cX11_sum 98 = .ok (.iload 4, 2) := by decide +kernel
theorem dX11_sum_100 : decode cX11_sum 100 = .ok (.iload 6, 2) := by decide +kernel
theorem dX11_sum_102 : decode cX11_sum 102 = .ok (.iconst 1, 1) := by decide +kernel
theorem dX11_sum_103 : decode cX11_sum 103 = .ok (.if_icmp .ne 7, 3) := by decide +kernel
theorem dX11_sum_106 : decode cX11_sum 106 = .ok (.iconst 1, 1) := by decide +kernel
theorem dX11_sum_107 : decode cX11_sum 107 = .ok (.goto 14, 3) := by decide +kernel
theorem dX11_sum_110 : decode cX11_sum 110 = .ok (.iload 6, 2) := by decide +kernel
theorem dX11_sum_112 : decode cX11_sum 112 = .ok (.iconst 2, 1) := by decide +kernel
theorem dX11_sum_113 : decode cX11_sum 113 = .ok (.if_icmp .ne 7, 3) := by decide +kernel
theorem dX11_sum_116 : decode cX11_sum 116 = .ok (.iconst (-1), 1) := by decide +kernel
theorem dX11_sum_117 : decode cX11_sum 117 = .ok (.goto 4, 3) := by decide +kernel
theorem dX11_sum_120 : decode cX11_sum 120 = .ok (.iconst 0, 1) := by decide +kernel
theorem dX11_sum_121 : decode cX11_sum 121 = .ok (.iadd, 1) := by decide +kernel
theorem dX11_sum_122 : decode cX11_sum 122 = .ok (.istore 4, 2) := by decide +kernel
theorem dX11_sum_124 : decode cX11_sum 124 = .ok (.iinc 5 1, 3) := by decide +kernel
theorem dX11_sum_127 : decode cX11_sum 127 = .ok (.goto (-81), 3) := by decide +kernel
theorem dX11_sum_130 : decode cX11_sum 130 = .ok (.iload_n 2, 1) := by decide +kernel
theorem dX11_sum_131 : decode cX11_sum 131 = .ok (.ifCond .ne 7, 3) := by decide +kernel
theorem dX11_sum_134 : decode cX11_sum 134 = .ok (.iload_n 3, 1) := by decide +kernel
theorem dX11_sum_135 : decode cX11_sum 135 = .ok (.goto 21, 3) := by decide +kernel
theorem dX11_sum_138 : decode cX11_sum 138 = .ok (.iload_n 2, 1) := by decide +kernel
theorem dX11_sum_139 : decode cX11_sum 139 = .ok (.iconst 1, 1) := by decide +kernel
theorem dX11_sum_140 : decode cX11_sum 140 = .ok (.if_icmp .ne 8, 3) := by decide +kernel
theorem dX11_sum_143 : decode cX11_sum 143 = .ok (.iload 4, 2) := by decide +kernel
theorem dX11_sum_145 : decode cX11_sum 145 = .ok (.goto 11, 3) := by decide +kernel
theorem dX11_sum_148 : decode cX11_sum 148 = .ok (.iload_n 3, 1) := by decide +kernel
theorem dX11_sum_149 : decode cX11_sum 149 = .ok (.i2l, 1) := by decide +kernel
theorem dX11_sum_150 : decode cX11_sum 150 = .ok (.iload 4, 2) := by decide +kernel
theorem dX11_sum_152 : decode cX11_sum 152 = .ok (.i2l, 1) := by decide +kernel
theorem dX11_sum_153 : decode cX11_sum 153 = .ok (.invokestatic 160, 3) := by decide +kernel
theorem dX11_sum_156 : decode cX11_sum 156 = .ok (.ireturn, 1) := by decide +kernel
theorem dX11_supplement_0 : decode cX11_supplement 0 = .ok (.iload_n 1, 1) := by decide +kernel
theorem dX11_supplement_1 : decode cX11_supplement 1 = .ok (.invokestatic 85, 3) := by decide +kernel
theorem dX11_supplement_4 : decode cX11_supplement 4 = .ok (.ifCond .eq 15, 3) := by decide +kernel
theorem dX11_supplement_7 : decode cX11_supplement 7 = .ok (.iload_n 2, 1) := by decide +kernel
theorem dX11_supplement_8 : decode cX11_supplement 8 = .ok (.i2l, 1) := by decide +kernel
theorem dX11_supplement_9 : decode cX11_supplement 9 = .ok (.lconst 0, 1) := by decide +kernel
theorem dX11_supplement_10 : decode cX11_supplement 10 = .ok (.ldc2_w 134, 3) := by decide +kernel
theorem dX11_supplement_13 : decode cX11_supplement 13 = .ok (.invokestatic 77, 3) := by decide +kernel
theorem dX11_supplement_16 : decode cX11_supplement 16 = .ok (.ifCond .ne 5, 3) := by decide +kernel
theorem dX11_supplement_19 : decode cX11_supplement 19 = .ok (.iconst (-1), 1) := by decide +kernel
theorem dX11_supplement_20 : decode cX11_supplement 20 = .ok (.ireturn, 1) := by decide +kernel
theorem dX11_supplement_21 : decode cX11_supplement 21 = .ok (.aload_n 0, 1) := by decide +kernel
theorem dX11_supplement_22 : decode cX11_supplement 22 = .ok (.getfield 13, 3) := by decide +kernel
theorem dX11_supplement_25 : decode cX11_supplement 25 = .ok (.iload_n 1, 1) := by decide +kernel
theorem dX11_supplement_26 : decode cX11_supplement 26 = .ok (.baload, 1) := by decide +kernel
theorem dX11_supplement_27 : decode cX11_supplement 27 = .ok (.ifCond .ne 6, 3) := by decide +kernel
theorem dX11_supplement_30 : decode cX11_supplement 30 = .ok (.bipush (-2), 2) := by decide +kernel
theorem dX11_supplement_32 : decode cX11_supplement 32 = .ok (.ireturn, 1) := by decide +kernel
theorem dX11_supplement_33 : decode cX11_supplement 33 = .ok (.aload_n 0, 1) := by decide +kernel
theorem dX11_supplement_34 : decode cX11_supplement 34 = .ok (.iload_n 1, 1) := by decide +kernel
theorem dX11_supplement_35 : decode cX11_supplement 35 = .ok (.invokevirtual 353, 3) := by decide +kernel
theorem dX11_supplement_38 : decode cX11_supplement 38 = .ok (.ifCond .ne 6, 3) := by decide +kernel
theorem dX11_supplement_41 : decode cX11_supplement 41 = .ok (.bipush (-3), 2) := by decide +kernel
theorem dX11_supplement_43 : decode cX11_supplement 43 = .ok (.ireturn, 1) := by decide +kernel
theorem dX11_supplement_44 : decode cX11_supplement 44 = .ok (.aload_n 0, 1) := by decide +kernel
theorem dX11_supplement_45 : decode cX11_supplement 45 = .ok (.aload_n 0, 1) := by decide +kernel
theorem dX11_supplement_46 : decode cX11_supplement 46 = .ok (.getfield 20, 3) := by decide +kernel
theorem dX11_supplement_49 : decode cX11_supplement 49 = .ok (.iload_n 1, 1) := by decide +kernel
theorem dX11_supplement_50 : decode cX11_supplement 50 = .ok (.iaload, 1) := by decide +kernel
theorem dX11_supplement_51 : decode cX11_supplement 51 = .ok (.i2l, 1) := by decide +kernel
theorem dX11_supplement_52 : decode cX11_supplement 52 = .ok (.aload_n 0, 1) := by decide +kernel
theorem dX11_supplement_53 : decode cX11_supplement 53 = .ok (.getfield 24, 3) := by decide +kernel
theorem dX11_supplement_56 : decode cX11_supplement 56 = .ok (.iload_n 1, 1) := by decide +kernel
theorem dX11_supplement_57 : decode cX11_supplement 57 = .ok (.iaload, 1) := by decide +kernel
theorem dX11_supplement_58 : decode cX11_supplement 58 = .ok (.i2l, 1) := by decide +kernel
theorem dX11_supplement_59 : decode cX11_supplement 59 = .ok (.invokevirtual 222, 3) := by decide +kernel
theorem dX11_supplement_62 : decode cX11_supplement 62 = .ok (.aload_n 0, 1) := by decide +kernel
theorem dX11_supplement_63 : decode cX11_supplement 63 = .ok (.iload_n 2, 1) := by decide +kernel
theorem dX11_supplement_64 : decode cX11_supplement 64 = .ok (.ifCond .ne 7, 3) := by decide +kernel
theorem dX11_supplement_67 : decode cX11_supplement 67 = .ok (.lconst 0, 1) := by decide +kernel
theorem dX11_supplement_68 : decode cX11_supplement 68 = .ok (.goto 26, 3) := by decide +kernel
theorem dX11_supplement_71 : decode cX11_supplement 71 = .ok (.iload_n 2, 1) := by decide +kernel
theorem dX11_supplement_72 : decode cX11_supplement 72 = .ok (.iconst 1, 1) := by decide +kernel
theorem dX11_supplement_73 : decode cX11_supplement 73 = .ok (.if_icmp .ne 7, 3) := by decide +kernel
theorem dX11_supplement_76 : decode cX11_supplement 76 = .ok (.lconst 1, 1) := by decide +kernel
theorem dX11_supplement_77 : decode cX11_supplement 77 = .ok (.goto 17, 3) := by decide +kernel
theorem dX11_supplement_80 : decode cX11_supplement 80 = .ok (.iload_n 2, 1) := by decide +kernel
theorem dX11_supplement_81 : decode cX11_supplement 81 = .ok (.iconst 2, 1) := by decide +kernel
theorem dX11_supplement_82 : decode cX11_supplement 82 = .ok (.if_icmp .ne 9, 3) := by decide +kernel
theorem dX11_supplement_85 : decode cX11_supplement 85 = .ok (.ldc2_w 134, 3) := by decide +kernel
theorem dX11_supplement_88 : decode cX11_supplement 88 = .ok (.goto 6, 3) := by decide +kernel
theorem dX11_supplement_91 : decode cX11_supplement 91 = .ok (.ldc2_w 119, 3) := by decide +kernel
theorem dX11_supplement_94 : decode cX11_supplement 94 = .ok (.iload_n 2, 1) := by decide +kernel
theorem dX11_supplement_95 : decode cX11_supplement 95 = .ok (.ifCond .ne 7, 3) := by decide +kernel
theorem dX11_supplement_98 : decode cX11_supplement 98 = .ok (.lconst 1, 1) := by decide +kernel
theorem dX11_supplement_99 : decode cX11_supplement 99 = .ok (.goto 15, 3) := by decide +kernel
theorem dX11_supplement_102 : decode cX11_supplement 102 = .ok (.iload_n 2, 1) := by decide +kernel
theorem dX11_supplement_103 : decode cX11_supplement 103 = .ok (.iconst 1, 1) := by decide +kernel
theorem dX11_supplement_104 : decode cX11_supplement 104 = .ok (.if_icmp .ne 9, 3) := by decide +kernel
theorem dX11_supplement_107 : decode cX11_supplement 107 = .ok (.ldc2_w 151, 3) := by decide +kernel
theorem dX11_supplement_110 : decode cX11_supplement 110 = .ok (.goto 4, 3) := by decide +kernel
theorem dX11_supplement_113 : decode cX11_supplement 113 = .ok (.lconst 0, 1) := by decide +kernel
theorem dX11_supplement_114 : decode cX11_supplement 114 = .ok (.invokevirtual 356, 3) := by decide +kernel
theorem dX11_supplement_117 : decode cX11_supplement 117 = .ok (.ireturn, 1) := by decide +kernel
theorem dX11_take_0 : decode cX11_take 0 = .ok (.iload_n 1, 1) := by decide +kernel
theorem dX11_take_1 : decode cX11_take 1 = .ok (.invokestatic 85, 3) := by decide +kernel
theorem dX11_take_4 : decode cX11_take 4 = .ok (.ifCond .ne 5, 3) := by decide +kernel
theorem dX11_take_7 : decode cX11_take 7 = .ok (.iconst (-1), 1) := by decide +kernel
theorem dX11_take_8 : decode cX11_take 8 = .ok (.ireturn, 1) := by decide +kernel
theorem dX11_take_9 : decode cX11_take 9 = .ok (.aload_n 0, 1) := by decide +kernel
theorem dX11_take_10 : decode cX11_take 10 = .ok (.getfield 13, 3) := by decide +kernel
theorem dX11_take_13 : decode cX11_take 13 = .ok (.iload_n 1, 1) := by decide +kernel
theorem dX11_take_14 : decode cX11_take 14 = .ok (.baload, 1) := by decide +kernel
theorem dX11_take_15 : decode cX11_take 15 = .ok (.ifCond .eq 7, 3) := by decide +kernel
theorem dX11_take_18 : decode cX11_take 18 = .ok (.iconst 1, 1) := by decide +kernel
theorem dX11_take_19 : decode cX11_take 19 = .ok (.goto 4, 3) := by decide +kernel
theorem dX11_take_22 : decode cX11_take 22 = .ok (.iconst 0, 1) := by decide +kernel
theorem dX11_take_23 : decode cX11_take 23 = .ok (.istore_n 2, 1) := by decide +kernel
theorem dX11_take_24 : decode cX11_take 24 = .ok (.aload_n 0, 1) := by decide +kernel
theorem dX11_take_25 : decode cX11_take 25 = .ok (.getfield 13, 3) := by decide +kernel
theorem dX11_take_28 : decode cX11_take 28 = .ok (.iload_n 1, 1) := by decide +kernel
theorem dX11_take_29 : decode cX11_take 29 = .ok (.iconst 0, 1) := by decide +kernel
theorem dX11_take_30 : decode cX11_take 30 = .ok (.bastore, 1) := by decide +kernel
theorem dX11_take_31 : decode cX11_take 31 = .ok (.iload_n 2, 1) := by decide +kernel
theorem dX11_take_32 : decode cX11_take 32 = .ok (.ireturn, 1) := by decide +kernel
theorem dX11_takes_0 : decode cX11_takes 0 = .ok (.aload_n 0, 1) := by decide +kernel
theorem dX11_takes_1 : decode cX11_takes 1 = .ok (.getfield 105, 3) := by decide +kernel
theorem dX11_takes_4 : decode cX11_takes 4 = .ok (.aload_n 0, 1) := by decide +kernel
theorem dX11_takes_5 : decode cX11_takes 5 = .ok (.getfield 109, 3) := by decide +kernel
theorem dX11_takes_8 : decode cX11_takes 8 = .ok (.invokestatic 89, 3) := by decide +kernel
theorem dX11_takes_11 : decode cX11_takes 11 = .ok (.ifCond .ne 6, 3) := by decide +kernel
theorem dX11_takes_14 : decode cX11_takes 14 = .ok (.bipush (-4), 2) := by decide +kernel
theorem dX11_takes_16 : decode cX11_takes 16 = .ok (.ireturn, 1) := by decide +kernel
theorem dX11_takes_17 : decode cX11_takes 17 = .ok (.aload_n 0, 1) := by decide +kernel
theorem dX11_takes_18 : decode cX11_takes 18 = .ok (.iload_n 1, 1) := by decide +kernel
theorem dX11_takes_19 : decode cX11_takes 19 = .ok (.aload_n 0, 1) := by decide +kernel
theorem dX11_takes_20 : decode cX11_takes 20 = .ok (.getfield 105, 3) := by decide +kernel
theorem dX11_takes_23 : decode cX11_takes 23 = .ok (.aload_n 0, 1) := by decide +kernel
theorem dX11_takes_24 : decode cX11_takes 24 = .ok (.getfield 109, 3) := by decide +kernel
theorem dX11_takes_27 : decode cX11_takes 27 = .ok (.invokevirtual 93, 3) := by decide +kernel
theorem dX11_takes_30 : decode cX11_takes 30 = .ok (.aload_n 0, 1) := by decide +kernel
theorem dX11_takes_31 : decode cX11_takes 31 = .ok (.getfield 105, 3) := by decide +kernel
theorem dX11_takes_34 : decode cX11_takes 34 = .ok (.aload_n 0, 1) := by decide +kernel
theorem dX11_takes_35 : decode cX11_takes 35 = .ok (.getfield 109, 3) := by decide +kernel
theorem dX11_takes_38 : decode cX11_takes 38 = .ok (.invokestatic 160, 3) := by decide +kernel
theorem dX11_takes_41 : decode cX11_takes 41 = .ok (.ireturn, 1) := by decide +kernel
theorem dX11_takesThrees_0 : decode cX11_takesThrees 0 = .ok (.aload_n 0, 1) := by decide +kernel
theorem dX11_takesThrees_1 : decode cX11_takesThrees 1 = .ok (.iconst 0, 1) := by decide +kernel
theorem dX11_takesThrees_2 : decode cX11_takesThrees 2 = .ok (.putfield 139, 3) := by decide +kernel
theorem dX11_takesThrees_5 : decode cX11_takesThrees 5 = .ok (.aload_n 0, 1) := by decide +kernel
theorem dX11_takesThrees_6 : decode cX11_takesThrees 6 = .ok (.lload_n 1, 1) := by decide +kernel
theorem dX11_takesThrees_7 : decode cX11_takesThrees 7 = .ok (.lload_n 3, 1) := by decide +kernel
theorem dX11_takesThrees_8 : decode cX11_takesThrees 8 = .ok (.invokevirtual 115, 3) := by decide +kernel
theorem dX11_takesThrees_11 : decode cX11_takesThrees 11 = .ok (.aload_n 0, 1) := by decide +kernel
theorem dX11_takesThrees_12 : decode cX11_takesThrees 12 = .ok (.getfield 105, 3) := by decide +kernel
theorem dX11_takesThrees_15 : decode cX11_takesThrees 15 = .ok (.aload_n 0, 1) := by decide +kernel
theorem dX11_takesThrees_16 : decode cX11_takesThrees 16 = .ok (.getfield 109, 3) := by decide +kernel
theorem dX11_takesThrees_19 : decode cX11_takesThrees 19 = .ok (.invokestatic 142, 3) := by decide +kernel
theorem dX11_takesThrees_22 : decode cX11_takesThrees 22 = .ok (.ifCond .eq 50, 3) := by decide +kernel
theorem dX11_takesThrees_25 : decode cX11_takesThrees 25 = .ok (.aload_n 0, 1) := by decide +kernel
theorem dX11_takesThrees_26 : decode cX11_takesThrees 26 = .ok (.ldc2_w 119, 3) := by decide +kernel
theorem dX11_takesThrees_29 : decode cX11_takesThrees 29 = .ok (.aload_n 0, 1) := by decide +kernel
theorem dX11_takesThrees_30 : decode cX11_takesThrees 30 = .ok (.getfield 105, 3) := by decide +kernel
theorem dX11_takesThrees_33 : decode cX11_takesThrees 33 = .ok (.lmul, 1) := by decide +kernel
theorem dX11_takesThrees_34 : decode cX11_takesThrees 34 = .ok (.aload_n 0, 1) := by decide +kernel
theorem dX11_takesThrees_35 : decode cX11_takesThrees 35 = .ok (.getfield 109, 3) := by decide +kernel
theorem dX11_takesThrees_38 : decode cX11_takesThrees 38 = .ok (.lsub, 1) := by decide +kernel
theorem dX11_takesThrees_39 : decode cX11_takesThrees 39 = .ok (.ldc2_w 134, 3) := by decide +kernel
theorem dX11_takesThrees_42 : decode cX11_takesThrees 42 = .ok (.ldiv, 1) := by decide +kernel
theorem dX11_takesThrees_43 : decode cX11_takesThrees 43 = .ok (.aload_n 0, 1) := by decide +kernel
theorem dX11_takesThrees_44 : decode cX11_takesThrees 44 = .ok (.getfield 105, 3) := by decide +kernel
theorem dX11_takesThrees_47 : decode cX11_takesThrees 47 = .ok (.aload_n 0, 1) := by decide +kernel
theorem dX11_takesThrees_48 : decode cX11_takesThrees 48 = .ok (.getfield 109, 3) := by decide +kernel
theorem dX11_takesThrees_51 : decode cX11_takesThrees 51 = .ok (.ladd, 1) := by decide +kernel
theorem dX11_takesThrees_52 : decode cX11_takesThrees 52 = .ok (.ldc2_w 134, 3) := by decide +kernel
theorem dX11_takesThrees_55 : decode cX11_takesThrees 55 = .ok (.ldiv, 1) := by decide +kernel
theorem dX11_takesThrees_56 : decode cX11_takesThrees 56 = .ok (.invokevirtual 115, 3) := by decide +kernel
theorem dX11_takesThrees_59 : decode cX11_takesThrees 59 = .ok (.aload_n 0, 1) := by decide +kernel
theorem dX11_takesThrees_60 : decode cX11_takesThrees 60 = .ok (.aload_n 0, 1) := by decide +kernel
theorem dX11_takesThrees_61 : decode cX11_takesThrees 61 = .ok (.getfield 139, 3) := by decide +kernel
theorem dX11_takesThrees_64 : decode cX11_takesThrees 64 = .ok (.iconst 1, 1) := by decide +kernel
theorem dX11_takesThrees_65 : decode cX11_takesThrees 65 = .ok (.iadd, 1) := by decide +kernel
theorem dX11_takesThrees_66 : decode cX11_takesThrees 66 = .ok (.putfield 139, 3) := by decide +kernel
theorem dX11_takesThrees_69 : decode cX11_takesThrees 69 = .ok (.goto (-58), 3) := by decide +kernel
theorem dX11_takesThrees_72 : decode cX11_takesThrees 72 = .ok (.aload_n 0, 1) := by decide +kernel
theorem dX11_takesThrees_73 : decode cX11_takesThrees 73 = .ok (.getfield 105, 3) := by decide +kernel
theorem dX11_takesThrees_76 : decode cX11_takesThrees 76 = .ok (.aload_n 0, 1) := by decide +kernel
theorem dX11_takesThrees_77 : decode cX11_takesThrees 77 = .ok (.getfield 109, 3) := by decide +kernel
theorem dX11_takesThrees_80 : decode cX11_takesThrees 80 = .ok (.invokestatic 145, 3) := by decide +kernel
theorem dX11_takesThrees_83 : decode cX11_takesThrees 83 = .ok (.ifCond .ne 20, 3) := by decide +kernel
theorem dX11_takesThrees_86 : decode cX11_takesThrees 86 = .ok (.aload_n 0, 1) := by decide +kernel
theorem dX11_takesThrees_87 : decode cX11_takesThrees 87 = .ok (.aload_n 0, 1) := by decide +kernel
theorem dX11_takesThrees_88 : decode cX11_takesThrees 88 = .ok (.getfield 105, 3) := by decide +kernel
theorem dX11_takesThrees_91 : decode cX11_takesThrees 91 = .ok (.aload_n 0, 1) := by decide +kernel
theorem dX11_takesThrees_92 : decode cX11_takesThrees 92 = .ok (.getfield 109, 3) := by decide +kernel
theorem dX11_takesThrees_95 : decode cX11_takesThrees 95 = .ok (.lconst 1, 1) := by decide +kernel
theorem dX11_takesThrees_96 : decode cX11_takesThrees 96 = .ok (.lconst 1, 1) := by decide +kernel
theorem dX11_takesThrees_97 : decode cX11_takesThrees 97 = .ok (.invokevirtual 121, 3) := by decide +kernel
theorem dX11_takesThrees_100 : decode cX11_takesThrees 100 = .ok (.goto (-28), 3) := by decide +kernel
theorem dX11_takesThrees_103 : decode cX11_takesThrees 103 = .ok (.return_, 1) := by decide +kernel
theorem dX11_thirds_0 : decode cX11_thirds 0 = .ok (.iload_n 1, 1) := by decide +kernel
theorem dX11_thirds_1 : decode cX11_thirds 1 = .ok (.iconst (-1), 1) := by decide +kernel
theorem dX11_thirds_2 : decode cX11_thirds 2 = .ok (.if_icmp .ge 6, 3) := by decide +kernel
theorem dX11_thirds_5 : decode cX11_thirds 5 = .ok (.bipush (-3), 2) := by decide +kernel
theorem dX11_thirds_7 : decode cX11_thirds 7 = .ok (.ireturn, 1) := by decide +kernel
theorem dX11_thirds_8 : decode cX11_thirds 8 = .ok (.iconst 0, 1) := by decide +kernel
theorem dX11_thirds_9 : decode cX11_thirds 9 = .ok (.istore_n 2, 1) := by decide +kernel
theorem dX11_thirds_10 : decode cX11_thirds 10 = .ok (.bipush 7, 2) := by decide +kernel
theorem dX11_thirds_12 : decode cX11_thirds 12 = .ok (.istore_n 3, 1) := by decide +kernel
theorem dX11_thirds_13 : decode cX11_thirds 13 = .ok (.iload_n 3, 1) := by decide +kernel
theorem dX11_thirds_14 : decode cX11_thirds 14 = .ok (.sipush 997, 3) := by decide +kernel
theorem dX11_thirds_17 : decode cX11_thirds 17 = .ok (.if_icmp .gt 30, 3) := by decide +kernel
theorem dX11_thirds_20 : decode cX11_thirds 20 = .ok (.iload_n 3, 1) := by decide +kernel
theorem dX11_thirds_21 : decode cX11_thirds 21 = .ok (.invokestatic 378, 3) := by decide +kernel
theorem dX11_thirds_24 : decode cX11_thirds 24 = .ok (.ifCond .ne 6, 3) := by decide +kernel
theorem dX11_thirds_27 : decode cX11_thirds 27 = .ok (.goto 14, 3) := by decide +kernel
theorem dX11_thirds_30 : decode cX11_thirds 30 = .ok (.iload_n 2, 1) := by decide +kernel
theorem dX11_thirds_31 : decode cX11_thirds 31 = .ok (.iload_n 1, 1) := by decide +kernel
theorem dX11_thirds_32 : decode cX11_thirds 32 = .ok (.if_icmp .ne 5, 3) := by decide +kernel
theorem dX11_thirds_35 : decode cX11_thirds 35 = .ok (.iload_n 3, 1) := by decide +kernel
theorem dX11_thirds_36 : decode cX11_thirds 36 = .ok (.ireturn, 1) := by decide +kernel
theorem dX11_thirds_37 : decode cX11_thirds 37 = .ok (.iload_n 2, 1) := by decide +kernel
theorem dX11_thirds_38 : decode cX11_thirds 38 = .ok (.iconst 1, 1) := by decide +kernel
theorem dX11_thirds_39 : decode cX11_thirds 39 = .ok (.iadd, 1) := by decide +kernel
theorem dX11_thirds_40 : decode cX11_thirds 40 = .ok (.istore_n 2, 1) := by decide +kernel
theorem dX11_thirds_41 : decode cX11_thirds 41 = .ok (.iinc 3 1, 3) := by decide +kernel
theorem dX11_thirds_44 : decode cX11_thirds 44 = .ok (.goto (-31), 3) := by decide +kernel
theorem dX11_thirds_47 : decode cX11_thirds 47 = .ok (.iload_n 1, 1) := by decide +kernel
theorem dX11_thirds_48 : decode cX11_thirds 48 = .ok (.iconst (-1), 1) := by decide +kernel
theorem dX11_thirds_49 : decode cX11_thirds 49 = .ok (.if_icmp .ne 7, 3) := by decide +kernel
theorem dX11_thirds_52 : decode cX11_thirds 52 = .ok (.iload_n 2, 1) := by decide +kernel
theorem dX11_thirds_53 : decode cX11_thirds 53 = .ok (.goto 5, 3) := by decide +kernel
theorem dX11_thirds_56 : decode cX11_thirds 56 = .ok (.bipush (-2), 2) := by decide +kernel
theorem dX11_thirds_58 : decode cX11_thirds 58 = .ok (.ireturn, 1) := by decide +kernel
theorem dX11_times_0 : decode cX11_times 0 = .ok (.aload_n 0, 1) := by decide +kernel
theorem dX11_times_1 : decode cX11_times 1 = .ok (.lload_n 1, 1) := by decide +kernel
theorem dX11_times_2 : decode cX11_times 2 = .ok (.lload 5, 2) := by decide +kernel
theorem dX11_times_4 : decode cX11_times 4 = .ok (.lmul, 1) := by decide +kernel
theorem dX11_times_5 : decode cX11_times 5 = .ok (.lload_n 3, 1) := by decide +kernel
theorem dX11_times_6 : decode cX11_times 6 = .ok (.lload 7, 2) := by decide +kernel
theorem dX11_times_8 : decode cX11_times 8 = .ok (.lmul, 1) := by decide +kernel
theorem dX11_times_9 : decode cX11_times 9 = .ok (.lsub, 1) := by decide +kernel
theorem dX11_times_10 : decode cX11_times 10 = .ok (.lload_n 1, 1) := by decide +kernel
theorem dX11_times_11 : decode cX11_times 11 = .ok (.lload 7, 2) := by decide +kernel
theorem dX11_times_13 : decode cX11_times 13 = .ok (.lmul, 1) := by decide +kernel
theorem dX11_times_14 : decode cX11_times 14 = .ok (.lload_n 3, 1) := by decide +kernel
theorem dX11_times_15 : decode cX11_times 15 = .ok (.lload 5, 2) := by decide +kernel
theorem dX11_times_17 : decode cX11_times 17 = .ok (.lmul, 1) := by decide +kernel
theorem dX11_times_18 : decode cX11_times 18 = .ok (.ladd, 1) := by decide +kernel
theorem dX11_times_19 : decode cX11_times 19 = .ok (.lload_n 3, 1) := by decide +kernel
theorem dX11_times_20 : decode cX11_times 20 = .ok (.lload 7, 2) := by decide +kernel
theorem dX11_times_22 : decode cX11_times 22 = .ok (.lmul, 1) := by decide +kernel
theorem dX11_times_23 : decode cX11_times 23 = .ok (.lsub, 1) := by decide +kernel
theorem dX11_times_24 : decode cX11_times 24 = .ok (.invokevirtual 115, 3) := by decide +kernel
theorem dX11_times_27 : decode cX11_times 27 = .ok (.return_, 1) := by decide +kernel
theorem dX11_timesIn_0 : decode cX11_timesIn 0 = .ok (.aload_n 0, 1) := by decide +kernel
theorem dX11_timesIn_1 : decode cX11_timesIn 1 = .ok (.lload_n 1, 1) := by decide +kernel
theorem dX11_timesIn_2 : decode cX11_timesIn 2 = .ok (.lload_n 3, 1) := by decide +kernel
theorem dX11_timesIn_3 : decode cX11_timesIn 3 = .ok (.lload 5, 2) := by decide +kernel
theorem dX11_timesIn_5 : decode cX11_timesIn 5 = .ok (.lload 7, 2) := by decide +kernel
theorem dX11_timesIn_7 : decode cX11_timesIn 7 = .ok (.invokevirtual 121, 3) := by decide +kernel
theorem dX11_timesIn_10 : decode cX11_timesIn 10 = .ok (.aload_n 0, 1) := by decide +kernel
theorem dX11_timesIn_11 : decode cX11_timesIn 11 = .ok (.aload_n 0, 1) := by decide +kernel
theorem dX11_timesIn_12 : decode cX11_timesIn 12 = .ok (.getfield 105, 3) := by decide +kernel
theorem dX11_timesIn_15 : decode cX11_timesIn 15 = .ok (.aload_n 0, 1) := by decide +kernel
theorem dX11_timesIn_16 : decode cX11_timesIn 16 = .ok (.getfield 109, 3) := by decide +kernel
theorem dX11_timesIn_19 : decode cX11_timesIn 19 = .ok (.invokevirtual 259, 3) := by decide +kernel
theorem dX11_timesIn_22 : decode cX11_timesIn 22 = .ok (.return_, 1) := by decide +kernel
theorem dX11_told_0 : decode cX11_told 0 = .ok (.iload_n 1, 1) := by decide +kernel
theorem dX11_told_1 : decode cX11_told 1 = .ok (.invokestatic 85, 3) := by decide +kernel
theorem dX11_told_4 : decode cX11_told 4 = .ok (.ifCond .eq 12, 3) := by decide +kernel
theorem dX11_told_7 : decode cX11_told 7 = .ok (.aload_n 0, 1) := by decide +kernel
theorem dX11_told_8 : decode cX11_told 8 = .ok (.getfield 13, 3) := by decide +kernel
theorem dX11_told_11 : decode cX11_told 11 = .ok (.iload_n 1, 1) := by decide +kernel
theorem dX11_told_12 : decode cX11_told 12 = .ok (.baload, 1) := by decide +kernel
theorem dX11_told_13 : decode cX11_told 13 = .ok (.ifCond .ne 6, 3) := by decide +kernel
theorem dX11_told_16 : decode cX11_told 16 = .ok (.ldc 164, 2) := by decide +kernel
theorem dX11_told_18 : decode cX11_told 18 = .ok (.ireturn, 1) := by decide +kernel
theorem dX11_told_19 : decode cX11_told 19 = .ok (.aload_n 0, 1) := by decide +kernel
theorem dX11_told_20 : decode cX11_told 20 = .ok (.getfield 20, 3) := by decide +kernel
theorem dX11_told_23 : decode cX11_told 23 = .ok (.iload_n 1, 1) := by decide +kernel
theorem dX11_told_24 : decode cX11_told 24 = .ok (.iaload, 1) := by decide +kernel
theorem dX11_told_25 : decode cX11_told 25 = .ok (.istore_n 3, 1) := by decide +kernel
theorem dX11_told_26 : decode cX11_told 26 = .ok (.aload_n 0, 1) := by decide +kernel
theorem dX11_told_27 : decode cX11_told 27 = .ok (.getfield 24, 3) := by decide +kernel
theorem dX11_told_30 : decode cX11_told 30 = .ok (.iload_n 1, 1) := by decide +kernel
theorem dX11_told_31 : decode cX11_told 31 = .ok (.iaload, 1) := by decide +kernel
theorem dX11_told_32 : decode cX11_told 32 = .ok (.istore 4, 2) := by decide +kernel
theorem dX11_told_34 : decode cX11_told 34 = .ok (.iload_n 2, 1) := by decide +kernel
theorem dX11_told_35 : decode cX11_told 35 = .ok (.tableswitch 129 0 7 #[45, 47, 50, 59, 76, 93, 110, 119], 45) := by decide +kernel
theorem dX11_told_80 : decode cX11_told 80 = .ok (.iload_n 3, 1) := by decide +kernel
theorem dX11_told_81 : decode cX11_told 81 = .ok (.ireturn, 1) := by decide +kernel
theorem dX11_told_82 : decode cX11_told 82 = .ok (.iload 4, 2) := by decide +kernel
theorem dX11_told_84 : decode cX11_told 84 = .ok (.ireturn, 1) := by decide +kernel
theorem dX11_told_85 : decode cX11_told 85 = .ok (.iload_n 3, 1) := by decide +kernel
theorem dX11_told_86 : decode cX11_told 86 = .ok (.i2l, 1) := by decide +kernel
theorem dX11_told_87 : decode cX11_told 87 = .ok (.iload 4, 2) := by decide +kernel
theorem dX11_told_89 : decode cX11_told 89 = .ok (.i2l, 1) := by decide +kernel
theorem dX11_told_90 : decode cX11_told 90 = .ok (.invokestatic 160, 3) := by decide +kernel
theorem dX11_told_93 : decode cX11_told 93 = .ok (.ireturn, 1) := by decide +kernel
theorem dX11_told_94 : decode cX11_told 94 = .ok (.iload_n 3, 1) := by decide +kernel
theorem dX11_told_95 : decode cX11_told 95 = .ok (.i2l, 1) := by decide +kernel
theorem dX11_told_96 : decode cX11_told 96 = .ok (.iload 4, 2) := by decide +kernel
theorem dX11_told_98 : decode cX11_told 98 = .ok (.i2l, 1) := by decide +kernel
theorem dX11_told_99 : decode cX11_told 99 = .ok (.invokestatic 142, 3) := by decide +kernel
theorem dX11_told_102 : decode cX11_told 102 = .ok (.ifCond .eq 7, 3) := by decide +kernel
theorem dX11_told_105 : decode cX11_told 105 = .ok (.iconst 1, 1) := by decide +kernel
theorem dX11_told_106 : decode cX11_told 106 = .ok (.goto 4, 3) := by decide +kernel
theorem dX11_told_109 : decode cX11_told 109 = .ok (.iconst 0, 1) := by decide +kernel
theorem dX11_told_110 : decode cX11_told 110 = .ok (.ireturn, 1) := by decide +kernel
theorem dX11_told_111 : decode cX11_told 111 = .ok (.iload_n 3, 1) := by decide +kernel
theorem dX11_told_112 : decode cX11_told 112 = .ok (.i2l, 1) := by decide +kernel
theorem dX11_told_113 : decode cX11_told 113 = .ok (.iload 4, 2) := by decide +kernel
theorem dX11_told_115 : decode cX11_told 115 = .ok (.i2l, 1) := by decide +kernel
theorem dX11_told_116 : decode cX11_told 116 = .ok (.invokestatic 145, 3) := by decide +kernel
theorem dX11_told_119 : decode cX11_told 119 = .ok (.ifCond .eq 7, 3) := by decide +kernel
theorem dX11_told_122 : decode cX11_told 122 = .ok (.iconst 1, 1) := by decide +kernel
theorem dX11_told_123 : decode cX11_told 123 = .ok (.goto 4, 3) := by decide +kernel
theorem dX11_told_126 : decode cX11_told 126 = .ok (.iconst 0, 1) := by decide +kernel
theorem dX11_told_127 : decode cX11_told 127 = .ok (.ireturn, 1) := by decide +kernel
theorem dX11_told_128 : decode cX11_told 128 = .ok (.iload_n 3, 1) := by decide +kernel
theorem dX11_told_129 : decode cX11_told 129 = .ok (.i2l, 1) := by decide +kernel
theorem dX11_told_130 : decode cX11_told 130 = .ok (.iload 4, 2) := by decide +kernel
theorem dX11_told_132 : decode cX11_told 132 = .ok (.i2l, 1) := by decide +kernel
theorem dX11_told_133 : decode cX11_told 133 = .ok (.invokestatic 165, 3) := by decide +kernel
theorem dX11_told_136 : decode cX11_told 136 = .ok (.ifCond .eq 7, 3) := by decide +kernel
theorem dX11_told_139 : decode cX11_told 139 = .ok (.iconst 1, 1) := by decide +kernel
theorem dX11_told_140 : decode cX11_told 140 = .ok (.goto 4, 3) := by decide +kernel
theorem dX11_told_143 : decode cX11_told 143 = .ok (.iconst 0, 1) := by decide +kernel
theorem dX11_told_144 : decode cX11_told 144 = .ok (.ireturn, 1) := by decide +kernel
theorem dX11_told_145 : decode cX11_told 145 = .ok (.iload_n 3, 1) := by decide +kernel
theorem dX11_told_146 : decode cX11_told 146 = .ok (.i2l, 1) := by decide +kernel
theorem dX11_told_147 : decode cX11_told 147 = .ok (.iload 4, 2) := by decide +kernel
theorem dX11_told_149 : decode cX11_told 149 = .ok (.i2l, 1) := by decide +kernel
theorem dX11_told_150 : decode cX11_told 150 = .ok (.invokestatic 168, 3) := by decide +kernel
theorem dX11_told_153 : decode cX11_told 153 = .ok (.ireturn, 1) := by decide +kernel
theorem dX11_told_154 : decode cX11_told 154 = .ok (.aload_n 0, 1) := by decide +kernel
theorem dX11_told_155 : decode cX11_told 155 = .ok (.iload_n 3, 1) := by decide +kernel
theorem dX11_told_156 : decode cX11_told 156 = .ok (.i2l, 1) := by decide +kernel
theorem dX11_told_157 : decode cX11_told 157 = .ok (.iload 4, 2) := by decide +kernel
theorem dX11_told_159 : decode cX11_told 159 = .ok (.i2l, 1) := by decide +kernel
theorem dX11_told_160 : decode cX11_told 160 = .ok (.invokevirtual 171, 3) := by decide +kernel
theorem dX11_told_163 : decode cX11_told 163 = .ok (.ireturn, 1) := by decide +kernel
theorem dX11_told_164 : decode cX11_told 164 = .ok (.ldc 164, 2) := by decide +kernel
theorem dX11_told_166 : decode cX11_told 166 = .ok (.ireturn, 1) := by decide +kernel
theorem dX11_turned_0 : decode cX11_turned 0 = .ok (.iload_n 1, 1) := by decide +kernel
theorem dX11_turned_1 : decode cX11_turned 1 = .ok (.invokestatic 85, 3) := by decide +kernel
theorem dX11_turned_4 : decode cX11_turned 4 = .ok (.ifCond .eq 10, 3) := by decide +kernel
theorem dX11_turned_7 : decode cX11_turned 7 = .ok (.iload_n 2, 1) := by decide +kernel
theorem dX11_turned_8 : decode cX11_turned 8 = .ok (.invokestatic 85, 3) := by decide +kernel
theorem dX11_turned_11 : decode cX11_turned 11 = .ok (.ifCond .ne 5, 3) := by decide +kernel
theorem dX11_turned_14 : decode cX11_turned 14 = .ok (.iconst (-1), 1) := by decide +kernel
theorem dX11_turned_15 : decode cX11_turned 15 = .ok (.ireturn, 1) := by decide +kernel
theorem dX11_turned_16 : decode cX11_turned 16 = .ok (.aload_n 0, 1) := by decide +kernel
theorem dX11_turned_17 : decode cX11_turned 17 = .ok (.iload_n 1, 1) := by decide +kernel
theorem dX11_turned_18 : decode cX11_turned 18 = .ok (.iload_n 2, 1) := by decide +kernel
theorem dX11_turned_19 : decode cX11_turned 19 = .ok (.invokevirtual 269, 3) := by decide +kernel
theorem dX11_turned_22 : decode cX11_turned 22 = .ok (.ifCond .ne 6, 3) := by decide +kernel
theorem dX11_turned_25 : decode cX11_turned 25 = .ok (.bipush (-2), 2) := by decide +kernel
theorem dX11_turned_27 : decode cX11_turned 27 = .ok (.ireturn, 1) := by decide +kernel
theorem dX11_turned_28 : decode cX11_turned 28 = .ok (.aload_n 0, 1) := by decide +kernel
theorem dX11_turned_29 : decode cX11_turned 29 = .ok (.iload_n 1, 1) := by decide +kernel
theorem dX11_turned_30 : decode cX11_turned 30 = .ok (.invokevirtual 363, 3) := by decide +kernel
theorem dX11_turned_33 : decode cX11_turned 33 = .ok (.ifCond .eq 46, 3) := by decide +kernel
theorem dX11_turned_36 : decode cX11_turned 36 = .ok (.aload_n 0, 1) := by decide +kernel
theorem dX11_turned_37 : decode cX11_turned 37 = .ok (.iload_n 2, 1) := by decide +kernel
theorem dX11_turned_38 : decode cX11_turned 38 = .ok (.invokevirtual 363, 3) := by decide +kernel
theorem dX11_turned_41 : decode cX11_turned 41 = .ok (.ifCond .eq 38, 3) := by decide +kernel
theorem dX11_turned_44 : decode cX11_turned 44 = .ok (.aload_n 0, 1) := by decide +kernel
theorem dX11_turned_45 : decode cX11_turned 45 = .ok (.aload_n 0, 1) := by decide +kernel
theorem dX11_turned_46 : decode cX11_turned 46 = .ok (.getfield 20, 3) := by decide +kernel
theorem dX11_turned_49 : decode cX11_turned 49 = .ok (.iload_n 1, 1) := by decide +kernel
theorem dX11_turned_50 : decode cX11_turned 50 = .ok (.iaload, 1) := by decide +kernel
theorem dX11_turned_51 : decode cX11_turned 51 = .ok (.i2l, 1) := by decide +kernel
theorem dX11_turned_52 : decode cX11_turned 52 = .ok (.aload_n 0, 1) := by decide +kernel
theorem dX11_turned_53 : decode cX11_turned 53 = .ok (.getfield 24, 3) := by decide +kernel
theorem dX11_turned_56 : decode cX11_turned 56 = .ok (.iload_n 1, 1) := by decide +kernel
theorem dX11_turned_57 : decode cX11_turned 57 = .ok (.iaload, 1) := by decide +kernel
theorem dX11_turned_58 : decode cX11_turned 58 = .ok (.i2l, 1) := by decide +kernel
theorem dX11_turned_59 : decode cX11_turned 59 = .ok (.aload_n 0, 1) := by decide +kernel
theorem dX11_turned_60 : decode cX11_turned 60 = .ok (.getfield 20, 3) := by decide +kernel
theorem dX11_turned_63 : decode cX11_turned 63 = .ok (.iload_n 2, 1) := by decide +kernel
theorem dX11_turned_64 : decode cX11_turned 64 = .ok (.iaload, 1) := by decide +kernel
theorem dX11_turned_65 : decode cX11_turned 65 = .ok (.i2l, 1) := by decide +kernel
theorem dX11_turned_66 : decode cX11_turned 66 = .ok (.aload_n 0, 1) := by decide +kernel
theorem dX11_turned_67 : decode cX11_turned 67 = .ok (.getfield 24, 3) := by decide +kernel
theorem dX11_turned_70 : decode cX11_turned 70 = .ok (.iload_n 2, 1) := by decide +kernel
theorem dX11_turned_71 : decode cX11_turned 71 = .ok (.iaload, 1) := by decide +kernel
theorem dX11_turned_72 : decode cX11_turned 72 = .ok (.i2l, 1) := by decide +kernel
theorem dX11_turned_73 : decode cX11_turned 73 = .ok (.invokevirtual 195, 3) := by decide +kernel
theorem dX11_turned_76 : decode cX11_turned 76 = .ok (.ifCond .ne 6, 3) := by decide +kernel
theorem dX11_turned_79 : decode cX11_turned 79 = .ok (.bipush (-3), 2) := by decide +kernel
theorem dX11_turned_81 : decode cX11_turned 81 = .ok (.ireturn, 1) := by decide +kernel
theorem dX11_turned_82 : decode cX11_turned 82 = .ok (.iconst 3, 1) := by decide +kernel
theorem dX11_turned_83 : decode cX11_turned 83 = .ok (.aload_n 0, 1) := by decide +kernel
theorem dX11_turned_84 : decode cX11_turned 84 = .ok (.iload_n 1, 1) := by decide +kernel
theorem dX11_turned_85 : decode cX11_turned 85 = .ok (.iload_n 2, 1) := by decide +kernel
theorem dX11_turned_86 : decode cX11_turned 86 = .ok (.invokevirtual 359, 3) := by decide +kernel
theorem dX11_turned_89 : decode cX11_turned 89 = .ok (.imul, 1) := by decide +kernel
theorem dX11_turned_90 : decode cX11_turned 90 = .ok (.aload_n 0, 1) := by decide +kernel
theorem dX11_turned_91 : decode cX11_turned 91 = .ok (.iload_n 2, 1) := by decide +kernel
theorem dX11_turned_92 : decode cX11_turned 92 = .ok (.iload_n 1, 1) := by decide +kernel
theorem dX11_turned_93 : decode cX11_turned 93 = .ok (.invokevirtual 359, 3) := by decide +kernel
theorem dX11_turned_96 : decode cX11_turned 96 = .ok (.iadd, 1) := by decide +kernel
theorem dX11_turned_97 : decode cX11_turned 97 = .ok (.ireturn, 1) := by decide +kernel
theorem dX11_typed4_0 : decode cX11_typed4 0 = .ok (.iconst 3, 1) := by decide +kernel
theorem dX11_typed4_1 : decode cX11_typed4 1 = .ok (.istore_n 2, 1) := by decide +kernel
theorem dX11_typed4_2 : decode cX11_typed4 2 = .ok (.iload_n 2, 1) := by decide +kernel
theorem dX11_typed4_3 : decode cX11_typed4 3 = .ok (.ifCond .lt 35, 3) := by decide +kernel
theorem dX11_typed4_6 : decode cX11_typed4 6 = .ok (.aload_n 0, 1) := by decide +kernel
theorem dX11_typed4_7 : decode cX11_typed4 7 = .ok (.getfield 7, 3) := by decide +kernel
theorem dX11_typed4_10 : decode cX11_typed4 10 = .ok (.aload_n 0, 1) := by decide +kernel
theorem dX11_typed4_11 : decode cX11_typed4 11 = .ok (.getfield 67, 3) := by decide +kernel
theorem dX11_typed4_14 : decode cX11_typed4 14 = .ok (.iload_n 1, 1) := by decide +kernel
theorem dX11_typed4_15 : decode cX11_typed4 15 = .ok (.bipush 8, 2) := by decide +kernel
theorem dX11_typed4_17 : decode cX11_typed4 17 = .ok (.iload_n 2, 1) := by decide +kernel
theorem dX11_typed4_18 : decode cX11_typed4 18 = .ok (.imul, 1) := by decide +kernel
theorem dX11_typed4_19 : decode cX11_typed4 19 = .ok (.ishr, 1) := by decide +kernel
theorem dX11_typed4_20 : decode cX11_typed4 20 = .ok (.i2b, 1) := by decide +kernel
theorem dX11_typed4_21 : decode cX11_typed4 21 = .ok (.bastore, 1) := by decide +kernel
theorem dX11_typed4_22 : decode cX11_typed4 22 = .ok (.aload_n 0, 1) := by decide +kernel
theorem dX11_typed4_23 : decode cX11_typed4 23 = .ok (.aload_n 0, 1) := by decide +kernel
theorem dX11_typed4_24 : decode cX11_typed4 24 = .ok (.getfield 67, 3) := by decide +kernel
theorem dX11_typed4_27 : decode cX11_typed4 27 = .ok (.iconst 1, 1) := by decide +kernel
theorem dX11_typed4_28 : decode cX11_typed4 28 = .ok (.iadd, 1) := by decide +kernel
theorem dX11_typed4_29 : decode cX11_typed4 29 = .ok (.putfield 67, 3) := by decide +kernel
theorem dX11_typed4_32 : decode cX11_typed4 32 = .ok (.iinc 2 (-1), 3) := by decide +kernel
theorem dX11_typed4_35 : decode cX11_typed4 35 = .ok (.goto (-33), 3) := by decide +kernel
theorem dX11_typed4_38 : decode cX11_typed4 38 = .ok (.return_, 1) := by decide +kernel
theorem dX11_undo_0 : decode cX11_undo 0 = .ok (.aload_n 0, 1) := by decide +kernel
theorem dX11_undo_1 : decode cX11_undo 1 = .ok (.getfield 102, 3) := by decide +kernel
theorem dX11_undo_4 : decode cX11_undo 4 = .ok (.ifCond .ne 5, 3) := by decide +kernel
theorem dX11_undo_7 : decode cX11_undo 7 = .ok (.iconst (-1), 1) := by decide +kernel
theorem dX11_undo_8 : decode cX11_undo 8 = .ok (.ireturn, 1) := by decide +kernel
theorem dX11_undo_9 : decode cX11_undo 9 = .ok (.aload_n 0, 1) := by decide +kernel
theorem dX11_undo_10 : decode cX11_undo 10 = .ok (.aload_n 0, 1) := by decide +kernel
theorem dX11_undo_11 : decode cX11_undo 11 = .ok (.getfield 102, 3) := by decide +kernel
theorem dX11_undo_14 : decode cX11_undo 14 = .ok (.iconst 1, 1) := by decide +kernel
theorem dX11_undo_15 : decode cX11_undo 15 = .ok (.isub, 1) := by decide +kernel
theorem dX11_undo_16 : decode cX11_undo 16 = .ok (.putfield 102, 3) := by decide +kernel
theorem dX11_undo_19 : decode cX11_undo 19 = .ok (.iconst 0, 1) := by decide +kernel
theorem dX11_undo_20 : decode cX11_undo 20 = .ok (.istore_n 1, 1) := by decide +kernel
theorem dX11_undo_21 : decode cX11_undo 21 = .ok (.iload_n 1, 1) := by decide +kernel
theorem dX11_undo_22 : decode cX11_undo 22 = .ok (.bipush 8, 2) := by decide +kernel
theorem dX11_undo_24 : decode cX11_undo 24 = .ok (.if_icmp .ge 69, 3) := by decide +kernel
theorem dX11_undo_27 : decode cX11_undo 27 = .ok (.aload_n 0, 1) := by decide +kernel
theorem dX11_undo_28 : decode cX11_undo 28 = .ok (.getfield 13, 3) := by decide +kernel
theorem dX11_undo_31 : decode cX11_undo 31 = .ok (.iload_n 1, 1) := by decide +kernel
theorem dX11_undo_32 : decode cX11_undo 32 = .ok (.aload_n 0, 1) := by decide +kernel
theorem dX11_undo_33 : decode cX11_undo 33 = .ok (.getfield 17, 3) := by decide +kernel
theorem dX11_undo_36 : decode cX11_undo 36 = .ok (.bipush 8, 2) := by decide +kernel
theorem dX11_undo_38 : decode cX11_undo 38 = .ok (.aload_n 0, 1) := by decide +kernel
theorem dX11_undo_39 : decode cX11_undo 39 = .ok (.getfield 102, 3) := by decide +kernel
theorem dX11_undo_42 : decode cX11_undo 42 = .ok (.imul, 1) := by decide +kernel
theorem dX11_undo_43 : decode cX11_undo 43 = .ok (.iload_n 1, 1) := by decide +kernel
theorem dX11_undo_44 : decode cX11_undo 44 = .ok (.iadd, 1) := by decide +kernel
theorem dX11_undo_45 : decode cX11_undo 45 = .ok (.baload, 1) := by decide +kernel
theorem dX11_undo_46 : decode cX11_undo 46 = .ok (.bastore, 1) := by decide +kernel
theorem dX11_undo_47 : decode cX11_undo 47 = .ok (.aload_n 0, 1) := by decide +kernel
theorem dX11_undo_48 : decode cX11_undo 48 = .ok (.getfield 20, 3) := by decide +kernel
theorem dX11_undo_51 : decode cX11_undo 51 = .ok (.iload_n 1, 1) := by decide +kernel
theorem dX11_undo_52 : decode cX11_undo 52 = .ok (.aload_n 0, 1) := by decide +kernel
theorem dX11_undo_53 : decode cX11_undo 53 = .ok (.getfield 27, 3) := by decide +kernel
theorem dX11_undo_56 : decode cX11_undo 56 = .ok (.bipush 8, 2) := by decide +kernel
theorem dX11_undo_58 : decode cX11_undo 58 = .ok (.aload_n 0, 1) := by decide +kernel
theorem dX11_undo_59 : decode cX11_undo 59 = .ok (.getfield 102, 3) := by decide +kernel
theorem dX11_undo_62 : decode cX11_undo 62 = .ok (.imul, 1) := by decide +kernel
theorem dX11_undo_63 : decode cX11_undo 63 = .ok (.iload_n 1, 1) := by decide +kernel
theorem dX11_undo_64 : decode cX11_undo 64 = .ok (.iadd, 1) := by decide +kernel
theorem dX11_undo_65 : decode cX11_undo 65 = .ok (.iaload, 1) := by decide +kernel
theorem dX11_undo_66 : decode cX11_undo 66 = .ok (.iastore, 1) := by decide +kernel
theorem dX11_undo_67 : decode cX11_undo 67 = .ok (.aload_n 0, 1) := by decide +kernel
theorem dX11_undo_68 : decode cX11_undo 68 = .ok (.getfield 24, 3) := by decide +kernel
theorem dX11_undo_71 : decode cX11_undo 71 = .ok (.iload_n 1, 1) := by decide +kernel
theorem dX11_undo_72 : decode cX11_undo 72 = .ok (.aload_n 0, 1) := by decide +kernel
theorem dX11_undo_73 : decode cX11_undo 73 = .ok (.getfield 30, 3) := by decide +kernel
theorem dX11_undo_76 : decode cX11_undo 76 = .ok (.bipush 8, 2) := by decide +kernel
theorem dX11_undo_78 : decode cX11_undo 78 = .ok (.aload_n 0, 1) := by decide +kernel
theorem dX11_undo_79 : decode cX11_undo 79 = .ok (.getfield 102, 3) := by decide +kernel
theorem dX11_undo_82 : decode cX11_undo 82 = .ok (.imul, 1) := by decide +kernel
theorem dX11_undo_83 : decode cX11_undo 83 = .ok (.iload_n 1, 1) := by decide +kernel
theorem dX11_undo_84 : decode cX11_undo 84 = .ok (.iadd, 1) := by decide +kernel
theorem dX11_undo_85 : decode cX11_undo 85 = .ok (.iaload, 1) := by decide +kernel
theorem dX11_undo_86 : decode cX11_undo 86 = .ok (.iastore, 1) := by decide +kernel
theorem dX11_undo_87 : decode cX11_undo 87 = .ok (.iinc 1 1, 3) := by decide +kernel
theorem dX11_undo_90 : decode cX11_undo 90 = .ok (.goto (-69), 3) := by decide +kernel
theorem dX11_undo_93 : decode cX11_undo 93 = .ok (.aload_n 0, 1) := by decide +kernel
theorem dX11_undo_94 : decode cX11_undo 94 = .ok (.getfield 102, 3) := by decide +kernel
theorem dX11_undo_97 : decode cX11_undo 97 = .ok (.ireturn, 1) := by decide +kernel
theorem dX11_unitOf_0 : decode cX11_unitOf 0 = .ok (.lload_n 0, 1) := by decide +kernel
theorem dX11_unitOf_1 : decode cX11_unitOf 1 = .ok (.lload_n 2, 1) := by decide +kernel
theorem dX11_unitOf_2 : decode cX11_unitOf 2 = .ok (.invokestatic 112, 3) := by decide +kernel
theorem dX11_unitOf_5 : decode cX11_unitOf 5 = .ok (.lconst 1, 1) := by decide +kernel
theorem dX11_unitOf_6 : decode cX11_unitOf 6 = .ok (.lcmp, 1) := by decide +kernel
theorem dX11_unitOf_7 : decode cX11_unitOf 7 = .ok (.ifCond .eq 5, 3) := by decide +kernel
theorem dX11_unitOf_10 : decode cX11_unitOf 10 = .ok (.iconst (-1), 1) := by decide +kernel
theorem dX11_unitOf_11 : decode cX11_unitOf 11 = .ok (.ireturn, 1) := by decide +kernel
theorem dX11_unitOf_12 : decode cX11_unitOf 12 = .ok (.lload_n 0, 1) := by decide +kernel
theorem dX11_unitOf_13 : decode cX11_unitOf 13 = .ok (.lconst 1, 1) := by decide +kernel
theorem dX11_unitOf_14 : decode cX11_unitOf 14 = .ok (.lcmp, 1) := by decide +kernel
theorem dX11_unitOf_15 : decode cX11_unitOf 15 = .ok (.ifCond .ne 17, 3) := by decide +kernel
theorem dX11_unitOf_18 : decode cX11_unitOf 18 = .ok (.lload_n 2, 1) := by decide +kernel
theorem dX11_unitOf_19 : decode cX11_unitOf 19 = .ok (.lconst 0, 1) := by decide +kernel
theorem dX11_unitOf_20 : decode cX11_unitOf 20 = .ok (.lcmp, 1) := by decide +kernel
theorem dX11_unitOf_21 : decode cX11_unitOf 21 = .ok (.ifCond .ne 7, 3) := by decide +kernel
theorem dX11_unitOf_24 : decode cX11_unitOf 24 = .ok (.iconst 0, 1) := by decide +kernel
theorem dX11_unitOf_25 : decode cX11_unitOf 25 = .ok (.goto 40, 3) := by decide +kernel
theorem dX11_unitOf_28 : decode cX11_unitOf 28 = .ok (.iconst 1, 1) := by decide +kernel
theorem dX11_unitOf_29 : decode cX11_unitOf 29 = .ok (.goto 36, 3) := by decide +kernel
theorem dX11_unitOf_32 : decode cX11_unitOf 32 = .ok (.lload_n 0, 1) := by decide +kernel
theorem dX11_unitOf_33 : decode cX11_unitOf 33 = .ok (.ldc2_w 151, 3) := by decide +kernel
theorem dX11_unitOf_36 : decode cX11_unitOf 36 = .ok (.lcmp, 1) := by decide +kernel
theorem dX11_unitOf_37 : decode cX11_unitOf 37 = .ok (.ifCond .ne 17, 3) := by decide +kernel
theorem dX11_unitOf_40 : decode cX11_unitOf 40 = .ok (.lload_n 2, 1) := by decide +kernel
theorem dX11_unitOf_41 : decode cX11_unitOf 41 = .ok (.lconst 0, 1) := by decide +kernel
theorem dX11_unitOf_42 : decode cX11_unitOf 42 = .ok (.lcmp, 1) := by decide +kernel
theorem dX11_unitOf_43 : decode cX11_unitOf 43 = .ok (.ifCond .ne 7, 3) := by decide +kernel
theorem dX11_unitOf_46 : decode cX11_unitOf 46 = .ok (.iconst 3, 1) := by decide +kernel
theorem dX11_unitOf_47 : decode cX11_unitOf 47 = .ok (.goto 18, 3) := by decide +kernel
theorem dX11_unitOf_50 : decode cX11_unitOf 50 = .ok (.iconst 4, 1) := by decide +kernel
theorem dX11_unitOf_51 : decode cX11_unitOf 51 = .ok (.goto 14, 3) := by decide +kernel
theorem dX11_unitOf_54 : decode cX11_unitOf 54 = .ok (.lload_n 2, 1) := by decide +kernel
theorem dX11_unitOf_55 : decode cX11_unitOf 55 = .ok (.lconst 1, 1) := by decide +kernel
theorem dX11_unitOf_56 : decode cX11_unitOf 56 = .ok (.lcmp, 1) := by decide +kernel
theorem dX11_unitOf_57 : decode cX11_unitOf 57 = .ok (.ifCond .ne 7, 3) := by decide +kernel
theorem dX11_unitOf_60 : decode cX11_unitOf 60 = .ok (.iconst 2, 1) := by decide +kernel
theorem dX11_unitOf_61 : decode cX11_unitOf 61 = .ok (.goto 4, 3) := by decide +kernel
theorem dX11_unitOf_64 : decode cX11_unitOf 64 = .ok (.iconst 5, 1) := by decide +kernel
theorem dX11_unitOf_65 : decode cX11_unitOf 65 = .ok (.ireturn, 1) := by decide +kernel
theorem dX11_unitTimes_0 : decode cX11_unitTimes 0 = .ok (.aload_n 0, 1) := by decide +kernel
theorem dX11_unitTimes_1 : decode cX11_unitTimes 1 = .ok (.lload_n 1, 1) := by decide +kernel
theorem dX11_unitTimes_2 : decode cX11_unitTimes 2 = .ok (.lload_n 3, 1) := by decide +kernel
theorem dX11_unitTimes_3 : decode cX11_unitTimes 3 = .ok (.invokevirtual 115, 3) := by decide +kernel
theorem dX11_unitTimes_6 : decode cX11_unitTimes 6 = .ok (.iconst 0, 1) := by decide +kernel
theorem dX11_unitTimes_7 : decode cX11_unitTimes 7 = .ok (.istore 6, 2) := by decide +kernel
theorem dX11_unitTimes_9 : decode cX11_unitTimes 9 = .ok (.iload 6, 2) := by decide +kernel
theorem dX11_unitTimes_11 : decode cX11_unitTimes 11 = .ok (.iload 5, 2) := by decide +kernel
theorem dX11_unitTimes_13 : decode cX11_unitTimes 13 = .ok (.if_icmp .ge 23, 3) := by decide +kernel
theorem dX11_unitTimes_16 : decode cX11_unitTimes 16 = .ok (.aload_n 0, 1) := by decide +kernel
theorem dX11_unitTimes_17 : decode cX11_unitTimes 17 = .ok (.aload_n 0, 1) := by decide +kernel
theorem dX11_unitTimes_18 : decode cX11_unitTimes 18 = .ok (.getfield 105, 3) := by decide +kernel
theorem dX11_unitTimes_21 : decode cX11_unitTimes 21 = .ok (.aload_n 0, 1) := by decide +kernel
theorem dX11_unitTimes_22 : decode cX11_unitTimes 22 = .ok (.getfield 109, 3) := by decide +kernel
theorem dX11_unitTimes_25 : decode cX11_unitTimes 25 = .ok (.lconst 1, 1) := by decide +kernel
theorem dX11_unitTimes_26 : decode cX11_unitTimes 26 = .ok (.lconst 1, 1) := by decide +kernel
theorem dX11_unitTimes_27 : decode cX11_unitTimes 27 = .ok (.invokevirtual 121, 3) := by decide +kernel
theorem dX11_unitTimes_30 : decode cX11_unitTimes 30 = .ok (.iinc 6 1, 3) := by decide +kernel
theorem dX11_unitTimes_33 : decode cX11_unitTimes 33 = .ok (.goto (-24), 3) := by decide +kernel
theorem dX11_unitTimes_36 : decode cX11_unitTimes 36 = .ok (.return_, 1) := by decide +kernel
theorem dX11_without_0 : decode cX11_without 0 = .ok (.lload_n 0, 1) := by decide +kernel
theorem dX11_without_1 : decode cX11_without 1 = .ok (.lconst 0, 1) := by decide +kernel
theorem dX11_without_2 : decode cX11_without 2 = .ok (.lcmp, 1) := by decide +kernel
theorem dX11_without_3 : decode cX11_without 3 = .ok (.ifCond .ge 8, 3) := by decide +kernel
theorem dX11_without_6 : decode cX11_without 6 = .ok (.lload_n 0, 1) := by decide +kernel
theorem dX11_without_7 : decode cX11_without 7 = .ok (.lneg, 1) := by decide +kernel
theorem dX11_without_8 : decode cX11_without 8 = .ok (.goto 4, 3) := by decide +kernel
theorem dX11_without_11 : decode cX11_without 11 = .ok (.lload_n 0, 1) := by decide +kernel
theorem dX11_without_12 : decode cX11_without 12 = .ok (.lreturn, 1) := by decide +kernel
theorem dX11_work_0 : decode cX11_work 0 = .ok (.iload_n 1, 1) := by decide +kernel
theorem dX11_work_1 : decode cX11_work 1 = .ok (.invokestatic 85, 3) := by decide +kernel
theorem dX11_work_4 : decode cX11_work 4 = .ok (.ifCond .eq 30, 3) := by decide +kernel
theorem dX11_work_7 : decode cX11_work 7 = .ok (.iload_n 2, 1) := by decide +kernel
theorem dX11_work_8 : decode cX11_work 8 = .ok (.invokestatic 85, 3) := by decide +kernel
theorem dX11_work_11 : decode cX11_work 11 = .ok (.ifCond .eq 23, 3) := by decide +kernel
theorem dX11_work_14 : decode cX11_work 14 = .ok (.iload_n 3, 1) := by decide +kernel
theorem dX11_work_15 : decode cX11_work 15 = .ok (.invokestatic 85, 3) := by decide +kernel
theorem dX11_work_18 : decode cX11_work 18 = .ok (.ifCond .eq 16, 3) := by decide +kernel
theorem dX11_work_21 : decode cX11_work 21 = .ok (.iload 4, 2) := by decide +kernel
theorem dX11_work_23 : decode cX11_work 23 = .ok (.i2l, 1) := by decide +kernel
theorem dX11_work_24 : decode cX11_work 24 = .ok (.lconst 0, 1) := by decide +kernel
theorem dX11_work_25 : decode cX11_work 25 = .ok (.ldc2_w 174, 3) := by decide +kernel
theorem dX11_work_28 : decode cX11_work 28 = .ok (.invokestatic 77, 3) := by decide +kernel
theorem dX11_work_31 : decode cX11_work 31 = .ok (.ifCond .ne 5, 3) := by decide +kernel
theorem dX11_work_34 : decode cX11_work 34 = .ok (.iconst (-1), 1) := by decide +kernel
theorem dX11_work_35 : decode cX11_work 35 = .ok (.ireturn, 1) := by decide +kernel
theorem dX11_work_36 : decode cX11_work 36 = .ok (.aload_n 0, 1) := by decide +kernel
theorem dX11_work_37 : decode cX11_work 37 = .ok (.getfield 13, 3) := by decide +kernel
theorem dX11_work_40 : decode cX11_work 40 = .ok (.iload_n 1, 1) := by decide +kernel
theorem dX11_work_41 : decode cX11_work 41 = .ok (.baload, 1) := by decide +kernel
theorem dX11_work_42 : decode cX11_work 42 = .ok (.ifCond .eq 12, 3) := by decide +kernel
theorem dX11_work_45 : decode cX11_work 45 = .ok (.aload_n 0, 1) := by decide +kernel
theorem dX11_work_46 : decode cX11_work 46 = .ok (.getfield 13, 3) := by decide +kernel
theorem dX11_work_49 : decode cX11_work 49 = .ok (.iload_n 2, 1) := by decide +kernel
theorem dX11_work_50 : decode cX11_work 50 = .ok (.baload, 1) := by decide +kernel
theorem dX11_work_51 : decode cX11_work 51 = .ok (.ifCond .ne 6, 3) := by decide +kernel
theorem dX11_work_54 : decode cX11_work 54 = .ok (.bipush (-2), 2) := by decide +kernel
theorem dX11_work_56 : decode cX11_work 56 = .ok (.ireturn, 1) := by decide +kernel
theorem dX11_work_57 : decode cX11_work 57 = .ok (.iload 4, 2) := by decide +kernel
theorem dX11_work_59 : decode cX11_work 59 = .ok (.i2l, 1) := by decide +kernel
theorem dX11_work_60 : decode cX11_work 60 = .ok (.ldc2_w 134, 3) := by decide +kernel
theorem dX11_work_63 : decode cX11_work 63 = .ok (.ldc2_w 176, 3) := by decide +kernel
theorem dX11_work_66 : decode cX11_work 66 = .ok (.invokestatic 77, 3) := by decide +kernel
theorem dX11_work_69 : decode cX11_work 69 = .ok (.ifCond .eq 11, 3) := by decide +kernel
theorem dX11_work_72 : decode cX11_work 72 = .ok (.aload_n 0, 1) := by decide +kernel
theorem dX11_work_73 : decode cX11_work 73 = .ok (.iload_n 2, 1) := by decide +kernel
theorem dX11_work_74 : decode cX11_work 74 = .ok (.invokevirtual 178, 3) := by decide +kernel
theorem dX11_work_77 : decode cX11_work 77 = .ok (.ifCond .ne 25, 3) := by decide +kernel
theorem dX11_work_80 : decode cX11_work 80 = .ok (.iload 4, 2) := by decide +kernel
theorem dX11_work_82 : decode cX11_work 82 = .ok (.iconst 5, 1) := by decide +kernel
theorem dX11_work_83 : decode cX11_work 83 = .ok (.if_icmp .ne 22, 3) := by decide +kernel
theorem dX11_work_86 : decode cX11_work 86 = .ok (.aload_n 0, 1) := by decide +kernel
theorem dX11_work_87 : decode cX11_work 87 = .ok (.iload_n 1, 1) := by decide +kernel
theorem dX11_work_88 : decode cX11_work 88 = .ok (.invokevirtual 178, 3) := by decide +kernel
theorem dX11_work_91 : decode cX11_work 91 = .ok (.ifCond .eq 14, 3) := by decide +kernel
theorem dX11_work_94 : decode cX11_work 94 = .ok (.aload_n 0, 1) := by decide +kernel
theorem dX11_work_95 : decode cX11_work 95 = .ok (.iload_n 2, 1) := by decide +kernel
theorem dX11_work_96 : decode cX11_work 96 = .ok (.invokevirtual 178, 3) := by decide +kernel
theorem dX11_work_99 : decode cX11_work 99 = .ok (.ifCond .eq 6, 3) := by decide +kernel
theorem dX11_work_102 : decode cX11_work 102 = .ok (.bipush (-3), 2) := by decide +kernel
theorem dX11_work_104 : decode cX11_work 104 = .ok (.ireturn, 1) := by decide +kernel
theorem dX11_work_105 : decode cX11_work 105 = .ok (.aload_n 0, 1) := by decide +kernel
theorem dX11_work_106 : decode cX11_work 106 = .ok (.getfield 20, 3) := by decide +kernel
theorem dX11_work_109 : decode cX11_work 109 = .ok (.iload_n 1, 1) := by decide +kernel
theorem dX11_work_110 : decode cX11_work 110 = .ok (.iaload, 1) := by decide +kernel
theorem dX11_work_111 : decode cX11_work 111 = .ok (.istore 5, 2) := by decide +kernel
theorem dX11_work_113 : decode cX11_work 113 = .ok (.aload_n 0, 1) := by decide +kernel
theorem dX11_work_114 : decode cX11_work 114 = .ok (.getfield 24, 3) := by decide +kernel
theorem dX11_work_117 : decode cX11_work 117 = .ok (.iload_n 1, 1) := by decide +kernel
theorem dX11_work_118 : decode cX11_work 118 = .ok (.iaload, 1) := by decide +kernel
theorem dX11_work_119 : decode cX11_work 119 = .ok (.istore 6, 2) := by decide +kernel
theorem dX11_work_121 : decode cX11_work 121 = .ok (.aload_n 0, 1) := by decide +kernel
theorem dX11_work_122 : decode cX11_work 122 = .ok (.getfield 20, 3) := by decide +kernel
theorem dX11_work_125 : decode cX11_work 125 = .ok (.iload_n 2, 1) := by decide +kernel
theorem dX11_work_126 : decode cX11_work 126 = .ok (.iaload, 1) := by decide +kernel
theorem dX11_work_127 : decode cX11_work 127 = .ok (.istore 7, 2) := by decide +kernel
theorem dX11_work_129 : decode cX11_work 129 = .ok (.aload_n 0, 1) := by decide +kernel
theorem dX11_work_130 : decode cX11_work 130 = .ok (.getfield 24, 3) := by decide +kernel
theorem dX11_work_133 : decode cX11_work 133 = .ok (.iload_n 2, 1) := by decide +kernel
theorem dX11_work_134 : decode cX11_work 134 = .ok (.iaload, 1) := by decide +kernel
theorem dX11_work_135 : decode cX11_work 135 = .ok (.istore 8, 2) := by decide +kernel
theorem dX11_work_137 : decode cX11_work 137 = .ok (.iload 4, 2) := by decide +kernel
theorem dX11_work_139 : decode cX11_work 139 = .ok (.tableswitch 128 0 4 #[33, 52, 71, 90, 109], 33) := by decide +kernel
theorem dX11_work_172 : decode cX11_work 172 = .ok (.aload_n 0, 1) := by decide +kernel
theorem dX11_work_173 : decode cX11_work 173 = .ok (.iload 5, 2) := by decide +kernel
theorem dX11_work_175 : decode cX11_work 175 = .ok (.iload 7, 2) := by decide +kernel
theorem dX11_work_177 : decode cX11_work 177 = .ok (.iadd, 1) := by decide +kernel
theorem dX11_work_178 : decode cX11_work 178 = .ok (.i2l, 1) := by decide +kernel
theorem dX11_work_179 : decode cX11_work 179 = .ok (.iload 6, 2) := by decide +kernel
theorem dX11_work_181 : decode cX11_work 181 = .ok (.iload 8, 2) := by decide +kernel
theorem dX11_work_183 : decode cX11_work 183 = .ok (.iadd, 1) := by decide +kernel
theorem dX11_work_184 : decode cX11_work 184 = .ok (.i2l, 1) := by decide +kernel
theorem dX11_work_185 : decode cX11_work 185 = .ok (.invokevirtual 115, 3) := by decide +kernel
theorem dX11_work_188 : decode cX11_work 188 = .ok (.goto 107, 3) := by decide +kernel
theorem dX11_work_191 : decode cX11_work 191 = .ok (.aload_n 0, 1) := by decide +kernel
theorem dX11_work_192 : decode cX11_work 192 = .ok (.iload 5, 2) := by decide +kernel
theorem dX11_work_194 : decode cX11_work 194 = .ok (.iload 7, 2) := by decide +kernel
theorem dX11_work_196 : decode cX11_work 196 = .ok (.isub, 1) := by decide +kernel
theorem dX11_work_197 : decode cX11_work 197 = .ok (.i2l, 1) := by decide +kernel
theorem dX11_work_198 : decode cX11_work 198 = .ok (.iload 6, 2) := by decide +kernel
theorem dX11_work_200 : decode cX11_work 200 = .ok (.iload 8, 2) := by decide +kernel
theorem dX11_work_202 : decode cX11_work 202 = .ok (.isub, 1) := by decide +kernel
theorem dX11_work_203 : decode cX11_work 203 = .ok (.i2l, 1) := by decide +kernel
theorem dX11_work_204 : decode cX11_work 204 = .ok (.invokevirtual 115, 3) := by decide +kernel
theorem dX11_work_207 : decode cX11_work 207 = .ok (.goto 88, 3) := by decide +kernel
theorem dX11_work_210 : decode cX11_work 210 = .ok (.aload_n 0, 1) := by decide +kernel
theorem dX11_work_211 : decode cX11_work 211 = .ok (.iload 5, 2) := by decide +kernel
theorem dX11_work_213 : decode cX11_work 213 = .ok (.i2l, 1) := by decide +kernel
theorem dX11_work_214 : decode cX11_work 214 = .ok (.iload 6, 2) := by decide +kernel
theorem dX11_work_216 : decode cX11_work 216 = .ok (.i2l, 1) := by decide +kernel
theorem dX11_work_217 : decode cX11_work 217 = .ok (.iload 7, 2) := by decide +kernel
theorem dX11_work_219 : decode cX11_work 219 = .ok (.i2l, 1) := by decide +kernel
theorem dX11_work_220 : decode cX11_work 220 = .ok (.iload 8, 2) := by decide +kernel
theorem dX11_work_222 : decode cX11_work 222 = .ok (.i2l, 1) := by decide +kernel
theorem dX11_work_223 : decode cX11_work 223 = .ok (.invokevirtual 121, 3) := by decide +kernel
theorem dX11_work_226 : decode cX11_work 226 = .ok (.goto 69, 3) := by decide +kernel
theorem dX11_work_229 : decode cX11_work 229 = .ok (.aload_n 0, 1) := by decide +kernel
theorem dX11_work_230 : decode cX11_work 230 = .ok (.iload 5, 2) := by decide +kernel
theorem dX11_work_232 : decode cX11_work 232 = .ok (.i2l, 1) := by decide +kernel
theorem dX11_work_233 : decode cX11_work 233 = .ok (.iload 6, 2) := by decide +kernel
theorem dX11_work_235 : decode cX11_work 235 = .ok (.i2l, 1) := by decide +kernel
theorem dX11_work_236 : decode cX11_work 236 = .ok (.iload 7, 2) := by decide +kernel
theorem dX11_work_238 : decode cX11_work 238 = .ok (.i2l, 1) := by decide +kernel
theorem dX11_work_239 : decode cX11_work 239 = .ok (.iload 8, 2) := by decide +kernel
theorem dX11_work_241 : decode cX11_work 241 = .ok (.i2l, 1) := by decide +kernel
theorem dX11_work_242 : decode cX11_work 242 = .ok (.invokevirtual 128, 3) := by decide +kernel
theorem dX11_work_245 : decode cX11_work 245 = .ok (.goto 50, 3) := by decide +kernel
theorem dX11_work_248 : decode cX11_work 248 = .ok (.aload_n 0, 1) := by decide +kernel
theorem dX11_work_249 : decode cX11_work 249 = .ok (.iload 5, 2) := by decide +kernel
theorem dX11_work_251 : decode cX11_work 251 = .ok (.i2l, 1) := by decide +kernel
theorem dX11_work_252 : decode cX11_work 252 = .ok (.iload 6, 2) := by decide +kernel
theorem dX11_work_254 : decode cX11_work 254 = .ok (.i2l, 1) := by decide +kernel
theorem dX11_work_255 : decode cX11_work 255 = .ok (.iload 7, 2) := by decide +kernel
theorem dX11_work_257 : decode cX11_work 257 = .ok (.i2l, 1) := by decide +kernel
theorem dX11_work_258 : decode cX11_work 258 = .ok (.iload 8, 2) := by decide +kernel
theorem dX11_work_260 : decode cX11_work 260 = .ok (.i2l, 1) := by decide +kernel
theorem dX11_work_261 : decode cX11_work 261 = .ok (.invokevirtual 131, 3) := by decide +kernel
theorem dX11_work_264 : decode cX11_work 264 = .ok (.goto 31, 3) := by decide +kernel
theorem dX11_work_267 : decode cX11_work 267 = .ok (.aload_n 0, 1) := by decide +kernel
theorem dX11_work_268 : decode cX11_work 268 = .ok (.iload 5, 2) := by decide +kernel
theorem dX11_work_270 : decode cX11_work 270 = .ok (.i2l, 1) := by decide +kernel
theorem dX11_work_271 : decode cX11_work 271 = .ok (.iload 6, 2) := by decide +kernel
theorem dX11_work_273 : decode cX11_work 273 = .ok (.i2l, 1) := by decide +kernel
theorem dX11_work_274 : decode cX11_work 274 = .ok (.iload 7, 2) := by decide +kernel
theorem dX11_work_276 : decode cX11_work 276 = .ok (.i2l, 1) := by decide +kernel
theorem dX11_work_277 : decode cX11_work 277 = .ok (.iload 8, 2) := by decide +kernel
theorem dX11_work_279 : decode cX11_work 279 = .ok (.i2l, 1) := by decide +kernel
theorem dX11_work_280 : decode cX11_work 280 = .ok (.invokevirtual 153, 3) := by decide +kernel
theorem dX11_work_283 : decode cX11_work 283 = .ok (.aload_n 0, 1) := by decide +kernel
theorem dX11_work_284 : decode cX11_work 284 = .ok (.aload_n 0, 1) := by decide +kernel
theorem dX11_work_285 : decode cX11_work 285 = .ok (.getfield 105, 3) := by decide +kernel
theorem dX11_work_288 : decode cX11_work 288 = .ok (.aload_n 0, 1) := by decide +kernel
theorem dX11_work_289 : decode cX11_work 289 = .ok (.getfield 109, 3) := by decide +kernel
theorem dX11_work_292 : decode cX11_work 292 = .ok (.invokevirtual 181, 3) := by decide +kernel
theorem dX11_work_295 : decode cX11_work 295 = .ok (.aload_n 0, 1) := by decide +kernel
theorem dX11_work_296 : decode cX11_work 296 = .ok (.iload_n 3, 1) := by decide +kernel
theorem dX11_work_297 : decode cX11_work 297 = .ok (.invokevirtual 184, 3) := by decide +kernel
theorem dX11_work_300 : decode cX11_work 300 = .ok (.ireturn, 1) := by decide +kernel
theorem dX11_write_0 : decode cX11_write 0 = .ok (.iload_n 1, 1) := by decide +kernel
theorem dX11_write_1 : decode cX11_write 1 = .ok (.invokestatic 85, 3) := by decide +kernel
theorem dX11_write_4 : decode cX11_write 4 = .ok (.ifCond .eq 23, 3) := by decide +kernel
theorem dX11_write_7 : decode cX11_write 7 = .ok (.iload_n 2, 1) := by decide +kernel
theorem dX11_write_8 : decode cX11_write 8 = .ok (.i2l, 1) := by decide +kernel
theorem dX11_write_9 : decode cX11_write 9 = .ok (.lconst 1, 1) := by decide +kernel
theorem dX11_write_10 : decode cX11_write 10 = .ok (.ldc2_w 97, 3) := by decide +kernel
theorem dX11_write_13 : decode cX11_write 13 = .ok (.invokestatic 77, 3) := by decide +kernel
theorem dX11_write_16 : decode cX11_write 16 = .ok (.ifCond .eq 11, 3) := by decide +kernel
theorem dX11_write_19 : decode cX11_write 19 = .ok (.iload_n 2, 1) := by decide +kernel
theorem dX11_write_20 : decode cX11_write 20 = .ok (.aload_n 0, 1) := by decide +kernel
theorem dX11_write_21 : decode cX11_write 21 = .ok (.getfield 67, 3) := by decide +kernel
theorem dX11_write_24 : decode cX11_write 24 = .ok (.if_icmp .le 5, 3) := by decide +kernel
theorem dX11_write_27 : decode cX11_write 27 = .ok (.iconst (-1), 1) := by decide +kernel
theorem dX11_write_28 : decode cX11_write 28 = .ok (.ireturn, 1) := by decide +kernel
theorem dX11_write_29 : decode cX11_write 29 = .ok (.aload_n 0, 1) := by decide +kernel
theorem dX11_write_30 : decode cX11_write 30 = .ok (.iconst 0, 1) := by decide +kernel
theorem dX11_write_31 : decode cX11_write 31 = .ok (.putfield 67, 3) := by decide +kernel
theorem dX11_write_34 : decode cX11_write 34 = .ok (.iconst 0, 1) := by decide +kernel
theorem dX11_write_35 : decode cX11_write 35 = .ok (.istore_n 3, 1) := by decide +kernel
theorem dX11_write_36 : decode cX11_write 36 = .ok (.iconst 0, 1) := by decide +kernel
theorem dX11_write_37 : decode cX11_write 37 = .ok (.istore 4, 2) := by decide +kernel
theorem dX11_write_39 : decode cX11_write 39 = .ok (.iconst 0, 1) := by decide +kernel
theorem dX11_write_40 : decode cX11_write 40 = .ok (.istore 5, 2) := by decide +kernel
theorem dX11_write_42 : decode cX11_write 42 = .ok (.iconst 0, 1) := by decide +kernel
theorem dX11_write_43 : decode cX11_write 43 = .ok (.istore 6, 2) := by decide +kernel
theorem dX11_write_45 : decode cX11_write 45 = .ok (.iconst 0, 1) := by decide +kernel
theorem dX11_write_46 : decode cX11_write 46 = .ok (.istore 7, 2) := by decide +kernel
theorem dX11_write_48 : decode cX11_write 48 = .ok (.iconst 1, 1) := by decide +kernel
theorem dX11_write_49 : decode cX11_write 49 = .ok (.istore 8, 2) := by decide +kernel
theorem dX11_write_51 : decode cX11_write 51 = .ok (.iload 8, 2) := by decide +kernel
theorem dX11_write_53 : decode cX11_write 53 = .ok (.ifCond .eq 396, 3) := by decide +kernel
theorem dX11_write_56 : decode cX11_write 56 = .ok (.iload_n 3, 1) := by decide +kernel
theorem dX11_write_57 : decode cX11_write 57 = .ok (.iload_n 2, 1) := by decide +kernel
theorem dX11_write_58 : decode cX11_write 58 = .ok (.if_icmp .ge 21, 3) := by decide +kernel
theorem dX11_write_61 : decode cX11_write 61 = .ok (.aload_n 0, 1) := by decide +kernel
theorem dX11_write_62 : decode cX11_write 62 = .ok (.getfield 7, 3) := by decide +kernel
theorem dX11_write_65 : decode cX11_write 65 = .ok (.iload_n 3, 1) := by decide +kernel
theorem dX11_write_66 : decode cX11_write 66 = .ok (.baload, 1) := by decide +kernel
theorem dX11_write_67 : decode cX11_write 67 = .ok (.bipush 32, 2) := by decide +kernel
theorem dX11_write_69 : decode cX11_write 69 = .ok (.if_icmp .ne 10, 3) := by decide +kernel
theorem dX11_write_72 : decode cX11_write 72 = .ok (.iload_n 3, 1) := by decide +kernel
theorem dX11_write_73 : decode cX11_write 73 = .ok (.iconst 1, 1) := by decide +kernel
theorem dX11_write_74 : decode cX11_write 74 = .ok (.iadd, 1) := by decide +kernel
theorem dX11_write_75 : decode cX11_write 75 = .ok (.istore_n 3, 1) := by decide +kernel
theorem dX11_write_76 : decode cX11_write 76 = .ok (.goto (-20), 3) := by decide +kernel
theorem dX11_write_79 : decode cX11_write 79 = .ok (.iload_n 3, 1) := by decide +kernel
theorem dX11_write_80 : decode cX11_write 80 = .ok (.istore 9, 2) := by decide +kernel
theorem dX11_write_82 : decode cX11_write 82 = .ok (.iload 6, 2) := by decide +kernel
theorem dX11_write_84 : decode cX11_write 84 = .ok (.ifCond .ne 12, 3) := by decide +kernel
theorem dX11_write_87 : decode cX11_write 87 = .ok (.iload 7, 2) := by decide +kernel
theorem dX11_write_89 : decode cX11_write 89 = .ok (.ifCond .ne 7, 3) := by decide +kernel
theorem dX11_write_92 : decode cX11_write 92 = .ok (.iconst 1, 1) := by decide +kernel
theorem dX11_write_93 : decode cX11_write 93 = .ok (.goto 4, 3) := by decide +kernel
theorem dX11_write_96 : decode cX11_write 96 = .ok (.iconst 0, 1) := by decide +kernel
theorem dX11_write_97 : decode cX11_write 97 = .ok (.istore 10, 2) := by decide +kernel
theorem dX11_write_99 : decode cX11_write 99 = .ok (.iload_n 3, 1) := by decide +kernel
theorem dX11_write_100 : decode cX11_write 100 = .ok (.iload_n 2, 1) := by decide +kernel
theorem dX11_write_101 : decode cX11_write 101 = .ok (.if_icmp .ge 29, 3) := by decide +kernel
theorem dX11_write_104 : decode cX11_write 104 = .ok (.aload_n 0, 1) := by decide +kernel
theorem dX11_write_105 : decode cX11_write 105 = .ok (.getfield 7, 3) := by decide +kernel
theorem dX11_write_108 : decode cX11_write 108 = .ok (.iload_n 3, 1) := by decide +kernel
theorem dX11_write_109 : decode cX11_write 109 = .ok (.baload, 1) := by decide +kernel
theorem dX11_write_110 : decode cX11_write 110 = .ok (.bipush 43, 2) := by decide +kernel
theorem dX11_write_112 : decode cX11_write 112 = .ok (.if_icmp .eq 14, 3) := by decide +kernel
theorem dX11_write_115 : decode cX11_write 115 = .ok (.aload_n 0, 1) := by decide +kernel
theorem dX11_write_116 : decode cX11_write 116 = .ok (.getfield 7, 3) := by decide +kernel
theorem dX11_write_119 : decode cX11_write 119 = .ok (.iload_n 3, 1) := by decide +kernel
theorem dX11_write_120 : decode cX11_write 120 = .ok (.baload, 1) := by decide +kernel
theorem dX11_write_121 : decode cX11_write 121 = .ok (.bipush 45, 2) := by decide +kernel
theorem dX11_write_123 : decode cX11_write 123 = .ok (.if_icmp .ne 7, 3) := by decide +kernel
theorem dX11_write_126 : decode cX11_write 126 = .ok (.iconst 1, 1) := by decide +kernel
theorem dX11_write_127 : decode cX11_write 127 = .ok (.goto 4, 3) := by decide +kernel
theorem dX11_write_130 : decode cX11_write 130 = .ok (.iconst 0, 1) := by decide +kernel
theorem dX11_write_131 : decode cX11_write 131 = .ok (.istore 11, 2) := by decide +kernel
theorem dX11_write_133 : decode cX11_write 133 = .ok (.iload 11, 2) := by decide +kernel
theorem dX11_write_135 : decode cX11_write 135 = .ok (.ifCond .ne 14, 3) := by decide +kernel
theorem dX11_write_138 : decode cX11_write 138 = .ok (.iload 10, 2) := by decide +kernel
theorem dX11_write_140 : decode cX11_write 140 = .ok (.ifCond .ne 9, 3) := by decide +kernel
theorem dX11_write_143 : decode cX11_write 143 = .ok (.sipush (-1000), 3) := by decide +kernel
theorem dX11_write_146 : decode cX11_write 146 = .ok (.iload_n 3, 1) := by decide +kernel
theorem dX11_write_147 : decode cX11_write 147 = .ok (.isub, 1) := by decide +kernel
theorem dX11_write_148 : decode cX11_write 148 = .ok (.ireturn, 1) := by decide +kernel
theorem dX11_write_149 : decode cX11_write 149 = .ok (.iload 11, 2) := by decide +kernel
theorem dX11_write_151 : decode cX11_write 151 = .ok (.ifCond .eq 18, 3) := by decide +kernel
theorem dX11_write_154 : decode cX11_write 154 = .ok (.aload_n 0, 1) := by decide +kernel
theorem dX11_write_155 : decode cX11_write 155 = .ok (.getfield 7, 3) := by decide +kernel
theorem dX11_write_158 : decode cX11_write 158 = .ok (.iload_n 3, 1) := by decide +kernel
theorem dX11_write_159 : decode cX11_write 159 = .ok (.baload, 1) := by decide +kernel
theorem dX11_write_160 : decode cX11_write 160 = .ok (.bipush 45, 2) := by decide +kernel
theorem dX11_write_162 : decode cX11_write 162 = .ok (.if_icmp .ne 7, 3) := by decide +kernel
theorem dX11_write_165 : decode cX11_write 165 = .ok (.iconst 1, 1) := by decide +kernel
theorem dX11_write_166 : decode cX11_write 166 = .ok (.goto 4, 3) := by decide +kernel
theorem dX11_write_169 : decode cX11_write 169 = .ok (.iconst 0, 1) := by decide +kernel
theorem dX11_write_170 : decode cX11_write 170 = .ok (.istore 12, 2) := by decide +kernel
theorem dX11_write_172 : decode cX11_write 172 = .ok (.iload 11, 2) := by decide +kernel
theorem dX11_write_174 : decode cX11_write 174 = .ok (.ifCond .eq 9, 3) := by decide +kernel
theorem dX11_write_177 : decode cX11_write 177 = .ok (.iload_n 3, 1) := by decide +kernel
theorem dX11_write_178 : decode cX11_write 178 = .ok (.iconst 1, 1) := by decide +kernel
theorem dX11_write_179 : decode cX11_write 179 = .ok (.iadd, 1) := by decide +kernel
theorem dX11_write_180 : decode cX11_write 180 = .ok (.goto 4, 3) := by decide +kernel
theorem dX11_write_183 : decode cX11_write 183 = .ok (.iload_n 3, 1) := by decide +kernel
theorem dX11_write_184 : decode cX11_write 184 = .ok (.istore_n 3, 1) := by decide +kernel
theorem dX11_write_185 : decode cX11_write 185 = .ok (.iload_n 3, 1) := by decide +kernel
theorem dX11_write_186 : decode cX11_write 186 = .ok (.iload_n 2, 1) := by decide +kernel
theorem dX11_write_187 : decode cX11_write 187 = .ok (.if_icmp .ge 21, 3) := by decide +kernel
theorem dX11_write_190 : decode cX11_write 190 = .ok (.aload_n 0, 1) := by decide +kernel
theorem dX11_write_191 : decode cX11_write 191 = .ok (.getfield 7, 3) := by decide +kernel
theorem dX11_write_194 : decode cX11_write 194 = .ok (.iload_n 3, 1) := by decide +kernel
theorem dX11_write_195 : decode cX11_write 195 = .ok (.baload, 1) := by decide +kernel
theorem dX11_write_196 : decode cX11_write 196 = .ok (.bipush 32, 2) := by decide +kernel
theorem dX11_write_198 : decode cX11_write 198 = .ok (.if_icmp .ne 10, 3) := by decide +kernel
theorem dX11_write_201 : decode cX11_write 201 = .ok (.iload_n 3, 1) := by decide +kernel
theorem dX11_write_202 : decode cX11_write 202 = .ok (.iconst 1, 1) := by decide +kernel
theorem dX11_write_203 : decode cX11_write 203 = .ok (.iadd, 1) := by decide +kernel
theorem dX11_write_204 : decode cX11_write 204 = .ok (.istore_n 3, 1) := by decide +kernel
theorem dX11_write_205 : decode cX11_write 205 = .ok (.goto (-20), 3) := by decide +kernel
theorem dX11_write_208 : decode cX11_write 208 = .ok (.iconst 0, 1) := by decide +kernel
theorem dX11_write_209 : decode cX11_write 209 = .ok (.istore 13, 2) := by decide +kernel
theorem dX11_write_211 : decode cX11_write 211 = .ok (.iconst 0, 1) := by decide +kernel
theorem dX11_write_212 : decode cX11_write 212 = .ok (.istore 14, 2) := by decide +kernel
theorem dX11_write_214 : decode cX11_write 214 = .ok (.iload_n 3, 1) := by decide +kernel
theorem dX11_write_215 : decode cX11_write 215 = .ok (.iload_n 2, 1) := by decide +kernel
theorem dX11_write_216 : decode cX11_write 216 = .ok (.if_icmp .ge 57, 3) := by decide +kernel
theorem dX11_write_219 : decode cX11_write 219 = .ok (.aload_n 0, 1) := by decide +kernel
theorem dX11_write_220 : decode cX11_write 220 = .ok (.getfield 7, 3) := by decide +kernel
theorem dX11_write_223 : decode cX11_write 223 = .ok (.iload_n 3, 1) := by decide +kernel
theorem dX11_write_224 : decode cX11_write 224 = .ok (.baload, 1) := by decide +kernel
theorem dX11_write_225 : decode cX11_write 225 = .ok (.invokestatic 99, 3) := by decide +kernel
theorem dX11_write_228 : decode cX11_write 228 = .ok (.ifCond .eq 45, 3) := by decide +kernel
theorem dX11_write_231 : decode cX11_write 231 = .ok (.iload 14, 2) := by decide +kernel
theorem dX11_write_233 : decode cX11_write 233 = .ok (.iconst 4, 1) := by decide +kernel
theorem dX11_write_234 : decode cX11_write 234 = .ok (.if_icmp .ne 9, 3) := by decide +kernel
theorem dX11_write_237 : decode cX11_write 237 = .ok (.sipush (-2000), 3) := by decide +kernel
theorem dX11_write_240 : decode cX11_write 240 = .ok (.iload_n 3, 1) := by decide +kernel
theorem dX11_write_241 : decode cX11_write 241 = .ok (.isub, 1) := by decide +kernel
theorem dX11_write_242 : decode cX11_write 242 = .ok (.ireturn, 1) := by decide +kernel
theorem dX11_write_243 : decode cX11_write 243 = .ok (.bipush 10, 2) := by decide +kernel
theorem dX11_write_245 : decode cX11_write 245 = .ok (.iload 13, 2) := by decide +kernel
theorem dX11_write_247 : decode cX11_write 247 = .ok (.imul, 1) := by decide +kernel
theorem dX11_write_248 : decode cX11_write 248 = .ok (.aload_n 0, 1) := by decide +kernel
theorem dX11_write_249 : decode cX11_write 249 = .ok (.getfield 7, 3) := by decide +kernel
theorem dX11_write_252 : decode cX11_write 252 = .ok (.iload_n 3, 1) := by decide +kernel
theorem dX11_write_253 : decode cX11_write 253 = .ok (.baload, 1) := by decide +kernel
theorem dX11_write_254 : decode cX11_write 254 = .ok (.iadd, 1) := by decide +kernel
theorem dX11_write_255 : decode cX11_write 255 = .ok (.bipush 48, 2) := by decide +kernel
theorem dX11_write_257 : decode cX11_write 257 = .ok (.isub, 1) := by decide +kernel
theorem dX11_write_258 : decode cX11_write 258 = .ok (.istore 13, 2) := by decide +kernel
theorem dX11_write_260 : decode cX11_write 260 = .ok (.iload 14, 2) := by decide +kernel
theorem dX11_write_262 : decode cX11_write 262 = .ok (.iconst 1, 1) := by decide +kernel
theorem dX11_write_263 : decode cX11_write 263 = .ok (.iadd, 1) := by decide +kernel
theorem dX11_write_264 : decode cX11_write 264 = .ok (.istore 14, 2) := by decide +kernel
theorem dX11_write_266 : decode cX11_write 266 = .ok (.iload_n 3, 1) := by decide +kernel
theorem dX11_write_267 : decode cX11_write 267 = .ok (.iconst 1, 1) := by decide +kernel
theorem dX11_write_268 : decode cX11_write 268 = .ok (.iadd, 1) := by decide +kernel
theorem dX11_write_269 : decode cX11_write 269 = .ok (.istore_n 3, 1) := by decide +kernel
theorem dX11_write_270 : decode cX11_write 270 = .ok (.goto (-56), 3) := by decide +kernel
theorem dX11_write_273 : decode cX11_write 273 = .ok (.iload_n 3, 1) := by decide +kernel
theorem dX11_write_274 : decode cX11_write 274 = .ok (.iload_n 2, 1) := by decide +kernel
theorem dX11_write_275 : decode cX11_write 275 = .ok (.if_icmp .ge 21, 3) := by decide +kernel
theorem dX11_write_278 : decode cX11_write 278 = .ok (.aload_n 0, 1) := by decide +kernel
theorem dX11_write_279 : decode cX11_write 279 = .ok (.getfield 7, 3) := by decide +kernel
theorem dX11_write_282 : decode cX11_write 282 = .ok (.iload_n 3, 1) := by decide +kernel
theorem dX11_write_283 : decode cX11_write 283 = .ok (.baload, 1) := by decide +kernel
theorem dX11_write_284 : decode cX11_write 284 = .ok (.bipush 32, 2) := by decide +kernel
theorem dX11_write_286 : decode cX11_write 286 = .ok (.if_icmp .ne 10, 3) := by decide +kernel
theorem dX11_write_289 : decode cX11_write 289 = .ok (.iload_n 3, 1) := by decide +kernel
theorem dX11_write_290 : decode cX11_write 290 = .ok (.iconst 1, 1) := by decide +kernel
theorem dX11_write_291 : decode cX11_write 291 = .ok (.iadd, 1) := by decide +kernel
theorem dX11_write_292 : decode cX11_write 292 = .ok (.istore_n 3, 1) := by decide +kernel
theorem dX11_write_293 : decode cX11_write 293 = .ok (.goto (-20), 3) := by decide +kernel
theorem dX11_write_296 : decode cX11_write 296 = .ok (.iload_n 3, 1) := by decide +kernel
theorem dX11_write_297 : decode cX11_write 297 = .ok (.iload_n 2, 1) := by decide +kernel
theorem dX11_write_298 : decode cX11_write 298 = .ok (.if_icmp .ge 18, 3) := by decide +kernel
theorem dX11_write_301 : decode cX11_write 301 = .ok (.aload_n 0, 1) := by decide +kernel
theorem dX11_write_302 : decode cX11_write 302 = .ok (.getfield 7, 3) := by decide +kernel
theorem dX11_write_305 : decode cX11_write 305 = .ok (.iload_n 3, 1) := by decide +kernel
theorem dX11_write_306 : decode cX11_write 306 = .ok (.baload, 1) := by decide +kernel
theorem dX11_write_307 : decode cX11_write 307 = .ok (.bipush 119, 2) := by decide +kernel
theorem dX11_write_309 : decode cX11_write 309 = .ok (.if_icmp .ne 7, 3) := by decide +kernel
theorem dX11_write_312 : decode cX11_write 312 = .ok (.iconst 1, 1) := by decide +kernel
theorem dX11_write_313 : decode cX11_write 313 = .ok (.goto 4, 3) := by decide +kernel
theorem dX11_write_316 : decode cX11_write 316 = .ok (.iconst 0, 1) := by decide +kernel
theorem dX11_write_317 : decode cX11_write 317 = .ok (.istore 15, 2) := by decide +kernel
theorem dX11_write_319 : decode cX11_write 319 = .ok (.iload 15, 2) := by decide +kernel
theorem dX11_write_321 : decode cX11_write 321 = .ok (.ifCond .ne 14, 3) := by decide +kernel
theorem dX11_write_324 : decode cX11_write 324 = .ok (.iload 14, 2) := by decide +kernel
theorem dX11_write_326 : decode cX11_write 326 = .ok (.ifCond .ne 9, 3) := by decide +kernel
theorem dX11_write_329 : decode cX11_write 329 = .ok (.sipush (-1000), 3) := by decide +kernel
theorem dX11_write_332 : decode cX11_write 332 = .ok (.iload_n 3, 1) := by decide +kernel
theorem dX11_write_333 : decode cX11_write 333 = .ok (.isub, 1) := by decide +kernel
theorem dX11_write_334 : decode cX11_write 334 = .ok (.ireturn, 1) := by decide +kernel
theorem dX11_write_335 : decode cX11_write 335 = .ok (.iload 15, 2) := by decide +kernel
theorem dX11_write_337 : decode cX11_write 337 = .ok (.ifCond .eq 11, 3) := by decide +kernel
theorem dX11_write_340 : decode cX11_write 340 = .ok (.iload 7, 2) := by decide +kernel
theorem dX11_write_342 : decode cX11_write 342 = .ok (.ifCond .eq 18, 3) := by decide +kernel
theorem dX11_write_345 : decode cX11_write 345 = .ok (.goto 8, 3) := by decide +kernel
theorem dX11_write_348 : decode cX11_write 348 = .ok (.iload 6, 2) := by decide +kernel
theorem dX11_write_350 : decode cX11_write 350 = .ok (.ifCond .eq 10, 3) := by decide +kernel
theorem dX11_write_353 : decode cX11_write 353 = .ok (.sipush (-3000), 3) := by decide +kernel
theorem dX11_write_356 : decode cX11_write 356 = .ok (.iload 9, 2) := by decide +kernel
theorem dX11_write_358 : decode cX11_write 358 = .ok (.isub, 1) := by decide +kernel
theorem dX11_write_359 : decode cX11_write 359 = .ok (.ireturn, 1) := by decide +kernel
theorem dX11_write_360 : decode cX11_write 360 = .ok (.iload 14, 2) := by decide +kernel
theorem dX11_write_362 : decode cX11_write 362 = .ok (.ifCond .ne 7, 3) := by decide +kernel
theorem dX11_write_365 : decode cX11_write 365 = .ok (.iconst 1, 1) := by decide +kernel
theorem dX11_write_366 : decode cX11_write 366 = .ok (.goto 5, 3) := by decide +kernel
theorem dX11_write_369 : decode cX11_write 369 = .ok (.iload 13, 2) := by decide +kernel
theorem dX11_write_371 : decode cX11_write 371 = .ok (.istore 13, 2) := by decide +kernel
theorem dX11_write_373 : decode cX11_write 373 = .ok (.iload 12, 2) := by decide +kernel
theorem dX11_write_375 : decode cX11_write 375 = .ok (.ifCond .eq 9, 3) := by decide +kernel
theorem dX11_write_378 : decode cX11_write 378 = .ok (.iload 13, 2) := by decide +kernel
theorem dX11_write_380 : decode cX11_write 380 = .ok (.ineg, 1) := by decide +kernel
theorem dX11_write_381 : decode cX11_write 381 = .ok (.goto 5, 3) := by decide +kernel
theorem dX11_write_384 : decode cX11_write 384 = .ok (.iload 13, 2) := by decide +kernel
theorem dX11_write_386 : decode cX11_write 386 = .ok (.istore 13, 2) := by decide +kernel
theorem dX11_write_388 : decode cX11_write 388 = .ok (.iload 15, 2) := by decide +kernel
theorem dX11_write_390 : decode cX11_write 390 = .ok (.ifCond .eq 37, 3) := by decide +kernel
theorem dX11_write_393 : decode cX11_write 393 = .ok (.iload 13, 2) := by decide +kernel
theorem dX11_write_395 : decode cX11_write 395 = .ok (.istore 5, 2) := by decide +kernel
theorem dX11_write_397 : decode cX11_write 397 = .ok (.iconst 1, 1) := by decide +kernel
theorem dX11_write_398 : decode cX11_write 398 = .ok (.istore 7, 2) := by decide +kernel
theorem dX11_write_400 : decode cX11_write 400 = .ok (.iload_n 3, 1) := by decide +kernel
theorem dX11_write_401 : decode cX11_write 401 = .ok (.iconst 1, 1) := by decide +kernel
theorem dX11_write_402 : decode cX11_write 402 = .ok (.iadd, 1) := by decide +kernel
theorem dX11_write_403 : decode cX11_write 403 = .ok (.istore_n 3, 1) := by decide +kernel
theorem dX11_write_404 : decode cX11_write 404 = .ok (.iload_n 3, 1) := by decide +kernel
theorem dX11_write_405 : decode cX11_write 405 = .ok (.iload_n 2, 1) := by decide +kernel
theorem dX11_write_406 : decode cX11_write 406 = .ok (.if_icmp .ge 28, 3) := by decide +kernel
theorem dX11_write_409 : decode cX11_write 409 = .ok (.aload_n 0, 1) := by decide +kernel
theorem dX11_write_410 : decode cX11_write 410 = .ok (.getfield 7, 3) := by decide +kernel
theorem dX11_write_413 : decode cX11_write 413 = .ok (.iload_n 3, 1) := by decide +kernel
theorem dX11_write_414 : decode cX11_write 414 = .ok (.baload, 1) := by decide +kernel
theorem dX11_write_415 : decode cX11_write 415 = .ok (.bipush 32, 2) := by decide +kernel
theorem dX11_write_417 : decode cX11_write 417 = .ok (.if_icmp .ne 17, 3) := by decide +kernel
theorem dX11_write_420 : decode cX11_write 420 = .ok (.iload_n 3, 1) := by decide +kernel
theorem dX11_write_421 : decode cX11_write 421 = .ok (.iconst 1, 1) := by decide +kernel
theorem dX11_write_422 : decode cX11_write 422 = .ok (.iadd, 1) := by decide +kernel
theorem dX11_write_423 : decode cX11_write 423 = .ok (.istore_n 3, 1) := by decide +kernel
theorem dX11_write_424 : decode cX11_write 424 = .ok (.goto (-20), 3) := by decide +kernel
theorem dX11_write_427 : decode cX11_write 427 = .ok (.iload 13, 2) := by decide +kernel
theorem dX11_write_429 : decode cX11_write 429 = .ok (.istore 4, 2) := by decide +kernel
theorem dX11_write_431 : decode cX11_write 431 = .ok (.iconst 1, 1) := by decide +kernel
theorem dX11_write_432 : decode cX11_write 432 = .ok (.istore 6, 2) := by decide +kernel
theorem dX11_write_434 : decode cX11_write 434 = .ok (.iload_n 3, 1) := by decide +kernel
theorem dX11_write_435 : decode cX11_write 435 = .ok (.iload_n 2, 1) := by decide +kernel
theorem dX11_write_436 : decode cX11_write 436 = .ok (.if_icmp .ge 7, 3) := by decide +kernel
theorem dX11_write_439 : decode cX11_write 439 = .ok (.iconst 1, 1) := by decide +kernel
theorem dX11_write_440 : decode cX11_write 440 = .ok (.goto 4, 3) := by decide +kernel
theorem dX11_write_443 : decode cX11_write 443 = .ok (.iconst 0, 1) := by decide +kernel
theorem dX11_write_444 : decode cX11_write 444 = .ok (.istore 8, 2) := by decide +kernel
theorem dX11_write_446 : decode cX11_write 446 = .ok (.goto (-395), 3) := by decide +kernel
theorem dX11_write_449 : decode cX11_write 449 = .ok (.aload_n 0, 1) := by decide +kernel
theorem dX11_write_450 : decode cX11_write 450 = .ok (.iload_n 1, 1) := by decide +kernel
theorem dX11_write_451 : decode cX11_write 451 = .ok (.iload 4, 2) := by decide +kernel
theorem dX11_write_453 : decode cX11_write 453 = .ok (.i2l, 1) := by decide +kernel
theorem dX11_write_454 : decode cX11_write 454 = .ok (.iload 5, 2) := by decide +kernel
theorem dX11_write_456 : decode cX11_write 456 = .ok (.i2l, 1) := by decide +kernel
theorem dX11_write_457 : decode cX11_write 457 = .ok (.invokevirtual 93, 3) := by decide +kernel
theorem dX11_write_460 : decode cX11_write 460 = .ok (.iconst 0, 1) := by decide +kernel
theorem dX11_write_461 : decode cX11_write 461 = .ok (.ireturn, 1) := by decide +kernel
theorem dX11_writes_0 : decode cX11_writes 0 = .ok (.aload_n 0, 1) := by decide +kernel
theorem dX11_writes_1 : decode cX11_writes 1 = .ok (.lload_n 1, 1) := by decide +kernel
theorem dX11_writes_2 : decode cX11_writes 2 = .ok (.lload_n 3, 1) := by decide +kernel
theorem dX11_writes_3 : decode cX11_writes 3 = .ok (.invokevirtual 148, 3) := by decide +kernel
theorem dX11_writes_6 : decode cX11_writes 6 = .ok (.aload_n 0, 1) := by decide +kernel
theorem dX11_writes_7 : decode cX11_writes 7 = .ok (.aload_n 0, 1) := by decide +kernel
theorem dX11_writes_8 : decode cX11_writes 8 = .ok (.getfield 139, 3) := by decide +kernel
theorem dX11_writes_11 : decode cX11_writes 11 = .ok (.putfield 204, 3) := by decide +kernel
theorem dX11_writes_14 : decode cX11_writes 14 = .ok (.aload_n 0, 1) := by decide +kernel
theorem dX11_writes_15 : decode cX11_writes 15 = .ok (.iconst 0, 1) := by decide +kernel
theorem dX11_writes_16 : decode cX11_writes 16 = .ok (.putfield 201, 3) := by decide +kernel
theorem dX11_writes_19 : decode cX11_writes 19 = .ok (.aload_n 0, 1) := by decide +kernel
theorem dX11_writes_20 : decode cX11_writes 20 = .ok (.getfield 105, 3) := by decide +kernel
theorem dX11_writes_23 : decode cX11_writes 23 = .ok (.lstore 5, 2) := by decide +kernel
theorem dX11_writes_25 : decode cX11_writes 25 = .ok (.aload_n 0, 1) := by decide +kernel
theorem dX11_writes_26 : decode cX11_writes 26 = .ok (.getfield 109, 3) := by decide +kernel
theorem dX11_writes_29 : decode cX11_writes 29 = .ok (.lstore 7, 2) := by decide +kernel
theorem dX11_writes_31 : decode cX11_writes 31 = .ok (.lload 5, 2) := by decide +kernel
theorem dX11_writes_33 : decode cX11_writes 33 = .ok (.lload 7, 2) := by decide +kernel
theorem dX11_writes_35 : decode cX11_writes 35 = .ok (.invokestatic 160, 3) := by decide +kernel
theorem dX11_writes_38 : decode cX11_writes 38 = .ok (.istore 9, 2) := by decide +kernel
theorem dX11_writes_40 : decode cX11_writes 40 = .ok (.iload 9, 2) := by decide +kernel
theorem dX11_writes_42 : decode cX11_writes 42 = .ok (.iconst 1, 1) := by decide +kernel
theorem dX11_writes_43 : decode cX11_writes 43 = .ok (.if_icmp .le 164, 3) := by decide +kernel
theorem dX11_writes_46 : decode cX11_writes 46 = .ok (.iload 9, 2) := by decide +kernel
theorem dX11_writes_48 : decode cX11_writes 48 = .ok (.invokestatic 156, 3) := by decide +kernel
theorem dX11_writes_51 : decode cX11_writes 51 = .ok (.istore 10, 2) := by decide +kernel
theorem dX11_writes_53 : decode cX11_writes 53 = .ok (.iload 10, 2) := by decide +kernel
theorem dX11_writes_55 : decode cX11_writes 55 = .ok (.iconst 3, 1) := by decide +kernel
theorem dX11_writes_56 : decode cX11_writes 56 = .ok (.irem, 1) := by decide +kernel
theorem dX11_writes_57 : decode cX11_writes 57 = .ok (.iconst 2, 1) := by decide +kernel
theorem dX11_writes_58 : decode cX11_writes 58 = .ok (.if_icmp .ne 39, 3) := by decide +kernel
theorem dX11_writes_61 : decode cX11_writes 61 = .ok (.aload_n 0, 1) := by decide +kernel
theorem dX11_writes_62 : decode cX11_writes 62 = .ok (.iload 10, 2) := by decide +kernel
theorem dX11_writes_64 : decode cX11_writes 64 = .ok (.iconst 0, 1) := by decide +kernel
theorem dX11_writes_65 : decode cX11_writes 65 = .ok (.invokevirtual 207, 3) := by decide +kernel
theorem dX11_writes_68 : decode cX11_writes 68 = .ok (.lload 5, 2) := by decide +kernel
theorem dX11_writes_70 : decode cX11_writes 70 = .ok (.iload 10, 2) := by decide +kernel
theorem dX11_writes_72 : decode cX11_writes 72 = .ok (.i2l, 1) := by decide +kernel
theorem dX11_writes_73 : decode cX11_writes 73 = .ok (.ldiv, 1) := by decide +kernel
theorem dX11_writes_74 : decode cX11_writes 74 = .ok (.lstore 5, 2) := by decide +kernel
theorem dX11_writes_76 : decode cX11_writes 76 = .ok (.lload 7, 2) := by decide +kernel
theorem dX11_writes_78 : decode cX11_writes 78 = .ok (.iload 10, 2) := by decide +kernel
theorem dX11_writes_80 : decode cX11_writes 80 = .ok (.i2l, 1) := by decide +kernel
theorem dX11_writes_81 : decode cX11_writes 81 = .ok (.ldiv, 1) := by decide +kernel
theorem dX11_writes_82 : decode cX11_writes 82 = .ok (.lstore 7, 2) := by decide +kernel
theorem dX11_writes_84 : decode cX11_writes 84 = .ok (.iload 9, 2) := by decide +kernel
theorem dX11_writes_86 : decode cX11_writes 86 = .ok (.iload 10, 2) := by decide +kernel
theorem dX11_writes_88 : decode cX11_writes 88 = .ok (.idiv, 1) := by decide +kernel
