theorem dX10_told_153 : decode cX10_told 153 = .ok (.invokevirtual 170, 3) := by decide +kernel
theorem dX10_told_156 : decode cX10_told 156 = .ok (.ifCond .eq 7, 3) := by decide +kernel
theorem dX10_told_159 : decode cX10_told 159 = .ok (.iconst (-1), 1) := by decide +kernel
theorem dX10_told_160 : decode cX10_told 160 = .ok (.goto 10, 3) := by decide +kernel
theorem dX10_told_163 : decode cX10_told 163 = .ok (.aload_n 0, 1) := by decide +kernel
theorem dX10_told_164 : decode cX10_told 164 = .ok (.getfield 70, 3) := by decide +kernel
theorem dX10_told_167 : decode cX10_told 167 = .ok (.invokevirtual 173, 3) := by decide +kernel
theorem dX10_told_170 : decode cX10_told 170 = .ok (.ireturn, 1) := by decide +kernel
theorem dX10_turned_0 : decode cX10_turned 0 = .ok (.aload_n 0, 1) := by decide +kernel
theorem dX10_turned_1 : decode cX10_turned 1 = .ok (.iload_n 1, 1) := by decide +kernel
theorem dX10_turned_2 : decode cX10_turned 2 = .ok (.iload_n 2, 1) := by decide +kernel
theorem dX10_turned_3 : decode cX10_turned 3 = .ok (.invokevirtual 176, 3) := by decide +kernel
theorem dX10_turned_6 : decode cX10_turned 6 = .ok (.istore_n 3, 1) := by decide +kernel
theorem dX10_turned_7 : decode cX10_turned 7 = .ok (.iload_n 3, 1) := by decide +kernel
theorem dX10_turned_8 : decode cX10_turned 8 = .ok (.ifCond .eq 5, 3) := by decide +kernel
theorem dX10_turned_11 : decode cX10_turned 11 = .ok (.iload_n 3, 1) := by decide +kernel
theorem dX10_turned_12 : decode cX10_turned 12 = .ok (.ireturn, 1) := by decide +kernel
theorem dX10_turned_13 : decode cX10_turned 13 = .ok (.aload_n 0, 1) := by decide +kernel
theorem dX10_turned_14 : decode cX10_turned 14 = .ok (.getfield 70, 3) := by decide +kernel
theorem dX10_turned_17 : decode cX10_turned 17 = .ok (.invokevirtual 159, 3) := by decide +kernel
theorem dX10_turned_20 : decode cX10_turned 20 = .ok (.ifCond .eq 17, 3) := by decide +kernel
theorem dX10_turned_23 : decode cX10_turned 23 = .ok (.aload_n 0, 1) := by decide +kernel
theorem dX10_turned_24 : decode cX10_turned 24 = .ok (.getfield 74, 3) := by decide +kernel
theorem dX10_turned_27 : decode cX10_turned 27 = .ok (.invokevirtual 159, 3) := by decide +kernel
theorem dX10_turned_30 : decode cX10_turned 30 = .ok (.ifCond .eq 7, 3) := by decide +kernel
theorem dX10_turned_33 : decode cX10_turned 33 = .ok (.iconst 1, 1) := by decide +kernel
theorem dX10_turned_34 : decode cX10_turned 34 = .ok (.goto 4, 3) := by decide +kernel
theorem dX10_turned_37 : decode cX10_turned 37 = .ok (.iconst 0, 1) := by decide +kernel
theorem dX10_turned_38 : decode cX10_turned 38 = .ok (.istore 4, 2) := by decide +kernel
theorem dX10_turned_40 : decode cX10_turned 40 = .ok (.iload 4, 2) := by decide +kernel
theorem dX10_turned_42 : decode cX10_turned 42 = .ok (.ifCond .eq 41, 3) := by decide +kernel
theorem dX10_turned_45 : decode cX10_turned 45 = .ok (.aload_n 0, 1) := by decide +kernel
theorem dX10_turned_46 : decode cX10_turned 46 = .ok (.getfield 70, 3) := by decide +kernel
theorem dX10_turned_49 : decode cX10_turned 49 = .ok (.invokevirtual 382, 3) := by decide +kernel
theorem dX10_turned_52 : decode cX10_turned 52 = .ok (.ifCond .ne 31, 3) := by decide +kernel
theorem dX10_turned_55 : decode cX10_turned 55 = .ok (.aload_n 0, 1) := by decide +kernel
theorem dX10_turned_56 : decode cX10_turned 56 = .ok (.getfield 74, 3) := by decide +kernel
theorem dX10_turned_59 : decode cX10_turned 59 = .ok (.invokevirtual 382, 3) := by decide +kernel
theorem dX10_turned_62 : decode cX10_turned 62 = .ok (.ifCond .ne 21, 3) := by decide +kernel
theorem dX10_turned_65 : decode cX10_turned 65 = .ok (.aload_n 0, 1) := by decide +kernel
theorem dX10_turned_66 : decode cX10_turned 66 = .ok (.getfield 28, 3) := by decide +kernel
theorem dX10_turned_69 : decode cX10_turned 69 = .ok (.aload_n 0, 1) := by decide +kernel
theorem dX10_turned_70 : decode cX10_turned 70 = .ok (.getfield 70, 3) := by decide +kernel
theorem dX10_turned_73 : decode cX10_turned 73 = .ok (.aload_n 0, 1) := by decide +kernel
theorem dX10_turned_74 : decode cX10_turned 74 = .ok (.getfield 74, 3) := by decide +kernel
theorem dX10_turned_77 : decode cX10_turned 77 = .ok (.invokevirtual 221, 3) := by decide +kernel
theorem dX10_turned_80 : decode cX10_turned 80 = .ok (.ifCond .ne 6, 3) := by decide +kernel
theorem dX10_turned_83 : decode cX10_turned 83 = .ok (.bipush (-3), 2) := by decide +kernel
theorem dX10_turned_85 : decode cX10_turned 85 = .ok (.ireturn, 1) := by decide +kernel
theorem dX10_turned_86 : decode cX10_turned 86 = .ok (.iconst 3, 1) := by decide +kernel
theorem dX10_turned_87 : decode cX10_turned 87 = .ok (.aload_n 0, 1) := by decide +kernel
theorem dX10_turned_88 : decode cX10_turned 88 = .ok (.aload_n 0, 1) := by decide +kernel
theorem dX10_turned_89 : decode cX10_turned 89 = .ok (.getfield 70, 3) := by decide +kernel
theorem dX10_turned_92 : decode cX10_turned 92 = .ok (.aload_n 0, 1) := by decide +kernel
theorem dX10_turned_93 : decode cX10_turned 93 = .ok (.getfield 74, 3) := by decide +kernel
theorem dX10_turned_96 : decode cX10_turned 96 = .ok (.invokevirtual 379, 3) := by decide +kernel
theorem dX10_turned_99 : decode cX10_turned 99 = .ok (.imul, 1) := by decide +kernel
theorem dX10_turned_100 : decode cX10_turned 100 = .ok (.aload_n 0, 1) := by decide +kernel
theorem dX10_turned_101 : decode cX10_turned 101 = .ok (.aload_n 0, 1) := by decide +kernel
theorem dX10_turned_102 : decode cX10_turned 102 = .ok (.getfield 74, 3) := by decide +kernel
theorem dX10_turned_105 : decode cX10_turned 105 = .ok (.aload_n 0, 1) := by decide +kernel
theorem dX10_turned_106 : decode cX10_turned 106 = .ok (.getfield 70, 3) := by decide +kernel
theorem dX10_turned_109 : decode cX10_turned 109 = .ok (.invokevirtual 379, 3) := by decide +kernel
theorem dX10_turned_112 : decode cX10_turned 112 = .ok (.iadd, 1) := by decide +kernel
theorem dX10_turned_113 : decode cX10_turned 113 = .ok (.ireturn, 1) := by decide +kernel
theorem dX10_undo_0 : decode cX10_undo 0 = .ok (.aload_n 0, 1) := by decide +kernel
theorem dX10_undo_1 : decode cX10_undo 1 = .ok (.getfield 12, 3) := by decide +kernel
theorem dX10_undo_4 : decode cX10_undo 4 = .ok (.invokevirtual 463, 3) := by decide +kernel
theorem dX10_undo_7 : decode cX10_undo 7 = .ok (.ifCond .eq 13, 3) := by decide +kernel
theorem dX10_undo_10 : decode cX10_undo 10 = .ok (.aload_n 0, 1) := by decide +kernel
theorem dX10_undo_11 : decode cX10_undo 11 = .ok (.getfield 12, 3) := by decide +kernel
theorem dX10_undo_14 : decode cX10_undo 14 = .ok (.getfield 457, 3) := by decide +kernel
theorem dX10_undo_17 : decode cX10_undo 17 = .ok (.goto 4, 3) := by decide +kernel
theorem dX10_undo_20 : decode cX10_undo 20 = .ok (.iconst (-1), 1) := by decide +kernel
theorem dX10_undo_21 : decode cX10_undo 21 = .ok (.ireturn, 1) := by decide +kernel
theorem dX10_work_0 : decode cX10_work 0 = .ok (.iload_n 3, 1) := by decide +kernel
theorem dX10_work_1 : decode cX10_work 1 = .ok (.invokestatic 105, 3) := by decide +kernel
theorem dX10_work_4 : decode cX10_work 4 = .ok (.ifCond .eq 14, 3) := by decide +kernel
theorem dX10_work_7 : decode cX10_work 7 = .ok (.iload 4, 2) := by decide +kernel
theorem dX10_work_9 : decode cX10_work 9 = .ok (.ifCond .lt 9, 3) := by decide +kernel
theorem dX10_work_12 : decode cX10_work 12 = .ok (.iload 4, 2) := by decide +kernel
theorem dX10_work_14 : decode cX10_work 14 = .ok (.iconst 5, 1) := by decide +kernel
theorem dX10_work_15 : decode cX10_work 15 = .ok (.if_icmp .le 5, 3) := by decide +kernel
theorem dX10_work_18 : decode cX10_work 18 = .ok (.iconst (-1), 1) := by decide +kernel
theorem dX10_work_19 : decode cX10_work 19 = .ok (.ireturn, 1) := by decide +kernel
theorem dX10_work_20 : decode cX10_work 20 = .ok (.aload_n 0, 1) := by decide +kernel
theorem dX10_work_21 : decode cX10_work 21 = .ok (.iload_n 1, 1) := by decide +kernel
theorem dX10_work_22 : decode cX10_work 22 = .ok (.iload_n 2, 1) := by decide +kernel
theorem dX10_work_23 : decode cX10_work 23 = .ok (.invokevirtual 176, 3) := by decide +kernel
theorem dX10_work_26 : decode cX10_work 26 = .ok (.istore 5, 2) := by decide +kernel
theorem dX10_work_28 : decode cX10_work 28 = .ok (.iload 5, 2) := by decide +kernel
theorem dX10_work_30 : decode cX10_work 30 = .ok (.ifCond .eq 6, 3) := by decide +kernel
theorem dX10_work_33 : decode cX10_work 33 = .ok (.iload 5, 2) := by decide +kernel
theorem dX10_work_35 : decode cX10_work 35 = .ok (.ireturn, 1) := by decide +kernel
theorem dX10_work_36 : decode cX10_work 36 = .ok (.iload 4, 2) := by decide +kernel
theorem dX10_work_38 : decode cX10_work 38 = .ok (.iconst 3, 1) := by decide +kernel
theorem dX10_work_39 : decode cX10_work 39 = .ok (.if_icmp .eq 9, 3) := by decide +kernel
theorem dX10_work_42 : decode cX10_work 42 = .ok (.iload 4, 2) := by decide +kernel
theorem dX10_work_44 : decode cX10_work 44 = .ok (.iconst 4, 1) := by decide +kernel
theorem dX10_work_45 : decode cX10_work 45 = .ok (.if_icmp .ne 17, 3) := by decide +kernel
theorem dX10_work_48 : decode cX10_work 48 = .ok (.aload_n 0, 1) := by decide +kernel
theorem dX10_work_49 : decode cX10_work 49 = .ok (.getfield 74, 3) := by decide +kernel
theorem dX10_work_52 : decode cX10_work 52 = .ok (.invokevirtual 170, 3) := by decide +kernel
theorem dX10_work_55 : decode cX10_work 55 = .ok (.ifCond .eq 7, 3) := by decide +kernel
theorem dX10_work_58 : decode cX10_work 58 = .ok (.iconst 1, 1) := by decide +kernel
theorem dX10_work_59 : decode cX10_work 59 = .ok (.goto 4, 3) := by decide +kernel
theorem dX10_work_62 : decode cX10_work 62 = .ok (.iconst 0, 1) := by decide +kernel
theorem dX10_work_63 : decode cX10_work 63 = .ok (.istore 6, 2) := by decide +kernel
theorem dX10_work_65 : decode cX10_work 65 = .ok (.iload 4, 2) := by decide +kernel
theorem dX10_work_67 : decode cX10_work 67 = .ok (.iconst 5, 1) := by decide +kernel
theorem dX10_work_68 : decode cX10_work 68 = .ok (.if_icmp .ne 27, 3) := by decide +kernel
theorem dX10_work_71 : decode cX10_work 71 = .ok (.aload_n 0, 1) := by decide +kernel
theorem dX10_work_72 : decode cX10_work 72 = .ok (.getfield 70, 3) := by decide +kernel
theorem dX10_work_75 : decode cX10_work 75 = .ok (.invokevirtual 170, 3) := by decide +kernel
theorem dX10_work_78 : decode cX10_work 78 = .ok (.ifCond .eq 17, 3) := by decide +kernel
theorem dX10_work_81 : decode cX10_work 81 = .ok (.aload_n 0, 1) := by decide +kernel
theorem dX10_work_82 : decode cX10_work 82 = .ok (.getfield 74, 3) := by decide +kernel
theorem dX10_work_85 : decode cX10_work 85 = .ok (.invokevirtual 170, 3) := by decide +kernel
theorem dX10_work_88 : decode cX10_work 88 = .ok (.ifCond .eq 7, 3) := by decide +kernel
theorem dX10_work_91 : decode cX10_work 91 = .ok (.iconst 1, 1) := by decide +kernel
theorem dX10_work_92 : decode cX10_work 92 = .ok (.goto 4, 3) := by decide +kernel
theorem dX10_work_95 : decode cX10_work 95 = .ok (.iconst 0, 1) := by decide +kernel
theorem dX10_work_96 : decode cX10_work 96 = .ok (.istore 7, 2) := by decide +kernel
theorem dX10_work_98 : decode cX10_work 98 = .ok (.iload 6, 2) := by decide +kernel
theorem dX10_work_100 : decode cX10_work 100 = .ok (.ifCond .ne 8, 3) := by decide +kernel
theorem dX10_work_103 : decode cX10_work 103 = .ok (.iload 7, 2) := by decide +kernel
theorem dX10_work_105 : decode cX10_work 105 = .ok (.ifCond .eq 6, 3) := by decide +kernel
theorem dX10_work_108 : decode cX10_work 108 = .ok (.bipush (-3), 2) := by decide +kernel
theorem dX10_work_110 : decode cX10_work 110 = .ok (.ireturn, 1) := by decide +kernel
theorem dX10_work_111 : decode cX10_work 111 = .ok (.aload_n 0, 1) := by decide +kernel
theorem dX10_work_112 : decode cX10_work 112 = .ok (.iload 4, 2) := by decide +kernel
theorem dX10_work_114 : decode cX10_work 114 = .ok (.invokevirtual 180, 3) := by decide +kernel
theorem dX10_work_117 : decode cX10_work 117 = .ok (.aload_n 0, 1) := by decide +kernel
theorem dX10_work_118 : decode cX10_work 118 = .ok (.iload_n 3, 1) := by decide +kernel
theorem dX10_work_119 : decode cX10_work 119 = .ok (.invokevirtual 183, 3) := by decide +kernel
theorem dX10_work_122 : decode cX10_work 122 = .ok (.ireturn, 1) := by decide +kernel
theorem dX10_write_0 : decode cX10_write 0 = .ok (.iload_n 1, 1) := by decide +kernel
theorem dX10_write_1 : decode cX10_write 1 = .ok (.invokestatic 105, 3) := by decide +kernel
theorem dX10_write_4 : decode cX10_write 4 = .ok (.ifCond .eq 25, 3) := by decide +kernel
theorem dX10_write_7 : decode cX10_write 7 = .ok (.iload_n 2, 1) := by decide +kernel
theorem dX10_write_8 : decode cX10_write 8 = .ok (.iconst 1, 1) := by decide +kernel
theorem dX10_write_9 : decode cX10_write 9 = .ok (.if_icmp .lt 20, 3) := by decide +kernel
theorem dX10_write_12 : decode cX10_write 12 = .ok (.iload_n 2, 1) := by decide +kernel
theorem dX10_write_13 : decode cX10_write 13 = .ok (.bipush 40, 2) := by decide +kernel
theorem dX10_write_15 : decode cX10_write 15 = .ok (.if_icmp .gt 14, 3) := by decide +kernel
theorem dX10_write_18 : decode cX10_write 18 = .ok (.iload_n 2, 1) := by decide +kernel
theorem dX10_write_19 : decode cX10_write 19 = .ok (.aload_n 0, 1) := by decide +kernel
theorem dX10_write_20 : decode cX10_write 20 = .ok (.getfield 21, 3) := by decide +kernel
theorem dX10_write_23 : decode cX10_write 23 = .ok (.getfield 101, 3) := by decide +kernel
theorem dX10_write_26 : decode cX10_write 26 = .ok (.if_icmp .le 5, 3) := by decide +kernel
theorem dX10_write_29 : decode cX10_write 29 = .ok (.iconst (-1), 1) := by decide +kernel
theorem dX10_write_30 : decode cX10_write 30 = .ok (.ireturn, 1) := by decide +kernel
theorem dX10_write_31 : decode cX10_write 31 = .ok (.aload_n 0, 1) := by decide +kernel
theorem dX10_write_32 : decode cX10_write 32 = .ok (.getfield 21, 3) := by decide +kernel
theorem dX10_write_35 : decode cX10_write 35 = .ok (.iload_n 2, 1) := by decide +kernel
theorem dX10_write_36 : decode cX10_write 36 = .ok (.invokevirtual 108, 3) := by decide +kernel
theorem dX10_write_39 : decode cX10_write 39 = .ok (.istore_n 3, 1) := by decide +kernel
theorem dX10_write_40 : decode cX10_write 40 = .ok (.aload_n 0, 1) := by decide +kernel
theorem dX10_write_41 : decode cX10_write 41 = .ok (.getfield 21, 3) := by decide +kernel
theorem dX10_write_44 : decode cX10_write 44 = .ok (.iconst 0, 1) := by decide +kernel
theorem dX10_write_45 : decode cX10_write 45 = .ok (.putfield 101, 3) := by decide +kernel
theorem dX10_write_48 : decode cX10_write 48 = .ok (.iload_n 3, 1) := by decide +kernel
theorem dX10_write_49 : decode cX10_write 49 = .ok (.ifCond .ne 25, 3) := by decide +kernel
theorem dX10_write_52 : decode cX10_write 52 = .ok (.aload_n 0, 1) := by decide +kernel
theorem dX10_write_53 : decode cX10_write 53 = .ok (.getfield 12, 3) := by decide +kernel
theorem dX10_write_56 : decode cX10_write 56 = .ok (.iload_n 1, 1) := by decide +kernel
theorem dX10_write_57 : decode cX10_write 57 = .ok (.aload_n 0, 1) := by decide +kernel
theorem dX10_write_58 : decode cX10_write 58 = .ok (.getfield 21, 3) := by decide +kernel
theorem dX10_write_61 : decode cX10_write 61 = .ok (.getfield 112, 3) := by decide +kernel
theorem dX10_write_64 : decode cX10_write 64 = .ok (.aload_n 0, 1) := by decide +kernel
theorem dX10_write_65 : decode cX10_write 65 = .ok (.getfield 21, 3) := by decide +kernel
theorem dX10_write_68 : decode cX10_write 68 = .ok (.getfield 115, 3) := by decide +kernel
theorem dX10_write_71 : decode cX10_write 71 = .ok (.invokevirtual 118, 3) := by decide +kernel
theorem dX10_write_74 : decode cX10_write 74 = .ok (.iload_n 3, 1) := by decide +kernel
theorem dX10_write_75 : decode cX10_write 75 = .ok (.ireturn, 1) := by decide +kernel
theorem dX10_written_0 : decode cX10_written 0 = .ok (.aload_n 0, 1) := by decide +kernel
theorem dX10_written_1 : decode cX10_written 1 = .ok (.getfield 12, 3) := by decide +kernel
theorem dX10_written_4 : decode cX10_written 4 = .ok (.iload_n 1, 1) := by decide +kernel
theorem dX10_written_5 : decode cX10_written 5 = .ok (.invokevirtual 130, 3) := by decide +kernel
theorem dX10_written_8 : decode cX10_written 8 = .ok (.ifCond .eq 17, 3) := by decide +kernel
theorem dX10_written_11 : decode cX10_written 11 = .ok (.iload_n 2, 1) := by decide +kernel
theorem dX10_written_12 : decode cX10_written 12 = .ok (.iconst (-1), 1) := by decide +kernel
theorem dX10_written_13 : decode cX10_written 13 = .ok (.if_icmp .lt 12, 3) := by decide +kernel
theorem dX10_written_16 : decode cX10_written 16 = .ok (.iload_n 3, 1) := by decide +kernel
theorem dX10_written_17 : decode cX10_written 17 = .ok (.ifCond .lt 8, 3) := by decide +kernel
theorem dX10_written_20 : decode cX10_written 20 = .ok (.iload_n 3, 1) := by decide +kernel
theorem dX10_written_21 : decode cX10_written 21 = .ok (.iconst 2, 1) := by decide +kernel
theorem dX10_written_22 : decode cX10_written 22 = .ok (.if_icmp .le 6, 3) := by decide +kernel
theorem dX10_written_25 : decode cX10_written 25 = .ok (.ldc 140, 2) := by decide +kernel
theorem dX10_written_27 : decode cX10_written 27 = .ok (.ireturn, 1) := by decide +kernel
theorem dX10_written_28 : decode cX10_written 28 = .ok (.aload_n 0, 1) := by decide +kernel
theorem dX10_written_29 : decode cX10_written 29 = .ok (.getfield 12, 3) := by decide +kernel
theorem dX10_written_32 : decode cX10_written 32 = .ok (.iload_n 1, 1) := by decide +kernel
theorem dX10_written_33 : decode cX10_written 33 = .ok (.aload_n 0, 1) := by decide +kernel
theorem dX10_written_34 : decode cX10_written 34 = .ok (.getfield 70, 3) := by decide +kernel
theorem dX10_written_37 : decode cX10_written 37 = .ok (.invokevirtual 141, 3) := by decide +kernel
theorem dX10_written_40 : decode cX10_written 40 = .ok (.aload_n 0, 1) := by decide +kernel
theorem dX10_written_41 : decode cX10_written 41 = .ok (.getfield 70, 3) := by decide +kernel
theorem dX10_written_44 : decode cX10_written 44 = .ok (.invokevirtual 170, 3) := by decide +kernel
theorem dX10_written_47 : decode cX10_written 47 = .ok (.ifCond .eq 6, 3) := by decide +kernel
theorem dX10_written_50 : decode cX10_written 50 = .ok (.ldc 140, 2) := by decide +kernel
theorem dX10_written_52 : decode cX10_written 52 = .ok (.ireturn, 1) := by decide +kernel
theorem dX10_written_53 : decode cX10_written 53 = .ok (.aload_n 0, 1) := by decide +kernel
theorem dX10_written_54 : decode cX10_written 54 = .ok (.getfield 42, 3) := by decide +kernel
theorem dX10_written_57 : decode cX10_written 57 = .ok (.aload_n 0, 1) := by decide +kernel
theorem dX10_written_58 : decode cX10_written 58 = .ok (.getfield 70, 3) := by decide +kernel
theorem dX10_written_61 : decode cX10_written 61 = .ok (.invokevirtual 228, 3) := by decide +kernel
theorem dX10_written_64 : decode cX10_written 64 = .ok (.iload_n 2, 1) := by decide +kernel
theorem dX10_written_65 : decode cX10_written 65 = .ok (.iconst (-1), 1) := by decide +kernel
theorem dX10_written_66 : decode cX10_written 66 = .ok (.if_icmp .ne 54, 3) := by decide +kernel
theorem dX10_written_69 : decode cX10_written 69 = .ok (.iload_n 3, 1) := by decide +kernel
theorem dX10_written_70 : decode cX10_written 70 = .ok (.lookupswitch 42 #[(0, 26), (1, 34)], 26) := by decide +kernel
theorem dX10_written_96 : decode cX10_written 96 = .ok (.aload_n 0, 1) := by decide +kernel
theorem dX10_written_97 : decode cX10_written 97 = .ok (.getfield 42, 3) := by decide +kernel
theorem dX10_written_100 : decode cX10_written 100 = .ok (.getfield 231, 3) := by decide +kernel
theorem dX10_written_103 : decode cX10_written 103 = .ok (.ireturn, 1) := by decide +kernel
theorem dX10_written_104 : decode cX10_written 104 = .ok (.aload_n 0, 1) := by decide +kernel
theorem dX10_written_105 : decode cX10_written 105 = .ok (.getfield 42, 3) := by decide +kernel
theorem dX10_written_108 : decode cX10_written 108 = .ok (.getfield 234, 3) := by decide +kernel
theorem dX10_written_111 : decode cX10_written 111 = .ok (.ireturn, 1) := by decide +kernel
theorem dX10_written_112 : decode cX10_written 112 = .ok (.aload_n 0, 1) := by decide +kernel
theorem dX10_written_113 : decode cX10_written 113 = .ok (.getfield 42, 3) := by decide +kernel
theorem dX10_written_116 : decode cX10_written 116 = .ok (.getfield 237, 3) := by decide +kernel
theorem dX10_written_119 : decode cX10_written 119 = .ok (.ireturn, 1) := by decide +kernel
theorem dX10_written_120 : decode cX10_written 120 = .ok (.iload_n 2, 1) := by decide +kernel
theorem dX10_written_121 : decode cX10_written 121 = .ok (.aload_n 0, 1) := by decide +kernel
theorem dX10_written_122 : decode cX10_written 122 = .ok (.getfield 42, 3) := by decide +kernel
theorem dX10_written_125 : decode cX10_written 125 = .ok (.getfield 231, 3) := by decide +kernel
theorem dX10_written_128 : decode cX10_written 128 = .ok (.if_icmp .lt 6, 3) := by decide +kernel
theorem dX10_written_131 : decode cX10_written 131 = .ok (.ldc 140, 2) := by decide +kernel
theorem dX10_written_133 : decode cX10_written 133 = .ok (.ireturn, 1) := by decide +kernel
theorem dX10_written_134 : decode cX10_written 134 = .ok (.aload_n 0, 1) := by decide +kernel
theorem dX10_written_135 : decode cX10_written 135 = .ok (.getfield 42, 3) := by decide +kernel
theorem dX10_written_138 : decode cX10_written 138 = .ok (.iload_n 2, 1) := by decide +kernel
theorem dX10_written_139 : decode cX10_written 139 = .ok (.aload_n 0, 1) := by decide +kernel
theorem dX10_written_140 : decode cX10_written 140 = .ok (.getfield 83, 3) := by decide +kernel
theorem dX10_written_143 : decode cX10_written 143 = .ok (.invokevirtual 240, 3) := by decide +kernel
theorem dX10_written_146 : decode cX10_written 146 = .ok (.aload_n 0, 1) := by decide +kernel
theorem dX10_written_147 : decode cX10_written 147 = .ok (.getfield 83, 3) := by decide +kernel
theorem dX10_written_150 : decode cX10_written 150 = .ok (.iload_n 3, 1) := by decide +kernel
theorem dX10_written_151 : decode cX10_written 151 = .ok (.invokestatic 241, 3) := by decide +kernel
theorem dX10_written_154 : decode cX10_written 154 = .ok (.ireturn, 1) := by decide +kernel
theorem dX11_are_0 : decode cX11_are 0 = .ok (.iload_n 1, 1) := by decide +kernel
theorem dX11_are_1 : decode cX11_are 1 = .ok (.invokestatic 85, 3) := by decide +kernel
theorem dX11_are_4 : decode cX11_are 4 = .ok (.ifCond .eq 22, 3) := by decide +kernel
theorem dX11_are_7 : decode cX11_are 7 = .ok (.iload_n 2, 1) := by decide +kernel
theorem dX11_are_8 : decode cX11_are 8 = .ok (.invokestatic 85, 3) := by decide +kernel
theorem dX11_are_11 : decode cX11_are 11 = .ok (.ifCond .eq 15, 3) := by decide +kernel
theorem dX11_are_14 : decode cX11_are 14 = .ok (.iload_n 3, 1) := by decide +kernel
theorem dX11_are_15 : decode cX11_are 15 = .ok (.i2l, 1) := by decide +kernel
theorem dX11_are_16 : decode cX11_are 16 = .ok (.lconst 0, 1) := by decide +kernel
theorem dX11_are_17 : decode cX11_are 17 = .ok (.ldc2_w 119, 3) := by decide +kernel
theorem dX11_are_20 : decode cX11_are 20 = .ok (.invokestatic 77, 3) := by decide +kernel
theorem dX11_are_23 : decode cX11_are 23 = .ok (.ifCond .ne 5, 3) := by decide +kernel
theorem dX11_are_26 : decode cX11_are 26 = .ok (.iconst (-1), 1) := by decide +kernel
theorem dX11_are_27 : decode cX11_are 27 = .ok (.ireturn, 1) := by decide +kernel
theorem dX11_are_28 : decode cX11_are 28 = .ok (.aload_n 0, 1) := by decide +kernel
theorem dX11_are_29 : decode cX11_are 29 = .ok (.getfield 13, 3) := by decide +kernel
theorem dX11_are_32 : decode cX11_are 32 = .ok (.iload_n 1, 1) := by decide +kernel
theorem dX11_are_33 : decode cX11_are 33 = .ok (.baload, 1) := by decide +kernel
theorem dX11_are_34 : decode cX11_are 34 = .ok (.ifCond .eq 12, 3) := by decide +kernel
theorem dX11_are_37 : decode cX11_are 37 = .ok (.aload_n 0, 1) := by decide +kernel
theorem dX11_are_38 : decode cX11_are 38 = .ok (.getfield 13, 3) := by decide +kernel
theorem dX11_are_41 : decode cX11_are 41 = .ok (.iload_n 2, 1) := by decide +kernel
theorem dX11_are_42 : decode cX11_are 42 = .ok (.baload, 1) := by decide +kernel
theorem dX11_are_43 : decode cX11_are 43 = .ok (.ifCond .ne 6, 3) := by decide +kernel
theorem dX11_are_46 : decode cX11_are 46 = .ok (.bipush (-2), 2) := by decide +kernel
theorem dX11_are_48 : decode cX11_are 48 = .ok (.ireturn, 1) := by decide +kernel
theorem dX11_are_49 : decode cX11_are 49 = .ok (.iload_n 3, 1) := by decide +kernel
theorem dX11_are_50 : decode cX11_are 50 = .ok (.ifCond .ne 40, 3) := by decide +kernel
theorem dX11_are_53 : decode cX11_are 53 = .ok (.aload_n 0, 1) := by decide +kernel
theorem dX11_are_54 : decode cX11_are 54 = .ok (.aload_n 0, 1) := by decide +kernel
theorem dX11_are_55 : decode cX11_are 55 = .ok (.getfield 20, 3) := by decide +kernel
theorem dX11_are_58 : decode cX11_are 58 = .ok (.iload_n 1, 1) := by decide +kernel
theorem dX11_are_59 : decode cX11_are 59 = .ok (.iaload, 1) := by decide +kernel
theorem dX11_are_60 : decode cX11_are 60 = .ok (.i2l, 1) := by decide +kernel
theorem dX11_are_61 : decode cX11_are 61 = .ok (.aload_n 0, 1) := by decide +kernel
theorem dX11_are_62 : decode cX11_are 62 = .ok (.getfield 24, 3) := by decide +kernel
theorem dX11_are_65 : decode cX11_are 65 = .ok (.iload_n 1, 1) := by decide +kernel
theorem dX11_are_66 : decode cX11_are 66 = .ok (.iaload, 1) := by decide +kernel
theorem dX11_are_67 : decode cX11_are 67 = .ok (.i2l, 1) := by decide +kernel
theorem dX11_are_68 : decode cX11_are 68 = .ok (.aload_n 0, 1) := by decide +kernel
theorem dX11_are_69 : decode cX11_are 69 = .ok (.getfield 20, 3) := by decide +kernel
theorem dX11_are_72 : decode cX11_are 72 = .ok (.iload_n 2, 1) := by decide +kernel
theorem dX11_are_73 : decode cX11_are 73 = .ok (.iaload, 1) := by decide +kernel
theorem dX11_are_74 : decode cX11_are 74 = .ok (.i2l, 1) := by decide +kernel
theorem dX11_are_75 : decode cX11_are 75 = .ok (.aload_n 0, 1) := by decide +kernel
theorem dX11_are_76 : decode cX11_are 76 = .ok (.getfield 24, 3) := by decide +kernel
theorem dX11_are_79 : decode cX11_are 79 = .ok (.iload_n 2, 1) := by decide +kernel
theorem dX11_are_80 : decode cX11_are 80 = .ok (.iaload, 1) := by decide +kernel
theorem dX11_are_81 : decode cX11_are 81 = .ok (.i2l, 1) := by decide +kernel
theorem dX11_are_82 : decode cX11_are 82 = .ok (.invokevirtual 191, 3) := by decide +kernel
theorem dX11_are_85 : decode cX11_are 85 = .ok (.istore 4, 2) := by decide +kernel
theorem dX11_are_87 : decode cX11_are 87 = .ok (.goto 95, 3) := by decide +kernel
theorem dX11_are_90 : decode cX11_are 90 = .ok (.iload_n 3, 1) := by decide +kernel
theorem dX11_are_91 : decode cX11_are 91 = .ok (.iconst 1, 1) := by decide +kernel
theorem dX11_are_92 : decode cX11_are 92 = .ok (.if_icmp .ne 40, 3) := by decide +kernel
theorem dX11_are_95 : decode cX11_are 95 = .ok (.aload_n 0, 1) := by decide +kernel
theorem dX11_are_96 : decode cX11_are 96 = .ok (.aload_n 0, 1) := by decide +kernel
theorem dX11_are_97 : decode cX11_are 97 = .ok (.getfield 20, 3) := by decide +kernel
theorem dX11_are_100 : decode cX11_are 100 = .ok (.iload_n 1, 1) := by decide +kernel
theorem dX11_are_101 : decode cX11_are 101 = .ok (.iaload, 1) := by decide +kernel
theorem dX11_are_102 : decode cX11_are 102 = .ok (.i2l, 1) := by decide +kernel
theorem dX11_are_103 : decode cX11_are 103 = .ok (.aload_n 0, 1) := by decide +kernel
theorem dX11_are_104 : decode cX11_are 104 = .ok (.getfield 24, 3) := by decide +kernel
theorem dX11_are_107 : decode cX11_are 107 = .ok (.iload_n 1, 1) := by decide +kernel
theorem dX11_are_108 : decode cX11_are 108 = .ok (.iaload, 1) := by decide +kernel
theorem dX11_are_109 : decode cX11_are 109 = .ok (.i2l, 1) := by decide +kernel
theorem dX11_are_110 : decode cX11_are 110 = .ok (.aload_n 0, 1) := by decide +kernel
theorem dX11_are_111 : decode cX11_are 111 = .ok (.getfield 20, 3) := by decide +kernel
theorem dX11_are_114 : decode cX11_are 114 = .ok (.iload_n 2, 1) := by decide +kernel
theorem dX11_are_115 : decode cX11_are 115 = .ok (.iaload, 1) := by decide +kernel
theorem dX11_are_116 : decode cX11_are 116 = .ok (.i2l, 1) := by decide +kernel
theorem dX11_are_117 : decode cX11_are 117 = .ok (.aload_n 0, 1) := by decide +kernel
theorem dX11_are_118 : decode cX11_are 118 = .ok (.getfield 24, 3) := by decide +kernel
theorem dX11_are_121 : decode cX11_are 121 = .ok (.iload_n 2, 1) := by decide +kernel
theorem dX11_are_122 : decode cX11_are 122 = .ok (.iaload, 1) := by decide +kernel
theorem dX11_are_123 : decode cX11_are 123 = .ok (.i2l, 1) := by decide +kernel
theorem dX11_are_124 : decode cX11_are 124 = .ok (.invokevirtual 195, 3) := by decide +kernel
theorem dX11_are_127 : decode cX11_are 127 = .ok (.istore 4, 2) := by decide +kernel
theorem dX11_are_129 : decode cX11_are 129 = .ok (.goto 53, 3) := by decide +kernel
theorem dX11_are_132 : decode cX11_are 132 = .ok (.aload_n 0, 1) := by decide +kernel
theorem dX11_are_133 : decode cX11_are 133 = .ok (.iload_n 1, 1) := by decide +kernel
theorem dX11_are_134 : decode cX11_are 134 = .ok (.invokevirtual 178, 3) := by decide +kernel
theorem dX11_are_137 : decode cX11_are 137 = .ok (.ifCond .eq 11, 3) := by decide +kernel
theorem dX11_are_140 : decode cX11_are 140 = .ok (.aload_n 0, 1) := by decide +kernel
theorem dX11_are_141 : decode cX11_are 141 = .ok (.iload_n 2, 1) := by decide +kernel
theorem dX11_are_142 : decode cX11_are 142 = .ok (.invokevirtual 178, 3) := by decide +kernel
theorem dX11_are_145 : decode cX11_are 145 = .ok (.goto 35, 3) := by decide +kernel
theorem dX11_are_148 : decode cX11_are 148 = .ok (.aload_n 0, 1) := by decide +kernel
theorem dX11_are_149 : decode cX11_are 149 = .ok (.aload_n 0, 1) := by decide +kernel
theorem dX11_are_150 : decode cX11_are 150 = .ok (.getfield 20, 3) := by decide +kernel
theorem dX11_are_153 : decode cX11_are 153 = .ok (.iload_n 1, 1) := by decide +kernel
theorem dX11_are_154 : decode cX11_are 154 = .ok (.iaload, 1) := by decide +kernel
theorem dX11_are_155 : decode cX11_are 155 = .ok (.i2l, 1) := by decide +kernel
theorem dX11_are_156 : decode cX11_are 156 = .ok (.aload_n 0, 1) := by decide +kernel
theorem dX11_are_157 : decode cX11_are 157 = .ok (.getfield 24, 3) := by decide +kernel
theorem dX11_are_160 : decode cX11_are 160 = .ok (.iload_n 1, 1) := by decide +kernel
theorem dX11_are_161 : decode cX11_are 161 = .ok (.iaload, 1) := by decide +kernel
theorem dX11_are_162 : decode cX11_are 162 = .ok (.i2l, 1) := by decide +kernel
theorem dX11_are_163 : decode cX11_are 163 = .ok (.aload_n 0, 1) := by decide +kernel
theorem dX11_are_164 : decode cX11_are 164 = .ok (.getfield 20, 3) := by decide +kernel
theorem dX11_are_167 : decode cX11_are 167 = .ok (.iload_n 2, 1) := by decide +kernel
theorem dX11_are_168 : decode cX11_are 168 = .ok (.iaload, 1) := by decide +kernel
theorem dX11_are_169 : decode cX11_are 169 = .ok (.i2l, 1) := by decide +kernel
theorem dX11_are_170 : decode cX11_are 170 = .ok (.aload_n 0, 1) := by decide +kernel
theorem dX11_are_171 : decode cX11_are 171 = .ok (.getfield 24, 3) := by decide +kernel
theorem dX11_are_174 : decode cX11_are 174 = .ok (.iload_n 2, 1) := by decide +kernel
theorem dX11_are_175 : decode cX11_are 175 = .ok (.iaload, 1) := by decide +kernel
theorem dX11_are_176 : decode cX11_are 176 = .ok (.i2l, 1) := by decide +kernel
theorem dX11_are_177 : decode cX11_are 177 = .ok (.invokevirtual 198, 3) := by decide +kernel
theorem dX11_are_180 : decode cX11_are 180 = .ok (.istore 4, 2) := by decide +kernel
theorem dX11_are_182 : decode cX11_are 182 = .ok (.iload 4, 2) := by decide +kernel
theorem dX11_are_184 : decode cX11_are 184 = .ok (.ifCond .eq 7, 3) := by decide +kernel
theorem dX11_are_187 : decode cX11_are 187 = .ok (.iconst 1, 1) := by decide +kernel
theorem dX11_are_188 : decode cX11_are 188 = .ok (.goto 4, 3) := by decide +kernel
theorem dX11_are_191 : decode cX11_are 191 = .ok (.iconst 0, 1) := by decide +kernel
theorem dX11_are_192 : decode cX11_are 192 = .ok (.ireturn, 1) := by decide +kernel
theorem dX11_areAlike_0 : decode cX11_areAlike 0 = .ok (.iconst 0, 1) := by decide +kernel
theorem dX11_areAlike_1 : decode cX11_areAlike 1 = .ok (.istore 9, 2) := by decide +kernel
theorem dX11_areAlike_3 : decode cX11_areAlike 3 = .ok (.iconst 0, 1) := by decide +kernel
theorem dX11_areAlike_4 : decode cX11_areAlike 4 = .ok (.istore 10, 2) := by decide +kernel
theorem dX11_areAlike_6 : decode cX11_areAlike 6 = .ok (.iload 10, 2) := by decide +kernel
theorem dX11_areAlike_8 : decode cX11_areAlike 8 = .ok (.bipush 6, 2) := by decide +kernel
theorem dX11_areAlike_10 : decode cX11_areAlike 10 = .ok (.if_icmp .ge 49, 3) := by decide +kernel
theorem dX11_areAlike_13 : decode cX11_areAlike 13 = .ok (.aload_n 0, 1) := by decide +kernel
theorem dX11_areAlike_14 : decode cX11_areAlike 14 = .ok (.lload_n 1, 1) := by decide +kernel
theorem dX11_areAlike_15 : decode cX11_areAlike 15 = .ok (.lload_n 3, 1) := by decide +kernel
theorem dX11_areAlike_16 : decode cX11_areAlike 16 = .ok (.iload 10, 2) := by decide +kernel
theorem dX11_areAlike_18 : decode cX11_areAlike 18 = .ok (.invokevirtual 187, 3) := by decide +kernel
theorem dX11_areAlike_21 : decode cX11_areAlike 21 = .ok (.iload 9, 2) := by decide +kernel
theorem dX11_areAlike_23 : decode cX11_areAlike 23 = .ok (.ifCond .ne 23, 3) := by decide +kernel
theorem dX11_areAlike_26 : decode cX11_areAlike 26 = .ok (.aload_n 0, 1) := by decide +kernel
theorem dX11_areAlike_27 : decode cX11_areAlike 27 = .ok (.getfield 105, 3) := by decide +kernel
theorem dX11_areAlike_30 : decode cX11_areAlike 30 = .ok (.lload 5, 2) := by decide +kernel
theorem dX11_areAlike_32 : decode cX11_areAlike 32 = .ok (.lcmp, 1) := by decide +kernel
theorem dX11_areAlike_33 : decode cX11_areAlike 33 = .ok (.ifCond .ne 17, 3) := by decide +kernel
theorem dX11_areAlike_36 : decode cX11_areAlike 36 = .ok (.aload_n 0, 1) := by decide +kernel
theorem dX11_areAlike_37 : decode cX11_areAlike 37 = .ok (.getfield 109, 3) := by decide +kernel
theorem dX11_areAlike_40 : decode cX11_areAlike 40 = .ok (.lload 7, 2) := by decide +kernel
theorem dX11_areAlike_42 : decode cX11_areAlike 42 = .ok (.lcmp, 1) := by decide +kernel
theorem dX11_areAlike_43 : decode cX11_areAlike 43 = .ok (.ifCond .ne 7, 3) := by decide +kernel
theorem dX11_areAlike_46 : decode cX11_areAlike 46 = .ok (.iconst 1, 1) := by decide +kernel
theorem dX11_areAlike_47 : decode cX11_areAlike 47 = .ok (.goto 4, 3) := by decide +kernel
theorem dX11_areAlike_50 : decode cX11_areAlike 50 = .ok (.iconst 0, 1) := by decide +kernel
theorem dX11_areAlike_51 : decode cX11_areAlike 51 = .ok (.istore 9, 2) := by decide +kernel
theorem dX11_areAlike_53 : decode cX11_areAlike 53 = .ok (.iinc 10 1, 3) := by decide +kernel
theorem dX11_areAlike_56 : decode cX11_areAlike 56 = .ok (.goto (-50), 3) := by decide +kernel
theorem dX11_areAlike_59 : decode cX11_areAlike 59 = .ok (.iload 9, 2) := by decide +kernel
theorem dX11_areAlike_61 : decode cX11_areAlike 61 = .ok (.ireturn, 1) := by decide +kernel
theorem dX11_areDrawers_0 : decode cX11_areDrawers 0 = .ok (.iload_n 0, 1) := by decide +kernel
theorem dX11_areDrawers_1 : decode cX11_areDrawers 1 = .ok (.invokestatic 85, 3) := by decide +kernel
theorem dX11_areDrawers_4 : decode cX11_areDrawers 4 = .ok (.ifCond .eq 24, 3) := by decide +kernel
theorem dX11_areDrawers_7 : decode cX11_areDrawers 7 = .ok (.iload_n 1, 1) := by decide +kernel
theorem dX11_areDrawers_8 : decode cX11_areDrawers 8 = .ok (.invokestatic 85, 3) := by decide +kernel
theorem dX11_areDrawers_11 : decode cX11_areDrawers 11 = .ok (.ifCond .eq 17, 3) := by decide +kernel
theorem dX11_areDrawers_14 : decode cX11_areDrawers 14 = .ok (.iload_n 2, 1) := by decide +kernel
theorem dX11_areDrawers_15 : decode cX11_areDrawers 15 = .ok (.i2l, 1) := by decide +kernel
theorem dX11_areDrawers_16 : decode cX11_areDrawers 16 = .ok (.lconst 0, 1) := by decide +kernel
theorem dX11_areDrawers_17 : decode cX11_areDrawers 17 = .ok (.lconst 1, 1) := by decide +kernel
theorem dX11_areDrawers_18 : decode cX11_areDrawers 18 = .ok (.invokestatic 77, 3) := by decide +kernel
theorem dX11_areDrawers_21 : decode cX11_areDrawers 21 = .ok (.ifCond .eq 7, 3) := by decide +kernel
theorem dX11_areDrawers_24 : decode cX11_areDrawers 24 = .ok (.iconst 1, 1) := by decide +kernel
theorem dX11_areDrawers_25 : decode cX11_areDrawers 25 = .ok (.goto 4, 3) := by decide +kernel
theorem dX11_areDrawers_28 : decode cX11_areDrawers 28 = .ok (.iconst 0, 1) := by decide +kernel
theorem dX11_areDrawers_29 : decode cX11_areDrawers 29 = .ok (.ireturn, 1) := by decide +kernel
theorem dX11_arePrimeTo_0 : decode cX11_arePrimeTo 0 = .ok (.lload_n 1, 1) := by decide +kernel
theorem dX11_arePrimeTo_1 : decode cX11_arePrimeTo 1 = .ok (.lconst 0, 1) := by decide +kernel
theorem dX11_arePrimeTo_2 : decode cX11_arePrimeTo 2 = .ok (.lcmp, 1) := by decide +kernel
theorem dX11_arePrimeTo_3 : decode cX11_arePrimeTo 3 = .ok (.ifCond .ne 25, 3) := by decide +kernel
theorem dX11_arePrimeTo_6 : decode cX11_arePrimeTo 6 = .ok (.lload_n 3, 1) := by decide +kernel
theorem dX11_arePrimeTo_7 : decode cX11_arePrimeTo 7 = .ok (.lconst 0, 1) := by decide +kernel
theorem dX11_arePrimeTo_8 : decode cX11_arePrimeTo 8 = .ok (.lcmp, 1) := by decide +kernel
theorem dX11_arePrimeTo_9 : decode cX11_arePrimeTo 9 = .ok (.ifCond .ne 19, 3) := by decide +kernel
theorem dX11_arePrimeTo_12 : decode cX11_arePrimeTo 12 = .ok (.lload 5, 2) := by decide +kernel
theorem dX11_arePrimeTo_14 : decode cX11_arePrimeTo 14 = .ok (.lconst 0, 1) := by decide +kernel
theorem dX11_arePrimeTo_15 : decode cX11_arePrimeTo 15 = .ok (.lcmp, 1) := by decide +kernel
theorem dX11_arePrimeTo_16 : decode cX11_arePrimeTo 16 = .ok (.ifCond .ne 12, 3) := by decide +kernel
theorem dX11_arePrimeTo_19 : decode cX11_arePrimeTo 19 = .ok (.lload 7, 2) := by decide +kernel
theorem dX11_arePrimeTo_21 : decode cX11_arePrimeTo 21 = .ok (.lconst 0, 1) := by decide +kernel
theorem dX11_arePrimeTo_22 : decode cX11_arePrimeTo 22 = .ok (.lcmp, 1) := by decide +kernel
theorem dX11_arePrimeTo_23 : decode cX11_arePrimeTo 23 = .ok (.ifCond .ne 5, 3) := by decide +kernel
theorem dX11_arePrimeTo_26 : decode cX11_arePrimeTo 26 = .ok (.iconst 0, 1) := by decide +kernel
theorem dX11_arePrimeTo_27 : decode cX11_arePrimeTo 27 = .ok (.ireturn, 1) := by decide +kernel
theorem dX11_arePrimeTo_28 : decode cX11_arePrimeTo 28 = .ok (.aload_n 0, 1) := by decide +kernel
theorem dX11_arePrimeTo_29 : decode cX11_arePrimeTo 29 = .ok (.lload_n 1, 1) := by decide +kernel
theorem dX11_arePrimeTo_30 : decode cX11_arePrimeTo 30 = .ok (.lload_n 3, 1) := by decide +kernel
theorem dX11_arePrimeTo_31 : decode cX11_arePrimeTo 31 = .ok (.lload 5, 2) := by decide +kernel
theorem dX11_arePrimeTo_33 : decode cX11_arePrimeTo 33 = .ok (.lload 7, 2) := by decide +kernel
theorem dX11_arePrimeTo_35 : decode cX11_arePrimeTo 35 = .ok (.invokevirtual 153, 3) := by decide +kernel
theorem dX11_arePrimeTo_38 : decode cX11_arePrimeTo 38 = .ok (.aload_n 0, 1) := by decide +kernel
theorem dX11_arePrimeTo_39 : decode cX11_arePrimeTo 39 = .ok (.getfield 105, 3) := by decide +kernel
theorem dX11_arePrimeTo_42 : decode cX11_arePrimeTo 42 = .ok (.aload_n 0, 1) := by decide +kernel
theorem dX11_arePrimeTo_43 : decode cX11_arePrimeTo 43 = .ok (.getfield 109, 3) := by decide +kernel
theorem dX11_arePrimeTo_46 : decode cX11_arePrimeTo 46 = .ok (.invokestatic 112, 3) := by decide +kernel
theorem dX11_arePrimeTo_49 : decode cX11_arePrimeTo 49 = .ok (.lconst 1, 1) := by decide +kernel
theorem dX11_arePrimeTo_50 : decode cX11_arePrimeTo 50 = .ok (.lcmp, 1) := by decide +kernel
theorem dX11_arePrimeTo_51 : decode cX11_arePrimeTo 51 = .ok (.ifCond .ne 7, 3) := by decide +kernel
theorem dX11_arePrimeTo_54 : decode cX11_arePrimeTo 54 = .ok (.iconst 1, 1) := by decide +kernel
theorem dX11_arePrimeTo_55 : decode cX11_arePrimeTo 55 = .ok (.goto 4, 3) := by decide +kernel
theorem dX11_arePrimeTo_58 : decode cX11_arePrimeTo 58 = .ok (.iconst 0, 1) := by decide +kernel
theorem dX11_arePrimeTo_59 : decode cX11_arePrimeTo 59 = .ok (.ireturn, 1) := by decide +kernel
theorem dX11_both_0 : decode cX11_both 0 = .ok (.iload_n 1, 1) := by decide +kernel
theorem dX11_both_1 : decode cX11_both 1 = .ok (.iload_n 2, 1) := by decide +kernel
theorem dX11_both_2 : decode cX11_both 2 = .ok (.iload 5, 2) := by decide +kernel
theorem dX11_both_4 : decode cX11_both 4 = .ok (.invokestatic 265, 3) := by decide +kernel
theorem dX11_both_7 : decode cX11_both 7 = .ok (.ifCond .eq 14, 3) := by decide +kernel
theorem dX11_both_10 : decode cX11_both 10 = .ok (.iload_n 3, 1) := by decide +kernel
theorem dX11_both_11 : decode cX11_both 11 = .ok (.iload 4, 2) := by decide +kernel
theorem dX11_both_13 : decode cX11_both 13 = .ok (.iload 5, 2) := by decide +kernel
theorem dX11_both_15 : decode cX11_both 15 = .ok (.invokestatic 265, 3) := by decide +kernel
theorem dX11_both_18 : decode cX11_both 18 = .ok (.ifCond .ne 5, 3) := by decide +kernel
theorem dX11_both_21 : decode cX11_both 21 = .ok (.iconst (-1), 1) := by decide +kernel
theorem dX11_both_22 : decode cX11_both 22 = .ok (.ireturn, 1) := by decide +kernel
theorem dX11_both_23 : decode cX11_both 23 = .ok (.aload_n 0, 1) := by decide +kernel
theorem dX11_both_24 : decode cX11_both 24 = .ok (.iload_n 1, 1) := by decide +kernel
theorem dX11_both_25 : decode cX11_both 25 = .ok (.iload_n 2, 1) := by decide +kernel
theorem dX11_both_26 : decode cX11_both 26 = .ok (.invokevirtual 269, 3) := by decide +kernel
theorem dX11_both_29 : decode cX11_both 29 = .ok (.ifCond .eq 13, 3) := by decide +kernel
theorem dX11_both_32 : decode cX11_both 32 = .ok (.aload_n 0, 1) := by decide +kernel
theorem dX11_both_33 : decode cX11_both 33 = .ok (.iload_n 3, 1) := by decide +kernel
theorem dX11_both_34 : decode cX11_both 34 = .ok (.iload 4, 2) := by decide +kernel
theorem dX11_both_36 : decode cX11_both 36 = .ok (.invokevirtual 269, 3) := by decide +kernel
theorem dX11_both_39 : decode cX11_both 39 = .ok (.ifCond .ne 6, 3) := by decide +kernel
theorem dX11_both_42 : decode cX11_both 42 = .ok (.bipush (-2), 2) := by decide +kernel
theorem dX11_both_44 : decode cX11_both 44 = .ok (.ireturn, 1) := by decide +kernel
theorem dX11_both_45 : decode cX11_both 45 = .ok (.aload_n 0, 1) := by decide +kernel
theorem dX11_both_46 : decode cX11_both 46 = .ok (.iload_n 2, 1) := by decide +kernel
theorem dX11_both_47 : decode cX11_both 47 = .ok (.invokevirtual 178, 3) := by decide +kernel
theorem dX11_both_50 : decode cX11_both 50 = .ok (.ifCond .ne 49, 3) := by decide +kernel
theorem dX11_both_53 : decode cX11_both 53 = .ok (.aload_n 0, 1) := by decide +kernel
theorem dX11_both_54 : decode cX11_both 54 = .ok (.iload 4, 2) := by decide +kernel
theorem dX11_both_56 : decode cX11_both 56 = .ok (.invokevirtual 178, 3) := by decide +kernel
theorem dX11_both_59 : decode cX11_both 59 = .ok (.ifCond .ne 40, 3) := by decide +kernel
theorem dX11_both_62 : decode cX11_both 62 = .ok (.aload_n 0, 1) := by decide +kernel
theorem dX11_both_63 : decode cX11_both 63 = .ok (.aload_n 0, 1) := by decide +kernel
theorem dX11_both_64 : decode cX11_both 64 = .ok (.getfield 20, 3) := by decide +kernel
theorem dX11_both_67 : decode cX11_both 67 = .ok (.iload_n 2, 1) := by decide +kernel
theorem dX11_both_68 : decode cX11_both 68 = .ok (.iaload, 1) := by decide +kernel
theorem dX11_both_69 : decode cX11_both 69 = .ok (.i2l, 1) := by decide +kernel
theorem dX11_both_70 : decode cX11_both 70 = .ok (.aload_n 0, 1) := by decide +kernel
theorem dX11_both_71 : decode cX11_both 71 = .ok (.getfield 24, 3) := by decide +kernel
theorem dX11_both_74 : decode cX11_both 74 = .ok (.iload_n 2, 1) := by decide +kernel
theorem dX11_both_75 : decode cX11_both 75 = .ok (.iaload, 1) := by decide +kernel
theorem dX11_both_76 : decode cX11_both 76 = .ok (.i2l, 1) := by decide +kernel
theorem dX11_both_77 : decode cX11_both 77 = .ok (.aload_n 0, 1) := by decide +kernel
theorem dX11_both_78 : decode cX11_both 78 = .ok (.getfield 20, 3) := by decide +kernel
theorem dX11_both_81 : decode cX11_both 81 = .ok (.iload 4, 2) := by decide +kernel
theorem dX11_both_83 : decode cX11_both 83 = .ok (.iaload, 1) := by decide +kernel
theorem dX11_both_84 : decode cX11_both 84 = .ok (.i2l, 1) := by decide +kernel
theorem dX11_both_85 : decode cX11_both 85 = .ok (.aload_n 0, 1) := by decide +kernel
theorem dX11_both_86 : decode cX11_both 86 = .ok (.getfield 24, 3) := by decide +kernel
theorem dX11_both_89 : decode cX11_both 89 = .ok (.iload 4, 2) := by decide +kernel
theorem dX11_both_91 : decode cX11_both 91 = .ok (.iaload, 1) := by decide +kernel
theorem dX11_both_92 : decode cX11_both 92 = .ok (.i2l, 1) := by decide +kernel
theorem dX11_both_93 : decode cX11_both 93 = .ok (.invokevirtual 195, 3) := by decide +kernel
theorem dX11_both_96 : decode cX11_both 96 = .ok (.ifCond .ne 6, 3) := by decide +kernel
theorem dX11_both_99 : decode cX11_both 99 = .ok (.bipush (-3), 2) := by decide +kernel
theorem dX11_both_101 : decode cX11_both 101 = .ok (.ireturn, 1) := by decide +kernel
theorem dX11_both_102 : decode cX11_both 102 = .ok (.aload_n 0, 1) := by decide +kernel
theorem dX11_both_103 : decode cX11_both 103 = .ok (.aload_n 0, 1) := by decide +kernel
theorem dX11_both_104 : decode cX11_both 104 = .ok (.getfield 20, 3) := by decide +kernel
theorem dX11_both_107 : decode cX11_both 107 = .ok (.iload_n 2, 1) := by decide +kernel
theorem dX11_both_108 : decode cX11_both 108 = .ok (.iaload, 1) := by decide +kernel
theorem dX11_both_109 : decode cX11_both 109 = .ok (.i2l, 1) := by decide +kernel
theorem dX11_both_110 : decode cX11_both 110 = .ok (.aload_n 0, 1) := by decide +kernel
theorem dX11_both_111 : decode cX11_both 111 = .ok (.getfield 24, 3) := by decide +kernel
theorem dX11_both_114 : decode cX11_both 114 = .ok (.iload_n 2, 1) := by decide +kernel
theorem dX11_both_115 : decode cX11_both 115 = .ok (.iaload, 1) := by decide +kernel
theorem dX11_both_116 : decode cX11_both 116 = .ok (.i2l, 1) := by decide +kernel
theorem dX11_both_117 : decode cX11_both 117 = .ok (.aload_n 0, 1) := by decide +kernel
theorem dX11_both_118 : decode cX11_both 118 = .ok (.getfield 20, 3) := by decide +kernel
theorem dX11_both_121 : decode cX11_both 121 = .ok (.iload 4, 2) := by decide +kernel
theorem dX11_both_123 : decode cX11_both 123 = .ok (.iaload, 1) := by decide +kernel
theorem dX11_both_124 : decode cX11_both 124 = .ok (.i2l, 1) := by decide +kernel
theorem dX11_both_125 : decode cX11_both 125 = .ok (.aload_n 0, 1) := by decide +kernel
theorem dX11_both_126 : decode cX11_both 126 = .ok (.getfield 24, 3) := by decide +kernel
theorem dX11_both_129 : decode cX11_both 129 = .ok (.iload 4, 2) := by decide +kernel
theorem dX11_both_131 : decode cX11_both 131 = .ok (.iaload, 1) := by decide +kernel
theorem dX11_both_132 : decode cX11_both 132 = .ok (.i2l, 1) := by decide +kernel
theorem dX11_both_133 : decode cX11_both 133 = .ok (.invokevirtual 121, 3) := by decide +kernel
theorem dX11_both_136 : decode cX11_both 136 = .ok (.aload_n 0, 1) := by decide +kernel
theorem dX11_both_137 : decode cX11_both 137 = .ok (.getfield 105, 3) := by decide +kernel
theorem dX11_both_140 : decode cX11_both 140 = .ok (.lstore 6, 2) := by decide +kernel
theorem dX11_both_142 : decode cX11_both 142 = .ok (.aload_n 0, 1) := by decide +kernel
theorem dX11_both_143 : decode cX11_both 143 = .ok (.getfield 109, 3) := by decide +kernel
theorem dX11_both_146 : decode cX11_both 146 = .ok (.lstore 8, 2) := by decide +kernel
theorem dX11_both_148 : decode cX11_both 148 = .ok (.lload 6, 2) := by decide +kernel
theorem dX11_both_150 : decode cX11_both 150 = .ok (.lload 8, 2) := by decide +kernel
theorem dX11_both_152 : decode cX11_both 152 = .ok (.invokestatic 89, 3) := by decide +kernel
theorem dX11_both_155 : decode cX11_both 155 = .ok (.ifCond .ne 6, 3) := by decide +kernel
theorem dX11_both_158 : decode cX11_both 158 = .ok (.bipush (-4), 2) := by decide +kernel
theorem dX11_both_160 : decode cX11_both 160 = .ok (.ireturn, 1) := by decide +kernel
theorem dX11_both_161 : decode cX11_both 161 = .ok (.aload_n 0, 1) := by decide +kernel
theorem dX11_both_162 : decode cX11_both 162 = .ok (.aload_n 0, 1) := by decide +kernel
theorem dX11_both_163 : decode cX11_both 163 = .ok (.getfield 20, 3) := by decide +kernel
theorem dX11_both_166 : decode cX11_both 166 = .ok (.iload 4, 2) := by decide +kernel
theorem dX11_both_168 : decode cX11_both 168 = .ok (.iaload, 1) := by decide +kernel
theorem dX11_both_169 : decode cX11_both 169 = .ok (.i2l, 1) := by decide +kernel
theorem dX11_both_170 : decode cX11_both 170 = .ok (.aload_n 0, 1) := by decide +kernel
theorem dX11_both_171 : decode cX11_both 171 = .ok (.getfield 24, 3) := by decide +kernel
theorem dX11_both_174 : decode cX11_both 174 = .ok (.iload 4, 2) := by decide +kernel
theorem dX11_both_176 : decode cX11_both 176 = .ok (.iaload, 1) := by decide +kernel
theorem dX11_both_177 : decode cX11_both 177 = .ok (.i2l, 1) := by decide +kernel
theorem dX11_both_178 : decode cX11_both 178 = .ok (.invokevirtual 273, 3) := by decide +kernel
theorem dX11_both_181 : decode cX11_both 181 = .ok (.aload_n 0, 1) := by decide +kernel
theorem dX11_both_182 : decode cX11_both 182 = .ok (.aload_n 0, 1) := by decide +kernel
theorem dX11_both_183 : decode cX11_both 183 = .ok (.getfield 20, 3) := by decide +kernel
theorem dX11_both_186 : decode cX11_both 186 = .ok (.iload_n 2, 1) := by decide +kernel
theorem dX11_both_187 : decode cX11_both 187 = .ok (.iaload, 1) := by decide +kernel
theorem dX11_both_188 : decode cX11_both 188 = .ok (.i2l, 1) := by decide +kernel
theorem dX11_both_189 : decode cX11_both 189 = .ok (.aload_n 0, 1) := by decide +kernel
theorem dX11_both_190 : decode cX11_both 190 = .ok (.getfield 24, 3) := by decide +kernel
theorem dX11_both_193 : decode cX11_both 193 = .ok (.iload_n 2, 1) := by decide +kernel
theorem dX11_both_194 : decode cX11_both 194 = .ok (.iaload, 1) := by decide +kernel
theorem dX11_both_195 : decode cX11_both 195 = .ok (.i2l, 1) := by decide +kernel
theorem dX11_both_196 : decode cX11_both 196 = .ok (.aload_n 0, 1) := by decide +kernel
theorem dX11_both_197 : decode cX11_both 197 = .ok (.getfield 20, 3) := by decide +kernel
theorem dX11_both_200 : decode cX11_both 200 = .ok (.iload 4, 2) := by decide +kernel
theorem dX11_both_202 : decode cX11_both 202 = .ok (.iaload, 1) := by decide +kernel
theorem dX11_both_203 : decode cX11_both 203 = .ok (.i2l, 1) := by decide +kernel
theorem dX11_both_204 : decode cX11_both 204 = .ok (.aload_n 0, 1) := by decide +kernel
theorem dX11_both_205 : decode cX11_both 205 = .ok (.getfield 24, 3) := by decide +kernel
theorem dX11_both_208 : decode cX11_both 208 = .ok (.iload 4, 2) := by decide +kernel
theorem dX11_both_210 : decode cX11_both 210 = .ok (.iaload, 1) := by decide +kernel
theorem dX11_both_211 : decode cX11_both 211 = .ok (.i2l, 1) := by decide +kernel
theorem dX11_both_212 : decode cX11_both 212 = .ok (.invokevirtual 315, 3) := by decide +kernel
theorem dX11_both_215 : decode cX11_both 215 = .ok (.aload_n 0, 1) := by decide +kernel
theorem dX11_both_216 : decode cX11_both 216 = .ok (.aload_n 0, 1) := by decide +kernel
theorem dX11_both_217 : decode cX11_both 217 = .ok (.getfield 105, 3) := by decide +kernel
theorem dX11_both_220 : decode cX11_both 220 = .ok (.aload_n 0, 1) := by decide +kernel
theorem dX11_both_221 : decode cX11_both 221 = .ok (.getfield 109, 3) := by decide +kernel
theorem dX11_both_224 : decode cX11_both 224 = .ok (.invokevirtual 259, 3) := by decide +kernel
theorem dX11_both_227 : decode cX11_both 227 = .ok (.aload_n 0, 1) := by decide +kernel
theorem dX11_both_228 : decode cX11_both 228 = .ok (.aload_n 0, 1) := by decide +kernel
theorem dX11_both_229 : decode cX11_both 229 = .ok (.getfield 105, 3) := by decide +kernel
theorem dX11_both_232 : decode cX11_both 232 = .ok (.aload_n 0, 1) := by decide +kernel
theorem dX11_both_233 : decode cX11_both 233 = .ok (.getfield 109, 3) := by decide +kernel
theorem dX11_both_236 : decode cX11_both 236 = .ok (.aload_n 0, 1) := by decide +kernel
theorem dX11_both_237 : decode cX11_both 237 = .ok (.getfield 20, 3) := by decide +kernel
theorem dX11_both_240 : decode cX11_both 240 = .ok (.iload_n 3, 1) := by decide +kernel
theorem dX11_both_241 : decode cX11_both 241 = .ok (.iaload, 1) := by decide +kernel
theorem dX11_both_242 : decode cX11_both 242 = .ok (.aload_n 0, 1) := by decide +kernel
theorem dX11_both_243 : decode cX11_both 243 = .ok (.getfield 20, 3) := by decide +kernel
theorem dX11_both_246 : decode cX11_both 246 = .ok (.iload_n 1, 1) := by decide +kernel
theorem dX11_both_247 : decode cX11_both 247 = .ok (.iaload, 1) := by decide +kernel
theorem dX11_both_248 : decode cX11_both 248 = .ok (.isub, 1) := by decide +kernel
theorem dX11_both_249 : decode cX11_both 249 = .ok (.i2l, 1) := by decide +kernel
theorem dX11_both_250 : decode cX11_both 250 = .ok (.aload_n 0, 1) := by decide +kernel
theorem dX11_both_251 : decode cX11_both 251 = .ok (.getfield 24, 3) := by decide +kernel
theorem dX11_both_254 : decode cX11_both 254 = .ok (.iload_n 3, 1) := by decide +kernel
theorem dX11_both_255 : decode cX11_both 255 = .ok (.iaload, 1) := by decide +kernel
theorem dX11_both_256 : decode cX11_both 256 = .ok (.aload_n 0, 1) := by decide +kernel
theorem dX11_both_257 : decode cX11_both 257 = .ok (.getfield 24, 3) := by decide +kernel
theorem dX11_both_260 : decode cX11_both 260 = .ok (.iload_n 1, 1) := by decide +kernel
theorem dX11_both_261 : decode cX11_both 261 = .ok (.iaload, 1) := by decide +kernel
theorem dX11_both_262 : decode cX11_both 262 = .ok (.isub, 1) := by decide +kernel
theorem dX11_both_263 : decode cX11_both 263 = .ok (.i2l, 1) := by decide +kernel
theorem dX11_both_264 : decode cX11_both 264 = .ok (.invokevirtual 262, 3) := by decide +kernel
theorem dX11_both_267 : decode cX11_both 267 = .ok (.aload_n 0, 1) := by decide +kernel
theorem dX11_both_268 : decode cX11_both 268 = .ok (.aload_n 0, 1) := by decide +kernel
theorem dX11_both_269 : decode cX11_both 269 = .ok (.getfield 105, 3) := by decide +kernel
theorem dX11_both_272 : decode cX11_both 272 = .ok (.aload_n 0, 1) := by decide +kernel
theorem dX11_both_273 : decode cX11_both 273 = .ok (.getfield 109, 3) := by decide +kernel
theorem dX11_both_276 : decode cX11_both 276 = .ok (.aload_n 0, 1) := by decide +kernel
theorem dX11_both_277 : decode cX11_both 277 = .ok (.getfield 20, 3) := by decide +kernel
theorem dX11_both_280 : decode cX11_both 280 = .ok (.iload_n 2, 1) := by decide +kernel
theorem dX11_both_281 : decode cX11_both 281 = .ok (.iaload, 1) := by decide +kernel
theorem dX11_both_282 : decode cX11_both 282 = .ok (.i2l, 1) := by decide +kernel
theorem dX11_both_283 : decode cX11_both 283 = .ok (.aload_n 0, 1) := by decide +kernel
theorem dX11_both_284 : decode cX11_both 284 = .ok (.getfield 24, 3) := by decide +kernel
theorem dX11_both_287 : decode cX11_both 287 = .ok (.iload_n 2, 1) := by decide +kernel
theorem dX11_both_288 : decode cX11_both 288 = .ok (.iaload, 1) := by decide +kernel
theorem dX11_both_289 : decode cX11_both 289 = .ok (.i2l, 1) := by decide +kernel
theorem dX11_both_290 : decode cX11_both 290 = .ok (.invokevirtual 121, 3) := by decide +kernel
theorem dX11_both_293 : decode cX11_both 293 = .ok (.aload_n 0, 1) := by decide +kernel
theorem dX11_both_294 : decode cX11_both 294 = .ok (.getfield 105, 3) := by decide +kernel
theorem dX11_both_297 : decode cX11_both 297 = .ok (.aload_n 0, 1) := by decide +kernel
theorem dX11_both_298 : decode cX11_both 298 = .ok (.getfield 20, 3) := by decide +kernel
theorem dX11_both_301 : decode cX11_both 301 = .ok (.iload_n 1, 1) := by decide +kernel
theorem dX11_both_302 : decode cX11_both 302 = .ok (.iaload, 1) := by decide +kernel
theorem dX11_both_303 : decode cX11_both 303 = .ok (.i2l, 1) := by decide +kernel
theorem dX11_both_304 : decode cX11_both 304 = .ok (.ladd, 1) := by decide +kernel
theorem dX11_both_305 : decode cX11_both 305 = .ok (.lstore 10, 2) := by decide +kernel
theorem dX11_both_307 : decode cX11_both 307 = .ok (.aload_n 0, 1) := by decide +kernel
theorem dX11_both_308 : decode cX11_both 308 = .ok (.getfield 109, 3) := by decide +kernel
theorem dX11_both_311 : decode cX11_both 311 = .ok (.aload_n 0, 1) := by decide +kernel
theorem dX11_both_312 : decode cX11_both 312 = .ok (.getfield 24, 3) := by decide +kernel
theorem dX11_both_315 : decode cX11_both 315 = .ok (.iload_n 1, 1) := by decide +kernel
theorem dX11_both_316 : decode cX11_both 316 = .ok (.iaload, 1) := by decide +kernel
theorem dX11_both_317 : decode cX11_both 317 = .ok (.i2l, 1) := by decide +kernel
theorem dX11_both_318 : decode cX11_both 318 = .ok (.ladd, 1) := by decide +kernel
theorem dX11_both_319 : decode cX11_both 319 = .ok (.lstore 12, 2) := by decide +kernel
theorem dX11_both_321 : decode cX11_both 321 = .ok (.aload_n 0, 1) := by decide +kernel
theorem dX11_both_322 : decode cX11_both 322 = .ok (.lload 6, 2) := by decide +kernel
theorem dX11_both_324 : decode cX11_both 324 = .ok (.lload 8, 2) := by decide +kernel
theorem dX11_both_326 : decode cX11_both 326 = .ok (.invokevirtual 273, 3) := by decide +kernel
theorem dX11_both_329 : decode cX11_both 329 = .ok (.aload_n 0, 1) := by decide +kernel
theorem dX11_both_330 : decode cX11_both 330 = .ok (.lload 10, 2) := by decide +kernel
theorem dX11_both_332 : decode cX11_both 332 = .ok (.lload 12, 2) := by decide +kernel
theorem dX11_both_334 : decode cX11_both 334 = .ok (.invokevirtual 259, 3) := by decide +kernel
theorem dX11_both_337 : decode cX11_both 337 = .ok (.aload_n 0, 1) := by decide +kernel
theorem dX11_both_338 : decode cX11_both 338 = .ok (.iload 5, 2) := by decide +kernel
theorem dX11_both_340 : decode cX11_both 340 = .ok (.invokevirtual 276, 3) := by decide +kernel
theorem dX11_both_343 : decode cX11_both 343 = .ok (.ireturn, 1) := by decide +kernel
theorem dX11_boxes_0 : decode cX11_boxes 0 = .ok (.lload_n 3, 1) := by decide +kernel
theorem dX11_boxes_1 : decode cX11_boxes 1 = .ok (.aload_n 0, 1) := by decide +kernel
theorem dX11_boxes_2 : decode cX11_boxes 2 = .ok (.getfield 250, 3) := by decide +kernel
theorem dX11_boxes_5 : decode cX11_boxes 5 = .ok (.invokestatic 136, 3) := by decide +kernel
theorem dX11_boxes_8 : decode cX11_boxes 8 = .ok (.lstore 5, 2) := by decide +kernel
theorem dX11_boxes_10 : decode cX11_boxes 10 = .ok (.lload_n 3, 1) := by decide +kernel
theorem dX11_boxes_11 : decode cX11_boxes 11 = .ok (.aload_n 0, 1) := by decide +kernel
theorem dX11_boxes_12 : decode cX11_boxes 12 = .ok (.getfield 250, 3) := by decide +kernel
theorem dX11_boxes_15 : decode cX11_boxes 15 = .ok (.invokestatic 63, 3) := by decide +kernel
theorem dX11_boxes_18 : decode cX11_boxes 18 = .ok (.aload_n 0, 1) := by decide +kernel
theorem dX11_boxes_19 : decode cX11_boxes 19 = .ok (.getfield 253, 3) := by decide +kernel
theorem dX11_boxes_22 : decode cX11_boxes 22 = .ok (.invokestatic 136, 3) := by decide +kernel
theorem dX11_boxes_25 : decode cX11_boxes 25 = .ok (.lstore 7, 2) := by decide +kernel
theorem dX11_boxes_27 : decode cX11_boxes 27 = .ok (.aload_n 0, 1) := by decide +kernel
theorem dX11_boxes_28 : decode cX11_boxes 28 = .ok (.lload_n 1, 1) := by decide +kernel
theorem dX11_boxes_29 : decode cX11_boxes 29 = .ok (.lload 7, 2) := by decide +kernel
theorem dX11_boxes_31 : decode cX11_boxes 31 = .ok (.aload_n 0, 1) := by decide +kernel
theorem dX11_boxes_32 : decode cX11_boxes 32 = .ok (.getfield 256, 3) := by decide +kernel
theorem dX11_boxes_35 : decode cX11_boxes 35 = .ok (.lmul, 1) := by decide +kernel
theorem dX11_boxes_36 : decode cX11_boxes 36 = .ok (.lsub, 1) := by decide +kernel
theorem dX11_boxes_37 : decode cX11_boxes 37 = .ok (.aload_n 0, 1) := by decide +kernel
theorem dX11_boxes_38 : decode cX11_boxes 38 = .ok (.getfield 253, 3) := by decide +kernel
theorem dX11_boxes_41 : decode cX11_boxes 41 = .ok (.invokestatic 136, 3) := by decide +kernel
theorem dX11_boxes_44 : decode cX11_boxes 44 = .ok (.lload 5, 2) := by decide +kernel
theorem dX11_boxes_46 : decode cX11_boxes 46 = .ok (.invokevirtual 115, 3) := by decide +kernel
theorem dX11_boxes_49 : decode cX11_boxes 49 = .ok (.return_, 1) := by decide +kernel
theorem dX11_change_0 : decode cX11_change 0 = .ok (.iload_n 1, 1) := by decide +kernel
theorem dX11_change_1 : decode cX11_change 1 = .ok (.invokestatic 85, 3) := by decide +kernel
theorem dX11_change_4 : decode cX11_change 4 = .ok (.ifCond .eq 15, 3) := by decide +kernel
theorem dX11_change_7 : decode cX11_change 7 = .ok (.iload_n 2, 1) := by decide +kernel
theorem dX11_change_8 : decode cX11_change 8 = .ok (.i2l, 1) := by decide +kernel
theorem dX11_change_9 : decode cX11_change 9 = .ok (.lconst 0, 1) := by decide +kernel
theorem dX11_change_10 : decode cX11_change 10 = .ok (.ldc2_w 75, 3) := by decide +kernel
theorem dX11_change_13 : decode cX11_change 13 = .ok (.invokestatic 77, 3) := by decide +kernel
theorem dX11_change_16 : decode cX11_change 16 = .ok (.ifCond .ne 5, 3) := by decide +kernel
theorem dX11_change_19 : decode cX11_change 19 = .ok (.iconst (-1), 1) := by decide +kernel
theorem dX11_change_20 : decode cX11_change 20 = .ok (.ireturn, 1) := by decide +kernel
theorem dX11_change_21 : decode cX11_change 21 = .ok (.aload_n 0, 1) := by decide +kernel
theorem dX11_change_22 : decode cX11_change 22 = .ok (.getfield 13, 3) := by decide +kernel
theorem dX11_change_25 : decode cX11_change 25 = .ok (.iload_n 1, 1) := by decide +kernel
theorem dX11_change_26 : decode cX11_change 26 = .ok (.baload, 1) := by decide +kernel
theorem dX11_change_27 : decode cX11_change 27 = .ok (.ifCond .ne 6, 3) := by decide +kernel
theorem dX11_change_30 : decode cX11_change 30 = .ok (.bipush (-2), 2) := by decide +kernel
theorem dX11_change_32 : decode cX11_change 32 = .ok (.ireturn, 1) := by decide +kernel
theorem dX11_change_33 : decode cX11_change 33 = .ok (.aload_n 0, 1) := by decide +kernel
theorem dX11_change_34 : decode cX11_change 34 = .ok (.getfield 20, 3) := by decide +kernel
theorem dX11_change_37 : decode cX11_change 37 = .ok (.iload_n 1, 1) := by decide +kernel
theorem dX11_change_38 : decode cX11_change 38 = .ok (.iaload, 1) := by decide +kernel
theorem dX11_change_39 : decode cX11_change 39 = .ok (.istore_n 3, 1) := by decide +kernel
theorem dX11_change_40 : decode cX11_change 40 = .ok (.aload_n 0, 1) := by decide +kernel
theorem dX11_change_41 : decode cX11_change 41 = .ok (.getfield 24, 3) := by decide +kernel
theorem dX11_change_44 : decode cX11_change 44 = .ok (.iload_n 1, 1) := by decide +kernel
theorem dX11_change_45 : decode cX11_change 45 = .ok (.iaload, 1) := by decide +kernel
theorem dX11_change_46 : decode cX11_change 46 = .ok (.istore 4, 2) := by decide +kernel
theorem dX11_change_48 : decode cX11_change 48 = .ok (.iload_n 2, 1) := by decide +kernel
theorem dX11_change_49 : decode cX11_change 49 = .ok (.ifCond .ne 19, 3) := by decide +kernel
theorem dX11_change_52 : decode cX11_change 52 = .ok (.aload_n 0, 1) := by decide +kernel
theorem dX11_change_53 : decode cX11_change 53 = .ok (.iload_n 3, 1) := by decide +kernel
theorem dX11_change_54 : decode cX11_change 54 = .ok (.iload 4, 2) := by decide +kernel
theorem dX11_change_56 : decode cX11_change 56 = .ok (.isub, 1) := by decide +kernel
theorem dX11_change_57 : decode cX11_change 57 = .ok (.i2l, 1) := by decide +kernel
theorem dX11_change_58 : decode cX11_change 58 = .ok (.iload 4, 2) := by decide +kernel
theorem dX11_change_60 : decode cX11_change 60 = .ok (.ineg, 1) := by decide +kernel
theorem dX11_change_61 : decode cX11_change 61 = .ok (.i2l, 1) := by decide +kernel
theorem dX11_change_62 : decode cX11_change 62 = .ok (.invokevirtual 115, 3) := by decide +kernel
theorem dX11_change_65 : decode cX11_change 65 = .ok (.goto 32, 3) := by decide +kernel
theorem dX11_change_68 : decode cX11_change 68 = .ok (.iload_n 2, 1) := by decide +kernel
theorem dX11_change_69 : decode cX11_change 69 = .ok (.iconst 1, 1) := by decide +kernel
theorem dX11_change_70 : decode cX11_change 70 = .ok (.if_icmp .ne 15, 3) := by decide +kernel
theorem dX11_change_73 : decode cX11_change 73 = .ok (.aload_n 0, 1) := by decide +kernel
theorem dX11_change_74 : decode cX11_change 74 = .ok (.iload_n 3, 1) := by decide +kernel
theorem dX11_change_75 : decode cX11_change 75 = .ok (.i2l, 1) := by decide +kernel
theorem dX11_change_76 : decode cX11_change 76 = .ok (.iload 4, 2) := by decide +kernel
theorem dX11_change_78 : decode cX11_change 78 = .ok (.i2l, 1) := by decide +kernel
theorem dX11_change_79 : decode cX11_change 79 = .ok (.invokevirtual 181, 3) := by decide +kernel
theorem dX11_change_82 : decode cX11_change 82 = .ok (.goto 15, 3) := by decide +kernel
theorem dX11_change_85 : decode cX11_change 85 = .ok (.aload_n 0, 1) := by decide +kernel
theorem dX11_change_86 : decode cX11_change 86 = .ok (.iload_n 3, 1) := by decide +kernel
theorem dX11_change_87 : decode cX11_change 87 = .ok (.i2l, 1) := by decide +kernel
theorem dX11_change_88 : decode cX11_change 88 = .ok (.iload 4, 2) := by decide +kernel
theorem dX11_change_90 : decode cX11_change 90 = .ok (.i2l, 1) := by decide +kernel
theorem dX11_change_91 : decode cX11_change 91 = .ok (.iload_n 2, 1) := by decide +kernel
theorem dX11_change_92 : decode cX11_change 92 = .ok (.iconst 2, 1) := by decide +kernel
theorem dX11_change_93 : decode cX11_change 93 = .ok (.isub, 1) := by decide +kernel
theorem dX11_change_94 : decode cX11_change 94 = .ok (.invokevirtual 187, 3) := by decide +kernel
theorem dX11_change_97 : decode cX11_change 97 = .ok (.aload_n 0, 1) := by decide +kernel
theorem dX11_change_98 : decode cX11_change 98 = .ok (.iload_n 1, 1) := by decide +kernel
theorem dX11_change_99 : decode cX11_change 99 = .ok (.invokevirtual 184, 3) := by decide +kernel
theorem dX11_change_102 : decode cX11_change 102 = .ok (.ireturn, 1) := by decide +kernel
theorem dX11_classes_0 : decode cX11_classes 0 = .ok (.iload_n 1, 1) := by decide +kernel
theorem dX11_classes_1 : decode cX11_classes 1 = .ok (.invokestatic 85, 3) := by decide +kernel
theorem dX11_classes_4 : decode cX11_classes 4 = .ok (.ifCond .eq 15, 3) := by decide +kernel
theorem dX11_classes_7 : decode cX11_classes 7 = .ok (.iload_n 2, 1) := by decide +kernel
theorem dX11_classes_8 : decode cX11_classes 8 = .ok (.i2l, 1) := by decide +kernel
theorem dX11_classes_9 : decode cX11_classes 9 = .ok (.lconst 0, 1) := by decide +kernel
theorem dX11_classes_10 : decode cX11_classes 10 = .ok (.ldc2_w 119, 3) := by decide +kernel
theorem dX11_classes_13 : decode cX11_classes 13 = .ok (.invokestatic 77, 3) := by decide +kernel
theorem dX11_classes_16 : decode cX11_classes 16 = .ok (.ifCond .ne 5, 3) := by decide +kernel
theorem dX11_classes_19 : decode cX11_classes 19 = .ok (.iconst (-1), 1) := by decide +kernel
theorem dX11_classes_20 : decode cX11_classes 20 = .ok (.ireturn, 1) := by decide +kernel
theorem dX11_classes_21 : decode cX11_classes 21 = .ok (.aload_n 0, 1) := by decide +kernel
theorem dX11_classes_22 : decode cX11_classes 22 = .ok (.getfield 13, 3) := by decide +kernel
theorem dX11_classes_25 : decode cX11_classes 25 = .ok (.iload_n 1, 1) := by decide +kernel
theorem dX11_classes_26 : decode cX11_classes 26 = .ok (.baload, 1) := by decide +kernel
theorem dX11_classes_27 : decode cX11_classes 27 = .ok (.ifCond .ne 6, 3) := by decide +kernel
theorem dX11_classes_30 : decode cX11_classes 30 = .ok (.bipush (-2), 2) := by decide +kernel
theorem dX11_classes_32 : decode cX11_classes 32 = .ok (.ireturn, 1) := by decide +kernel
theorem dX11_classes_33 : decode cX11_classes 33 = .ok (.iload_n 2, 1) := by decide +kernel
theorem dX11_classes_34 : decode cX11_classes 34 = .ok (.ifCond .ne 34, 3) := by decide +kernel
theorem dX11_classes_37 : decode cX11_classes 37 = .ok (.aload_n 0, 1) := by decide +kernel
theorem dX11_classes_38 : decode cX11_classes 38 = .ok (.iload_n 1, 1) := by decide +kernel
theorem dX11_classes_39 : decode cX11_classes 39 = .ok (.invokevirtual 178, 3) := by decide +kernel
theorem dX11_classes_42 : decode cX11_classes 42 = .ok (.ifCond .eq 8, 3) := by decide +kernel
theorem dX11_classes_45 : decode cX11_classes 45 = .ok (.bipush (-3), 2) := by decide +kernel
theorem dX11_classes_47 : decode cX11_classes 47 = .ok (.goto 20, 3) := by decide +kernel
theorem dX11_classes_50 : decode cX11_classes 50 = .ok (.aload_n 0, 1) := by decide +kernel
theorem dX11_classes_51 : decode cX11_classes 51 = .ok (.getfield 20, 3) := by decide +kernel
theorem dX11_classes_54 : decode cX11_classes 54 = .ok (.iload_n 1, 1) := by decide +kernel
theorem dX11_classes_55 : decode cX11_classes 55 = .ok (.iaload, 1) := by decide +kernel
theorem dX11_classes_56 : decode cX11_classes 56 = .ok (.i2l, 1) := by decide +kernel
theorem dX11_classes_57 : decode cX11_classes 57 = .ok (.aload_n 0, 1) := by decide +kernel
theorem dX11_classes_58 : decode cX11_classes 58 = .ok (.getfield 24, 3) := by decide +kernel
theorem dX11_classes_61 : decode cX11_classes 61 = .ok (.iload_n 1, 1) := by decide +kernel
theorem dX11_classes_62 : decode cX11_classes 62 = .ok (.iaload, 1) := by decide +kernel
theorem dX11_classes_63 : decode cX11_classes 63 = .ok (.i2l, 1) := by decide +kernel
theorem dX11_classes_64 : decode cX11_classes 64 = .ok (.invokestatic 160, 3) := by decide +kernel
theorem dX11_classes_67 : decode cX11_classes 67 = .ok (.ireturn, 1) := by decide +kernel
theorem dX11_classes_68 : decode cX11_classes 68 = .ok (.aload_n 0, 1) := by decide +kernel
theorem dX11_classes_69 : decode cX11_classes 69 = .ok (.iload_n 1, 1) := by decide +kernel
theorem dX11_classes_70 : decode cX11_classes 70 = .ok (.sipush 2000, 3) := by decide +kernel
theorem dX11_classes_73 : decode cX11_classes 73 = .ok (.invokevirtual 331, 3) := by decide +kernel
theorem dX11_classes_76 : decode cX11_classes 76 = .ok (.ifCond .eq 6, 3) := by decide +kernel
theorem dX11_classes_79 : decode cX11_classes 79 = .ok (.bipush (-3), 2) := by decide +kernel
theorem dX11_classes_81 : decode cX11_classes 81 = .ok (.ireturn, 1) := by decide +kernel
theorem dX11_classes_82 : decode cX11_classes 82 = .ok (.aload_n 0, 1) := by decide +kernel
theorem dX11_classes_83 : decode cX11_classes 83 = .ok (.aload_n 0, 1) := by decide +kernel
theorem dX11_classes_84 : decode cX11_classes 84 = .ok (.getfield 20, 3) := by decide +kernel
theorem dX11_classes_87 : decode cX11_classes 87 = .ok (.iload_n 1, 1) := by decide +kernel
theorem dX11_classes_88 : decode cX11_classes 88 = .ok (.iaload, 1) := by decide +kernel
theorem dX11_classes_89 : decode cX11_classes 89 = .ok (.i2l, 1) := by decide +kernel
theorem dX11_classes_90 : decode cX11_classes 90 = .ok (.aload_n 0, 1) := by decide +kernel
theorem dX11_classes_91 : decode cX11_classes 91 = .ok (.getfield 24, 3) := by decide +kernel
theorem dX11_classes_94 : decode cX11_classes 94 = .ok (.iload_n 1, 1) := by decide +kernel
theorem dX11_classes_95 : decode cX11_classes 95 = .ok (.iaload, 1) := by decide +kernel
theorem dX11_classes_96 : decode cX11_classes 96 = .ok (.i2l, 1) := by decide +kernel
theorem dX11_classes_97 : decode cX11_classes 97 = .ok (.invokevirtual 334, 3) := by decide +kernel
theorem dX11_classes_100 : decode cX11_classes 100 = .ok (.aload_n 0, 1) := by decide +kernel
theorem dX11_classes_101 : decode cX11_classes 101 = .ok (.aload_n 0, 1) := by decide +kernel
theorem dX11_classes_102 : decode cX11_classes 102 = .ok (.getfield 20, 3) := by decide +kernel
theorem dX11_classes_105 : decode cX11_classes 105 = .ok (.iload_n 1, 1) := by decide +kernel
theorem dX11_classes_106 : decode cX11_classes 106 = .ok (.iaload, 1) := by decide +kernel
theorem dX11_classes_107 : decode cX11_classes 107 = .ok (.i2l, 1) := by decide +kernel
theorem dX11_classes_108 : decode cX11_classes 108 = .ok (.aload_n 0, 1) := by decide +kernel
theorem dX11_classes_109 : decode cX11_classes 109 = .ok (.getfield 24, 3) := by decide +kernel
theorem dX11_classes_112 : decode cX11_classes 112 = .ok (.iload_n 1, 1) := by decide +kernel
theorem dX11_classes_113 : decode cX11_classes 113 = .ok (.iaload, 1) := by decide +kernel
theorem dX11_classes_114 : decode cX11_classes 114 = .ok (.i2l, 1) := by decide +kernel
theorem dX11_classes_115 : decode cX11_classes 115 = .ok (.invokevirtual 337, 3) := by decide +kernel
theorem dX11_classes_118 : decode cX11_classes 118 = .ok (.iconst 0, 1) := by decide +kernel
theorem dX11_classes_119 : decode cX11_classes 119 = .ok (.istore_n 3, 1) := by decide +kernel
theorem dX11_classes_120 : decode cX11_classes 120 = .ok (.iconst 0, 1) := by decide +kernel
theorem dX11_classes_121 : decode cX11_classes 121 = .ok (.istore 4, 2) := by decide +kernel
theorem dX11_classes_123 : decode cX11_classes 123 = .ok (.iload 4, 2) := by decide +kernel
theorem dX11_classes_125 : decode cX11_classes 125 = .ok (.aload_n 0, 1) := by decide +kernel
theorem dX11_classes_126 : decode cX11_classes 126 = .ok (.invokevirtual 321, 3) := by decide +kernel
theorem dX11_classes_129 : decode cX11_classes 129 = .ok (.if_icmp .ge 42, 3) := by decide +kernel
theorem dX11_classes_132 : decode cX11_classes 132 = .ok (.iload_n 3, 1) := by decide +kernel
theorem dX11_classes_133 : decode cX11_classes 133 = .ok (.aload_n 0, 1) := by decide +kernel
theorem dX11_classes_134 : decode cX11_classes 134 = .ok (.getfield 45, 3) := by decide +kernel
theorem dX11_classes_137 : decode cX11_classes 137 = .ok (.iload 4, 2) := by decide +kernel
theorem dX11_classes_139 : decode cX11_classes 139 = .ok (.baload, 1) := by decide +kernel
theorem dX11_classes_140 : decode cX11_classes 140 = .ok (.ifCond .eq 22, 3) := by decide +kernel
theorem dX11_classes_143 : decode cX11_classes 143 = .ok (.iload_n 2, 1) := by decide +kernel
theorem dX11_classes_144 : decode cX11_classes 144 = .ok (.iconst 1, 1) := by decide +kernel
theorem dX11_classes_145 : decode cX11_classes 145 = .ok (.if_icmp .eq 13, 3) := by decide +kernel
theorem dX11_classes_148 : decode cX11_classes 148 = .ok (.aload_n 0, 1) := by decide +kernel
theorem dX11_classes_149 : decode cX11_classes 149 = .ok (.getfield 42, 3) := by decide +kernel
theorem dX11_classes_152 : decode cX11_classes 152 = .ok (.iload 4, 2) := by decide +kernel
theorem dX11_classes_154 : decode cX11_classes 154 = .ok (.iaload, 1) := by decide +kernel
theorem dX11_classes_155 : decode cX11_classes 155 = .ok (.ifCond .le 7, 3) := by decide +kernel
theorem dX11_classes_158 : decode cX11_classes 158 = .ok (.iconst 1, 1) := by decide +kernel
theorem dX11_classes_159 : decode cX11_classes 159 = .ok (.goto 4, 3) := by decide +kernel
theorem dX11_classes_162 : decode cX11_classes 162 = .ok (.iconst 0, 1) := by decide +kernel
theorem dX11_classes_163 : decode cX11_classes 163 = .ok (.iadd, 1) := by decide +kernel
theorem dX11_classes_164 : decode cX11_classes 164 = .ok (.istore_n 3, 1) := by decide +kernel
theorem dX11_classes_165 : decode cX11_classes 165 = .ok (.iinc 4 1, 3) := by decide +kernel
theorem dX11_classes_168 : decode cX11_classes 168 = .ok (.goto (-45), 3) := by decide +kernel
theorem dX11_classes_171 : decode cX11_classes 171 = .ok (.iload_n 3, 1) := by decide +kernel
theorem dX11_classes_172 : decode cX11_classes 172 = .ok (.ireturn, 1) := by decide +kernel
theorem dX11_classesNow_0 : decode cX11_classesNow 0 = .ok (.aload_n 0, 1) := by decide +kernel
theorem dX11_classesNow_1 : decode cX11_classesNow 1 = .ok (.getfield 253, 3) := by decide +kernel
theorem dX11_classesNow_4 : decode cX11_classesNow 4 = .ok (.aload_n 0, 1) := by decide +kernel
theorem dX11_classesNow_5 : decode cX11_classesNow 5 = .ok (.getfield 250, 3) := by decide +kernel
theorem dX11_classesNow_8 : decode cX11_classesNow 8 = .ok (.lmul, 1) := by decide +kernel
theorem dX11_classesNow_9 : decode cX11_classesNow 9 = .ok (.l2i, 1) := by decide +kernel
theorem dX11_classesNow_10 : decode cX11_classesNow 10 = .ok (.ireturn, 1) := by decide +kernel
theorem dX11_comes_0 : decode cX11_comes 0 = .ok (.aload_n 0, 1) := by decide +kernel
theorem dX11_comes_1 : decode cX11_comes 1 = .ok (.iload_n 1, 1) := by decide +kernel
theorem dX11_comes_2 : decode cX11_comes 2 = .ok (.i2l, 1) := by decide +kernel
theorem dX11_comes_3 : decode cX11_comes 3 = .ok (.aload_n 0, 1) := by decide +kernel
theorem dX11_comes_4 : decode cX11_comes 4 = .ok (.getfield 253, 3) := by decide +kernel
theorem dX11_comes_7 : decode cX11_comes 7 = .ok (.lrem, 1) := by decide +kernel
theorem dX11_comes_8 : decode cX11_comes 8 = .ok (.iload_n 1, 1) := by decide +kernel
theorem dX11_comes_9 : decode cX11_comes 9 = .ok (.i2l, 1) := by decide +kernel
theorem dX11_comes_10 : decode cX11_comes 10 = .ok (.aload_n 0, 1) := by decide +kernel
theorem dX11_comes_11 : decode cX11_comes 11 = .ok (.getfield 253, 3) := by decide +kernel
theorem dX11_comes_14 : decode cX11_comes 14 = .ok (.ldiv, 1) := by decide +kernel
theorem dX11_comes_15 : decode cX11_comes 15 = .ok (.invokevirtual 115, 3) := by decide +kernel
theorem dX11_comes_18 : decode cX11_comes 18 = .ok (.return_, 1) := by decide +kernel
theorem dX11_commons_0 : decode cX11_commons 0 = .ok (.lload_n 1, 1) := by decide +kernel
theorem dX11_commons_1 : decode cX11_commons 1 = .ok (.lstore 9, 2) := by decide +kernel
theorem dX11_commons_3 : decode cX11_commons 3 = .ok (.lload_n 3, 1) := by decide +kernel
theorem dX11_commons_4 : decode cX11_commons 4 = .ok (.lstore 11, 2) := by decide +kernel
theorem dX11_commons_6 : decode cX11_commons 6 = .ok (.lload 5, 2) := by decide +kernel
theorem dX11_commons_8 : decode cX11_commons 8 = .ok (.lstore 13, 2) := by decide +kernel
theorem dX11_commons_10 : decode cX11_commons 10 = .ok (.lload 7, 2) := by decide +kernel
theorem dX11_commons_12 : decode cX11_commons 12 = .ok (.lstore 15, 2) := by decide +kernel
theorem dX11_commons_14 : decode cX11_commons 14 = .ok (.lload 13, 2) := by decide +kernel
theorem dX11_commons_16 : decode cX11_commons 16 = .ok (.lconst 0, 1) := by decide +kernel
theorem dX11_commons_17 : decode cX11_commons 17 = .ok (.lcmp, 1) := by decide +kernel
theorem dX11_commons_18 : decode cX11_commons 18 = .ok (.ifCond .ne 10, 3) := by decide +kernel
theorem dX11_commons_21 : decode cX11_commons 21 = .ok (.lload 15, 2) := by decide +kernel
theorem dX11_commons_23 : decode cX11_commons 23 = .ok (.lconst 0, 1) := by decide +kernel
theorem dX11_commons_24 : decode cX11_commons 24 = .ok (.lcmp, 1) := by decide +kernel
theorem dX11_commons_25 : decode cX11_commons 25 = .ok (.ifCond .eq 38, 3) := by decide +kernel
theorem dX11_commons_28 : decode cX11_commons 28 = .ok (.aload_n 0, 1) := by decide +kernel
theorem dX11_commons_29 : decode cX11_commons 29 = .ok (.lload 9, 2) := by decide +kernel
theorem dX11_commons_31 : decode cX11_commons 31 = .ok (.lload 11, 2) := by decide +kernel
theorem dX11_commons_33 : decode cX11_commons 33 = .ok (.lload 13, 2) := by decide +kernel
theorem dX11_commons_35 : decode cX11_commons 35 = .ok (.lload 15, 2) := by decide +kernel
theorem dX11_commons_37 : decode cX11_commons 37 = .ok (.invokevirtual 131, 3) := by decide +kernel
theorem dX11_commons_40 : decode cX11_commons 40 = .ok (.lload 13, 2) := by decide +kernel
theorem dX11_commons_42 : decode cX11_commons 42 = .ok (.lstore 9, 2) := by decide +kernel
theorem dX11_commons_44 : decode cX11_commons 44 = .ok (.lload 15, 2) := by decide +kernel
theorem dX11_commons_46 : decode cX11_commons 46 = .ok (.lstore 11, 2) := by decide +kernel
theorem dX11_commons_48 : decode cX11_commons 48 = .ok (.aload_n 0, 1) := by decide +kernel
theorem dX11_commons_49 : decode cX11_commons 49 = .ok (.getfield 105, 3) := by decide +kernel
theorem dX11_commons_52 : decode cX11_commons 52 = .ok (.lstore 13, 2) := by decide +kernel
theorem dX11_commons_54 : decode cX11_commons 54 = .ok (.aload_n 0, 1) := by decide +kernel
theorem dX11_commons_55 : decode cX11_commons 55 = .ok (.getfield 109, 3) := by decide +kernel
theorem dX11_commons_58 : decode cX11_commons 58 = .ok (.lstore 15, 2) := by decide +kernel
theorem dX11_commons_60 : decode cX11_commons 60 = .ok (.goto (-46), 3) := by decide +kernel
theorem dX11_commons_63 : decode cX11_commons 63 = .ok (.aload_n 0, 1) := by decide +kernel
theorem dX11_commons_64 : decode cX11_commons 64 = .ok (.lload 9, 2) := by decide +kernel
theorem dX11_commons_66 : decode cX11_commons 66 = .ok (.lload 11, 2) := by decide +kernel
theorem dX11_commons_68 : decode cX11_commons 68 = .ok (.invokevirtual 115, 3) := by decide +kernel
theorem dX11_commons_71 : decode cX11_commons 71 = .ok (.return_, 1) := by decide +kernel
theorem dX11_count_0 : decode cX11_count 0 = .ok (.iconst 0, 1) := by decide +kernel
theorem dX11_count_1 : decode cX11_count 1 = .ok (.istore_n 2, 1) := by decide +kernel
theorem dX11_count_2 : decode cX11_count 2 = .ok (.iconst 0, 1) := by decide +kernel
theorem dX11_count_3 : decode cX11_count 3 = .ok (.istore_n 3, 1) := by decide +kernel
theorem dX11_count_4 : decode cX11_count 4 = .ok (.iload_n 3, 1) := by decide +kernel
theorem dX11_count_5 : decode cX11_count 5 = .ok (.bipush 8, 2) := by decide +kernel
theorem dX11_count_7 : decode cX11_count 7 = .ok (.if_icmp .ge 28, 3) := by decide +kernel
theorem dX11_count_10 : decode cX11_count 10 = .ok (.iload_n 2, 1) := by decide +kernel
theorem dX11_count_11 : decode cX11_count 11 = .ok (.aload_n 0, 1) := by decide +kernel
theorem dX11_count_12 : decode cX11_count 12 = .ok (.getfield 13, 3) := by decide +kernel
theorem dX11_count_15 : decode cX11_count 15 = .ok (.iload_n 3, 1) := by decide +kernel
theorem dX11_count_16 : decode cX11_count 16 = .ok (.baload, 1) := by decide +kernel
theorem dX11_count_17 : decode cX11_count 17 = .ok (.ifCond .eq 9, 3) := by decide +kernel
theorem dX11_count_20 : decode cX11_count 20 = .ok (.iconst 1, 1) := by decide +kernel
theorem dX11_count_21 : decode cX11_count 21 = .ok (.iload_n 3, 1) := by decide +kernel
theorem dX11_count_22 : decode cX11_count 22 = .ok (.ishl, 1) := by decide +kernel
theorem dX11_count_23 : decode cX11_count 23 = .ok (.goto 4, 3) := by decide +kernel
theorem dX11_count_26 : decode cX11_count 26 = .ok (.iconst 0, 1) := by decide +kernel
theorem dX11_count_27 : decode cX11_count 27 = .ok (.ior, 1) := by decide +kernel
theorem dX11_count_28 : decode cX11_count 28 = .ok (.istore_n 2, 1) := by decide +kernel
theorem dX11_count_29 : decode cX11_count 29 = .ok (.iinc 3 1, 3) := by decide +kernel
theorem dX11_count_32 : decode cX11_count 32 = .ok (.goto (-28), 3) := by decide +kernel
theorem dX11_count_35 : decode cX11_count 35 = .ok (.iload_n 1, 1) := by decide +kernel
theorem dX11_count_36 : decode cX11_count 36 = .ok (.ifCond .ne 7, 3) := by decide +kernel
theorem dX11_count_39 : decode cX11_count 39 = .ok (.iload_n 2, 1) := by decide +kernel
theorem dX11_count_40 : decode cX11_count 40 = .ok (.goto 28, 3) := by decide +kernel
theorem dX11_count_43 : decode cX11_count 43 = .ok (.iload_n 1, 1) := by decide +kernel
theorem dX11_count_44 : decode cX11_count 44 = .ok (.iconst 1, 1) := by decide +kernel
theorem dX11_count_45 : decode cX11_count 45 = .ok (.if_icmp .ne 10, 3) := by decide +kernel
theorem dX11_count_48 : decode cX11_count 48 = .ok (.aload_n 0, 1) := by decide +kernel
theorem dX11_count_49 : decode cX11_count 49 = .ok (.getfield 67, 3) := by decide +kernel
theorem dX11_count_52 : decode cX11_count 52 = .ok (.goto 16, 3) := by decide +kernel
theorem dX11_count_55 : decode cX11_count 55 = .ok (.iload_n 1, 1) := by decide +kernel
theorem dX11_count_56 : decode cX11_count 56 = .ok (.iconst 2, 1) := by decide +kernel
theorem dX11_count_57 : decode cX11_count 57 = .ok (.if_icmp .ne 10, 3) := by decide +kernel
theorem dX11_count_60 : decode cX11_count 60 = .ok (.aload_n 0, 1) := by decide +kernel
theorem dX11_count_61 : decode cX11_count 61 = .ok (.getfield 102, 3) := by decide +kernel
theorem dX11_count_64 : decode cX11_count 64 = .ok (.goto 4, 3) := by decide +kernel
theorem dX11_count_67 : decode cX11_count 67 = .ok (.iconst (-1), 1) := by decide +kernel
theorem dX11_count_68 : decode cX11_count 68 = .ok (.ireturn, 1) := by decide +kernel
theorem dX11_counts_0 : decode cX11_counts 0 = .ok (.iload_n 3, 1) := by decide +kernel
theorem dX11_counts_1 : decode cX11_counts 1 = .ok (.ifCond .ne 4, 3) := by decide +kernel
theorem dX11_counts_4 : decode cX11_counts 4 = .ok (.return_, 1) := by decide +kernel
theorem dX11_counts_5 : decode cX11_counts 5 = .ok (.lconst 1, 1) := by decide +kernel
theorem dX11_counts_6 : decode cX11_counts 6 = .ok (.lstore 4, 2) := by decide +kernel
theorem dX11_counts_8 : decode cX11_counts 8 = .ok (.lconst 1, 1) := by decide +kernel
theorem dX11_counts_9 : decode cX11_counts 9 = .ok (.lstore 6, 2) := by decide +kernel
theorem dX11_counts_11 : decode cX11_counts 11 = .ok (.iconst 0, 1) := by decide +kernel
theorem dX11_counts_12 : decode cX11_counts 12 = .ok (.istore 8, 2) := by decide +kernel
theorem dX11_counts_14 : decode cX11_counts 14 = .ok (.iload 8, 2) := by decide +kernel
theorem dX11_counts_16 : decode cX11_counts 16 = .ok (.iload_n 3, 1) := by decide +kernel
theorem dX11_counts_17 : decode cX11_counts 17 = .ok (.if_icmp .ge 43, 3) := by decide +kernel
theorem dX11_counts_20 : decode cX11_counts 20 = .ok (.aload_n 0, 1) := by decide +kernel
theorem dX11_counts_21 : decode cX11_counts 21 = .ok (.aload_n 0, 1) := by decide +kernel
theorem dX11_counts_22 : decode cX11_counts 22 = .ok (.getfield 225, 3) := by decide +kernel
theorem dX11_counts_25 : decode cX11_counts 25 = .ok (.iload 8, 2) := by decide +kernel
theorem dX11_counts_27 : decode cX11_counts 27 = .ok (.ifCond .ne 9, 3) := by decide +kernel
theorem dX11_counts_30 : decode cX11_counts 30 = .ok (.lload_n 1, 1) := by decide +kernel
theorem dX11_counts_31 : decode cX11_counts 31 = .ok (.lconst 1, 1) := by decide +kernel
theorem dX11_counts_32 : decode cX11_counts 32 = .ok (.lsub, 1) := by decide +kernel
theorem dX11_counts_33 : decode cX11_counts 33 = .ok (.goto 4, 3) := by decide +kernel
theorem dX11_counts_36 : decode cX11_counts 36 = .ok (.lload_n 1, 1) := by decide +kernel
theorem dX11_counts_37 : decode cX11_counts 37 = .ok (.lmul, 1) := by decide +kernel
theorem dX11_counts_38 : decode cX11_counts 38 = .ok (.putfield 225, 3) := by decide +kernel
theorem dX11_counts_41 : decode cX11_counts 41 = .ok (.lload 6, 2) := by decide +kernel
theorem dX11_counts_43 : decode cX11_counts 43 = .ok (.lload_n 1, 1) := by decide +kernel
theorem dX11_counts_44 : decode cX11_counts 44 = .ok (.lmul, 1) := by decide +kernel
theorem dX11_counts_45 : decode cX11_counts 45 = .ok (.lstore 6, 2) := by decide +kernel
theorem dX11_counts_47 : decode cX11_counts 47 = .ok (.lload 4, 2) := by decide +kernel
theorem dX11_counts_49 : decode cX11_counts 49 = .ok (.lload 6, 2) := by decide +kernel
theorem dX11_counts_51 : decode cX11_counts 51 = .ok (.ladd, 1) := by decide +kernel
theorem dX11_counts_52 : decode cX11_counts 52 = .ok (.lstore 4, 2) := by decide +kernel
theorem dX11_counts_54 : decode cX11_counts 54 = .ok (.iinc 8 1, 3) := by decide +kernel
theorem dX11_counts_57 : decode cX11_counts 57 = .ok (.goto (-43), 3) := by decide +kernel
theorem dX11_counts_60 : decode cX11_counts 60 = .ok (.aload_n 0, 1) := by decide +kernel
theorem dX11_counts_61 : decode cX11_counts 61 = .ok (.aload_n 0, 1) := by decide +kernel
theorem dX11_counts_62 : decode cX11_counts 62 = .ok (.getfield 228, 3) := by decide +kernel
theorem dX11_counts_65 : decode cX11_counts 65 = .ok (.iload_n 3, 1) := by decide +kernel
theorem dX11_counts_66 : decode cX11_counts 66 = .ok (.iconst 1, 1) := by decide +kernel
theorem dX11_counts_67 : decode cX11_counts 67 = .ok (.iadd, 1) := by decide +kernel
theorem dX11_counts_68 : decode cX11_counts 68 = .ok (.i2l, 1) := by decide +kernel
theorem dX11_counts_69 : decode cX11_counts 69 = .ok (.lmul, 1) := by decide +kernel
theorem dX11_counts_70 : decode cX11_counts 70 = .ok (.putfield 228, 3) := by decide +kernel
theorem dX11_counts_73 : decode cX11_counts 73 = .ok (.aload_n 0, 1) := by decide +kernel
theorem dX11_counts_74 : decode cX11_counts 74 = .ok (.aload_n 0, 1) := by decide +kernel
theorem dX11_counts_75 : decode cX11_counts 75 = .ok (.getfield 231, 3) := by decide +kernel
theorem dX11_counts_78 : decode cX11_counts 78 = .ok (.lload 4, 2) := by decide +kernel
theorem dX11_counts_80 : decode cX11_counts 80 = .ok (.lmul, 1) := by decide +kernel
theorem dX11_counts_81 : decode cX11_counts 81 = .ok (.putfield 231, 3) := by decide +kernel
theorem dX11_counts_84 : decode cX11_counts 84 = .ok (.aload_n 0, 1) := by decide +kernel
theorem dX11_counts_85 : decode cX11_counts 85 = .ok (.iload_n 3, 1) := by decide +kernel
theorem dX11_counts_86 : decode cX11_counts 86 = .ok (.iconst 1, 1) := by decide +kernel
theorem dX11_counts_87 : decode cX11_counts 87 = .ok (.if_icmp .le 7, 3) := by decide +kernel
theorem dX11_counts_90 : decode cX11_counts 90 = .ok (.iconst 0, 1) := by decide +kernel
theorem dX11_counts_91 : decode cX11_counts 91 = .ok (.goto 8, 3) := by decide +kernel
theorem dX11_counts_94 : decode cX11_counts 94 = .ok (.aload_n 0, 1) := by decide +kernel
theorem dX11_counts_95 : decode cX11_counts 95 = .ok (.getfield 234, 3) := by decide +kernel
theorem dX11_counts_98 : decode cX11_counts 98 = .ok (.ineg, 1) := by decide +kernel
theorem dX11_counts_99 : decode cX11_counts 99 = .ok (.putfield 234, 3) := by decide +kernel
theorem dX11_counts_102 : decode cX11_counts 102 = .ok (.return_, 1) := by decide +kernel
theorem dX11_countsAll_0 : decode cX11_countsAll 0 = .ok (.aload_n 0, 1) := by decide +kernel
theorem dX11_countsAll_1 : decode cX11_countsAll 1 = .ok (.lload_n 1, 1) := by decide +kernel
theorem dX11_countsAll_2 : decode cX11_countsAll 2 = .ok (.lload_n 3, 1) := by decide +kernel
theorem dX11_countsAll_3 : decode cX11_countsAll 3 = .ok (.invokevirtual 222, 3) := by decide +kernel
theorem dX11_countsAll_6 : decode cX11_countsAll 6 = .ok (.aload_n 0, 1) := by decide +kernel
theorem dX11_countsAll_7 : decode cX11_countsAll 7 = .ok (.lconst 1, 1) := by decide +kernel
theorem dX11_countsAll_8 : decode cX11_countsAll 8 = .ok (.putfield 228, 3) := by decide +kernel
theorem dX11_countsAll_11 : decode cX11_countsAll 11 = .ok (.aload_n 0, 1) := by decide +kernel
theorem dX11_countsAll_12 : decode cX11_countsAll 12 = .ok (.lconst 1, 1) := by decide +kernel
theorem dX11_countsAll_13 : decode cX11_countsAll 13 = .ok (.putfield 231, 3) := by decide +kernel
theorem dX11_countsAll_16 : decode cX11_countsAll 16 = .ok (.aload_n 0, 1) := by decide +kernel
theorem dX11_countsAll_17 : decode cX11_countsAll 17 = .ok (.lconst 1, 1) := by decide +kernel
theorem dX11_countsAll_18 : decode cX11_countsAll 18 = .ok (.putfield 225, 3) := by decide +kernel
theorem dX11_countsAll_21 : decode cX11_countsAll 21 = .ok (.aload_n 0, 1) := by decide +kernel
theorem dX11_countsAll_22 : decode cX11_countsAll 22 = .ok (.iconst 1, 1) := by decide +kernel
theorem dX11_countsAll_23 : decode cX11_countsAll 23 = .ok (.putfield 234, 3) := by decide +kernel
theorem dX11_countsAll_26 : decode cX11_countsAll 26 = .ok (.aload_n 0, 1) := by decide +kernel
theorem dX11_countsAll_27 : decode cX11_countsAll 27 = .ok (.ldc2_w 134, 3) := by decide +kernel
theorem dX11_countsAll_30 : decode cX11_countsAll 30 = .ok (.aload_n 0, 1) := by decide +kernel
theorem dX11_countsAll_31 : decode cX11_countsAll 31 = .ok (.getfield 204, 3) := by decide +kernel
theorem dX11_countsAll_34 : decode cX11_countsAll 34 = .ok (.invokevirtual 237, 3) := by decide +kernel
theorem dX11_countsAll_37 : decode cX11_countsAll 37 = .ok (.iconst 0, 1) := by decide +kernel
theorem dX11_countsAll_38 : decode cX11_countsAll 38 = .ok (.istore 5, 2) := by decide +kernel
theorem dX11_countsAll_40 : decode cX11_countsAll 40 = .ok (.iload 5, 2) := by decide +kernel
theorem dX11_countsAll_42 : decode cX11_countsAll 42 = .ok (.aload_n 0, 1) := by decide +kernel
theorem dX11_countsAll_43 : decode cX11_countsAll 43 = .ok (.getfield 201, 3) := by decide +kernel
theorem dX11_countsAll_46 : decode cX11_countsAll 46 = .ok (.if_icmp .ge 91, 3) := by decide +kernel
theorem dX11_countsAll_49 : decode cX11_countsAll 49 = .ok (.iconst 1, 1) := by decide +kernel
theorem dX11_countsAll_50 : decode cX11_countsAll 50 = .ok (.istore 6, 2) := by decide +kernel
theorem dX11_countsAll_52 : decode cX11_countsAll 52 = .ok (.iload 5, 2) := by decide +kernel
theorem dX11_countsAll_54 : decode cX11_countsAll 54 = .ok (.iload 6, 2) := by decide +kernel
theorem dX11_countsAll_56 : decode cX11_countsAll 56 = .ok (.iadd, 1) := by decide +kernel
theorem dX11_countsAll_57 : decode cX11_countsAll 57 = .ok (.aload_n 0, 1) := by decide +kernel
theorem dX11_countsAll_58 : decode cX11_countsAll 58 = .ok (.getfield 201, 3) := by decide +kernel
theorem dX11_countsAll_61 : decode cX11_countsAll 61 = .ok (.if_icmp .ge 52, 3) := by decide +kernel
theorem dX11_countsAll_64 : decode cX11_countsAll 64 = .ok (.aload_n 0, 1) := by decide +kernel
theorem dX11_countsAll_65 : decode cX11_countsAll 65 = .ok (.getfield 33, 3) := by decide +kernel
theorem dX11_countsAll_68 : decode cX11_countsAll 68 = .ok (.iload 5, 2) := by decide +kernel
theorem dX11_countsAll_70 : decode cX11_countsAll 70 = .ok (.iload 6, 2) := by decide +kernel
theorem dX11_countsAll_72 : decode cX11_countsAll 72 = .ok (.iadd, 1) := by decide +kernel
theorem dX11_countsAll_73 : decode cX11_countsAll 73 = .ok (.iaload, 1) := by decide +kernel
theorem dX11_countsAll_74 : decode cX11_countsAll 74 = .ok (.aload_n 0, 1) := by decide +kernel
theorem dX11_countsAll_75 : decode cX11_countsAll 75 = .ok (.getfield 33, 3) := by decide +kernel
theorem dX11_countsAll_78 : decode cX11_countsAll 78 = .ok (.iload 5, 2) := by decide +kernel
theorem dX11_countsAll_80 : decode cX11_countsAll 80 = .ok (.iaload, 1) := by decide +kernel
theorem dX11_countsAll_81 : decode cX11_countsAll 81 = .ok (.if_icmp .ne 32, 3) := by decide +kernel
theorem dX11_countsAll_84 : decode cX11_countsAll 84 = .ok (.aload_n 0, 1) := by decide +kernel
theorem dX11_countsAll_85 : decode cX11_countsAll 85 = .ok (.getfield 36, 3) := by decide +kernel
theorem dX11_countsAll_88 : decode cX11_countsAll 88 = .ok (.iload 5, 2) := by decide +kernel
theorem dX11_countsAll_90 : decode cX11_countsAll 90 = .ok (.iload 6, 2) := by decide +kernel
theorem dX11_countsAll_92 : decode cX11_countsAll 92 = .ok (.iadd, 1) := by decide +kernel
theorem dX11_countsAll_93 : decode cX11_countsAll 93 = .ok (.iaload, 1) := by decide +kernel
theorem dX11_countsAll_94 : decode cX11_countsAll 94 = .ok (.aload_n 0, 1) := by decide +kernel
theorem dX11_countsAll_95 : decode cX11_countsAll 95 = .ok (.getfield 36, 3) := by decide +kernel
theorem dX11_countsAll_98 : decode cX11_countsAll 98 = .ok (.iload 5, 2) := by decide +kernel
theorem dX11_countsAll_100 : decode cX11_countsAll 100 = .ok (.iaload, 1) := by decide +kernel
theorem dX11_countsAll_101 : decode cX11_countsAll 101 = .ok (.if_icmp .ne 12, 3) := by decide +kernel
theorem dX11_countsAll_104 : decode cX11_countsAll 104 = .ok (.iload 6, 2) := by decide +kernel
theorem dX11_countsAll_106 : decode cX11_countsAll 106 = .ok (.iconst 1, 1) := by decide +kernel
theorem dX11_countsAll_107 : decode cX11_countsAll 107 = .ok (.iadd, 1) := by decide +kernel
theorem dX11_countsAll_108 : decode cX11_countsAll 108 = .ok (.istore 6, 2) := by decide +kernel
theorem dX11_countsAll_110 : decode cX11_countsAll 110 = .ok (.goto (-58), 3) := by decide +kernel
theorem dX11_countsAll_113 : decode cX11_countsAll 113 = .ok (.aload_n 0, 1) := by decide +kernel
theorem dX11_countsAll_114 : decode cX11_countsAll 114 = .ok (.aload_n 0, 1) := by decide +kernel
theorem dX11_countsAll_115 : decode cX11_countsAll 115 = .ok (.getfield 39, 3) := by decide +kernel
theorem dX11_countsAll_118 : decode cX11_countsAll 118 = .ok (.iload 5, 2) := by decide +kernel
theorem dX11_countsAll_120 : decode cX11_countsAll 120 = .ok (.iaload, 1) := by decide +kernel
theorem dX11_countsAll_121 : decode cX11_countsAll 121 = .ok (.i2l, 1) := by decide +kernel
theorem dX11_countsAll_122 : decode cX11_countsAll 122 = .ok (.iload 6, 2) := by decide +kernel
theorem dX11_countsAll_124 : decode cX11_countsAll 124 = .ok (.invokevirtual 237, 3) := by decide +kernel
theorem dX11_countsAll_127 : decode cX11_countsAll 127 = .ok (.iload 5, 2) := by decide +kernel
theorem dX11_countsAll_129 : decode cX11_countsAll 129 = .ok (.iload 6, 2) := by decide +kernel
theorem dX11_countsAll_131 : decode cX11_countsAll 131 = .ok (.iadd, 1) := by decide +kernel
theorem dX11_countsAll_132 : decode cX11_countsAll 132 = .ok (.istore 5, 2) := by decide +kernel
theorem dX11_countsAll_134 : decode cX11_countsAll 134 = .ok (.goto (-94), 3) := by decide +kernel
theorem dX11_countsAll_137 : decode cX11_countsAll 137 = .ok (.return_, 1) := by decide +kernel
theorem dX11_crowd_0 : decode cX11_crowd 0 = .ok (.iload_n 1, 1) := by decide +kernel
theorem dX11_crowd_1 : decode cX11_crowd 1 = .ok (.invokestatic 85, 3) := by decide +kernel
theorem dX11_crowd_4 : decode cX11_crowd 4 = .ok (.ifCond .eq 27, 3) := by decide +kernel
theorem dX11_crowd_7 : decode cX11_crowd 7 = .ok (.iload_n 2, 1) := by decide +kernel
theorem dX11_crowd_8 : decode cX11_crowd 8 = .ok (.i2l, 1) := by decide +kernel
theorem dX11_crowd_9 : decode cX11_crowd 9 = .ok (.lconst 1, 1) := by decide +kernel
theorem dX11_crowd_10 : decode cX11_crowd 10 = .ok (.ldc2_w 397, 3) := by decide +kernel
theorem dX11_crowd_13 : decode cX11_crowd 13 = .ok (.invokestatic 77, 3) := by decide +kernel
theorem dX11_crowd_16 : decode cX11_crowd 16 = .ok (.ifCond .eq 15, 3) := by decide +kernel
theorem dX11_crowd_19 : decode cX11_crowd 19 = .ok (.iload_n 3, 1) := by decide +kernel
theorem dX11_crowd_20 : decode cX11_crowd 20 = .ok (.i2l, 1) := by decide +kernel
theorem dX11_crowd_21 : decode cX11_crowd 21 = .ok (.lconst 0, 1) := by decide +kernel
theorem dX11_crowd_22 : decode cX11_crowd 22 = .ok (.ldc2_w 134, 3) := by decide +kernel
theorem dX11_crowd_25 : decode cX11_crowd 25 = .ok (.invokestatic 77, 3) := by decide +kernel
theorem dX11_crowd_28 : decode cX11_crowd 28 = .ok (.ifCond .ne 5, 3) := by decide +kernel
theorem dX11_crowd_31 : decode cX11_crowd 31 = .ok (.iconst (-1), 1) := by decide +kernel
theorem dX11_crowd_32 : decode cX11_crowd 32 = .ok (.ireturn, 1) := by decide +kernel
theorem dX11_crowd_33 : decode cX11_crowd 33 = .ok (.aload_n 0, 1) := by decide +kernel
theorem dX11_crowd_34 : decode cX11_crowd 34 = .ok (.getfield 13, 3) := by decide +kernel
theorem dX11_crowd_37 : decode cX11_crowd 37 = .ok (.iload_n 1, 1) := by decide +kernel
theorem dX11_crowd_38 : decode cX11_crowd 38 = .ok (.baload, 1) := by decide +kernel
theorem dX11_crowd_39 : decode cX11_crowd 39 = .ok (.ifCond .ne 6, 3) := by decide +kernel
theorem dX11_crowd_42 : decode cX11_crowd 42 = .ok (.bipush (-2), 2) := by decide +kernel
theorem dX11_crowd_44 : decode cX11_crowd 44 = .ok (.ireturn, 1) := by decide +kernel
theorem dX11_crowd_45 : decode cX11_crowd 45 = .ok (.iconst 0, 1) := by decide +kernel
theorem dX11_crowd_46 : decode cX11_crowd 46 = .ok (.istore 4, 2) := by decide +kernel
theorem dX11_crowd_48 : decode cX11_crowd 48 = .ok (.iconst 0, 1) := by decide +kernel
theorem dX11_crowd_49 : decode cX11_crowd 49 = .ok (.istore 5, 2) := by decide +kernel
theorem dX11_crowd_51 : decode cX11_crowd 51 = .ok (.iload 5, 2) := by decide +kernel
theorem dX11_crowd_53 : decode cX11_crowd 53 = .ok (.iload_n 2, 1) := by decide +kernel
theorem dX11_crowd_54 : decode cX11_crowd 54 = .ok (.if_icmp .ge 57, 3) := by decide +kernel
theorem dX11_crowd_57 : decode cX11_crowd 57 = .ok (.iload 4, 2) := by decide +kernel
theorem dX11_crowd_59 : decode cX11_crowd 59 = .ok (.aload_n 0, 1) := by decide +kernel
theorem dX11_crowd_60 : decode cX11_crowd 60 = .ok (.aload_n 0, 1) := by decide +kernel
theorem dX11_crowd_61 : decode cX11_crowd 61 = .ok (.getfield 20, 3) := by decide +kernel
theorem dX11_crowd_64 : decode cX11_crowd 64 = .ok (.iload_n 1, 1) := by decide +kernel
theorem dX11_crowd_65 : decode cX11_crowd 65 = .ok (.iaload, 1) := by decide +kernel
theorem dX11_crowd_66 : decode cX11_crowd 66 = .ok (.i2l, 1) := by decide +kernel
theorem dX11_crowd_67 : decode cX11_crowd 67 = .ok (.aload_n 0, 1) := by decide +kernel
theorem dX11_crowd_68 : decode cX11_crowd 68 = .ok (.getfield 24, 3) := by decide +kernel
theorem dX11_crowd_71 : decode cX11_crowd 71 = .ok (.iload_n 1, 1) := by decide +kernel
theorem dX11_crowd_72 : decode cX11_crowd 72 = .ok (.iaload, 1) := by decide +kernel
theorem dX11_crowd_73 : decode cX11_crowd 73 = .ok (.i2l, 1) := by decide +kernel
theorem dX11_crowd_74 : decode cX11_crowd 74 = .ok (.aload_n 0, 1) := by decide +kernel
theorem dX11_crowd_75 : decode cX11_crowd 75 = .ok (.getfield 54, 3) := by decide +kernel
theorem dX11_crowd_78 : decode cX11_crowd 78 = .ok (.iload 5, 2) := by decide +kernel
theorem dX11_crowd_80 : decode cX11_crowd 80 = .ok (.iaload, 1) := by decide +kernel
theorem dX11_crowd_81 : decode cX11_crowd 81 = .ok (.i2l, 1) := by decide +kernel
theorem dX11_crowd_82 : decode cX11_crowd 82 = .ok (.aload_n 0, 1) := by decide +kernel
theorem dX11_crowd_83 : decode cX11_crowd 83 = .ok (.getfield 57, 3) := by decide +kernel
theorem dX11_crowd_86 : decode cX11_crowd 86 = .ok (.iload 5, 2) := by decide +kernel
theorem dX11_crowd_88 : decode cX11_crowd 88 = .ok (.iaload, 1) := by decide +kernel
theorem dX11_crowd_89 : decode cX11_crowd 89 = .ok (.i2l, 1) := by decide +kernel
theorem dX11_crowd_90 : decode cX11_crowd 90 = .ok (.invokevirtual 349, 3) := by decide +kernel
theorem dX11_crowd_93 : decode cX11_crowd 93 = .ok (.iload_n 3, 1) := by decide +kernel
theorem dX11_crowd_94 : decode cX11_crowd 94 = .ok (.if_icmp .ne 7, 3) := by decide +kernel
theorem dX11_crowd_97 : decode cX11_crowd 97 = .ok (.iconst 1, 1) := by decide +kernel
theorem dX11_crowd_98 : decode cX11_crowd 98 = .ok (.goto 4, 3) := by decide +kernel
theorem dX11_crowd_101 : decode cX11_crowd 101 = .ok (.iconst 0, 1) := by decide +kernel
theorem dX11_crowd_102 : decode cX11_crowd 102 = .ok (.iadd, 1) := by decide +kernel
theorem dX11_crowd_103 : decode cX11_crowd 103 = .ok (.istore 4, 2) := by decide +kernel
theorem dX11_crowd_105 : decode cX11_crowd 105 = .ok (.iinc 5 1, 3) := by decide +kernel
theorem dX11_crowd_108 : decode cX11_crowd 108 = .ok (.goto (-57), 3) := by decide +kernel
theorem dX11_crowd_111 : decode cX11_crowd 111 = .ok (.iload 4, 2) := by decide +kernel
theorem dX11_crowd_113 : decode cX11_crowd 113 = .ok (.ireturn, 1) := by decide +kernel
theorem dX11_cubes_0 : decode cX11_cubes 0 = .ok (.aload_n 0, 1) := by decide +kernel
theorem dX11_cubes_1 : decode cX11_cubes 1 = .ok (.iload_n 1, 1) := by decide +kernel
theorem dX11_cubes_2 : decode cX11_cubes 2 = .ok (.invokevirtual 318, 3) := by decide +kernel
theorem dX11_cubes_5 : decode cX11_cubes 5 = .ok (.aload_n 0, 1) := by decide +kernel
theorem dX11_cubes_6 : decode cX11_cubes 6 = .ok (.getfield 105, 3) := by decide +kernel
theorem dX11_cubes_9 : decode cX11_cubes 9 = .ok (.lstore_n 2, 1) := by decide +kernel
theorem dX11_cubes_10 : decode cX11_cubes 10 = .ok (.aload_n 0, 1) := by decide +kernel
theorem dX11_cubes_11 : decode cX11_cubes 11 = .ok (.getfield 109, 3) := by decide +kernel
theorem dX11_cubes_14 : decode cX11_cubes 14 = .ok (.lstore 4, 2) := by decide +kernel
theorem dX11_cubes_16 : decode cX11_cubes 16 = .ok (.aload_n 0, 1) := by decide +kernel
theorem dX11_cubes_17 : decode cX11_cubes 17 = .ok (.lload_n 2, 1) := by decide +kernel
theorem dX11_cubes_18 : decode cX11_cubes 18 = .ok (.lload 4, 2) := by decide +kernel
theorem dX11_cubes_20 : decode cX11_cubes 20 = .ok (.lload_n 2, 1) := by decide +kernel
theorem dX11_cubes_21 : decode cX11_cubes 21 = .ok (.lload 4, 2) := by decide +kernel
theorem dX11_cubes_23 : decode cX11_cubes 23 = .ok (.invokevirtual 262, 3) := by decide +kernel
theorem dX11_cubes_26 : decode cX11_cubes 26 = .ok (.aload_n 0, 1) := by decide +kernel
theorem dX11_cubes_27 : decode cX11_cubes 27 = .ok (.aload_n 0, 1) := by decide +kernel
theorem dX11_cubes_28 : decode cX11_cubes 28 = .ok (.getfield 105, 3) := by decide +kernel
theorem dX11_cubes_31 : decode cX11_cubes 31 = .ok (.aload_n 0, 1) := by decide +kernel
theorem dX11_cubes_32 : decode cX11_cubes 32 = .ok (.getfield 109, 3) := by decide +kernel
theorem dX11_cubes_35 : decode cX11_cubes 35 = .ok (.lload_n 2, 1) := by decide +kernel
theorem dX11_cubes_36 : decode cX11_cubes 36 = .ok (.lload 4, 2) := by decide +kernel
theorem dX11_cubes_38 : decode cX11_cubes 38 = .ok (.invokevirtual 262, 3) := by decide +kernel
theorem dX11_cubes_41 : decode cX11_cubes 41 = .ok (.return_, 1) := by decide +kernel
theorem dX11_cut_0 : decode cX11_cut 0 = .ok (.aload_n 0, 1) := by decide +kernel
theorem dX11_cut_1 : decode cX11_cut 1 = .ok (.getfield 419, 3) := by decide +kernel
theorem dX11_cut_4 : decode cX11_cut 4 = .ok (.bipush 7, 2) := by decide +kernel
theorem dX11_cut_6 : decode cX11_cut 6 = .ok (.if_icmp .le 7, 3) := by decide +kernel
theorem dX11_cut_9 : decode cX11_cut 9 = .ok (.ldc_w 422, 3) := by decide +kernel
theorem dX11_cut_12 : decode cX11_cut 12 = .ok (.ireturn, 1) := by decide +kernel
theorem dX11_cut_13 : decode cX11_cut 13 = .ok (.aload_n 0, 1) := by decide +kernel
theorem dX11_cut_14 : decode cX11_cut 14 = .ok (.getfield 419, 3) := by decide +kernel
theorem dX11_cut_17 : decode cX11_cut 17 = .ok (.ifCond .lt 15, 3) := by decide +kernel
theorem dX11_cut_20 : decode cX11_cut 20 = .ok (.aload_n 0, 1) := by decide +kernel
theorem dX11_cut_21 : decode cX11_cut 21 = .ok (.getfield 416, 3) := by decide +kernel
theorem dX11_cut_24 : decode cX11_cut 24 = .ok (.aload_n 0, 1) := by decide +kernel
theorem dX11_cut_25 : decode cX11_cut 25 = .ok (.getfield 419, 3) := by decide +kernel
theorem dX11_cut_28 : decode cX11_cut 28 = .ok (.lshl, 1) := by decide +kernel
theorem dX11_cut_29 : decode cX11_cut 29 = .ok (.goto 26, 3) := by decide +kernel
theorem dX11_cut_32 : decode cX11_cut 32 = .ok (.aload_n 0, 1) := by decide +kernel
theorem dX11_cut_33 : decode cX11_cut 33 = .ok (.getfield 419, 3) := by decide +kernel
theorem dX11_cut_36 : decode cX11_cut 36 = .ok (.bipush (-40), 2) := by decide +kernel
theorem dX11_cut_38 : decode cX11_cut 38 = .ok (.if_icmp .ge 7, 3) := by decide +kernel
theorem dX11_cut_41 : decode cX11_cut 41 = .ok (.lconst 0, 1) := by decide +kernel
theorem dX11_cut_42 : decode cX11_cut 42 = .ok (.goto 13, 3) := by decide +kernel
theorem dX11_cut_45 : decode cX11_cut 45 = .ok (.aload_n 0, 1) := by decide +kernel
theorem dX11_cut_46 : decode cX11_cut 46 = .ok (.getfield 416, 3) := by decide +kernel
theorem dX11_cut_49 : decode cX11_cut 49 = .ok (.aload_n 0, 1) := by decide +kernel
theorem dX11_cut_50 : decode cX11_cut 50 = .ok (.getfield 419, 3) := by decide +kernel
theorem dX11_cut_53 : decode cX11_cut 53 = .ok (.ineg, 1) := by decide +kernel
theorem dX11_cut_54 : decode cX11_cut 54 = .ok (.lshr, 1) := by decide +kernel
theorem dX11_cut_55 : decode cX11_cut 55 = .ok (.l2i, 1) := by decide +kernel
theorem dX11_cut_56 : decode cX11_cut 56 = .ok (.ireturn, 1) := by decide +kernel
theorem dX11_digits_0 : decode cX11_digits 0 = .ok (.sipush 1000, 3) := by decide +kernel
theorem dX11_digits_3 : decode cX11_digits 3 = .ok (.istore_n 2, 1) := by decide +kernel
theorem dX11_digits_4 : decode cX11_digits 4 = .ok (.iload_n 2, 1) := by decide +kernel
theorem dX11_digits_5 : decode cX11_digits 5 = .ok (.ifCond .le 34, 3) := by decide +kernel
theorem dX11_digits_8 : decode cX11_digits 8 = .ok (.iload_n 1, 1) := by decide +kernel
theorem dX11_digits_9 : decode cX11_digits 9 = .ok (.iload_n 2, 1) := by decide +kernel
theorem dX11_digits_10 : decode cX11_digits 10 = .ok (.if_icmp .ge 8, 3) := by decide +kernel
theorem dX11_digits_13 : decode cX11_digits 13 = .ok (.iload_n 2, 1) := by decide +kernel
theorem dX11_digits_14 : decode cX11_digits 14 = .ok (.iconst 1, 1) := by decide +kernel
theorem dX11_digits_15 : decode cX11_digits 15 = .ok (.if_icmp .ne 16, 3) := by decide +kernel
theorem dX11_digits_18 : decode cX11_digits 18 = .ok (.aload_n 0, 1) := by decide +kernel
theorem dX11_digits_19 : decode cX11_digits 19 = .ok (.bipush 48, 2) := by decide +kernel
theorem dX11_digits_21 : decode cX11_digits 21 = .ok (.iload_n 1, 1) := by decide +kernel
theorem dX11_digits_22 : decode cX11_digits 22 = .ok (.iload_n 2, 1) := by decide +kernel
theorem dX11_digits_23 : decode cX11_digits 23 = .ok (.idiv, 1) := by decide +kernel
theorem dX11_digits_24 : decode cX11_digits 24 = .ok (.bipush 10, 2) := by decide +kernel
theorem dX11_digits_26 : decode cX11_digits 26 = .ok (.irem, 1) := by decide +kernel
theorem dX11_digits_27 : decode cX11_digits 27 = .ok (.iadd, 1) := by decide +kernel
theorem dX11_digits_28 : decode cX11_digits 28 = .ok (.invokevirtual 408, 3) := by decide +kernel
theorem dX11_digits_31 : decode cX11_digits 31 = .ok (.iload_n 2, 1) := by decide +kernel
theorem dX11_digits_32 : decode cX11_digits 32 = .ok (.bipush 10, 2) := by decide +kernel
theorem dX11_digits_34 : decode cX11_digits 34 = .ok (.idiv, 1) := by decide +kernel
theorem dX11_digits_35 : decode cX11_digits 35 = .ok (.istore_n 2, 1) := by decide +kernel
theorem dX11_digits_36 : decode cX11_digits 36 = .ok (.goto (-32), 3) := by decide +kernel
theorem dX11_digits_39 : decode cX11_digits 39 = .ok (.return_, 1) := by decide +kernel
theorem dX11_direct_0 : decode cX11_direct 0 = .ok (.iload_n 1, 1) := by decide +kernel
theorem dX11_direct_1 : decode cX11_direct 1 = .ok (.iload_n 2, 1) := by decide +kernel
theorem dX11_direct_2 : decode cX11_direct 2 = .ok (.iload_n 3, 1) := by decide +kernel
theorem dX11_direct_3 : decode cX11_direct 3 = .ok (.invokestatic 265, 3) := by decide +kernel
theorem dX11_direct_6 : decode cX11_direct 6 = .ok (.ifCond .ne 5, 3) := by decide +kernel
theorem dX11_direct_9 : decode cX11_direct 9 = .ok (.iconst (-1), 1) := by decide +kernel
theorem dX11_direct_10 : decode cX11_direct 10 = .ok (.ireturn, 1) := by decide +kernel
theorem dX11_direct_11 : decode cX11_direct 11 = .ok (.aload_n 0, 1) := by decide +kernel
theorem dX11_direct_12 : decode cX11_direct 12 = .ok (.iload_n 1, 1) := by decide +kernel
theorem dX11_direct_13 : decode cX11_direct 13 = .ok (.iload_n 2, 1) := by decide +kernel
theorem dX11_direct_14 : decode cX11_direct 14 = .ok (.invokevirtual 269, 3) := by decide +kernel
theorem dX11_direct_17 : decode cX11_direct 17 = .ok (.ifCond .ne 6, 3) := by decide +kernel
theorem dX11_direct_20 : decode cX11_direct 20 = .ok (.bipush (-2), 2) := by decide +kernel
theorem dX11_direct_22 : decode cX11_direct 22 = .ok (.ireturn, 1) := by decide +kernel
theorem dX11_direct_23 : decode cX11_direct 23 = .ok (.aload_n 0, 1) := by decide +kernel
theorem dX11_direct_24 : decode cX11_direct 24 = .ok (.getfield 20, 3) := by decide +kernel
theorem dX11_direct_27 : decode cX11_direct 27 = .ok (.iload_n 2, 1) := by decide +kernel
theorem dX11_direct_28 : decode cX11_direct 28 = .ok (.iaload, 1) := by decide +kernel
theorem dX11_direct_29 : decode cX11_direct 29 = .ok (.i2l, 1) := by decide +kernel
theorem dX11_direct_30 : decode cX11_direct 30 = .ok (.aload_n 0, 1) := by decide +kernel
theorem dX11_direct_31 : decode cX11_direct 31 = .ok (.getfield 24, 3) := by decide +kernel
theorem dX11_direct_34 : decode cX11_direct 34 = .ok (.iload_n 2, 1) := by decide +kernel
theorem dX11_direct_35 : decode cX11_direct 35 = .ok (.iaload, 1) := by decide +kernel
theorem dX11_direct_36 : decode cX11_direct 36 = .ok (.i2l, 1) := by decide +kernel
theorem dX11_direct_37 : decode cX11_direct 37 = .ok (.invokestatic 165, 3) := by decide +kernel
theorem dX11_direct_40 : decode cX11_direct 40 = .ok (.ifCond .eq 23, 3) := by decide +kernel
theorem dX11_direct_43 : decode cX11_direct 43 = .ok (.aload_n 0, 1) := by decide +kernel
theorem dX11_direct_44 : decode cX11_direct 44 = .ok (.getfield 20, 3) := by decide +kernel
theorem dX11_direct_47 : decode cX11_direct 47 = .ok (.iload_n 2, 1) := by decide +kernel
theorem dX11_direct_48 : decode cX11_direct 48 = .ok (.iaload, 1) := by decide +kernel
theorem dX11_direct_49 : decode cX11_direct 49 = .ok (.i2l, 1) := by decide +kernel
theorem dX11_direct_50 : decode cX11_direct 50 = .ok (.aload_n 0, 1) := by decide +kernel
theorem dX11_direct_51 : decode cX11_direct 51 = .ok (.getfield 24, 3) := by decide +kernel
theorem dX11_direct_54 : decode cX11_direct 54 = .ok (.iload_n 2, 1) := by decide +kernel
theorem dX11_direct_55 : decode cX11_direct 55 = .ok (.iaload, 1) := by decide +kernel
theorem dX11_direct_56 : decode cX11_direct 56 = .ok (.i2l, 1) := by decide +kernel
theorem dX11_direct_57 : decode cX11_direct 57 = .ok (.invokestatic 142, 3) := by decide +kernel
theorem dX11_direct_60 : decode cX11_direct 60 = .ok (.ifCond .eq 6, 3) := by decide +kernel
theorem dX11_direct_63 : decode cX11_direct 63 = .ok (.bipush (-3), 2) := by decide +kernel
theorem dX11_direct_65 : decode cX11_direct 65 = .ok (.ireturn, 1) := by decide +kernel
theorem dX11_direct_66 : decode cX11_direct 66 = .ok (.aload_n 0, 1) := by decide +kernel
theorem dX11_direct_67 : decode cX11_direct 67 = .ok (.aload_n 0, 1) := by decide +kernel
theorem dX11_direct_68 : decode cX11_direct 68 = .ok (.getfield 20, 3) := by decide +kernel
theorem dX11_direct_71 : decode cX11_direct 71 = .ok (.iload_n 2, 1) := by decide +kernel
theorem dX11_direct_72 : decode cX11_direct 72 = .ok (.iaload, 1) := by decide +kernel
theorem dX11_direct_73 : decode cX11_direct 73 = .ok (.i2l, 1) := by decide +kernel
theorem dX11_direct_74 : decode cX11_direct 74 = .ok (.aload_n 0, 1) := by decide +kernel
theorem dX11_direct_75 : decode cX11_direct 75 = .ok (.getfield 24, 3) := by decide +kernel
theorem dX11_direct_78 : decode cX11_direct 78 = .ok (.iload_n 2, 1) := by decide +kernel
theorem dX11_direct_79 : decode cX11_direct 79 = .ok (.iaload, 1) := by decide +kernel
theorem dX11_direct_80 : decode cX11_direct 80 = .ok (.i2l, 1) := by decide +kernel
theorem dX11_direct_81 : decode cX11_direct 81 = .ok (.invokevirtual 273, 3) := by decide +kernel
theorem dX11_direct_84 : decode cX11_direct 84 = .ok (.aload_n 0, 1) := by decide +kernel
theorem dX11_direct_85 : decode cX11_direct 85 = .ok (.aload_n 0, 1) := by decide +kernel
theorem dX11_direct_86 : decode cX11_direct 86 = .ok (.getfield 20, 3) := by decide +kernel
theorem dX11_direct_89 : decode cX11_direct 89 = .ok (.iload_n 1, 1) := by decide +kernel
theorem dX11_direct_90 : decode cX11_direct 90 = .ok (.iaload, 1) := by decide +kernel
theorem dX11_direct_91 : decode cX11_direct 91 = .ok (.i2l, 1) := by decide +kernel
theorem dX11_direct_92 : decode cX11_direct 92 = .ok (.aload_n 0, 1) := by decide +kernel
theorem dX11_direct_93 : decode cX11_direct 93 = .ok (.getfield 24, 3) := by decide +kernel
theorem dX11_direct_96 : decode cX11_direct 96 = .ok (.iload_n 1, 1) := by decide +kernel
theorem dX11_direct_97 : decode cX11_direct 97 = .ok (.iaload, 1) := by decide +kernel
theorem dX11_direct_98 : decode cX11_direct 98 = .ok (.i2l, 1) := by decide +kernel
theorem dX11_direct_99 : decode cX11_direct 99 = .ok (.aload_n 0, 1) := by decide +kernel
theorem dX11_direct_100 : decode cX11_direct 100 = .ok (.getfield 20, 3) := by decide +kernel
theorem dX11_direct_103 : decode cX11_direct 103 = .ok (.iload_n 2, 1) := by decide +kernel
theorem dX11_direct_104 : decode cX11_direct 104 = .ok (.iaload, 1) := by decide +kernel
theorem dX11_direct_105 : decode cX11_direct 105 = .ok (.i2l, 1) := by decide +kernel
theorem dX11_direct_106 : decode cX11_direct 106 = .ok (.aload_n 0, 1) := by decide +kernel
theorem dX11_direct_107 : decode cX11_direct 107 = .ok (.getfield 24, 3) := by decide +kernel
theorem dX11_direct_110 : decode cX11_direct 110 = .ok (.iload_n 2, 1) := by decide +kernel
theorem dX11_direct_111 : decode cX11_direct 111 = .ok (.iaload, 1) := by decide +kernel
theorem dX11_direct_112 : decode cX11_direct 112 = .ok (.i2l, 1) := by decide +kernel
theorem dX11_direct_113 : decode cX11_direct 113 = .ok (.invokestatic 160, 3) := by decide +kernel
theorem dX11_direct_116 : decode cX11_direct 116 = .ok (.iconst 1, 1) := by decide +kernel
theorem dX11_direct_117 : decode cX11_direct 117 = .ok (.isub, 1) := by decide +kernel
theorem dX11_direct_118 : decode cX11_direct 118 = .ok (.iconst 3, 1) := by decide +kernel
theorem dX11_direct_119 : decode cX11_direct 119 = .ok (.idiv, 1) := by decide +kernel
theorem dX11_direct_120 : decode cX11_direct 120 = .ok (.invokevirtual 281, 3) := by decide +kernel
theorem dX11_direct_123 : decode cX11_direct 123 = .ok (.aload_n 0, 1) := by decide +kernel
theorem dX11_direct_124 : decode cX11_direct 124 = .ok (.iload_n 3, 1) := by decide +kernel
theorem dX11_direct_125 : decode cX11_direct 125 = .ok (.invokevirtual 276, 3) := by decide +kernel
theorem dX11_direct_128 : decode cX11_direct 128 = .ok (.ireturn, 1) := by decide +kernel
theorem dX11_disk_0 : decode cX11_disk 0 = .ok (.iload_n 1, 1) := by decide +kernel
theorem dX11_disk_1 : decode cX11_disk 1 = .ok (.i2l, 1) := by decide +kernel
theorem dX11_disk_2 : decode cX11_disk 2 = .ok (.lconst 0, 1) := by decide +kernel
theorem dX11_disk_3 : decode cX11_disk 3 = .ok (.ldc2_w 441, 3) := by decide +kernel
theorem dX11_disk_6 : decode cX11_disk 6 = .ok (.invokestatic 77, 3) := by decide +kernel
theorem dX11_disk_9 : decode cX11_disk 9 = .ok (.ifCond .eq 13, 3) := by decide +kernel
theorem dX11_disk_12 : decode cX11_disk 12 = .ok (.iload_n 2, 1) := by decide +kernel
theorem dX11_disk_13 : decode cX11_disk 13 = .ok (.i2l, 1) := by decide +kernel
theorem dX11_disk_14 : decode cX11_disk 14 = .ok (.lconst 0, 1) := by decide +kernel
theorem dX11_disk_15 : decode cX11_disk 15 = .ok (.lconst 1, 1) := by decide +kernel
theorem dX11_disk_16 : decode cX11_disk 16 = .ok (.invokestatic 77, 3) := by decide +kernel
theorem dX11_disk_19 : decode cX11_disk 19 = .ok (.ifCond .ne 5, 3) := by decide +kernel
theorem dX11_disk_22 : decode cX11_disk 22 = .ok (.iconst (-1), 1) := by decide +kernel
theorem dX11_disk_23 : decode cX11_disk 23 = .ok (.ireturn, 1) := by decide +kernel
theorem dX11_disk_24 : decode cX11_disk 24 = .ok (.iconst 0, 1) := by decide +kernel
theorem dX11_disk_25 : decode cX11_disk 25 = .ok (.istore_n 3, 1) := by decide +kernel
theorem dX11_disk_26 : decode cX11_disk 26 = .ok (.iconst 0, 1) := by decide +kernel
theorem dX11_disk_27 : decode cX11_disk 27 = .ok (.istore 4, 2) := by decide +kernel
theorem dX11_disk_29 : decode cX11_disk 29 = .ok (.sipush (-1200), 3) := by decide +kernel
theorem dX11_disk_32 : decode cX11_disk 32 = .ok (.istore 5, 2) := by decide +kernel
theorem dX11_disk_34 : decode cX11_disk 34 = .ok (.iload 5, 2) := by decide +kernel
theorem dX11_disk_36 : decode cX11_disk 36 = .ok (.sipush 1200, 3) := by decide +kernel
theorem dX11_disk_39 : decode cX11_disk 39 = .ok (.if_icmp .gt 84, 3) := by decide +kernel
theorem dX11_disk_42 : decode cX11_disk 42 = .ok (.iconst 4, 1) := by decide +kernel
theorem dX11_disk_43 : decode cX11_disk 43 = .ok (.iload_n 1, 1) := by decide +kernel
theorem dX11_disk_44 : decode cX11_disk 44 = .ok (.imul, 1) := by decide +kernel
theorem dX11_disk_45 : decode cX11_disk 45 = .ok (.iconst 3, 1) := by decide +kernel
theorem dX11_disk_46 : decode cX11_disk 46 = .ok (.iload 5, 2) := by decide +kernel
theorem dX11_disk_48 : decode cX11_disk 48 = .ok (.imul, 1) := by decide +kernel
theorem dX11_disk_49 : decode cX11_disk 49 = .ok (.iload 5, 2) := by decide +kernel
theorem dX11_disk_51 : decode cX11_disk 51 = .ok (.imul, 1) := by decide +kernel
theorem dX11_disk_52 : decode cX11_disk 52 = .ok (.isub, 1) := by decide +kernel
theorem dX11_disk_53 : decode cX11_disk 53 = .ok (.invokestatic 217, 3) := by decide +kernel
theorem dX11_disk_56 : decode cX11_disk 56 = .ok (.istore 6, 2) := by decide +kernel
theorem dX11_disk_58 : decode cX11_disk 58 = .ok (.iload 6, 2) := by decide +kernel
theorem dX11_disk_60 : decode cX11_disk 60 = .ok (.ifCond .ge 6, 3) := by decide +kernel
theorem dX11_disk_63 : decode cX11_disk 63 = .ok (.goto 54, 3) := by decide +kernel
theorem dX11_disk_66 : decode cX11_disk 66 = .ok (.iload 5, 2) := by decide +kernel
theorem dX11_disk_68 : decode cX11_disk 68 = .ok (.iload 6, 2) := by decide +kernel
theorem dX11_disk_70 : decode cX11_disk 70 = .ok (.iadd, 1) := by decide +kernel
theorem dX11_disk_71 : decode cX11_disk 71 = .ok (.i2l, 1) := by decide +kernel
theorem dX11_disk_72 : decode cX11_disk 72 = .ok (.ldc2_w 119, 3) := by decide +kernel
theorem dX11_disk_75 : decode cX11_disk 75 = .ok (.invokestatic 63, 3) := by decide +kernel
theorem dX11_disk_78 : decode cX11_disk 78 = .ok (.iload 6, 2) := by decide +kernel
theorem dX11_disk_80 : decode cX11_disk 80 = .ok (.iload 5, 2) := by decide +kernel
theorem dX11_disk_82 : decode cX11_disk 82 = .ok (.isub, 1) := by decide +kernel
theorem dX11_disk_83 : decode cX11_disk 83 = .ok (.i2l, 1) := by decide +kernel
theorem dX11_disk_84 : decode cX11_disk 84 = .ok (.ldc2_w 119, 3) := by decide +kernel
theorem dX11_disk_87 : decode cX11_disk 87 = .ok (.invokestatic 63, 3) := by decide +kernel
theorem dX11_disk_90 : decode cX11_disk 90 = .ok (.ladd, 1) := by decide +kernel
theorem dX11_disk_91 : decode cX11_disk 91 = .ok (.l2i, 1) := by decide +kernel
theorem dX11_disk_92 : decode cX11_disk 92 = .ok (.iconst 1, 1) := by decide +kernel
theorem dX11_disk_93 : decode cX11_disk 93 = .ok (.iadd, 1) := by decide +kernel
theorem dX11_disk_94 : decode cX11_disk 94 = .ok (.istore 7, 2) := by decide +kernel
theorem dX11_disk_96 : decode cX11_disk 96 = .ok (.iload_n 3, 1) := by decide +kernel
theorem dX11_disk_97 : decode cX11_disk 97 = .ok (.iload 7, 2) := by decide +kernel
theorem dX11_disk_99 : decode cX11_disk 99 = .ok (.iadd, 1) := by decide +kernel
theorem dX11_disk_100 : decode cX11_disk 100 = .ok (.istore_n 3, 1) := by decide +kernel
theorem dX11_disk_101 : decode cX11_disk 101 = .ok (.iload 7, 2) := by decide +kernel
theorem dX11_disk_103 : decode cX11_disk 103 = .ok (.iload 4, 2) := by decide +kernel
theorem dX11_disk_105 : decode cX11_disk 105 = .ok (.if_icmp .le 8, 3) := by decide +kernel
theorem dX11_disk_108 : decode cX11_disk 108 = .ok (.iload 7, 2) := by decide +kernel
theorem dX11_disk_110 : decode cX11_disk 110 = .ok (.goto 5, 3) := by decide +kernel
theorem dX11_disk_113 : decode cX11_disk 113 = .ok (.iload 4, 2) := by decide +kernel
theorem dX11_disk_115 : decode cX11_disk 115 = .ok (.istore 4, 2) := by decide +kernel
theorem dX11_disk_117 : decode cX11_disk 117 = .ok (.iinc 5 1, 3) := by decide +kernel
theorem dX11_disk_120 : decode cX11_disk 120 = .ok (.goto (-86), 3) := by decide +kernel
theorem dX11_disk_123 : decode cX11_disk 123 = .ok (.iload_n 2, 1) := by decide +kernel
theorem dX11_disk_124 : decode cX11_disk 124 = .ok (.ifCond .ne 7, 3) := by decide +kernel
theorem dX11_disk_127 : decode cX11_disk 127 = .ok (.iload_n 3, 1) := by decide +kernel
theorem dX11_disk_128 : decode cX11_disk 128 = .ok (.goto 5, 3) := by decide +kernel
theorem dX11_disk_131 : decode cX11_disk 131 = .ok (.iload 4, 2) := by decide +kernel
theorem dX11_disk_133 : decode cX11_disk 133 = .ok (.ireturn, 1) := by decide +kernel
theorem dX11_divides_0 : decode cX11_divides 0 = .ok (.aload_n 0, 1) := by decide +kernel
theorem dX11_divides_1 : decode cX11_divides 1 = .ok (.lload 5, 2) := by decide +kernel
theorem dX11_divides_3 : decode cX11_divides 3 = .ok (.lload 7, 2) := by decide +kernel
theorem dX11_divides_5 : decode cX11_divides 5 = .ok (.lload_n 1, 1) := by decide +kernel
theorem dX11_divides_6 : decode cX11_divides 6 = .ok (.lload_n 3, 1) := by decide +kernel
theorem dX11_divides_7 : decode cX11_divides 7 = .ok (.invokevirtual 131, 3) := by decide +kernel
theorem dX11_divides_10 : decode cX11_divides 10 = .ok (.aload_n 0, 1) := by decide +kernel
theorem dX11_divides_11 : decode cX11_divides 11 = .ok (.getfield 105, 3) := by decide +kernel
theorem dX11_divides_14 : decode cX11_divides 14 = .ok (.lconst 0, 1) := by decide +kernel
theorem dX11_divides_15 : decode cX11_divides 15 = .ok (.lcmp, 1) := by decide +kernel
theorem dX11_divides_16 : decode cX11_divides 16 = .ok (.ifCond .ne 16, 3) := by decide +kernel
theorem dX11_divides_19 : decode cX11_divides 19 = .ok (.aload_n 0, 1) := by decide +kernel
theorem dX11_divides_20 : decode cX11_divides 20 = .ok (.getfield 109, 3) := by decide +kernel
theorem dX11_divides_23 : decode cX11_divides 23 = .ok (.lconst 0, 1) := by decide +kernel
theorem dX11_divides_24 : decode cX11_divides 24 = .ok (.lcmp, 1) := by decide +kernel
theorem dX11_divides_25 : decode cX11_divides 25 = .ok (.ifCond .ne 7, 3) := by decide +kernel
theorem dX11_divides_28 : decode cX11_divides 28 = .ok (.iconst 1, 1) := by decide +kernel
theorem dX11_divides_29 : decode cX11_divides 29 = .ok (.goto 4, 3) := by decide +kernel
theorem dX11_divides_32 : decode cX11_divides 32 = .ok (.iconst 0, 1) := by decide +kernel
theorem dX11_divides_33 : decode cX11_divides 33 = .ok (.ireturn, 1) := by decide +kernel
theorem dX11_divisors_0 : decode cX11_divisors 0 = .ok (.iload_n 1, 1) := by decide +kernel
theorem dX11_divisors_1 : decode cX11_divisors 1 = .ok (.invokestatic 85, 3) := by decide +kernel
theorem dX11_divisors_4 : decode cX11_divisors 4 = .ok (.ifCond .eq 32, 3) := by decide +kernel
theorem dX11_divisors_7 : decode cX11_divisors 7 = .ok (.aload_n 0, 1) := by decide +kernel
theorem dX11_divisors_8 : decode cX11_divisors 8 = .ok (.getfield 13, 3) := by decide +kernel
theorem dX11_divisors_11 : decode cX11_divisors 11 = .ok (.iload_n 1, 1) := by decide +kernel
theorem dX11_divisors_12 : decode cX11_divisors 12 = .ok (.baload, 1) := by decide +kernel
theorem dX11_divisors_13 : decode cX11_divisors 13 = .ok (.ifCond .eq 23, 3) := by decide +kernel
theorem dX11_divisors_16 : decode cX11_divisors 16 = .ok (.aload_n 0, 1) := by decide +kernel
theorem dX11_divisors_17 : decode cX11_divisors 17 = .ok (.iload_n 1, 1) := by decide +kernel
theorem dX11_divisors_18 : decode cX11_divisors 18 = .ok (.invokevirtual 178, 3) := by decide +kernel
theorem dX11_divisors_21 : decode cX11_divisors 21 = .ok (.ifCond .ne 15, 3) := by decide +kernel
theorem dX11_divisors_24 : decode cX11_divisors 24 = .ok (.iload_n 2, 1) := by decide +kernel
theorem dX11_divisors_25 : decode cX11_divisors 25 = .ok (.i2l, 1) := by decide +kernel
theorem dX11_divisors_26 : decode cX11_divisors 26 = .ok (.lconst 0, 1) := by decide +kernel
theorem dX11_divisors_27 : decode cX11_divisors 27 = .ok (.ldc2_w 134, 3) := by decide +kernel
theorem dX11_divisors_30 : decode cX11_divisors 30 = .ok (.invokestatic 77, 3) := by decide +kernel
theorem dX11_divisors_33 : decode cX11_divisors 33 = .ok (.ifCond .ne 7, 3) := by decide +kernel
theorem dX11_divisors_36 : decode cX11_divisors 36 = .ok (.ldc2_w 241, 3) := by decide +kernel
theorem dX11_divisors_39 : decode cX11_divisors 39 = .ok (.lreturn, 1) := by decide +kernel
theorem dX11_divisors_40 : decode cX11_divisors 40 = .ok (.aload_n 0, 1) := by decide +kernel
theorem dX11_divisors_41 : decode cX11_divisors 41 = .ok (.aload_n 0, 1) := by decide +kernel
theorem dX11_divisors_42 : decode cX11_divisors 42 = .ok (.getfield 20, 3) := by decide +kernel
theorem dX11_divisors_45 : decode cX11_divisors 45 = .ok (.iload_n 1, 1) := by decide +kernel
theorem dX11_divisors_46 : decode cX11_divisors 46 = .ok (.iaload, 1) := by decide +kernel
theorem dX11_divisors_47 : decode cX11_divisors 47 = .ok (.i2l, 1) := by decide +kernel
theorem dX11_divisors_48 : decode cX11_divisors 48 = .ok (.aload_n 0, 1) := by decide +kernel
theorem dX11_divisors_49 : decode cX11_divisors 49 = .ok (.getfield 24, 3) := by decide +kernel
theorem dX11_divisors_52 : decode cX11_divisors 52 = .ok (.iload_n 1, 1) := by decide +kernel
theorem dX11_divisors_53 : decode cX11_divisors 53 = .ok (.iaload, 1) := by decide +kernel
theorem dX11_divisors_54 : decode cX11_divisors 54 = .ok (.i2l, 1) := by decide +kernel
theorem dX11_divisors_55 : decode cX11_divisors 55 = .ok (.invokevirtual 243, 3) := by decide +kernel
theorem dX11_divisors_58 : decode cX11_divisors 58 = .ok (.iload_n 2, 1) := by decide +kernel
theorem dX11_divisors_59 : decode cX11_divisors 59 = .ok (.ifCond .ne 10, 3) := by decide +kernel
theorem dX11_divisors_62 : decode cX11_divisors 62 = .ok (.aload_n 0, 1) := by decide +kernel
theorem dX11_divisors_63 : decode cX11_divisors 63 = .ok (.getfield 228, 3) := by decide +kernel
theorem dX11_divisors_66 : decode cX11_divisors 66 = .ok (.goto 32, 3) := by decide +kernel
theorem dX11_divisors_69 : decode cX11_divisors 69 = .ok (.iload_n 2, 1) := by decide +kernel
theorem dX11_divisors_70 : decode cX11_divisors 70 = .ok (.iconst 1, 1) := by decide +kernel
theorem dX11_divisors_71 : decode cX11_divisors 71 = .ok (.if_icmp .ne 10, 3) := by decide +kernel
theorem dX11_divisors_74 : decode cX11_divisors 74 = .ok (.aload_n 0, 1) := by decide +kernel
theorem dX11_divisors_75 : decode cX11_divisors 75 = .ok (.getfield 231, 3) := by decide +kernel
theorem dX11_divisors_78 : decode cX11_divisors 78 = .ok (.goto 20, 3) := by decide +kernel
theorem dX11_divisors_81 : decode cX11_divisors 81 = .ok (.iload_n 2, 1) := by decide +kernel
theorem dX11_divisors_82 : decode cX11_divisors 82 = .ok (.iconst 2, 1) := by decide +kernel
theorem dX11_divisors_83 : decode cX11_divisors 83 = .ok (.if_icmp .ne 10, 3) := by decide +kernel
theorem dX11_divisors_86 : decode cX11_divisors 86 = .ok (.aload_n 0, 1) := by decide +kernel
theorem dX11_divisors_87 : decode cX11_divisors 87 = .ok (.getfield 225, 3) := by decide +kernel
theorem dX11_divisors_90 : decode cX11_divisors 90 = .ok (.goto 8, 3) := by decide +kernel
theorem dX11_divisors_93 : decode cX11_divisors 93 = .ok (.aload_n 0, 1) := by decide +kernel
theorem dX11_divisors_94 : decode cX11_divisors 94 = .ok (.getfield 234, 3) := by decide +kernel
theorem dX11_divisors_97 : decode cX11_divisors 97 = .ok (.i2l, 1) := by decide +kernel
theorem dX11_divisors_98 : decode cX11_divisors 98 = .ok (.lreturn, 1) := by decide +kernel
theorem dX11_down_0 : decode cX11_down 0 = .ok (.lload_n 0, 1) := by decide +kernel
theorem dX11_down_1 : decode cX11_down 1 = .ok (.lload_n 2, 1) := by decide +kernel
theorem dX11_down_2 : decode cX11_down 2 = .ok (.ldiv, 1) := by decide +kernel
theorem dX11_down_3 : decode cX11_down 3 = .ok (.lstore 4, 2) := by decide +kernel
theorem dX11_down_5 : decode cX11_down 5 = .ok (.lload_n 0, 1) := by decide +kernel
theorem dX11_down_6 : decode cX11_down 6 = .ok (.lload_n 2, 1) := by decide +kernel
theorem dX11_down_7 : decode cX11_down 7 = .ok (.lrem, 1) := by decide +kernel
theorem dX11_down_8 : decode cX11_down 8 = .ok (.lconst 0, 1) := by decide +kernel
theorem dX11_down_9 : decode cX11_down 9 = .ok (.lcmp, 1) := by decide +kernel
theorem dX11_down_10 : decode cX11_down 10 = .ok (.ifCond .eq 35, 3) := by decide +kernel
theorem dX11_down_13 : decode cX11_down 13 = .ok (.lload_n 0, 1) := by decide +kernel
theorem dX11_down_14 : decode cX11_down 14 = .ok (.lconst 0, 1) := by decide +kernel
theorem dX11_down_15 : decode cX11_down 15 = .ok (.lcmp, 1) := by decide +kernel
theorem dX11_down_16 : decode cX11_down 16 = .ok (.ifCond .ge 7, 3) := by decide +kernel
theorem dX11_down_19 : decode cX11_down 19 = .ok (.iconst 1, 1) := by decide +kernel
theorem dX11_down_20 : decode cX11_down 20 = .ok (.goto 4, 3) := by decide +kernel
theorem dX11_down_23 : decode cX11_down 23 = .ok (.iconst 0, 1) := by decide +kernel
theorem dX11_down_24 : decode cX11_down 24 = .ok (.lload_n 2, 1) := by decide +kernel
theorem dX11_down_25 : decode cX11_down 25 = .ok (.lconst 0, 1) := by decide +kernel
theorem dX11_down_26 : decode cX11_down 26 = .ok (.lcmp, 1) := by decide +kernel
theorem dX11_down_27 : decode cX11_down 27 = .ok (.ifCond .ge 7, 3) := by decide +kernel
theorem dX11_down_30 : decode cX11_down 30 = .ok (.iconst 1, 1) := by decide +kernel
theorem dX11_down_31 : decode cX11_down 31 = .ok (.goto 4, 3) := by decide +kernel
theorem dX11_down_34 : decode cX11_down 34 = .ok (.iconst 0, 1) := by decide +kernel
theorem dX11_down_35 : decode cX11_down 35 = .ok (.if_icmp .eq 10, 3) := by decide +kernel
theorem dX11_down_38 : decode cX11_down 38 = .ok (.lload 4, 2) := by decide +kernel
theorem dX11_down_40 : decode cX11_down 40 = .ok (.lconst 1, 1) := by decide +kernel
theorem dX11_down_41 : decode cX11_down 41 = .ok (.lsub, 1) := by decide +kernel
theorem dX11_down_42 : decode cX11_down 42 = .ok (.goto 5, 3) := by decide +kernel
theorem dX11_down_45 : decode cX11_down 45 = .ok (.lload 4, 2) := by decide +kernel
theorem dX11_down_47 : decode cX11_down 47 = .ok (.lreturn, 1) := by decide +kernel
theorem dX11_draw_0 : decode cX11_draw 0 = .ok (.aload_n 0, 1) := by decide +kernel
theorem dX11_draw_1 : decode cX11_draw 1 = .ok (.sipush 25173, 3) := by decide +kernel
theorem dX11_draw_4 : decode cX11_draw 4 = .ok (.aload_n 0, 1) := by decide +kernel
theorem dX11_draw_5 : decode cX11_draw 5 = .ok (.getfield 447, 3) := by decide +kernel
theorem dX11_draw_8 : decode cX11_draw 8 = .ok (.imul, 1) := by decide +kernel
theorem dX11_draw_9 : decode cX11_draw 9 = .ok (.sipush 13849, 3) := by decide +kernel
theorem dX11_draw_12 : decode cX11_draw 12 = .ok (.iadd, 1) := by decide +kernel
theorem dX11_draw_13 : decode cX11_draw 13 = .ok (.ldc_w 450, 3) := by decide +kernel
theorem dX11_draw_16 : decode cX11_draw 16 = .ok (.irem, 1) := by decide +kernel
theorem dX11_draw_17 : decode cX11_draw 17 = .ok (.putfield 447, 3) := by decide +kernel
theorem dX11_draw_20 : decode cX11_draw 20 = .ok (.aload_n 0, 1) := by decide +kernel
theorem dX11_draw_21 : decode cX11_draw 21 = .ok (.getfield 447, 3) := by decide +kernel
theorem dX11_draw_24 : decode cX11_draw 24 = .ok (.iconst 4, 1) := by decide +kernel
theorem dX11_draw_25 : decode cX11_draw 25 = .ok (.idiv, 1) := by decide +kernel
theorem dX11_draw_26 : decode cX11_draw 26 = .ok (.iload_n 1, 1) := by decide +kernel
theorem dX11_draw_27 : decode cX11_draw 27 = .ok (.irem, 1) := by decide +kernel
theorem dX11_draw_28 : decode cX11_draw 28 = .ok (.ireturn, 1) := by decide +kernel
theorem dX11_drawn_0 : decode cX11_drawn 0 = .ok (.iload_n 1, 1) := by decide +kernel
theorem dX11_drawn_1 : decode cX11_drawn 1 = .ok (.invokestatic 85, 3) := by decide +kernel
theorem dX11_drawn_4 : decode cX11_drawn 4 = .ok (.ifCond .eq 15, 3) := by decide +kernel
theorem dX11_drawn_7 : decode cX11_drawn 7 = .ok (.iload_n 3, 1) := by decide +kernel
theorem dX11_drawn_8 : decode cX11_drawn 8 = .ok (.i2l, 1) := by decide +kernel
theorem dX11_drawn_9 : decode cX11_drawn 9 = .ok (.lconst 1, 1) := by decide +kernel
theorem dX11_drawn_10 : decode cX11_drawn 10 = .ok (.ldc2_w 427, 3) := by decide +kernel
theorem dX11_drawn_13 : decode cX11_drawn 13 = .ok (.invokestatic 77, 3) := by decide +kernel
theorem dX11_drawn_16 : decode cX11_drawn 16 = .ok (.ifCond .ne 5, 3) := by decide +kernel
theorem dX11_drawn_19 : decode cX11_drawn 19 = .ok (.iconst (-1), 1) := by decide +kernel
theorem dX11_drawn_20 : decode cX11_drawn 20 = .ok (.ireturn, 1) := by decide +kernel
theorem dX11_drawn_21 : decode cX11_drawn 21 = .ok (.aload_n 0, 1) := by decide +kernel
theorem dX11_drawn_22 : decode cX11_drawn 22 = .ok (.iload_n 2, 1) := by decide +kernel
theorem dX11_drawn_23 : decode cX11_drawn 23 = .ok (.ldc_w 451, 3) := by decide +kernel
theorem dX11_drawn_26 : decode cX11_drawn 26 = .ok (.iand, 1) := by decide +kernel
theorem dX11_drawn_27 : decode cX11_drawn 27 = .ok (.putfield 447, 3) := by decide +kernel
theorem dX11_drawn_30 : decode cX11_drawn 30 = .ok (.aload_n 0, 1) := by decide +kernel
theorem dX11_drawn_31 : decode cX11_drawn 31 = .ok (.iconst 2, 1) := by decide +kernel
theorem dX11_drawn_32 : decode cX11_drawn 32 = .ok (.iload_n 3, 1) := by decide +kernel
theorem dX11_drawn_33 : decode cX11_drawn 33 = .ok (.imul, 1) := by decide +kernel
theorem dX11_drawn_34 : decode cX11_drawn 34 = .ok (.iconst 1, 1) := by decide +kernel
theorem dX11_drawn_35 : decode cX11_drawn 35 = .ok (.iadd, 1) := by decide +kernel
theorem dX11_drawn_36 : decode cX11_drawn 36 = .ok (.invokevirtual 452, 3) := by decide +kernel
theorem dX11_drawn_39 : decode cX11_drawn 39 = .ok (.iload_n 3, 1) := by decide +kernel
theorem dX11_drawn_40 : decode cX11_drawn 40 = .ok (.isub, 1) := by decide +kernel
theorem dX11_drawn_41 : decode cX11_drawn 41 = .ok (.istore 4, 2) := by decide +kernel
theorem dX11_drawn_43 : decode cX11_drawn 43 = .ok (.aload_n 0, 1) := by decide +kernel
theorem dX11_drawn_44 : decode cX11_drawn 44 = .ok (.iconst 2, 1) := by decide +kernel
theorem dX11_drawn_45 : decode cX11_drawn 45 = .ok (.iload_n 3, 1) := by decide +kernel
theorem dX11_drawn_46 : decode cX11_drawn 46 = .ok (.imul, 1) := by decide +kernel
theorem dX11_drawn_47 : decode cX11_drawn 47 = .ok (.iconst 1, 1) := by decide +kernel
theorem dX11_drawn_48 : decode cX11_drawn 48 = .ok (.iadd, 1) := by decide +kernel
theorem dX11_drawn_49 : decode cX11_drawn 49 = .ok (.invokevirtual 452, 3) := by decide +kernel
theorem dX11_drawn_52 : decode cX11_drawn 52 = .ok (.iload_n 3, 1) := by decide +kernel
theorem dX11_drawn_53 : decode cX11_drawn 53 = .ok (.isub, 1) := by decide +kernel
theorem dX11_drawn_54 : decode cX11_drawn 54 = .ok (.istore 5, 2) := by decide +kernel
theorem dX11_drawn_56 : decode cX11_drawn 56 = .ok (.aload_n 0, 1) := by decide +kernel
theorem dX11_drawn_57 : decode cX11_drawn 57 = .ok (.iload_n 1, 1) := by decide +kernel
theorem dX11_drawn_58 : decode cX11_drawn 58 = .ok (.iload 4, 2) := by decide +kernel
theorem dX11_drawn_60 : decode cX11_drawn 60 = .ok (.i2l, 1) := by decide +kernel
theorem dX11_drawn_61 : decode cX11_drawn 61 = .ok (.iload 5, 2) := by decide +kernel
theorem dX11_drawn_63 : decode cX11_drawn 63 = .ok (.i2l, 1) := by decide +kernel
theorem dX11_drawn_64 : decode cX11_drawn 64 = .ok (.invokevirtual 93, 3) := by decide +kernel
theorem dX11_drawn_67 : decode cX11_drawn 67 = .ok (.aload_n 0, 1) := by decide +kernel
theorem dX11_drawn_68 : decode cX11_drawn 68 = .ok (.getfield 447, 3) := by decide +kernel
theorem dX11_drawn_71 : decode cX11_drawn 71 = .ok (.ireturn, 1) := by decide +kernel
theorem dX11_feed_0 : decode cX11_feed 0 = .ok (.aload_n 0, 1) := by decide +kernel
theorem dX11_feed_1 : decode cX11_feed 1 = .ok (.getfield 67, 3) := by decide +kernel
theorem dX11_feed_4 : decode cX11_feed 4 = .ok (.bipush 20, 2) := by decide +kernel
theorem dX11_feed_6 : decode cX11_feed 6 = .ok (.iadd, 1) := by decide +kernel
theorem dX11_feed_7 : decode cX11_feed 7 = .ok (.bipush 80, 2) := by decide +kernel
theorem dX11_feed_9 : decode cX11_feed 9 = .ok (.if_icmp .le 5, 3) := by decide +kernel
theorem dX11_feed_12 : decode cX11_feed 12 = .ok (.iconst (-1), 1) := by decide +kernel
theorem dX11_feed_13 : decode cX11_feed 13 = .ok (.ireturn, 1) := by decide +kernel
theorem dX11_feed_14 : decode cX11_feed 14 = .ok (.aload_n 0, 1) := by decide +kernel
theorem dX11_feed_15 : decode cX11_feed 15 = .ok (.iload_n 1, 1) := by decide +kernel
theorem dX11_feed_16 : decode cX11_feed 16 = .ok (.invokevirtual 71, 3) := by decide +kernel
theorem dX11_feed_19 : decode cX11_feed 19 = .ok (.aload_n 0, 1) := by decide +kernel
theorem dX11_feed_20 : decode cX11_feed 20 = .ok (.iload_n 2, 1) := by decide +kernel
theorem dX11_feed_21 : decode cX11_feed 21 = .ok (.invokevirtual 71, 3) := by decide +kernel
theorem dX11_feed_24 : decode cX11_feed 24 = .ok (.aload_n 0, 1) := by decide +kernel
theorem dX11_feed_25 : decode cX11_feed 25 = .ok (.iload_n 3, 1) := by decide +kernel
theorem dX11_feed_26 : decode cX11_feed 26 = .ok (.invokevirtual 71, 3) := by decide +kernel
theorem dX11_feed_29 : decode cX11_feed 29 = .ok (.aload_n 0, 1) := by decide +kernel
theorem dX11_feed_30 : decode cX11_feed 30 = .ok (.iload 4, 2) := by decide +kernel
theorem dX11_feed_32 : decode cX11_feed 32 = .ok (.invokevirtual 71, 3) := by decide +kernel
theorem dX11_feed_35 : decode cX11_feed 35 = .ok (.aload_n 0, 1) := by decide +kernel
theorem dX11_feed_36 : decode cX11_feed 36 = .ok (.iload 5, 2) := by decide +kernel
theorem dX11_feed_38 : decode cX11_feed 38 = .ok (.invokevirtual 71, 3) := by decide +kernel
theorem dX11_feed_41 : decode cX11_feed 41 = .ok (.aload_n 0, 1) := by decide +kernel
theorem dX11_feed_42 : decode cX11_feed 42 = .ok (.getfield 67, 3) := by decide +kernel
theorem dX11_feed_45 : decode cX11_feed 45 = .ok (.ireturn, 1) := by decide +kernel
theorem dX11_fits_0 : decode cX11_fits 0 = .ok (.iconst 0, 1) := by decide +kernel
theorem dX11_fits_1 : decode cX11_fits 1 = .ok (.istore 5, 2) := by decide +kernel
theorem dX11_fits_3 : decode cX11_fits 3 = .ok (.lload_n 1, 1) := by decide +kernel
theorem dX11_fits_4 : decode cX11_fits 4 = .ok (.iload 5, 2) := by decide +kernel
theorem dX11_fits_6 : decode cX11_fits 6 = .ok (.lshr, 1) := by decide +kernel
theorem dX11_fits_7 : decode cX11_fits 7 = .ok (.ldc2_w 414, 3) := by decide +kernel
theorem dX11_fits_10 : decode cX11_fits 10 = .ok (.lcmp, 1) := by decide +kernel
theorem dX11_fits_11 : decode cX11_fits 11 = .ok (.ifCond .lt 12, 3) := by decide +kernel
theorem dX11_fits_14 : decode cX11_fits 14 = .ok (.iload 5, 2) := by decide +kernel
theorem dX11_fits_16 : decode cX11_fits 16 = .ok (.iconst 1, 1) := by decide +kernel
theorem dX11_fits_17 : decode cX11_fits 17 = .ok (.iadd, 1) := by decide +kernel
theorem dX11_fits_18 : decode cX11_fits 18 = .ok (.istore 5, 2) := by decide +kernel
theorem dX11_fits_20 : decode cX11_fits 20 = .ok (.goto (-17), 3) := by decide +kernel
theorem dX11_fits_23 : decode cX11_fits 23 = .ok (.iload 5, 2) := by decide +kernel
theorem dX11_fits_25 : decode cX11_fits 25 = .ok (.ifCond .ne 54, 3) := by decide +kernel
theorem dX11_fits_28 : decode cX11_fits 28 = .ok (.aload_n 0, 1) := by decide +kernel
theorem dX11_fits_29 : decode cX11_fits 29 = .ok (.lload_n 1, 1) := by decide +kernel
theorem dX11_fits_30 : decode cX11_fits 30 = .ok (.putfield 416, 3) := by decide +kernel
theorem dX11_fits_33 : decode cX11_fits 33 = .ok (.aload_n 0, 1) := by decide +kernel
theorem dX11_fits_34 : decode cX11_fits 34 = .ok (.iload_n 3, 1) := by decide +kernel
theorem dX11_fits_35 : decode cX11_fits 35 = .ok (.putfield 419, 3) := by decide +kernel
theorem dX11_fits_38 : decode cX11_fits 38 = .ok (.ldc2_w 119, 3) := by decide +kernel
theorem dX11_fits_41 : decode cX11_fits 41 = .ok (.aload_n 0, 1) := by decide +kernel
theorem dX11_fits_42 : decode cX11_fits 42 = .ok (.getfield 416, 3) := by decide +kernel
theorem dX11_fits_45 : decode cX11_fits 45 = .ok (.lmul, 1) := by decide +kernel
theorem dX11_fits_46 : decode cX11_fits 46 = .ok (.ldc2_w 414, 3) := by decide +kernel
theorem dX11_fits_49 : decode cX11_fits 49 = .ok (.lcmp, 1) := by decide +kernel
theorem dX11_fits_50 : decode cX11_fits 50 = .ok (.ifCond .ge 28, 3) := by decide +kernel
theorem dX11_fits_53 : decode cX11_fits 53 = .ok (.aload_n 0, 1) := by decide +kernel
theorem dX11_fits_54 : decode cX11_fits 54 = .ok (.ldc2_w 119, 3) := by decide +kernel
theorem dX11_fits_57 : decode cX11_fits 57 = .ok (.aload_n 0, 1) := by decide +kernel
theorem dX11_fits_58 : decode cX11_fits 58 = .ok (.getfield 416, 3) := by decide +kernel
theorem dX11_fits_61 : decode cX11_fits 61 = .ok (.lmul, 1) := by decide +kernel
theorem dX11_fits_62 : decode cX11_fits 62 = .ok (.putfield 416, 3) := by decide +kernel
theorem dX11_fits_65 : decode cX11_fits 65 = .ok (.aload_n 0, 1) := by decide +kernel
theorem dX11_fits_66 : decode cX11_fits 66 = .ok (.aload_n 0, 1) := by decide +kernel
theorem dX11_fits_67 : decode cX11_fits 67 = .ok (.getfield 419, 3) := by decide +kernel
theorem dX11_fits_70 : decode cX11_fits 70 = .ok (.iconst 1, 1) := by decide +kernel
theorem dX11_fits_71 : decode cX11_fits 71 = .ok (.isub, 1) := by decide +kernel
theorem dX11_fits_72 : decode cX11_fits 72 = .ok (.putfield 419, 3) := by decide +kernel
theorem dX11_fits_75 : decode cX11_fits 75 = .ok (.goto (-37), 3) := by decide +kernel
theorem dX11_fits_78 : decode cX11_fits 78 = .ok (.return_, 1) := by decide +kernel
theorem dX11_fits_79 : decode cX11_fits 79 = .ok (.lconst 1, 1) := by decide +kernel
theorem dX11_fits_80 : decode cX11_fits 80 = .ok (.iload 5, 2) := by decide +kernel
theorem dX11_fits_82 : decode cX11_fits 82 = .ok (.iconst 1, 1) := by decide +kernel
theorem dX11_fits_83 : decode cX11_fits 83 = .ok (.isub, 1) := by decide +kernel
theorem dX11_fits_84 : decode cX11_fits 84 = .ok (.lshl, 1) := by decide +kernel
theorem dX11_fits_85 : decode cX11_fits 85 = .ok (.lstore 6, 2) := by decide +kernel
theorem dX11_fits_87 : decode cX11_fits 87 = .ok (.lload_n 1, 1) := by decide +kernel
theorem dX11_fits_88 : decode cX11_fits 88 = .ok (.ldc2_w 119, 3) := by decide +kernel
theorem dX11_fits_91 : decode cX11_fits 91 = .ok (.lload 6, 2) := by decide +kernel
theorem dX11_fits_93 : decode cX11_fits 93 = .ok (.lmul, 1) := by decide +kernel
theorem dX11_fits_94 : decode cX11_fits 94 = .ok (.lconst 1, 1) := by decide +kernel
theorem dX11_fits_95 : decode cX11_fits 95 = .ok (.lsub, 1) := by decide +kernel
theorem dX11_fits_96 : decode cX11_fits 96 = .ok (.land, 1) := by decide +kernel
theorem dX11_fits_97 : decode cX11_fits 97 = .ok (.lstore 8, 2) := by decide +kernel
theorem dX11_fits_99 : decode cX11_fits 99 = .ok (.aload_n 0, 1) := by decide +kernel
theorem dX11_fits_100 : decode cX11_fits 100 = .ok (.lload_n 1, 1) := by decide +kernel
theorem dX11_fits_101 : decode cX11_fits 101 = .ok (.iload 5, 2) := by decide +kernel
theorem dX11_fits_103 : decode cX11_fits 103 = .ok (.lshr, 1) := by decide +kernel
theorem dX11_fits_104 : decode cX11_fits 104 = .ok (.putfield 416, 3) := by decide +kernel
theorem dX11_fits_107 : decode cX11_fits 107 = .ok (.aload_n 0, 1) := by decide +kernel
theorem dX11_fits_108 : decode cX11_fits 108 = .ok (.iload_n 3, 1) := by decide +kernel
theorem dX11_fits_109 : decode cX11_fits 109 = .ok (.iload 5, 2) := by decide +kernel
theorem dX11_fits_111 : decode cX11_fits 111 = .ok (.iadd, 1) := by decide +kernel
theorem dX11_fits_112 : decode cX11_fits 112 = .ok (.putfield 419, 3) := by decide +kernel
theorem dX11_fits_115 : decode cX11_fits 115 = .ok (.lload 8, 2) := by decide +kernel
theorem dX11_fits_117 : decode cX11_fits 117 = .ok (.lload 6, 2) := by decide +kernel
theorem dX11_fits_119 : decode cX11_fits 119 = .ok (.lcmp, 1) := by decide +kernel
theorem dX11_fits_120 : decode cX11_fits 120 = .ok (.ifCond .gt 29, 3) := by decide +kernel
theorem dX11_fits_123 : decode cX11_fits 123 = .ok (.lload 8, 2) := by decide +kernel
theorem dX11_fits_125 : decode cX11_fits 125 = .ok (.lload 6, 2) := by decide +kernel
theorem dX11_fits_127 : decode cX11_fits 127 = .ok (.lcmp, 1) := by decide +kernel
theorem dX11_fits_128 : decode cX11_fits 128 = .ok (.ifCond .ne 25, 3) := by decide +kernel
theorem dX11_fits_131 : decode cX11_fits 131 = .ok (.iload 4, 2) := by decide +kernel
theorem dX11_fits_133 : decode cX11_fits 133 = .ok (.ifCond .ne 16, 3) := by decide +kernel
theorem dX11_fits_136 : decode cX11_fits 136 = .ok (.aload_n 0, 1) := by decide +kernel
theorem dX11_fits_137 : decode cX11_fits 137 = .ok (.getfield 416, 3) := by decide +kernel
theorem dX11_fits_140 : decode cX11_fits 140 = .ok (.ldc2_w 119, 3) := by decide +kernel
theorem dX11_fits_143 : decode cX11_fits 143 = .ok (.lrem, 1) := by decide +kernel
theorem dX11_fits_144 : decode cX11_fits 144 = .ok (.lconst 1, 1) := by decide +kernel
theorem dX11_fits_145 : decode cX11_fits 145 = .ok (.lcmp, 1) := by decide +kernel
theorem dX11_fits_146 : decode cX11_fits 146 = .ok (.ifCond .ne 7, 3) := by decide +kernel
theorem dX11_fits_149 : decode cX11_fits 149 = .ok (.iconst 1, 1) := by decide +kernel
theorem dX11_fits_150 : decode cX11_fits 150 = .ok (.goto 4, 3) := by decide +kernel
theorem dX11_fits_153 : decode cX11_fits 153 = .ok (.iconst 0, 1) := by decide +kernel
theorem dX11_fits_154 : decode cX11_fits 154 = .ok (.istore 10, 2) := by decide +kernel
theorem dX11_fits_156 : decode cX11_fits 156 = .ok (.aload_n 0, 1) := by decide +kernel
theorem dX11_fits_157 : decode cX11_fits 157 = .ok (.iload 10, 2) := by decide +kernel
theorem dX11_fits_159 : decode cX11_fits 159 = .ok (.ifCond .eq 12, 3) := by decide +kernel
theorem dX11_fits_162 : decode cX11_fits 162 = .ok (.aload_n 0, 1) := by decide +kernel
theorem dX11_fits_163 : decode cX11_fits 163 = .ok (.getfield 416, 3) := by decide +kernel
theorem dX11_fits_166 : decode cX11_fits 166 = .ok (.lconst 1, 1) := by decide +kernel
theorem dX11_fits_167 : decode cX11_fits 167 = .ok (.ladd, 1) := by decide +kernel
theorem dX11_fits_168 : decode cX11_fits 168 = .ok (.goto 7, 3) := by decide +kernel
theorem dX11_fits_171 : decode cX11_fits 171 = .ok (.aload_n 0, 1) := by decide +kernel
theorem dX11_fits_172 : decode cX11_fits 172 = .ok (.getfield 416, 3) := by decide +kernel
theorem dX11_fits_175 : decode cX11_fits 175 = .ok (.putfield 416, 3) := by decide +kernel
theorem dX11_fits_178 : decode cX11_fits 178 = .ok (.aload_n 0, 1) := by decide +kernel
theorem dX11_fits_179 : decode cX11_fits 179 = .ok (.getfield 416, 3) := by decide +kernel
theorem dX11_fits_182 : decode cX11_fits 182 = .ok (.ldc2_w 414, 3) := by decide +kernel
theorem dX11_fits_185 : decode cX11_fits 185 = .ok (.lcmp, 1) := by decide +kernel
theorem dX11_fits_186 : decode cX11_fits 186 = .ok (.ifCond .ne 25, 3) := by decide +kernel
theorem dX11_fits_189 : decode cX11_fits 189 = .ok (.aload_n 0, 1) := by decide +kernel
theorem dX11_fits_190 : decode cX11_fits 190 = .ok (.aload_n 0, 1) := by decide +kernel
theorem dX11_fits_191 : decode cX11_fits 191 = .ok (.getfield 416, 3) := by decide +kernel
theorem dX11_fits_194 : decode cX11_fits 194 = .ok (.ldc2_w 119, 3) := by decide +kernel
theorem dX11_fits_197 : decode cX11_fits 197 = .ok (.ldiv, 1) := by decide +kernel
theorem dX11_fits_198 : decode cX11_fits 198 = .ok (.putfield 416, 3) := by decide +kernel
theorem dX11_fits_201 : decode cX11_fits 201 = .ok (.aload_n 0, 1) := by decide +kernel
theorem dX11_fits_202 : decode cX11_fits 202 = .ok (.aload_n 0, 1) := by decide +kernel
theorem dX11_fits_203 : decode cX11_fits 203 = .ok (.getfield 419, 3) := by decide +kernel
theorem dX11_fits_206 : decode cX11_fits 206 = .ok (.iconst 1, 1) := by decide +kernel
theorem dX11_fits_207 : decode cX11_fits 207 = .ok (.iadd, 1) := by decide +kernel
theorem dX11_fits_208 : decode cX11_fits 208 = .ok (.putfield 419, 3) := by decide +kernel
theorem dX11_fits_211 : decode cX11_fits 211 = .ok (.return_, 1) := by decide +kernel
theorem dX11_greatest_0 : decode cX11_greatest 0 = .ok (.iload_n 1, 1) := by decide +kernel
theorem dX11_greatest_1 : decode cX11_greatest 1 = .ok (.invokestatic 85, 3) := by decide +kernel
theorem dX11_greatest_4 : decode cX11_greatest 4 = .ok (.ifCond .eq 13, 3) := by decide +kernel
theorem dX11_greatest_7 : decode cX11_greatest 7 = .ok (.iload_n 2, 1) := by decide +kernel
theorem dX11_greatest_8 : decode cX11_greatest 8 = .ok (.i2l, 1) := by decide +kernel
theorem dX11_greatest_9 : decode cX11_greatest 9 = .ok (.lconst 0, 1) := by decide +kernel
theorem dX11_greatest_10 : decode cX11_greatest 10 = .ok (.lconst 1, 1) := by decide +kernel
theorem dX11_greatest_11 : decode cX11_greatest 11 = .ok (.invokestatic 77, 3) := by decide +kernel
theorem dX11_greatest_14 : decode cX11_greatest 14 = .ok (.ifCond .ne 5, 3) := by decide +kernel
theorem dX11_greatest_17 : decode cX11_greatest 17 = .ok (.iconst (-1), 1) := by decide +kernel
theorem dX11_greatest_18 : decode cX11_greatest 18 = .ok (.ireturn, 1) := by decide +kernel
theorem dX11_greatest_19 : decode cX11_greatest 19 = .ok (.aload_n 0, 1) := by decide +kernel
theorem dX11_greatest_20 : decode cX11_greatest 20 = .ok (.getfield 13, 3) := by decide +kernel
theorem dX11_greatest_23 : decode cX11_greatest 23 = .ok (.iload_n 1, 1) := by decide +kernel
theorem dX11_greatest_24 : decode cX11_greatest 24 = .ok (.baload, 1) := by decide +kernel
theorem dX11_greatest_25 : decode cX11_greatest 25 = .ok (.ifCond .ne 6, 3) := by decide +kernel
theorem dX11_greatest_28 : decode cX11_greatest 28 = .ok (.bipush (-2), 2) := by decide +kernel
theorem dX11_greatest_30 : decode cX11_greatest 30 = .ok (.ireturn, 1) := by decide +kernel
theorem dX11_greatest_31 : decode cX11_greatest 31 = .ok (.aload_n 0, 1) := by decide +kernel
theorem dX11_greatest_32 : decode cX11_greatest 32 = .ok (.iload_n 1, 1) := by decide +kernel
theorem dX11_greatest_33 : decode cX11_greatest 33 = .ok (.sipush 500, 3) := by decide +kernel
theorem dX11_greatest_36 : decode cX11_greatest 36 = .ok (.invokevirtual 331, 3) := by decide +kernel
theorem dX11_greatest_39 : decode cX11_greatest 39 = .ok (.ifCond .eq 6, 3) := by decide +kernel
theorem dX11_greatest_42 : decode cX11_greatest 42 = .ok (.bipush (-3), 2) := by decide +kernel
theorem dX11_greatest_44 : decode cX11_greatest 44 = .ok (.ireturn, 1) := by decide +kernel
theorem dX11_greatest_45 : decode cX11_greatest 45 = .ok (.aload_n 0, 1) := by decide +kernel
theorem dX11_greatest_46 : decode cX11_greatest 46 = .ok (.aload_n 0, 1) := by decide +kernel
theorem dX11_greatest_47 : decode cX11_greatest 47 = .ok (.getfield 20, 3) := by decide +kernel
theorem dX11_greatest_50 : decode cX11_greatest 50 = .ok (.iload_n 1, 1) := by decide +kernel
theorem dX11_greatest_51 : decode cX11_greatest 51 = .ok (.iaload, 1) := by decide +kernel
theorem dX11_greatest_52 : decode cX11_greatest 52 = .ok (.i2l, 1) := by decide +kernel
theorem dX11_greatest_53 : decode cX11_greatest 53 = .ok (.aload_n 0, 1) := by decide +kernel
theorem dX11_greatest_54 : decode cX11_greatest 54 = .ok (.getfield 24, 3) := by decide +kernel
theorem dX11_greatest_57 : decode cX11_greatest 57 = .ok (.iload_n 1, 1) := by decide +kernel
theorem dX11_greatest_58 : decode cX11_greatest 58 = .ok (.iaload, 1) := by decide +kernel
theorem dX11_greatest_59 : decode cX11_greatest 59 = .ok (.i2l, 1) := by decide +kernel
theorem dX11_greatest_60 : decode cX11_greatest 60 = .ok (.invokevirtual 273, 3) := by decide +kernel
theorem dX11_greatest_63 : decode cX11_greatest 63 = .ok (.aload_n 0, 1) := by decide +kernel
theorem dX11_greatest_64 : decode cX11_greatest 64 = .ok (.aload_n 0, 1) := by decide +kernel
theorem dX11_greatest_65 : decode cX11_greatest 65 = .ok (.getfield 20, 3) := by decide +kernel
theorem dX11_greatest_68 : decode cX11_greatest 68 = .ok (.iload_n 1, 1) := by decide +kernel
theorem dX11_greatest_69 : decode cX11_greatest 69 = .ok (.iaload, 1) := by decide +kernel
theorem dX11_greatest_70 : decode cX11_greatest 70 = .ok (.i2l, 1) := by decide +kernel
theorem dX11_greatest_71 : decode cX11_greatest 71 = .ok (.aload_n 0, 1) := by decide +kernel
theorem dX11_greatest_72 : decode cX11_greatest 72 = .ok (.getfield 24, 3) := by decide +kernel
theorem dX11_greatest_75 : decode cX11_greatest 75 = .ok (.iload_n 1, 1) := by decide +kernel
theorem dX11_greatest_76 : decode cX11_greatest 76 = .ok (.iaload, 1) := by decide +kernel
theorem dX11_greatest_77 : decode cX11_greatest 77 = .ok (.i2l, 1) := by decide +kernel
theorem dX11_greatest_78 : decode cX11_greatest 78 = .ok (.invokevirtual 337, 3) := by decide +kernel
theorem dX11_greatest_81 : decode cX11_greatest 81 = .ok (.iconst 0, 1) := by decide +kernel
theorem dX11_greatest_82 : decode cX11_greatest 82 = .ok (.istore_n 3, 1) := by decide +kernel
theorem dX11_greatest_83 : decode cX11_greatest 83 = .ok (.iconst 0, 1) := by decide +kernel
theorem dX11_greatest_84 : decode cX11_greatest 84 = .ok (.istore 4, 2) := by decide +kernel
theorem dX11_greatest_86 : decode cX11_greatest 86 = .ok (.iconst 0, 1) := by decide +kernel
theorem dX11_greatest_87 : decode cX11_greatest 87 = .ok (.istore 5, 2) := by decide +kernel
theorem dX11_greatest_89 : decode cX11_greatest 89 = .ok (.iload 5, 2) := by decide +kernel
theorem dX11_greatest_91 : decode cX11_greatest 91 = .ok (.aload_n 0, 1) := by decide +kernel
theorem dX11_greatest_92 : decode cX11_greatest 92 = .ok (.invokevirtual 321, 3) := by decide +kernel
theorem dX11_greatest_95 : decode cX11_greatest 95 = .ok (.if_icmp .ge 82, 3) := by decide +kernel
theorem dX11_greatest_98 : decode cX11_greatest 98 = .ok (.aload_n 0, 1) := by decide +kernel
theorem dX11_greatest_99 : decode cX11_greatest 99 = .ok (.getfield 45, 3) := by decide +kernel
theorem dX11_greatest_102 : decode cX11_greatest 102 = .ok (.iload 5, 2) := by decide +kernel
theorem dX11_greatest_104 : decode cX11_greatest 104 = .ok (.baload, 1) := by decide +kernel
theorem dX11_greatest_105 : decode cX11_greatest 105 = .ok (.ifCond .ne 6, 3) := by decide +kernel
theorem dX11_greatest_108 : decode cX11_greatest 108 = .ok (.goto 63, 3) := by decide +kernel
theorem dX11_greatest_111 : decode cX11_greatest 111 = .ok (.aload_n 0, 1) := by decide +kernel
theorem dX11_greatest_112 : decode cX11_greatest 112 = .ok (.iload 5, 2) := by decide +kernel
theorem dX11_greatest_114 : decode cX11_greatest 114 = .ok (.invokevirtual 318, 3) := by decide +kernel
theorem dX11_greatest_117 : decode cX11_greatest 117 = .ok (.aload_n 0, 1) := by decide +kernel
theorem dX11_greatest_118 : decode cX11_greatest 118 = .ok (.aload_n 0, 1) := by decide +kernel
theorem dX11_greatest_119 : decode cX11_greatest 119 = .ok (.getfield 105, 3) := by decide +kernel
theorem dX11_greatest_122 : decode cX11_greatest 122 = .ok (.aload_n 0, 1) := by decide +kernel
theorem dX11_greatest_123 : decode cX11_greatest 123 = .ok (.getfield 109, 3) := by decide +kernel
theorem dX11_greatest_126 : decode cX11_greatest 126 = .ok (.invokevirtual 346, 3) := by decide +kernel
theorem dX11_greatest_129 : decode cX11_greatest 129 = .ok (.istore 6, 2) := by decide +kernel
theorem dX11_greatest_131 : decode cX11_greatest 131 = .ok (.iload 6, 2) := by decide +kernel
theorem dX11_greatest_133 : decode cX11_greatest 133 = .ok (.iload_n 3, 1) := by decide +kernel
theorem dX11_greatest_134 : decode cX11_greatest 134 = .ok (.if_icmp .le 7, 3) := by decide +kernel
theorem dX11_greatest_137 : decode cX11_greatest 137 = .ok (.iconst 1, 1) := by decide +kernel
theorem dX11_greatest_138 : decode cX11_greatest 138 = .ok (.goto 18, 3) := by decide +kernel
theorem dX11_greatest_141 : decode cX11_greatest 141 = .ok (.iload 6, 2) := by decide +kernel
theorem dX11_greatest_143 : decode cX11_greatest 143 = .ok (.iload_n 3, 1) := by decide +kernel
theorem dX11_greatest_144 : decode cX11_greatest 144 = .ok (.if_icmp .ne 10, 3) := by decide +kernel
theorem dX11_greatest_147 : decode cX11_greatest 147 = .ok (.iload 4, 2) := by decide +kernel
theorem dX11_greatest_149 : decode cX11_greatest 149 = .ok (.iconst 1, 1) := by decide +kernel
theorem dX11_greatest_150 : decode cX11_greatest 150 = .ok (.iadd, 1) := by decide +kernel
theorem dX11_greatest_151 : decode cX11_greatest 151 = .ok (.goto 5, 3) := by decide +kernel
theorem dX11_greatest_154 : decode cX11_greatest 154 = .ok (.iload 4, 2) := by decide +kernel
theorem dX11_greatest_156 : decode cX11_greatest 156 = .ok (.istore 4, 2) := by decide +kernel
theorem dX11_greatest_158 : decode cX11_greatest 158 = .ok (.iload 6, 2) := by decide +kernel
theorem dX11_greatest_160 : decode cX11_greatest 160 = .ok (.iload_n 3, 1) := by decide +kernel
theorem dX11_greatest_161 : decode cX11_greatest 161 = .ok (.if_icmp .le 8, 3) := by decide +kernel
theorem dX11_greatest_164 : decode cX11_greatest 164 = .ok (.iload 6, 2) := by decide +kernel
theorem dX11_greatest_166 : decode cX11_greatest 166 = .ok (.goto 4, 3) := by decide +kernel
theorem dX11_greatest_169 : decode cX11_greatest 169 = .ok (.iload_n 3, 1) := by decide +kernel
theorem dX11_greatest_170 : decode cX11_greatest 170 = .ok (.istore_n 3, 1) := by decide +kernel
theorem dX11_greatest_171 : decode cX11_greatest 171 = .ok (.iinc 5 1, 3) := by decide +kernel
theorem dX11_greatest_174 : decode cX11_greatest 174 = .ok (.goto (-85), 3) := by decide +kernel
theorem dX11_greatest_177 : decode cX11_greatest 177 = .ok (.iload_n 2, 1) := by decide +kernel
theorem dX11_greatest_178 : decode cX11_greatest 178 = .ok (.ifCond .ne 7, 3) := by decide +kernel
theorem dX11_greatest_181 : decode cX11_greatest 181 = .ok (.iload_n 3, 1) := by decide +kernel
theorem dX11_greatest_182 : decode cX11_greatest 182 = .ok (.goto 5, 3) := by decide +kernel
theorem dX11_greatest_185 : decode cX11_greatest 185 = .ok (.iload 4, 2) := by decide +kernel
theorem dX11_greatest_187 : decode cX11_greatest 187 = .ok (.ireturn, 1) := by decide +kernel
theorem dX11_hasBoth_0 : decode cX11_hasBoth 0 = .ok (.aload_n 0, 1) := by decide +kernel
theorem dX11_hasBoth_1 : decode cX11_hasBoth 1 = .ok (.getfield 13, 3) := by decide +kernel
theorem dX11_hasBoth_4 : decode cX11_hasBoth 4 = .ok (.iload_n 1, 1) := by decide +kernel
theorem dX11_hasBoth_5 : decode cX11_hasBoth 5 = .ok (.baload, 1) := by decide +kernel
theorem dX11_hasBoth_6 : decode cX11_hasBoth 6 = .ok (.ifCond .eq 16, 3) := by decide +kernel
theorem dX11_hasBoth_9 : decode cX11_hasBoth 9 = .ok (.aload_n 0, 1) := by decide +kernel
theorem dX11_hasBoth_10 : decode cX11_hasBoth 10 = .ok (.getfield 13, 3) := by decide +kernel
theorem dX11_hasBoth_13 : decode cX11_hasBoth 13 = .ok (.iload_n 2, 1) := by decide +kernel
theorem dX11_hasBoth_14 : decode cX11_hasBoth 14 = .ok (.baload, 1) := by decide +kernel
theorem dX11_hasBoth_15 : decode cX11_hasBoth 15 = .ok (.ifCond .eq 7, 3) := by decide +kernel
theorem dX11_hasBoth_18 : decode cX11_hasBoth 18 = .ok (.iconst 1, 1) := by decide +kernel
theorem dX11_hasBoth_19 : decode cX11_hasBoth 19 = .ok (.goto 4, 3) := by decide +kernel
theorem dX11_hasBoth_22 : decode cX11_hasBoth 22 = .ok (.iconst 0, 1) := by decide +kernel
theorem dX11_hasBoth_23 : decode cX11_hasBoth 23 = .ok (.ireturn, 1) := by decide +kernel
theorem dX11_hasSign_0 : decode cX11_hasSign 0 = .ok (.aload_n 0, 1) := by decide +kernel
theorem dX11_hasSign_1 : decode cX11_hasSign 1 = .ok (.iload_n 1, 1) := by decide +kernel
theorem dX11_hasSign_2 : decode cX11_hasSign 2 = .ok (.invokevirtual 178, 3) := by decide +kernel
theorem dX11_hasSign_5 : decode cX11_hasSign 5 = .ok (.ifCond .ne 49, 3) := by decide +kernel
theorem dX11_hasSign_8 : decode cX11_hasSign 8 = .ok (.aload_n 0, 1) := by decide +kernel
theorem dX11_hasSign_9 : decode cX11_hasSign 9 = .ok (.getfield 20, 3) := by decide +kernel
theorem dX11_hasSign_12 : decode cX11_hasSign 12 = .ok (.iload_n 1, 1) := by decide +kernel
theorem dX11_hasSign_13 : decode cX11_hasSign 13 = .ok (.iaload, 1) := by decide +kernel
theorem dX11_hasSign_14 : decode cX11_hasSign 14 = .ok (.i2l, 1) := by decide +kernel
theorem dX11_hasSign_15 : decode cX11_hasSign 15 = .ok (.aload_n 0, 1) := by decide +kernel
theorem dX11_hasSign_16 : decode cX11_hasSign 16 = .ok (.getfield 24, 3) := by decide +kernel
theorem dX11_hasSign_19 : decode cX11_hasSign 19 = .ok (.iload_n 1, 1) := by decide +kernel
theorem dX11_hasSign_20 : decode cX11_hasSign 20 = .ok (.iaload, 1) := by decide +kernel
theorem dX11_hasSign_21 : decode cX11_hasSign 21 = .ok (.i2l, 1) := by decide +kernel
theorem dX11_hasSign_22 : decode cX11_hasSign 22 = .ok (.invokestatic 112, 3) := by decide +kernel
theorem dX11_hasSign_25 : decode cX11_hasSign 25 = .ok (.lconst 1, 1) := by decide +kernel
theorem dX11_hasSign_26 : decode cX11_hasSign 26 = .ok (.lcmp, 1) := by decide +kernel
theorem dX11_hasSign_27 : decode cX11_hasSign 27 = .ok (.ifCond .le 27, 3) := by decide +kernel
theorem dX11_hasSign_30 : decode cX11_hasSign 30 = .ok (.aload_n 0, 1) := by decide +kernel
theorem dX11_hasSign_31 : decode cX11_hasSign 31 = .ok (.getfield 20, 3) := by decide +kernel
theorem dX11_hasSign_34 : decode cX11_hasSign 34 = .ok (.iload_n 1, 1) := by decide +kernel
theorem dX11_hasSign_35 : decode cX11_hasSign 35 = .ok (.iaload, 1) := by decide +kernel
theorem dX11_hasSign_36 : decode cX11_hasSign 36 = .ok (.i2l, 1) := by decide +kernel
theorem dX11_hasSign_37 : decode cX11_hasSign 37 = .ok (.aload_n 0, 1) := by decide +kernel
theorem dX11_hasSign_38 : decode cX11_hasSign 38 = .ok (.getfield 24, 3) := by decide +kernel
theorem dX11_hasSign_41 : decode cX11_hasSign 41 = .ok (.iload_n 1, 1) := by decide +kernel
theorem dX11_hasSign_42 : decode cX11_hasSign 42 = .ok (.iaload, 1) := by decide +kernel
theorem dX11_hasSign_43 : decode cX11_hasSign 43 = .ok (.i2l, 1) := by decide +kernel
theorem dX11_hasSign_44 : decode cX11_hasSign 44 = .ok (.invokestatic 142, 3) := by decide +kernel
theorem dX11_hasSign_47 : decode cX11_hasSign 47 = .ok (.ifCond .ne 7, 3) := by decide +kernel
theorem dX11_hasSign_50 : decode cX11_hasSign 50 = .ok (.iconst 1, 1) := by decide +kernel
theorem dX11_hasSign_51 : decode cX11_hasSign 51 = .ok (.goto 4, 3) := by decide +kernel
theorem dX11_hasSign_54 : decode cX11_hasSign 54 = .ok (.iconst 0, 1) := by decide +kernel
theorem dX11_hasSign_55 : decode cX11_hasSign 55 = .ok (.ireturn, 1) := by decide +kernel
theorem dX11_in_0 : decode cX11_in 0 = .ok (.lload_n 0, 1) := by decide +kernel
theorem dX11_in_1 : decode cX11_in 1 = .ok (.lload_n 2, 1) := by decide +kernel
theorem dX11_in_2 : decode cX11_in 2 = .ok (.lcmp, 1) := by decide +kernel
theorem dX11_in_3 : decode cX11_in 3 = .ok (.ifCond .lt 14, 3) := by decide +kernel
theorem dX11_in_6 : decode cX11_in 6 = .ok (.lload_n 0, 1) := by decide +kernel
theorem dX11_in_7 : decode cX11_in 7 = .ok (.lload 4, 2) := by decide +kernel
theorem dX11_in_9 : decode cX11_in 9 = .ok (.lcmp, 1) := by decide +kernel
theorem dX11_in_10 : decode cX11_in 10 = .ok (.ifCond .gt 7, 3) := by decide +kernel
theorem dX11_in_13 : decode cX11_in 13 = .ok (.iconst 1, 1) := by decide +kernel
theorem dX11_in_14 : decode cX11_in 14 = .ok (.goto 4, 3) := by decide +kernel
theorem dX11_in_17 : decode cX11_in 17 = .ok (.iconst 0, 1) := by decide +kernel
theorem dX11_in_18 : decode cX11_in 18 = .ok (.ireturn, 1) := by decide +kernel
theorem dX11_inverse_0 : decode cX11_inverse 0 = .ok (.iload_n 1, 1) := by decide +kernel
theorem dX11_inverse_1 : decode cX11_inverse 1 = .ok (.iload_n 2, 1) := by decide +kernel
theorem dX11_inverse_2 : decode cX11_inverse 2 = .ok (.iload_n 3, 1) := by decide +kernel
theorem dX11_inverse_3 : decode cX11_inverse 3 = .ok (.invokestatic 265, 3) := by decide +kernel
theorem dX11_inverse_6 : decode cX11_inverse 6 = .ok (.ifCond .ne 5, 3) := by decide +kernel
theorem dX11_inverse_9 : decode cX11_inverse 9 = .ok (.iconst (-1), 1) := by decide +kernel
theorem dX11_inverse_10 : decode cX11_inverse 10 = .ok (.ireturn, 1) := by decide +kernel
theorem dX11_inverse_11 : decode cX11_inverse 11 = .ok (.aload_n 0, 1) := by decide +kernel
theorem dX11_inverse_12 : decode cX11_inverse 12 = .ok (.iload_n 1, 1) := by decide +kernel
theorem dX11_inverse_13 : decode cX11_inverse 13 = .ok (.iload_n 2, 1) := by decide +kernel
theorem dX11_inverse_14 : decode cX11_inverse 14 = .ok (.invokevirtual 269, 3) := by decide +kernel
theorem dX11_inverse_17 : decode cX11_inverse 17 = .ok (.ifCond .ne 6, 3) := by decide +kernel
theorem dX11_inverse_20 : decode cX11_inverse 20 = .ok (.bipush (-2), 2) := by decide +kernel
theorem dX11_inverse_22 : decode cX11_inverse 22 = .ok (.ireturn, 1) := by decide +kernel
theorem dX11_inverse_23 : decode cX11_inverse 23 = .ok (.aload_n 0, 1) := by decide +kernel
theorem dX11_inverse_24 : decode cX11_inverse 24 = .ok (.iload_n 2, 1) := by decide +kernel
theorem dX11_inverse_25 : decode cX11_inverse 25 = .ok (.invokevirtual 178, 3) := by decide +kernel
theorem dX11_inverse_28 : decode cX11_inverse 28 = .ok (.ifCond .eq 6, 3) := by decide +kernel
theorem dX11_inverse_31 : decode cX11_inverse 31 = .ok (.bipush (-3), 2) := by decide +kernel
theorem dX11_inverse_33 : decode cX11_inverse 33 = .ok (.ireturn, 1) := by decide +kernel
theorem dX11_inverse_34 : decode cX11_inverse 34 = .ok (.aload_n 0, 1) := by decide +kernel
theorem dX11_inverse_35 : decode cX11_inverse 35 = .ok (.aload_n 0, 1) := by decide +kernel
theorem dX11_inverse_36 : decode cX11_inverse 36 = .ok (.getfield 20, 3) := by decide +kernel
theorem dX11_inverse_39 : decode cX11_inverse 39 = .ok (.iload_n 1, 1) := by decide +kernel
theorem dX11_inverse_40 : decode cX11_inverse 40 = .ok (.iaload, 1) := by decide +kernel
theorem dX11_inverse_41 : decode cX11_inverse 41 = .ok (.i2l, 1) := by decide +kernel
theorem dX11_inverse_42 : decode cX11_inverse 42 = .ok (.aload_n 0, 1) := by decide +kernel
theorem dX11_inverse_43 : decode cX11_inverse 43 = .ok (.getfield 24, 3) := by decide +kernel
theorem dX11_inverse_46 : decode cX11_inverse 46 = .ok (.iload_n 1, 1) := by decide +kernel
theorem dX11_inverse_47 : decode cX11_inverse 47 = .ok (.iaload, 1) := by decide +kernel
theorem dX11_inverse_48 : decode cX11_inverse 48 = .ok (.i2l, 1) := by decide +kernel
theorem dX11_inverse_49 : decode cX11_inverse 49 = .ok (.aload_n 0, 1) := by decide +kernel
theorem dX11_inverse_50 : decode cX11_inverse 50 = .ok (.getfield 20, 3) := by decide +kernel
theorem dX11_inverse_53 : decode cX11_inverse 53 = .ok (.iload_n 2, 1) := by decide +kernel
theorem dX11_inverse_54 : decode cX11_inverse 54 = .ok (.iaload, 1) := by decide +kernel
theorem dX11_inverse_55 : decode cX11_inverse 55 = .ok (.i2l, 1) := by decide +kernel
theorem dX11_inverse_56 : decode cX11_inverse 56 = .ok (.aload_n 0, 1) := by decide +kernel
theorem dX11_inverse_57 : decode cX11_inverse 57 = .ok (.getfield 24, 3) := by decide +kernel
theorem dX11_inverse_60 : decode cX11_inverse 60 = .ok (.iload_n 2, 1) := by decide +kernel
theorem dX11_inverse_61 : decode cX11_inverse 61 = .ok (.iaload, 1) := by decide +kernel
theorem dX11_inverse_62 : decode cX11_inverse 62 = .ok (.i2l, 1) := by decide +kernel
theorem dX11_inverse_63 : decode cX11_inverse 63 = .ok (.invokevirtual 195, 3) := by decide +kernel
theorem dX11_inverse_66 : decode cX11_inverse 66 = .ok (.ifCond .ne 6, 3) := by decide +kernel
theorem dX11_inverse_69 : decode cX11_inverse 69 = .ok (.bipush (-4), 2) := by decide +kernel
theorem dX11_inverse_71 : decode cX11_inverse 71 = .ok (.ireturn, 1) := by decide +kernel
theorem dX11_inverse_72 : decode cX11_inverse 72 = .ok (.aload_n 0, 1) := by decide +kernel
theorem dX11_inverse_73 : decode cX11_inverse 73 = .ok (.aload_n 0, 1) := by decide +kernel
theorem dX11_inverse_74 : decode cX11_inverse 74 = .ok (.getfield 20, 3) := by decide +kernel
theorem dX11_inverse_77 : decode cX11_inverse 77 = .ok (.iload_n 2, 1) := by decide +kernel
theorem dX11_inverse_78 : decode cX11_inverse 78 = .ok (.iaload, 1) := by decide +kernel
theorem dX11_inverse_79 : decode cX11_inverse 79 = .ok (.i2l, 1) := by decide +kernel
theorem dX11_inverse_80 : decode cX11_inverse 80 = .ok (.aload_n 0, 1) := by decide +kernel
theorem dX11_inverse_81 : decode cX11_inverse 81 = .ok (.getfield 24, 3) := by decide +kernel
theorem dX11_inverse_84 : decode cX11_inverse 84 = .ok (.iload_n 2, 1) := by decide +kernel
theorem dX11_inverse_85 : decode cX11_inverse 85 = .ok (.iaload, 1) := by decide +kernel
theorem dX11_inverse_86 : decode cX11_inverse 86 = .ok (.i2l, 1) := by decide +kernel
theorem dX11_inverse_87 : decode cX11_inverse 87 = .ok (.invokevirtual 273, 3) := by decide +kernel
theorem dX11_inverse_90 : decode cX11_inverse 90 = .ok (.aload_n 0, 1) := by decide +kernel
theorem dX11_inverse_91 : decode cX11_inverse 91 = .ok (.aload_n 0, 1) := by decide +kernel
theorem dX11_inverse_92 : decode cX11_inverse 92 = .ok (.getfield 20, 3) := by decide +kernel
theorem dX11_inverse_95 : decode cX11_inverse 95 = .ok (.iload_n 1, 1) := by decide +kernel
theorem dX11_inverse_96 : decode cX11_inverse 96 = .ok (.iaload, 1) := by decide +kernel
theorem dX11_inverse_97 : decode cX11_inverse 97 = .ok (.i2l, 1) := by decide +kernel
theorem dX11_inverse_98 : decode cX11_inverse 98 = .ok (.aload_n 0, 1) := by decide +kernel
theorem dX11_inverse_99 : decode cX11_inverse 99 = .ok (.getfield 24, 3) := by decide +kernel
theorem dX11_inverse_102 : decode cX11_inverse 102 = .ok (.iload_n 1, 1) := by decide +kernel
theorem dX11_inverse_103 : decode cX11_inverse 103 = .ok (.iaload, 1) := by decide +kernel
theorem dX11_inverse_104 : decode cX11_inverse 104 = .ok (.i2l, 1) := by decide +kernel
theorem dX11_inverse_105 : decode cX11_inverse 105 = .ok (.aload_n 0, 1) := by decide +kernel
theorem dX11_inverse_106 : decode cX11_inverse 106 = .ok (.getfield 20, 3) := by decide +kernel
theorem dX11_inverse_109 : decode cX11_inverse 109 = .ok (.iload_n 2, 1) := by decide +kernel
theorem dX11_inverse_110 : decode cX11_inverse 110 = .ok (.iaload, 1) := by decide +kernel
theorem dX11_inverse_111 : decode cX11_inverse 111 = .ok (.i2l, 1) := by decide +kernel
theorem dX11_inverse_112 : decode cX11_inverse 112 = .ok (.aload_n 0, 1) := by decide +kernel
theorem dX11_inverse_113 : decode cX11_inverse 113 = .ok (.getfield 24, 3) := by decide +kernel
theorem dX11_inverse_116 : decode cX11_inverse 116 = .ok (.iload_n 2, 1) := by decide +kernel
theorem dX11_inverse_117 : decode cX11_inverse 117 = .ok (.iaload, 1) := by decide +kernel
theorem dX11_inverse_118 : decode cX11_inverse 118 = .ok (.i2l, 1) := by decide +kernel
theorem dX11_inverse_119 : decode cX11_inverse 119 = .ok (.invokevirtual 315, 3) := by decide +kernel
theorem dX11_inverse_122 : decode cX11_inverse 122 = .ok (.aload_n 0, 1) := by decide +kernel
theorem dX11_inverse_123 : decode cX11_inverse 123 = .ok (.aload_n 0, 1) := by decide +kernel
theorem dX11_inverse_124 : decode cX11_inverse 124 = .ok (.getfield 105, 3) := by decide +kernel
theorem dX11_inverse_127 : decode cX11_inverse 127 = .ok (.aload_n 0, 1) := by decide +kernel
theorem dX11_inverse_128 : decode cX11_inverse 128 = .ok (.getfield 109, 3) := by decide +kernel
theorem dX11_inverse_131 : decode cX11_inverse 131 = .ok (.invokevirtual 259, 3) := by decide +kernel
theorem dX11_inverse_134 : decode cX11_inverse 134 = .ok (.aload_n 0, 1) := by decide +kernel
theorem dX11_inverse_135 : decode cX11_inverse 135 = .ok (.iload_n 3, 1) := by decide +kernel
theorem dX11_inverse_136 : decode cX11_inverse 136 = .ok (.invokevirtual 276, 3) := by decide +kernel
theorem dX11_inverse_139 : decode cX11_inverse 139 = .ok (.ireturn, 1) := by decide +kernel
theorem dX11_inverts_0 : decode cX11_inverts 0 = .ok (.aload_n 0, 1) := by decide +kernel
theorem dX11_inverts_1 : decode cX11_inverts 1 = .ok (.lload_n 1, 1) := by decide +kernel
theorem dX11_inverts_2 : decode cX11_inverts 2 = .ok (.lload_n 3, 1) := by decide +kernel
theorem dX11_inverts_3 : decode cX11_inverts 3 = .ok (.lload 5, 2) := by decide +kernel
theorem dX11_inverts_5 : decode cX11_inverts 5 = .ok (.lload 7, 2) := by decide +kernel
theorem dX11_inverts_7 : decode cX11_inverts 7 = .ok (.iconst (-1), 1) := by decide +kernel
theorem dX11_inverts_8 : decode cX11_inverts 8 = .ok (.invokevirtual 311, 3) := by decide +kernel
theorem dX11_inverts_11 : decode cX11_inverts 11 = .ok (.aload_n 0, 1) := by decide +kernel
theorem dX11_inverts_12 : decode cX11_inverts 12 = .ok (.aload_n 0, 1) := by decide +kernel
theorem dX11_inverts_13 : decode cX11_inverts 13 = .ok (.getfield 284, 3) := by decide +kernel
theorem dX11_inverts_16 : decode cX11_inverts 16 = .ok (.aload_n 0, 1) := by decide +kernel
theorem dX11_inverts_17 : decode cX11_inverts 17 = .ok (.getfield 287, 3) := by decide +kernel
theorem dX11_inverts_20 : decode cX11_inverts 20 = .ok (.aload_n 0, 1) := by decide +kernel
theorem dX11_inverts_21 : decode cX11_inverts 21 = .ok (.getfield 305, 3) := by decide +kernel
theorem dX11_inverts_24 : decode cX11_inverts 24 = .ok (.aload_n 0, 1) := by decide +kernel
theorem dX11_inverts_25 : decode cX11_inverts 25 = .ok (.getfield 308, 3) := by decide +kernel
theorem dX11_inverts_28 : decode cX11_inverts 28 = .ok (.lsub, 1) := by decide +kernel
theorem dX11_inverts_29 : decode cX11_inverts 29 = .ok (.aload_n 0, 1) := by decide +kernel
theorem dX11_inverts_30 : decode cX11_inverts 30 = .ok (.getfield 308, 3) := by decide +kernel
theorem dX11_inverts_33 : decode cX11_inverts 33 = .ok (.lneg, 1) := by decide +kernel
theorem dX11_inverts_34 : decode cX11_inverts 34 = .ok (.invokevirtual 121, 3) := by decide +kernel
theorem dX11_inverts_37 : decode cX11_inverts 37 = .ok (.return_, 1) := by decide +kernel
theorem dX11_isCube_0 : decode cX11_isCube 0 = .ok (.iload_n 0, 1) := by decide +kernel
theorem dX11_isCube_1 : decode cX11_isCube 1 = .ok (.iload_n 1, 1) := by decide +kernel
theorem dX11_isCube_2 : decode cX11_isCube 2 = .ok (.irem, 1) := by decide +kernel
theorem dX11_isCube_3 : decode cX11_isCube 3 = .ok (.ifCond .eq 21, 3) := by decide +kernel
theorem dX11_isCube_6 : decode cX11_isCube 6 = .ok (.iload_n 0, 1) := by decide +kernel
theorem dX11_isCube_7 : decode cX11_isCube 7 = .ok (.iload_n 1, 1) := by decide +kernel
theorem dX11_isCube_8 : decode cX11_isCube 8 = .ok (.iconst 1, 1) := by decide +kernel
theorem dX11_isCube_9 : decode cX11_isCube 9 = .ok (.isub, 1) := by decide +kernel
theorem dX11_isCube_10 : decode cX11_isCube 10 = .ok (.iconst 3, 1) := by decide +kernel
theorem dX11_isCube_11 : decode cX11_isCube 11 = .ok (.idiv, 1) := by decide +kernel
theorem dX11_isCube_12 : decode cX11_isCube 12 = .ok (.iload_n 1, 1) := by decide +kernel
theorem dX11_isCube_13 : decode cX11_isCube 13 = .ok (.invokestatic 371, 3) := by decide +kernel
theorem dX11_isCube_16 : decode cX11_isCube 16 = .ok (.iconst 1, 1) := by decide +kernel
theorem dX11_isCube_17 : decode cX11_isCube 17 = .ok (.if_icmp .ne 7, 3) := by decide +kernel
theorem dX11_isCube_20 : decode cX11_isCube 20 = .ok (.iconst 1, 1) := by decide +kernel
theorem dX11_isCube_21 : decode cX11_isCube 21 = .ok (.goto 4, 3) := by decide +kernel
theorem dX11_isCube_24 : decode cX11_isCube 24 = .ok (.iconst 0, 1) := by decide +kernel
theorem dX11_isCube_25 : decode cX11_isCube 25 = .ok (.ireturn, 1) := by decide +kernel
theorem dX11_isDigit_0 : decode cX11_isDigit 0 = .ok (.iload_n 0, 1) := by decide +kernel
theorem dX11_isDigit_1 : decode cX11_isDigit 1 = .ok (.bipush 48, 2) := by decide +kernel
theorem dX11_isDigit_3 : decode cX11_isDigit 3 = .ok (.if_icmp .lt 13, 3) := by decide +kernel
theorem dX11_isDigit_6 : decode cX11_isDigit 6 = .ok (.iload_n 0, 1) := by decide +kernel
theorem dX11_isDigit_7 : decode cX11_isDigit 7 = .ok (.bipush 57, 2) := by decide +kernel
theorem dX11_isDigit_9 : decode cX11_isDigit 9 = .ok (.if_icmp .gt 7, 3) := by decide +kernel
theorem dX11_isDigit_12 : decode cX11_isDigit 12 = .ok (.iconst 1, 1) := by decide +kernel
theorem dX11_isDigit_13 : decode cX11_isDigit 13 = .ok (.goto 4, 3) := by decide +kernel
theorem dX11_isDigit_16 : decode cX11_isDigit 16 = .ok (.iconst 0, 1) := by decide +kernel
theorem dX11_isDigit_17 : decode cX11_isDigit 17 = .ok (.ireturn, 1) := by decide +kernel
theorem dX11_isDrawer_0 : decode cX11_isDrawer 0 = .ok (.iload_n 0, 1) := by decide +kernel
theorem dX11_isDrawer_1 : decode cX11_isDrawer 1 = .ok (.i2l, 1) := by decide +kernel
theorem dX11_isDrawer_2 : decode cX11_isDrawer 2 = .ok (.lconst 0, 1) := by decide +kernel
theorem dX11_isDrawer_3 : decode cX11_isDrawer 3 = .ok (.ldc2_w 75, 3) := by decide +kernel
theorem dX11_isDrawer_6 : decode cX11_isDrawer 6 = .ok (.invokestatic 77, 3) := by decide +kernel
theorem dX11_isDrawer_9 : decode cX11_isDrawer 9 = .ok (.ireturn, 1) := by decide +kernel
theorem dX11_isGreat_0 : decode cX11_isGreat 0 = .ok (.aload_n 0, 1) := by decide +kernel
theorem dX11_isGreat_1 : decode cX11_isGreat 1 = .ok (.iload_n 1, 1) := by decide +kernel
theorem dX11_isGreat_2 : decode cX11_isGreat 2 = .ok (.invokevirtual 178, 3) := by decide +kernel
theorem dX11_isGreat_5 : decode cX11_isGreat 5 = .ok (.ifCond .ne 26, 3) := by decide +kernel
theorem dX11_isGreat_8 : decode cX11_isGreat 8 = .ok (.aload_n 0, 1) := by decide +kernel
theorem dX11_isGreat_9 : decode cX11_isGreat 9 = .ok (.getfield 20, 3) := by decide +kernel
theorem dX11_isGreat_12 : decode cX11_isGreat 12 = .ok (.iload_n 1, 1) := by decide +kernel
theorem dX11_isGreat_13 : decode cX11_isGreat 13 = .ok (.iaload, 1) := by decide +kernel
theorem dX11_isGreat_14 : decode cX11_isGreat 14 = .ok (.i2l, 1) := by decide +kernel
theorem dX11_isGreat_15 : decode cX11_isGreat 15 = .ok (.aload_n 0, 1) := by decide +kernel
theorem dX11_isGreat_16 : decode cX11_isGreat 16 = .ok (.getfield 24, 3) := by decide +kernel
theorem dX11_isGreat_19 : decode cX11_isGreat 19 = .ok (.iload_n 1, 1) := by decide +kernel
theorem dX11_isGreat_20 : decode cX11_isGreat 20 = .ok (.iaload, 1) := by decide +kernel
theorem dX11_isGreat_21 : decode cX11_isGreat 21 = .ok (.i2l, 1) := by decide +kernel
theorem dX11_isGreat_22 : decode cX11_isGreat 22 = .ok (.invokestatic 112, 3) := by decide +kernel
theorem dX11_isGreat_25 : decode cX11_isGreat 25 = .ok (.iload_n 2, 1) := by decide +kernel
theorem dX11_isGreat_26 : decode cX11_isGreat 26 = .ok (.i2l, 1) := by decide +kernel
theorem dX11_isGreat_27 : decode cX11_isGreat 27 = .ok (.lcmp, 1) := by decide +kernel
theorem dX11_isGreat_28 : decode cX11_isGreat 28 = .ok (.ifCond .le 7, 3) := by decide +kernel
theorem dX11_isGreat_31 : decode cX11_isGreat 31 = .ok (.iconst 1, 1) := by decide +kernel
theorem dX11_isGreat_32 : decode cX11_isGreat 32 = .ok (.goto 4, 3) := by decide +kernel
theorem dX11_isGreat_35 : decode cX11_isGreat 35 = .ok (.iconst 0, 1) := by decide +kernel
theorem dX11_isGreat_36 : decode cX11_isGreat 36 = .ok (.ireturn, 1) := by decide +kernel
theorem dX11_isNear_0 : decode cX11_isNear 0 = .ok (.lload_n 0, 1) := by decide +kernel
theorem dX11_isNear_1 : decode cX11_isNear 1 = .ok (.ldc2_w 81, 3) := by decide +kernel
theorem dX11_isNear_4 : decode cX11_isNear 4 = .ok (.ldc2_w 83, 3) := by decide +kernel
theorem dX11_isNear_7 : decode cX11_isNear 7 = .ok (.invokestatic 77, 3) := by decide +kernel
theorem dX11_isNear_10 : decode cX11_isNear 10 = .ok (.ifCond .eq 20, 3) := by decide +kernel
theorem dX11_isNear_13 : decode cX11_isNear 13 = .ok (.lload_n 2, 1) := by decide +kernel
theorem dX11_isNear_14 : decode cX11_isNear 14 = .ok (.ldc2_w 81, 3) := by decide +kernel
theorem dX11_isNear_17 : decode cX11_isNear 17 = .ok (.ldc2_w 83, 3) := by decide +kernel
theorem dX11_isNear_20 : decode cX11_isNear 20 = .ok (.invokestatic 77, 3) := by decide +kernel
theorem dX11_isNear_23 : decode cX11_isNear 23 = .ok (.ifCond .eq 7, 3) := by decide +kernel
theorem dX11_isNear_26 : decode cX11_isNear 26 = .ok (.iconst 1, 1) := by decide +kernel
theorem dX11_isNear_27 : decode cX11_isNear 27 = .ok (.goto 4, 3) := by decide +kernel
theorem dX11_isNear_30 : decode cX11_isNear 30 = .ok (.iconst 0, 1) := by decide +kernel
theorem dX11_isNear_31 : decode cX11_isNear 31 = .ok (.ireturn, 1) := by decide +kernel
theorem dX11_isNothing_0 : decode cX11_isNothing 0 = .ok (.aload_n 0, 1) := by decide +kernel
theorem dX11_isNothing_1 : decode cX11_isNothing 1 = .ok (.getfield 20, 3) := by decide +kernel
theorem dX11_isNothing_4 : decode cX11_isNothing 4 = .ok (.iload_n 1, 1) := by decide +kernel
theorem dX11_isNothing_5 : decode cX11_isNothing 5 = .ok (.iaload, 1) := by decide +kernel
theorem dX11_isNothing_6 : decode cX11_isNothing 6 = .ok (.ifCond .ne 16, 3) := by decide +kernel
theorem dX11_isNothing_9 : decode cX11_isNothing 9 = .ok (.aload_n 0, 1) := by decide +kernel
theorem dX11_isNothing_10 : decode cX11_isNothing 10 = .ok (.getfield 24, 3) := by decide +kernel
theorem dX11_isNothing_13 : decode cX11_isNothing 13 = .ok (.iload_n 1, 1) := by decide +kernel
theorem dX11_isNothing_14 : decode cX11_isNothing 14 = .ok (.iaload, 1) := by decide +kernel
theorem dX11_isNothing_15 : decode cX11_isNothing 15 = .ok (.ifCond .ne 7, 3) := by decide +kernel
theorem dX11_isNothing_18 : decode cX11_isNothing 18 = .ok (.iconst 1, 1) := by decide +kernel
theorem dX11_isNothing_19 : decode cX11_isNothing 19 = .ok (.goto 4, 3) := by decide +kernel
theorem dX11_isNothing_22 : decode cX11_isNothing 22 = .ok (.iconst 0, 1) := by decide +kernel
theorem dX11_isNothing_23 : decode cX11_isNothing 23 = .ok (.ireturn, 1) := by decide +kernel
theorem dX11_isPrimary_0 : decode cX11_isPrimary 0 = .ok (.lload_n 0, 1) := by decide +kernel
theorem dX11_isPrimary_1 : decode cX11_isPrimary 1 = .ok (.ldc2_w 134, 3) := by decide +kernel
theorem dX11_isPrimary_4 : decode cX11_isPrimary 4 = .ok (.invokestatic 136, 3) := by decide +kernel
theorem dX11_isPrimary_7 : decode cX11_isPrimary 7 = .ok (.ldc2_w 119, 3) := by decide +kernel
theorem dX11_isPrimary_10 : decode cX11_isPrimary 10 = .ok (.lcmp, 1) := by decide +kernel
theorem dX11_isPrimary_11 : decode cX11_isPrimary 11 = .ok (.ifCond .ne 19, 3) := by decide +kernel
theorem dX11_isPrimary_14 : decode cX11_isPrimary 14 = .ok (.lload_n 2, 1) := by decide +kernel
theorem dX11_isPrimary_15 : decode cX11_isPrimary 15 = .ok (.ldc2_w 134, 3) := by decide +kernel
theorem dX11_isPrimary_18 : decode cX11_isPrimary 18 = .ok (.invokestatic 136, 3) := by decide +kernel
theorem dX11_isPrimary_21 : decode cX11_isPrimary 21 = .ok (.lconst 0, 1) := by decide +kernel
theorem dX11_isPrimary_22 : decode cX11_isPrimary 22 = .ok (.lcmp, 1) := by decide +kernel
theorem dX11_isPrimary_23 : decode cX11_isPrimary 23 = .ok (.ifCond .ne 7, 3) := by decide +kernel
theorem dX11_isPrimary_26 : decode cX11_isPrimary 26 = .ok (.iconst 1, 1) := by decide +kernel
theorem dX11_isPrimary_27 : decode cX11_isPrimary 27 = .ok (.goto 4, 3) := by decide +kernel
theorem dX11_isPrimary_30 : decode cX11_isPrimary 30 = .ok (.iconst 0, 1) := by decide +kernel
theorem dX11_isPrimary_31 : decode cX11_isPrimary 31 = .ok (.ireturn, 1) := by decide +kernel
theorem dX11_isPrime_0 : decode cX11_isPrime 0 = .ok (.lload_n 0, 1) := by decide +kernel
theorem dX11_isPrime_1 : decode cX11_isPrime 1 = .ok (.lload_n 2, 1) := by decide +kernel
theorem dX11_isPrime_2 : decode cX11_isPrime 2 = .ok (.invokestatic 160, 3) := by decide +kernel
theorem dX11_isPrime_5 : decode cX11_isPrime 5 = .ok (.istore 4, 2) := by decide +kernel
theorem dX11_isPrime_7 : decode cX11_isPrime 7 = .ok (.iload 4, 2) := by decide +kernel
theorem dX11_isPrime_9 : decode cX11_isPrime 9 = .ok (.iconst 2, 1) := by decide +kernel
theorem dX11_isPrime_10 : decode cX11_isPrime 10 = .ok (.if_icmp .ge 5, 3) := by decide +kernel
theorem dX11_isPrime_13 : decode cX11_isPrime 13 = .ok (.iconst 0, 1) := by decide +kernel
theorem dX11_isPrime_14 : decode cX11_isPrime 14 = .ok (.ireturn, 1) := by decide +kernel
theorem dX11_isPrime_15 : decode cX11_isPrime 15 = .ok (.iload 4, 2) := by decide +kernel
theorem dX11_isPrime_17 : decode cX11_isPrime 17 = .ok (.invokestatic 156, 3) := by decide +kernel
theorem dX11_isPrime_20 : decode cX11_isPrime 20 = .ok (.istore 5, 2) := by decide +kernel
theorem dX11_isPrime_22 : decode cX11_isPrime 22 = .ok (.iload 5, 2) := by decide +kernel
theorem dX11_isPrime_24 : decode cX11_isPrime 24 = .ok (.iload 4, 2) := by decide +kernel
theorem dX11_isPrime_26 : decode cX11_isPrime 26 = .ok (.if_icmp .eq 21, 3) := by decide +kernel
theorem dX11_isPrime_29 : decode cX11_isPrime 29 = .ok (.iload 5, 2) := by decide +kernel
theorem dX11_isPrime_31 : decode cX11_isPrime 31 = .ok (.iload 5, 2) := by decide +kernel
theorem dX11_isPrime_33 : decode cX11_isPrime 33 = .ok (.imul, 1) := by decide +kernel
theorem dX11_isPrime_34 : decode cX11_isPrime 34 = .ok (.iload 4, 2) := by decide +kernel
theorem dX11_isPrime_36 : decode cX11_isPrime 36 = .ok (.if_icmp .ne 15, 3) := by decide +kernel
theorem dX11_isPrime_39 : decode cX11_isPrime 39 = .ok (.iload 5, 2) := by decide +kernel
theorem dX11_isPrime_41 : decode cX11_isPrime 41 = .ok (.iconst 3, 1) := by decide +kernel
theorem dX11_isPrime_42 : decode cX11_isPrime 42 = .ok (.irem, 1) := by decide +kernel
theorem dX11_isPrime_43 : decode cX11_isPrime 43 = .ok (.iconst 2, 1) := by decide +kernel
theorem dX11_isPrime_44 : decode cX11_isPrime 44 = .ok (.if_icmp .ne 7, 3) := by decide +kernel
theorem dX11_isPrime_47 : decode cX11_isPrime 47 = .ok (.iconst 1, 1) := by decide +kernel
theorem dX11_isPrime_48 : decode cX11_isPrime 48 = .ok (.goto 4, 3) := by decide +kernel
theorem dX11_isPrime_51 : decode cX11_isPrime 51 = .ok (.iconst 0, 1) := by decide +kernel
theorem dX11_isPrime_52 : decode cX11_isPrime 52 = .ok (.ireturn, 1) := by decide +kernel
theorem dX11_isThird_0 : decode cX11_isThird 0 = .ok (.iload_n 0, 1) := by decide +kernel
theorem dX11_isThird_1 : decode cX11_isThird 1 = .ok (.i2l, 1) := by decide +kernel
theorem dX11_isThird_2 : decode cX11_isThird 2 = .ok (.ldc2_w 75, 3) := by decide +kernel
theorem dX11_isThird_5 : decode cX11_isThird 5 = .ok (.ldc2_w 366, 3) := by decide +kernel
theorem dX11_isThird_8 : decode cX11_isThird 8 = .ok (.invokestatic 77, 3) := by decide +kernel
theorem dX11_isThird_11 : decode cX11_isThird 11 = .ok (.ifCond .eq 21, 3) := by decide +kernel
theorem dX11_isThird_14 : decode cX11_isThird 14 = .ok (.iload_n 0, 1) := by decide +kernel
theorem dX11_isThird_15 : decode cX11_isThird 15 = .ok (.iconst 3, 1) := by decide +kernel
theorem dX11_isThird_16 : decode cX11_isThird 16 = .ok (.irem, 1) := by decide +kernel
theorem dX11_isThird_17 : decode cX11_isThird 17 = .ok (.iconst 1, 1) := by decide +kernel
theorem dX11_isThird_18 : decode cX11_isThird 18 = .ok (.if_icmp .ne 14, 3) := by decide +kernel
theorem dX11_isThird_21 : decode cX11_isThird 21 = .ok (.iload_n 0, 1) := by decide +kernel
theorem dX11_isThird_22 : decode cX11_isThird 22 = .ok (.invokestatic 368, 3) := by decide +kernel
theorem dX11_isThird_25 : decode cX11_isThird 25 = .ok (.ifCond .eq 7, 3) := by decide +kernel
theorem dX11_isThird_28 : decode cX11_isThird 28 = .ok (.iconst 1, 1) := by decide +kernel
theorem dX11_isThird_29 : decode cX11_isThird 29 = .ok (.goto 4, 3) := by decide +kernel
theorem dX11_isThird_32 : decode cX11_isThird 32 = .ok (.iconst 0, 1) := by decide +kernel
theorem dX11_isThird_33 : decode cX11_isThird 33 = .ok (.ireturn, 1) := by decide +kernel
theorem dX11_isThree_0 : decode cX11_isThree 0 = .ok (.lload_n 0, 1) := by decide +kernel
theorem dX11_isThree_1 : decode cX11_isThree 1 = .ok (.lload_n 2, 1) := by decide +kernel
theorem dX11_isThree_2 : decode cX11_isThree 2 = .ok (.ladd, 1) := by decide +kernel
theorem dX11_isThree_3 : decode cX11_isThree 3 = .ok (.ldc2_w 134, 3) := by decide +kernel
theorem dX11_isThree_6 : decode cX11_isThree 6 = .ok (.lrem, 1) := by decide +kernel
theorem dX11_isThree_7 : decode cX11_isThree 7 = .ok (.lconst 0, 1) := by decide +kernel
theorem dX11_isThree_8 : decode cX11_isThree 8 = .ok (.lcmp, 1) := by decide +kernel
theorem dX11_isThree_9 : decode cX11_isThree 9 = .ok (.ifCond .ne 7, 3) := by decide +kernel
theorem dX11_isThree_12 : decode cX11_isThree 12 = .ok (.iconst 1, 1) := by decide +kernel
theorem dX11_isThree_13 : decode cX11_isThree 13 = .ok (.goto 4, 3) := by decide +kernel
theorem dX11_isThree_16 : decode cX11_isThree 16 = .ok (.iconst 0, 1) := by decide +kernel
theorem dX11_isThree_17 : decode cX11_isThree 17 = .ok (.ireturn, 1) := by decide +kernel
theorem dX11_isTold_0 : decode cX11_isTold 0 = .ok (.aload_n 0, 1) := by decide +kernel
theorem dX11_isTold_1 : decode cX11_isTold 1 = .ok (.getfield 20, 3) := by decide +kernel
theorem dX11_isTold_4 : decode cX11_isTold 4 = .ok (.iload_n 1, 1) := by decide +kernel
theorem dX11_isTold_5 : decode cX11_isTold 5 = .ok (.iaload, 1) := by decide +kernel
theorem dX11_isTold_6 : decode cX11_isTold 6 = .ok (.i2l, 1) := by decide +kernel
theorem dX11_isTold_7 : decode cX11_isTold 7 = .ok (.aload_n 0, 1) := by decide +kernel
theorem dX11_isTold_8 : decode cX11_isTold 8 = .ok (.getfield 24, 3) := by decide +kernel
theorem dX11_isTold_11 : decode cX11_isTold 11 = .ok (.iload_n 1, 1) := by decide +kernel
theorem dX11_isTold_12 : decode cX11_isTold 12 = .ok (.iaload, 1) := by decide +kernel
theorem dX11_isTold_13 : decode cX11_isTold 13 = .ok (.i2l, 1) := by decide +kernel
theorem dX11_isTold_14 : decode cX11_isTold 14 = .ok (.invokestatic 145, 3) := by decide +kernel
theorem dX11_isTold_17 : decode cX11_isTold 17 = .ok (.ifCond .eq 29, 3) := by decide +kernel
theorem dX11_isTold_20 : decode cX11_isTold 20 = .ok (.aload_n 0, 1) := by decide +kernel
theorem dX11_isTold_21 : decode cX11_isTold 21 = .ok (.getfield 20, 3) := by decide +kernel
theorem dX11_isTold_24 : decode cX11_isTold 24 = .ok (.iload_n 1, 1) := by decide +kernel
theorem dX11_isTold_25 : decode cX11_isTold 25 = .ok (.iaload, 1) := by decide +kernel
theorem dX11_isTold_26 : decode cX11_isTold 26 = .ok (.i2l, 1) := by decide +kernel
theorem dX11_isTold_27 : decode cX11_isTold 27 = .ok (.aload_n 0, 1) := by decide +kernel
theorem dX11_isTold_28 : decode cX11_isTold 28 = .ok (.getfield 24, 3) := by decide +kernel
theorem dX11_isTold_31 : decode cX11_isTold 31 = .ok (.iload_n 1, 1) := by decide +kernel
theorem dX11_isTold_32 : decode cX11_isTold 32 = .ok (.iaload, 1) := by decide +kernel
theorem dX11_isTold_33 : decode cX11_isTold 33 = .ok (.i2l, 1) := by decide +kernel
theorem dX11_isTold_34 : decode cX11_isTold 34 = .ok (.invokestatic 112, 3) := by decide +kernel
theorem dX11_isTold_37 : decode cX11_isTold 37 = .ok (.lconst 1, 1) := by decide +kernel
theorem dX11_isTold_38 : decode cX11_isTold 38 = .ok (.lcmp, 1) := by decide +kernel
theorem dX11_isTold_39 : decode cX11_isTold 39 = .ok (.ifCond .le 7, 3) := by decide +kernel
theorem dX11_isTold_42 : decode cX11_isTold 42 = .ok (.iconst 1, 1) := by decide +kernel
theorem dX11_isTold_43 : decode cX11_isTold 43 = .ok (.goto 4, 3) := by decide +kernel
theorem dX11_isTold_46 : decode cX11_isTold 46 = .ok (.iconst 0, 1) := by decide +kernel
theorem dX11_isTold_47 : decode cX11_isTold 47 = .ok (.ireturn, 1) := by decide +kernel
theorem dX11_isWholePrime_0 : decode cX11_isWholePrime 0 = .ok (.iload_n 0, 1) := by decide +kernel
theorem dX11_isWholePrime_1 : decode cX11_isWholePrime 1 = .ok (.iconst 1, 1) := by decide +kernel
theorem dX11_isWholePrime_2 : decode cX11_isWholePrime 2 = .ok (.if_icmp .le 15, 3) := by decide +kernel
theorem dX11_isWholePrime_5 : decode cX11_isWholePrime 5 = .ok (.iload_n 0, 1) := by decide +kernel
theorem dX11_isWholePrime_6 : decode cX11_isWholePrime 6 = .ok (.invokestatic 156, 3) := by decide +kernel
theorem dX11_isWholePrime_9 : decode cX11_isWholePrime 9 = .ok (.iload_n 0, 1) := by decide +kernel
theorem dX11_isWholePrime_10 : decode cX11_isWholePrime 10 = .ok (.if_icmp .ne 7, 3) := by decide +kernel
theorem dX11_isWholePrime_13 : decode cX11_isWholePrime 13 = .ok (.iconst 1, 1) := by decide +kernel
theorem dX11_isWholePrime_14 : decode cX11_isWholePrime 14 = .ok (.goto 4, 3) := by decide +kernel
theorem dX11_isWholePrime_17 : decode cX11_isWholePrime 17 = .ok (.iconst 0, 1) := by decide +kernel
theorem dX11_isWholePrime_18 : decode cX11_isWholePrime 18 = .ok (.ireturn, 1) := by decide +kernel
theorem dX11_keep_0 : decode cX11_keep 0 = .ok (.aload_n 0, 1) := by decide +kernel
theorem dX11_keep_1 : decode cX11_keep 1 = .ok (.getfield 102, 3) := by decide +kernel
theorem dX11_keep_4 : decode cX11_keep 4 = .ok (.bipush 12, 2) := by decide +kernel
theorem dX11_keep_6 : decode cX11_keep 6 = .ok (.if_icmp .ne 5, 3) := by decide +kernel
theorem dX11_keep_9 : decode cX11_keep 9 = .ok (.iconst (-1), 1) := by decide +kernel
theorem dX11_keep_10 : decode cX11_keep 10 = .ok (.ireturn, 1) := by decide +kernel
theorem dX11_keep_11 : decode cX11_keep 11 = .ok (.iconst 0, 1) := by decide +kernel
theorem dX11_keep_12 : decode cX11_keep 12 = .ok (.istore_n 1, 1) := by decide +kernel
theorem dX11_keep_13 : decode cX11_keep 13 = .ok (.iload_n 1, 1) := by decide +kernel
theorem dX11_keep_14 : decode cX11_keep 14 = .ok (.bipush 8, 2) := by decide +kernel
theorem dX11_keep_16 : decode cX11_keep 16 = .ok (.if_icmp .ge 69, 3) := by decide +kernel
theorem dX11_keep_19 : decode cX11_keep 19 = .ok (.aload_n 0, 1) := by decide +kernel
theorem dX11_keep_20 : decode cX11_keep 20 = .ok (.getfield 17, 3) := by decide +kernel
theorem dX11_keep_23 : decode cX11_keep 23 = .ok (.bipush 8, 2) := by decide +kernel
theorem dX11_keep_25 : decode cX11_keep 25 = .ok (.aload_n 0, 1) := by decide +kernel
theorem dX11_keep_26 : decode cX11_keep 26 = .ok (.getfield 102, 3) := by decide +kernel
theorem dX11_keep_29 : decode cX11_keep 29 = .ok (.imul, 1) := by decide +kernel
theorem dX11_keep_30 : decode cX11_keep 30 = .ok (.iload_n 1, 1) := by decide +kernel
theorem dX11_keep_31 : decode cX11_keep 31 = .ok (.iadd, 1) := by decide +kernel
theorem dX11_keep_32 : decode cX11_keep 32 = .ok (.aload_n 0, 1) := by decide +kernel
theorem dX11_keep_33 : decode cX11_keep 33 = .ok (.getfield 13, 3) := by decide +kernel
theorem dX11_keep_36 : decode cX11_keep 36 = .ok (.iload_n 1, 1) := by decide +kernel
theorem dX11_keep_37 : decode cX11_keep 37 = .ok (.baload, 1) := by decide +kernel
theorem dX11_keep_38 : decode cX11_keep 38 = .ok (.bastore, 1) := by decide +kernel
theorem dX11_keep_39 : decode cX11_keep 39 = .ok (.aload_n 0, 1) := by decide +kernel
theorem dX11_keep_40 : decode cX11_keep 40 = .ok (.getfield 27, 3) := by decide +kernel
theorem dX11_keep_43 : decode cX11_keep 43 = .ok (.bipush 8, 2) := by decide +kernel
theorem dX11_keep_45 : decode cX11_keep 45 = .ok (.aload_n 0, 1) := by decide +kernel
theorem dX11_keep_46 : decode cX11_keep 46 = .ok (.getfield 102, 3) := by decide +kernel
theorem dX11_keep_49 : decode cX11_keep 49 = .ok (.imul, 1) := by decide +kernel
theorem dX11_keep_50 : decode cX11_keep 50 = .ok (.iload_n 1, 1) := by decide +kernel
theorem dX11_keep_51 : decode cX11_keep 51 = .ok (.iadd, 1) := by decide +kernel
theorem dX11_keep_52 : decode cX11_keep 52 = .ok (.aload_n 0, 1) := by decide +kernel
theorem dX11_keep_53 : decode cX11_keep 53 = .ok (.getfield 20, 3) := by decide +kernel
theorem dX11_keep_56 : decode cX11_keep 56 = .ok (.iload_n 1, 1) := by decide +kernel
theorem dX11_keep_57 : decode cX11_keep 57 = .ok (.iaload, 1) := by decide +kernel
theorem dX11_keep_58 : decode cX11_keep 58 = .ok (.iastore, 1) := by decide +kernel
theorem dX11_keep_59 : decode cX11_keep 59 = .ok (.aload_n 0, 1) := by decide +kernel
theorem dX11_keep_60 : decode cX11_keep 60 = .ok (.getfield 30, 3) := by decide +kernel
theorem dX11_keep_63 : decode cX11_keep 63 = .ok (.bipush 8, 2) := by decide +kernel
theorem dX11_keep_65 : decode cX11_keep 65 = .ok (.aload_n 0, 1) := by decide +kernel
theorem dX11_keep_66 : decode cX11_keep 66 = .ok (.getfield 102, 3) := by decide +kernel
theorem dX11_keep_69 : decode cX11_keep 69 = .ok (.imul, 1) := by decide +kernel
theorem dX11_keep_70 : decode cX11_keep 70 = .ok (.iload_n 1, 1) := by decide +kernel
theorem dX11_keep_71 : decode cX11_keep 71 = .ok (.iadd, 1) := by decide +kernel
theorem dX11_keep_72 : decode cX11_keep 72 = .ok (.aload_n 0, 1) := by decide +kernel
theorem dX11_keep_73 : decode cX11_keep 73 = .ok (.getfield 24, 3) := by decide +kernel
theorem dX11_keep_76 : decode cX11_keep 76 = .ok (.iload_n 1, 1) := by decide +kernel
theorem dX11_keep_77 : decode cX11_keep 77 = .ok (.iaload, 1) := by decide +kernel
theorem dX11_keep_78 : decode cX11_keep 78 = .ok (.iastore, 1) := by decide +kernel
theorem dX11_keep_79 : decode cX11_keep 79 = .ok (.iinc 1 1, 3) := by decide +kernel
theorem dX11_keep_82 : decode cX11_keep 82 = .ok (.goto (-69), 3) := by decide +kernel
theorem dX11_keep_85 : decode cX11_keep 85 = .ok (.aload_n 0, 1) := by decide +kernel
theorem dX11_keep_86 : decode cX11_keep 86 = .ok (.aload_n 0, 1) := by decide +kernel
theorem dX11_keep_87 : decode cX11_keep 87 = .ok (.getfield 102, 3) := by decide +kernel
theorem dX11_keep_90 : decode cX11_keep 90 = .ok (.iconst 1, 1) := by decide +kernel
theorem dX11_keep_91 : decode cX11_keep 91 = .ok (.iadd, 1) := by decide +kernel
theorem dX11_keep_92 : decode cX11_keep 92 = .ok (.putfield 102, 3) := by decide +kernel
theorem dX11_keep_95 : decode cX11_keep 95 = .ok (.aload_n 0, 1) := by decide +kernel
theorem dX11_keep_96 : decode cX11_keep 96 = .ok (.getfield 102, 3) := by decide +kernel
theorem dX11_keep_99 : decode cX11_keep 99 = .ok (.ireturn, 1) := by decide +kernel
theorem dX11_laysBox_0 : decode cX11_laysBox 0 = .ok (.lload_n 3, 1) := by decide +kernel
theorem dX11_laysBox_1 : decode cX11_laysBox 1 = .ok (.lstore 5, 2) := by decide +kernel
theorem dX11_laysBox_3 : decode cX11_laysBox 3 = .ok (.lload_n 1, 1) := by decide +kernel
theorem dX11_laysBox_4 : decode cX11_laysBox 4 = .ok (.lload_n 3, 1) := by decide +kernel
theorem dX11_laysBox_5 : decode cX11_laysBox 5 = .ok (.lsub, 1) := by decide +kernel
theorem dX11_laysBox_6 : decode cX11_laysBox 6 = .ok (.lstore 7, 2) := by decide +kernel
theorem dX11_laysBox_8 : decode cX11_laysBox 8 = .ok (.lconst 1, 1) := by decide +kernel
theorem dX11_laysBox_9 : decode cX11_laysBox 9 = .ok (.lstore 9, 2) := by decide +kernel
theorem dX11_laysBox_11 : decode cX11_laysBox 11 = .ok (.lconst 0, 1) := by decide +kernel
theorem dX11_laysBox_12 : decode cX11_laysBox 12 = .ok (.lstore 11, 2) := by decide +kernel
theorem dX11_laysBox_14 : decode cX11_laysBox 14 = .ok (.lconst 0, 1) := by decide +kernel
theorem dX11_laysBox_15 : decode cX11_laysBox 15 = .ok (.lstore 13, 2) := by decide +kernel
theorem dX11_laysBox_17 : decode cX11_laysBox 17 = .ok (.lconst 1, 1) := by decide +kernel
theorem dX11_laysBox_18 : decode cX11_laysBox 18 = .ok (.lstore 15, 2) := by decide +kernel
theorem dX11_laysBox_20 : decode cX11_laysBox 20 = .ok (.lload 7, 2) := by decide +kernel
theorem dX11_laysBox_22 : decode cX11_laysBox 22 = .ok (.lconst 0, 1) := by decide +kernel
theorem dX11_laysBox_23 : decode cX11_laysBox 23 = .ok (.lcmp, 1) := by decide +kernel
theorem dX11_laysBox_24 : decode cX11_laysBox 24 = .ok (.ifCond .eq 67, 3) := by decide +kernel
theorem dX11_laysBox_27 : decode cX11_laysBox 27 = .ok (.lload 5, 2) := by decide +kernel
theorem dX11_laysBox_29 : decode cX11_laysBox 29 = .ok (.lload 7, 2) := by decide +kernel
theorem dX11_laysBox_31 : decode cX11_laysBox 31 = .ok (.ldiv, 1) := by decide +kernel
theorem dX11_laysBox_32 : decode cX11_laysBox 32 = .ok (.lstore 17, 2) := by decide +kernel
theorem dX11_laysBox_34 : decode cX11_laysBox 34 = .ok (.lload 5, 2) := by decide +kernel
theorem dX11_laysBox_36 : decode cX11_laysBox 36 = .ok (.lload 17, 2) := by decide +kernel
theorem dX11_laysBox_38 : decode cX11_laysBox 38 = .ok (.lload 7, 2) := by decide +kernel
theorem dX11_laysBox_40 : decode cX11_laysBox 40 = .ok (.lmul, 1) := by decide +kernel
theorem dX11_laysBox_41 : decode cX11_laysBox 41 = .ok (.lsub, 1) := by decide +kernel
theorem dX11_laysBox_42 : decode cX11_laysBox 42 = .ok (.lstore 19, 2) := by decide +kernel
theorem dX11_laysBox_44 : decode cX11_laysBox 44 = .ok (.lload 7, 2) := by decide +kernel
theorem dX11_laysBox_46 : decode cX11_laysBox 46 = .ok (.lstore 5, 2) := by decide +kernel
theorem dX11_laysBox_48 : decode cX11_laysBox 48 = .ok (.lload 19, 2) := by decide +kernel
theorem dX11_laysBox_50 : decode cX11_laysBox 50 = .ok (.lstore 7, 2) := by decide +kernel
theorem dX11_laysBox_52 : decode cX11_laysBox 52 = .ok (.lload 9, 2) := by decide +kernel
theorem dX11_laysBox_54 : decode cX11_laysBox 54 = .ok (.lload 17, 2) := by decide +kernel
theorem dX11_laysBox_56 : decode cX11_laysBox 56 = .ok (.lload 13, 2) := by decide +kernel
theorem dX11_laysBox_58 : decode cX11_laysBox 58 = .ok (.lmul, 1) := by decide +kernel
theorem dX11_laysBox_59 : decode cX11_laysBox 59 = .ok (.lsub, 1) := by decide +kernel
theorem dX11_laysBox_60 : decode cX11_laysBox 60 = .ok (.lstore 19, 2) := by decide +kernel
theorem dX11_laysBox_62 : decode cX11_laysBox 62 = .ok (.lload 13, 2) := by decide +kernel
theorem dX11_laysBox_64 : decode cX11_laysBox 64 = .ok (.lstore 9, 2) := by decide +kernel
theorem dX11_laysBox_66 : decode cX11_laysBox 66 = .ok (.lload 19, 2) := by decide +kernel
theorem dX11_laysBox_68 : decode cX11_laysBox 68 = .ok (.lstore 13, 2) := by decide +kernel
theorem dX11_laysBox_70 : decode cX11_laysBox 70 = .ok (.lload 11, 2) := by decide +kernel
theorem dX11_laysBox_72 : decode cX11_laysBox 72 = .ok (.lload 17, 2) := by decide +kernel
theorem dX11_laysBox_74 : decode cX11_laysBox 74 = .ok (.lload 15, 2) := by decide +kernel
theorem dX11_laysBox_76 : decode cX11_laysBox 76 = .ok (.lmul, 1) := by decide +kernel
theorem dX11_laysBox_77 : decode cX11_laysBox 77 = .ok (.lsub, 1) := by decide +kernel
theorem dX11_laysBox_78 : decode cX11_laysBox 78 = .ok (.lstore 19, 2) := by decide +kernel
theorem dX11_laysBox_80 : decode cX11_laysBox 80 = .ok (.lload 15, 2) := by decide +kernel
theorem dX11_laysBox_82 : decode cX11_laysBox 82 = .ok (.lstore 11, 2) := by decide +kernel
theorem dX11_laysBox_84 : decode cX11_laysBox 84 = .ok (.lload 19, 2) := by decide +kernel
theorem dX11_laysBox_86 : decode cX11_laysBox 86 = .ok (.lstore 15, 2) := by decide +kernel
theorem dX11_laysBox_88 : decode cX11_laysBox 88 = .ok (.goto (-68), 3) := by decide +kernel
theorem dX11_laysBox_91 : decode cX11_laysBox 91 = .ok (.aload_n 0, 1) := by decide +kernel
theorem dX11_laysBox_92 : decode cX11_laysBox 92 = .ok (.lload 5, 2) := by decide +kernel
theorem dX11_laysBox_94 : decode cX11_laysBox 94 = .ok (.invokestatic 246, 3) := by decide +kernel
theorem dX11_laysBox_97 : decode cX11_laysBox 97 = .ok (.putfield 250, 3) := by decide +kernel
theorem dX11_laysBox_100 : decode cX11_laysBox 100 = .ok (.aload_n 0, 1) := by decide +kernel
theorem dX11_laysBox_101 : decode cX11_laysBox 101 = .ok (.lload_n 1, 1) := by decide +kernel
theorem dX11_laysBox_102 : decode cX11_laysBox 102 = .ok (.lload_n 3, 1) := by decide +kernel
theorem dX11_laysBox_103 : decode cX11_laysBox 103 = .ok (.invokestatic 112, 3) := by decide +kernel
theorem dX11_laysBox_106 : decode cX11_laysBox 106 = .ok (.aload_n 0, 1) := by decide +kernel
theorem dX11_laysBox_107 : decode cX11_laysBox 107 = .ok (.getfield 250, 3) := by decide +kernel
theorem dX11_laysBox_110 : decode cX11_laysBox 110 = .ok (.ldiv, 1) := by decide +kernel
theorem dX11_laysBox_111 : decode cX11_laysBox 111 = .ok (.putfield 253, 3) := by decide +kernel
theorem dX11_laysBox_114 : decode cX11_laysBox 114 = .ok (.lload 5, 2) := by decide +kernel
theorem dX11_laysBox_116 : decode cX11_laysBox 116 = .ok (.lconst 0, 1) := by decide +kernel
theorem dX11_laysBox_117 : decode cX11_laysBox 117 = .ok (.lcmp, 1) := by decide +kernel
theorem dX11_laysBox_118 : decode cX11_laysBox 118 = .ok (.ifCond .ge 9, 3) := by decide +kernel
theorem dX11_laysBox_121 : decode cX11_laysBox 121 = .ok (.lload 9, 2) := by decide +kernel
theorem dX11_laysBox_123 : decode cX11_laysBox 123 = .ok (.lneg, 1) := by decide +kernel
theorem dX11_laysBox_124 : decode cX11_laysBox 124 = .ok (.goto 5, 3) := by decide +kernel
theorem dX11_laysBox_127 : decode cX11_laysBox 127 = .ok (.lload 9, 2) := by decide +kernel
theorem dX11_laysBox_129 : decode cX11_laysBox 129 = .ok (.lstore 9, 2) := by decide +kernel
theorem dX11_laysBox_131 : decode cX11_laysBox 131 = .ok (.lload 5, 2) := by decide +kernel
theorem dX11_laysBox_133 : decode cX11_laysBox 133 = .ok (.lconst 0, 1) := by decide +kernel
theorem dX11_laysBox_134 : decode cX11_laysBox 134 = .ok (.lcmp, 1) := by decide +kernel
theorem dX11_laysBox_135 : decode cX11_laysBox 135 = .ok (.ifCond .ge 9, 3) := by decide +kernel
theorem dX11_laysBox_138 : decode cX11_laysBox 138 = .ok (.lload 11, 2) := by decide +kernel
theorem dX11_laysBox_140 : decode cX11_laysBox 140 = .ok (.lneg, 1) := by decide +kernel
theorem dX11_laysBox_141 : decode cX11_laysBox 141 = .ok (.goto 5, 3) := by decide +kernel
theorem dX11_laysBox_144 : decode cX11_laysBox 144 = .ok (.lload 11, 2) := by decide +kernel
theorem dX11_laysBox_146 : decode cX11_laysBox 146 = .ok (.lstore 11, 2) := by decide +kernel
theorem dX11_laysBox_148 : decode cX11_laysBox 148 = .ok (.aload_n 0, 1) := by decide +kernel
theorem dX11_laysBox_149 : decode cX11_laysBox 149 = .ok (.lload_n 1, 1) := by decide +kernel
theorem dX11_laysBox_150 : decode cX11_laysBox 150 = .ok (.lload 9, 2) := by decide +kernel
theorem dX11_laysBox_152 : decode cX11_laysBox 152 = .ok (.lmul, 1) := by decide +kernel
theorem dX11_laysBox_153 : decode cX11_laysBox 153 = .ok (.lload_n 3, 1) := by decide +kernel
theorem dX11_laysBox_154 : decode cX11_laysBox 154 = .ok (.lload 11, 2) := by decide +kernel
theorem dX11_laysBox_156 : decode cX11_laysBox 156 = .ok (.lmul, 1) := by decide +kernel
theorem dX11_laysBox_157 : decode cX11_laysBox 157 = .ok (.lsub, 1) := by decide +kernel
theorem dX11_laysBox_158 : decode cX11_laysBox 158 = .ok (.aload_n 0, 1) := by decide +kernel
theorem dX11_laysBox_159 : decode cX11_laysBox 159 = .ok (.getfield 253, 3) := by decide +kernel
theorem dX11_laysBox_162 : decode cX11_laysBox 162 = .ok (.invokestatic 136, 3) := by decide +kernel
theorem dX11_laysBox_165 : decode cX11_laysBox 165 = .ok (.putfield 256, 3) := by decide +kernel
theorem dX11_laysBox_168 : decode cX11_laysBox 168 = .ok (.return_, 1) := by decide +kernel
theorem dX11_laysCubes_0 : decode cX11_laysCubes 0 = .ok (.aload_n 0, 1) := by decide +kernel
theorem dX11_laysCubes_1 : decode cX11_laysCubes 1 = .ok (.lload_n 1, 1) := by decide +kernel
theorem dX11_laysCubes_2 : decode cX11_laysCubes 2 = .ok (.lload_n 3, 1) := by decide +kernel
theorem dX11_laysCubes_3 : decode cX11_laysCubes 3 = .ok (.invokevirtual 273, 3) := by decide +kernel
theorem dX11_laysCubes_6 : decode cX11_laysCubes 6 = .ok (.iconst 0, 1) := by decide +kernel
theorem dX11_laysCubes_7 : decode cX11_laysCubes 7 = .ok (.istore 5, 2) := by decide +kernel
theorem dX11_laysCubes_9 : decode cX11_laysCubes 9 = .ok (.iload 5, 2) := by decide +kernel
theorem dX11_laysCubes_11 : decode cX11_laysCubes 11 = .ok (.aload_n 0, 1) := by decide +kernel
theorem dX11_laysCubes_12 : decode cX11_laysCubes 12 = .ok (.invokevirtual 321, 3) := by decide +kernel
theorem dX11_laysCubes_15 : decode cX11_laysCubes 15 = .ok (.if_icmp .ge 17, 3) := by decide +kernel
theorem dX11_laysCubes_18 : decode cX11_laysCubes 18 = .ok (.aload_n 0, 1) := by decide +kernel
theorem dX11_laysCubes_19 : decode cX11_laysCubes 19 = .ok (.getfield 42, 3) := by decide +kernel
theorem dX11_laysCubes_22 : decode cX11_laysCubes 22 = .ok (.iload 5, 2) := by decide +kernel
theorem dX11_laysCubes_24 : decode cX11_laysCubes 24 = .ok (.iconst 0, 1) := by decide +kernel
theorem dX11_laysCubes_25 : decode cX11_laysCubes 25 = .ok (.iastore, 1) := by decide +kernel
theorem dX11_laysCubes_26 : decode cX11_laysCubes 26 = .ok (.iinc 5 1, 3) := by decide +kernel
theorem dX11_laysCubes_29 : decode cX11_laysCubes 29 = .ok (.goto (-20), 3) := by decide +kernel
theorem dX11_laysCubes_32 : decode cX11_laysCubes 32 = .ok (.iconst 0, 1) := by decide +kernel
theorem dX11_laysCubes_33 : decode cX11_laysCubes 33 = .ok (.istore 5, 2) := by decide +kernel
theorem dX11_laysCubes_35 : decode cX11_laysCubes 35 = .ok (.iload 5, 2) := by decide +kernel
theorem dX11_laysCubes_37 : decode cX11_laysCubes 37 = .ok (.aload_n 0, 1) := by decide +kernel
theorem dX11_laysCubes_38 : decode cX11_laysCubes 38 = .ok (.invokevirtual 321, 3) := by decide +kernel
theorem dX11_laysCubes_41 : decode cX11_laysCubes 41 = .ok (.if_icmp .ge 35, 3) := by decide +kernel
theorem dX11_laysCubes_44 : decode cX11_laysCubes 44 = .ok (.aload_n 0, 1) := by decide +kernel
theorem dX11_laysCubes_45 : decode cX11_laysCubes 45 = .ok (.iload 5, 2) := by decide +kernel
theorem dX11_laysCubes_47 : decode cX11_laysCubes 47 = .ok (.invokevirtual 325, 3) := by decide +kernel
theorem dX11_laysCubes_50 : decode cX11_laysCubes 50 = .ok (.aload_n 0, 1) := by decide +kernel
theorem dX11_laysCubes_51 : decode cX11_laysCubes 51 = .ok (.getfield 42, 3) := by decide +kernel
theorem dX11_laysCubes_54 : decode cX11_laysCubes 54 = .ok (.aload_n 0, 1) := by decide +kernel
theorem dX11_laysCubes_55 : decode cX11_laysCubes 55 = .ok (.invokevirtual 328, 3) := by decide +kernel
theorem dX11_laysCubes_58 : decode cX11_laysCubes 58 = .ok (.aload_n 0, 1) := by decide +kernel
theorem dX11_laysCubes_59 : decode cX11_laysCubes 59 = .ok (.getfield 42, 3) := by decide +kernel
theorem dX11_laysCubes_62 : decode cX11_laysCubes 62 = .ok (.aload_n 0, 1) := by decide +kernel
theorem dX11_laysCubes_63 : decode cX11_laysCubes 63 = .ok (.invokevirtual 328, 3) := by decide +kernel
theorem dX11_laysCubes_66 : decode cX11_laysCubes 66 = .ok (.iaload, 1) := by decide +kernel
theorem dX11_laysCubes_67 : decode cX11_laysCubes 67 = .ok (.iconst 1, 1) := by decide +kernel
theorem dX11_laysCubes_68 : decode cX11_laysCubes 68 = .ok (.iadd, 1) := by decide +kernel
theorem dX11_laysCubes_69 : decode cX11_laysCubes 69 = .ok (.iastore, 1) := by decide +kernel
theorem dX11_laysCubes_70 : decode cX11_laysCubes 70 = .ok (.iinc 5 1, 3) := by decide +kernel
theorem dX11_laysCubes_73 : decode cX11_laysCubes 73 = .ok (.goto (-38), 3) := by decide +kernel
theorem dX11_laysCubes_76 : decode cX11_laysCubes 76 = .ok (.return_, 1) := by decide +kernel
theorem dX11_laysOpen_0 : decode cX11_laysOpen 0 = .ok (.iconst 0, 1) := by decide +kernel
theorem dX11_laysOpen_1 : decode cX11_laysOpen 1 = .ok (.istore 5, 2) := by decide +kernel
theorem dX11_laysOpen_3 : decode cX11_laysOpen 3 = .ok (.iload 5, 2) := by decide +kernel
theorem dX11_laysOpen_5 : decode cX11_laysOpen 5 = .ok (.aload_n 0, 1) := by decide +kernel
theorem dX11_laysOpen_6 : decode cX11_laysOpen 6 = .ok (.invokevirtual 321, 3) := by decide +kernel
theorem dX11_laysOpen_9 : decode cX11_laysOpen 9 = .ok (.if_icmp .ge 36, 3) := by decide +kernel
theorem dX11_laysOpen_12 : decode cX11_laysOpen 12 = .ok (.aload_n 0, 1) := by decide +kernel
theorem dX11_laysOpen_13 : decode cX11_laysOpen 13 = .ok (.iload 5, 2) := by decide +kernel
theorem dX11_laysOpen_15 : decode cX11_laysOpen 15 = .ok (.invokevirtual 318, 3) := by decide +kernel
theorem dX11_laysOpen_18 : decode cX11_laysOpen 18 = .ok (.aload_n 0, 1) := by decide +kernel
theorem dX11_laysOpen_19 : decode cX11_laysOpen 19 = .ok (.getfield 45, 3) := by decide +kernel
theorem dX11_laysOpen_22 : decode cX11_laysOpen 22 = .ok (.iload 5, 2) := by decide +kernel
theorem dX11_laysOpen_24 : decode cX11_laysOpen 24 = .ok (.aload_n 0, 1) := by decide +kernel
theorem dX11_laysOpen_25 : decode cX11_laysOpen 25 = .ok (.aload_n 0, 1) := by decide +kernel
theorem dX11_laysOpen_26 : decode cX11_laysOpen 26 = .ok (.getfield 105, 3) := by decide +kernel
theorem dX11_laysOpen_29 : decode cX11_laysOpen 29 = .ok (.aload_n 0, 1) := by decide +kernel
theorem dX11_laysOpen_30 : decode cX11_laysOpen 30 = .ok (.getfield 109, 3) := by decide +kernel
theorem dX11_laysOpen_33 : decode cX11_laysOpen 33 = .ok (.lload_n 1, 1) := by decide +kernel
theorem dX11_laysOpen_34 : decode cX11_laysOpen 34 = .ok (.lload_n 3, 1) := by decide +kernel
theorem dX11_laysOpen_35 : decode cX11_laysOpen 35 = .ok (.invokevirtual 195, 3) := by decide +kernel
theorem dX11_laysOpen_38 : decode cX11_laysOpen 38 = .ok (.bastore, 1) := by decide +kernel
theorem dX11_laysOpen_39 : decode cX11_laysOpen 39 = .ok (.iinc 5 1, 3) := by decide +kernel
theorem dX11_laysOpen_42 : decode cX11_laysOpen 42 = .ok (.goto (-39), 3) := by decide +kernel
theorem dX11_laysOpen_45 : decode cX11_laysOpen 45 = .ok (.return_, 1) := by decide +kernel
theorem dX11_laysRing_0 : decode cX11_laysRing 0 = .ok (.aload_n 0, 1) := by decide +kernel
theorem dX11_laysRing_1 : decode cX11_laysRing 1 = .ok (.iconst 0, 1) := by decide +kernel
theorem dX11_laysRing_2 : decode cX11_laysRing 2 = .ok (.putfield 432, 3) := by decide +kernel
theorem dX11_laysRing_5 : decode cX11_laysRing 5 = .ok (.sipush (-1200), 3) := by decide +kernel
theorem dX11_laysRing_8 : decode cX11_laysRing 8 = .ok (.istore 4, 2) := by decide +kernel
theorem dX11_laysRing_10 : decode cX11_laysRing 10 = .ok (.iload 4, 2) := by decide +kernel
theorem dX11_laysRing_12 : decode cX11_laysRing 12 = .ok (.sipush 1200, 3) := by decide +kernel
theorem dX11_laysRing_15 : decode cX11_laysRing 15 = .ok (.if_icmp .gt 156, 3) := by decide +kernel
theorem dX11_laysRing_18 : decode cX11_laysRing 18 = .ok (.iconst 4, 1) := by decide +kernel
theorem dX11_laysRing_19 : decode cX11_laysRing 19 = .ok (.iload_n 1, 1) := by decide +kernel
theorem dX11_laysRing_20 : decode cX11_laysRing 20 = .ok (.imul, 1) := by decide +kernel
theorem dX11_laysRing_21 : decode cX11_laysRing 21 = .ok (.iconst 3, 1) := by decide +kernel
theorem dX11_laysRing_22 : decode cX11_laysRing 22 = .ok (.iload 4, 2) := by decide +kernel
theorem dX11_laysRing_24 : decode cX11_laysRing 24 = .ok (.imul, 1) := by decide +kernel
theorem dX11_laysRing_25 : decode cX11_laysRing 25 = .ok (.iload 4, 2) := by decide +kernel
theorem dX11_laysRing_27 : decode cX11_laysRing 27 = .ok (.imul, 1) := by decide +kernel
theorem dX11_laysRing_28 : decode cX11_laysRing 28 = .ok (.isub, 1) := by decide +kernel
theorem dX11_laysRing_29 : decode cX11_laysRing 29 = .ok (.invokestatic 217, 3) := by decide +kernel
theorem dX11_laysRing_32 : decode cX11_laysRing 32 = .ok (.istore 5, 2) := by decide +kernel
theorem dX11_laysRing_34 : decode cX11_laysRing 34 = .ok (.iload 5, 2) := by decide +kernel
theorem dX11_laysRing_36 : decode cX11_laysRing 36 = .ok (.ifCond .lt 129, 3) := by decide +kernel
theorem dX11_laysRing_39 : decode cX11_laysRing 39 = .ok (.iload 5, 2) := by decide +kernel
theorem dX11_laysRing_41 : decode cX11_laysRing 41 = .ok (.iload 5, 2) := by decide +kernel
theorem dX11_laysRing_43 : decode cX11_laysRing 43 = .ok (.imul, 1) := by decide +kernel
theorem dX11_laysRing_44 : decode cX11_laysRing 44 = .ok (.iconst 4, 1) := by decide +kernel
theorem dX11_laysRing_45 : decode cX11_laysRing 45 = .ok (.iload_n 1, 1) := by decide +kernel
theorem dX11_laysRing_46 : decode cX11_laysRing 46 = .ok (.imul, 1) := by decide +kernel
theorem dX11_laysRing_47 : decode cX11_laysRing 47 = .ok (.iconst 3, 1) := by decide +kernel
theorem dX11_laysRing_48 : decode cX11_laysRing 48 = .ok (.iload 4, 2) := by decide +kernel
theorem dX11_laysRing_50 : decode cX11_laysRing 50 = .ok (.imul, 1) := by decide +kernel
theorem dX11_laysRing_51 : decode cX11_laysRing 51 = .ok (.iload 4, 2) := by decide +kernel
theorem dX11_laysRing_53 : decode cX11_laysRing 53 = .ok (.imul, 1) := by decide +kernel
theorem dX11_laysRing_54 : decode cX11_laysRing 54 = .ok (.isub, 1) := by decide +kernel
theorem dX11_laysRing_55 : decode cX11_laysRing 55 = .ok (.if_icmp .eq 6, 3) := by decide +kernel
theorem dX11_laysRing_58 : decode cX11_laysRing 58 = .ok (.goto 107, 3) := by decide +kernel
theorem dX11_laysRing_61 : decode cX11_laysRing 61 = .ok (.iload 5, 2) := by decide +kernel
theorem dX11_laysRing_63 : decode cX11_laysRing 63 = .ok (.ifCond .ne 7, 3) := by decide +kernel
theorem dX11_laysRing_66 : decode cX11_laysRing 66 = .ok (.iconst 1, 1) := by decide +kernel
theorem dX11_laysRing_67 : decode cX11_laysRing 67 = .ok (.goto 4, 3) := by decide +kernel
theorem dX11_laysRing_70 : decode cX11_laysRing 70 = .ok (.iconst (-1), 1) := by decide +kernel
theorem dX11_laysRing_71 : decode cX11_laysRing 71 = .ok (.istore 6, 2) := by decide +kernel
theorem dX11_laysRing_73 : decode cX11_laysRing 73 = .ok (.iload 6, 2) := by decide +kernel
theorem dX11_laysRing_75 : decode cX11_laysRing 75 = .ok (.iconst 2, 1) := by decide +kernel
theorem dX11_laysRing_76 : decode cX11_laysRing 76 = .ok (.if_icmp .ge 89, 3) := by decide +kernel
theorem dX11_laysRing_79 : decode cX11_laysRing 79 = .ok (.iload 4, 2) := by decide +kernel
theorem dX11_laysRing_81 : decode cX11_laysRing 81 = .ok (.iload 6, 2) := by decide +kernel
theorem dX11_laysRing_83 : decode cX11_laysRing 83 = .ok (.iload 5, 2) := by decide +kernel
theorem dX11_laysRing_85 : decode cX11_laysRing 85 = .ok (.imul, 1) := by decide +kernel
theorem dX11_laysRing_86 : decode cX11_laysRing 86 = .ok (.iadd, 1) := by decide +kernel
theorem dX11_laysRing_87 : decode cX11_laysRing 87 = .ok (.iconst 2, 1) := by decide +kernel
theorem dX11_laysRing_88 : decode cX11_laysRing 88 = .ok (.idiv, 1) := by decide +kernel
theorem dX11_laysRing_89 : decode cX11_laysRing 89 = .ok (.istore 7, 2) := by decide +kernel
theorem dX11_laysRing_91 : decode cX11_laysRing 91 = .ok (.iload_n 3, 1) := by decide +kernel
theorem dX11_laysRing_92 : decode cX11_laysRing 92 = .ok (.iconst 1, 1) := by decide +kernel
theorem dX11_laysRing_93 : decode cX11_laysRing 93 = .ok (.if_icmp .ne 13, 3) := by decide +kernel
theorem dX11_laysRing_96 : decode cX11_laysRing 96 = .ok (.iload 7, 2) := by decide +kernel
theorem dX11_laysRing_98 : decode cX11_laysRing 98 = .ok (.ifCond .le 58, 3) := by decide +kernel
theorem dX11_laysRing_101 : decode cX11_laysRing 101 = .ok (.iload 4, 2) := by decide +kernel
theorem dX11_laysRing_103 : decode cX11_laysRing 103 = .ok (.ifCond .lt 53, 3) := by decide +kernel
theorem dX11_laysRing_106 : decode cX11_laysRing 106 = .ok (.iload_n 3, 1) := by decide +kernel
theorem dX11_laysRing_107 : decode cX11_laysRing 107 = .ok (.iconst 2, 1) := by decide +kernel
theorem dX11_laysRing_108 : decode cX11_laysRing 108 = .ok (.if_icmp .ne 18, 3) := by decide +kernel
theorem dX11_laysRing_111 : decode cX11_laysRing 111 = .ok (.iload 7, 2) := by decide +kernel
theorem dX11_laysRing_113 : decode cX11_laysRing 113 = .ok (.i2l, 1) := by decide +kernel
theorem dX11_laysRing_114 : decode cX11_laysRing 114 = .ok (.iload 4, 2) := by decide +kernel
theorem dX11_laysRing_116 : decode cX11_laysRing 116 = .ok (.i2l, 1) := by decide +kernel
theorem dX11_laysRing_117 : decode cX11_laysRing 117 = .ok (.invokestatic 145, 3) := by decide +kernel
theorem dX11_laysRing_120 : decode cX11_laysRing 120 = .ok (.ifCond .ne 6, 3) := by decide +kernel
theorem dX11_laysRing_123 : decode cX11_laysRing 123 = .ok (.goto 33, 3) := by decide +kernel
theorem dX11_laysRing_126 : decode cX11_laysRing 126 = .ok (.aload_n 0, 1) := by decide +kernel
theorem dX11_laysRing_127 : decode cX11_laysRing 127 = .ok (.getfield 432, 3) := by decide +kernel
theorem dX11_laysRing_130 : decode cX11_laysRing 130 = .ok (.iload_n 2, 1) := by decide +kernel
theorem dX11_laysRing_131 : decode cX11_laysRing 131 = .ok (.if_icmp .ne 15, 3) := by decide +kernel
theorem dX11_laysRing_134 : decode cX11_laysRing 134 = .ok (.aload_n 0, 1) := by decide +kernel
theorem dX11_laysRing_135 : decode cX11_laysRing 135 = .ok (.iload 7, 2) := by decide +kernel
theorem dX11_laysRing_137 : decode cX11_laysRing 137 = .ok (.putfield 435, 3) := by decide +kernel
theorem dX11_laysRing_140 : decode cX11_laysRing 140 = .ok (.aload_n 0, 1) := by decide +kernel
theorem dX11_laysRing_141 : decode cX11_laysRing 141 = .ok (.iload 4, 2) := by decide +kernel
theorem dX11_laysRing_143 : decode cX11_laysRing 143 = .ok (.putfield 438, 3) := by decide +kernel
theorem dX11_laysRing_146 : decode cX11_laysRing 146 = .ok (.aload_n 0, 1) := by decide +kernel
theorem dX11_laysRing_147 : decode cX11_laysRing 147 = .ok (.aload_n 0, 1) := by decide +kernel
theorem dX11_laysRing_148 : decode cX11_laysRing 148 = .ok (.getfield 432, 3) := by decide +kernel
theorem dX11_laysRing_151 : decode cX11_laysRing 151 = .ok (.iconst 1, 1) := by decide +kernel
theorem dX11_laysRing_152 : decode cX11_laysRing 152 = .ok (.iadd, 1) := by decide +kernel
theorem dX11_laysRing_153 : decode cX11_laysRing 153 = .ok (.putfield 432, 3) := by decide +kernel
theorem dX11_laysRing_156 : decode cX11_laysRing 156 = .ok (.iload 6, 2) := by decide +kernel
theorem dX11_laysRing_158 : decode cX11_laysRing 158 = .ok (.iconst 2, 1) := by decide +kernel
theorem dX11_laysRing_159 : decode cX11_laysRing 159 = .ok (.iadd, 1) := by decide +kernel
theorem dX11_laysRing_160 : decode cX11_laysRing 160 = .ok (.istore 6, 2) := by decide +kernel
theorem dX11_laysRing_162 : decode cX11_laysRing 162 = .ok (.goto (-89), 3) := by decide +kernel
theorem dX11_laysRing_165 : decode cX11_laysRing 165 = .ok (.iinc 4 1, 3) := by decide +kernel
theorem dX11_laysRing_168 : decode cX11_laysRing 168 = .ok (.goto (-158), 3) := by decide +kernel
theorem dX11_laysRing_171 : decode cX11_laysRing 171 = .ok (.return_, 1) := by decide +kernel
theorem dX11_laysSigns_0 : decode cX11_laysSigns 0 = .ok (.aload_n 0, 1) := by decide +kernel
theorem dX11_laysSigns_1 : decode cX11_laysSigns 1 = .ok (.iload_n 1, 1) := by decide +kernel
theorem dX11_laysSigns_2 : decode cX11_laysSigns 2 = .ok (.invokevirtual 211, 3) := by decide +kernel
theorem dX11_laysSigns_5 : decode cX11_laysSigns 5 = .ok (.aload_n 0, 1) := by decide +kernel
theorem dX11_laysSigns_6 : decode cX11_laysSigns 6 = .ok (.getfield 105, 3) := by decide +kernel
theorem dX11_laysSigns_9 : decode cX11_laysSigns 9 = .ok (.iload_n 1, 1) := by decide +kernel
theorem dX11_laysSigns_10 : decode cX11_laysSigns 10 = .ok (.i2l, 1) := by decide +kernel
theorem dX11_laysSigns_11 : decode cX11_laysSigns 11 = .ok (.invokestatic 136, 3) := by decide +kernel
theorem dX11_laysSigns_14 : decode cX11_laysSigns 14 = .ok (.l2i, 1) := by decide +kernel
theorem dX11_laysSigns_15 : decode cX11_laysSigns 15 = .ok (.istore_n 2, 1) := by decide +kernel
theorem dX11_laysSigns_16 : decode cX11_laysSigns 16 = .ok (.aload_n 0, 1) := by decide +kernel
theorem dX11_laysSigns_17 : decode cX11_laysSigns 17 = .ok (.getfield 109, 3) := by decide +kernel
theorem dX11_laysSigns_20 : decode cX11_laysSigns 20 = .ok (.iload_n 1, 1) := by decide +kernel
theorem dX11_laysSigns_21 : decode cX11_laysSigns 21 = .ok (.i2l, 1) := by decide +kernel
theorem dX11_laysSigns_22 : decode cX11_laysSigns 22 = .ok (.invokestatic 136, 3) := by decide +kernel
theorem dX11_laysSigns_25 : decode cX11_laysSigns 25 = .ok (.l2i, 1) := by decide +kernel
theorem dX11_laysSigns_26 : decode cX11_laysSigns 26 = .ok (.istore_n 3, 1) := by decide +kernel
theorem dX11_laysSigns_27 : decode cX11_laysSigns 27 = .ok (.iload_n 1, 1) := by decide +kernel
theorem dX11_laysSigns_28 : decode cX11_laysSigns 28 = .ok (.iload_n 2, 1) := by decide +kernel
theorem dX11_laysSigns_29 : decode cX11_laysSigns 29 = .ok (.isub, 1) := by decide +kernel
theorem dX11_laysSigns_30 : decode cX11_laysSigns 30 = .ok (.iload_n 3, 1) := by decide +kernel
theorem dX11_laysSigns_31 : decode cX11_laysSigns 31 = .ok (.iload_n 1, 1) := by decide +kernel
theorem dX11_laysSigns_32 : decode cX11_laysSigns 32 = .ok (.iconst 2, 1) := by decide +kernel
theorem dX11_laysSigns_33 : decode cX11_laysSigns 33 = .ok (.isub, 1) := by decide +kernel
theorem dX11_laysSigns_34 : decode cX11_laysSigns 34 = .ok (.iload_n 1, 1) := by decide +kernel
theorem dX11_laysSigns_35 : decode cX11_laysSigns 35 = .ok (.invokestatic 371, 3) := by decide +kernel
theorem dX11_laysSigns_38 : decode cX11_laysSigns 38 = .ok (.imul, 1) := by decide +kernel
theorem dX11_laysSigns_39 : decode cX11_laysSigns 39 = .ok (.iload_n 1, 1) := by decide +kernel
theorem dX11_laysSigns_40 : decode cX11_laysSigns 40 = .ok (.irem, 1) := by decide +kernel
theorem dX11_laysSigns_41 : decode cX11_laysSigns 41 = .ok (.istore 4, 2) := by decide +kernel
theorem dX11_laysSigns_43 : decode cX11_laysSigns 43 = .ok (.iconst 1, 1) := by decide +kernel
theorem dX11_laysSigns_44 : decode cX11_laysSigns 44 = .ok (.istore 5, 2) := by decide +kernel
theorem dX11_laysSigns_46 : decode cX11_laysSigns 46 = .ok (.iload 5, 2) := by decide +kernel
theorem dX11_laysSigns_48 : decode cX11_laysSigns 48 = .ok (.iload_n 1, 1) := by decide +kernel
theorem dX11_laysSigns_49 : decode cX11_laysSigns 49 = .ok (.if_icmp .ge 51, 3) := by decide +kernel
theorem dX11_laysSigns_52 : decode cX11_laysSigns 52 = .ok (.iload 5, 2) := by decide +kernel
theorem dX11_laysSigns_54 : decode cX11_laysSigns 54 = .ok (.iload_n 1, 1) := by decide +kernel
theorem dX11_laysSigns_55 : decode cX11_laysSigns 55 = .ok (.iconst 1, 1) := by decide +kernel
theorem dX11_laysSigns_56 : decode cX11_laysSigns 56 = .ok (.isub, 1) := by decide +kernel
theorem dX11_laysSigns_57 : decode cX11_laysSigns 57 = .ok (.iconst 3, 1) := by decide +kernel
theorem dX11_laysSigns_58 : decode cX11_laysSigns 58 = .ok (.idiv, 1) := by decide +kernel
theorem dX11_laysSigns_59 : decode cX11_laysSigns 59 = .ok (.iload_n 1, 1) := by decide +kernel
theorem dX11_laysSigns_60 : decode cX11_laysSigns 60 = .ok (.invokestatic 371, 3) := by decide +kernel
theorem dX11_laysSigns_63 : decode cX11_laysSigns 63 = .ok (.istore 6, 2) := by decide +kernel
theorem dX11_laysSigns_65 : decode cX11_laysSigns 65 = .ok (.aload_n 0, 1) := by decide +kernel
theorem dX11_laysSigns_66 : decode cX11_laysSigns 66 = .ok (.getfield 48, 3) := by decide +kernel
theorem dX11_laysSigns_69 : decode cX11_laysSigns 69 = .ok (.iload 5, 2) := by decide +kernel
theorem dX11_laysSigns_71 : decode cX11_laysSigns 71 = .ok (.iload 6, 2) := by decide +kernel
theorem dX11_laysSigns_73 : decode cX11_laysSigns 73 = .ok (.iconst 1, 1) := by decide +kernel
theorem dX11_laysSigns_74 : decode cX11_laysSigns 74 = .ok (.if_icmp .ne 7, 3) := by decide +kernel
theorem dX11_laysSigns_77 : decode cX11_laysSigns 77 = .ok (.iconst 0, 1) := by decide +kernel
theorem dX11_laysSigns_78 : decode cX11_laysSigns 78 = .ok (.goto 15, 3) := by decide +kernel
theorem dX11_laysSigns_81 : decode cX11_laysSigns 81 = .ok (.iload 6, 2) := by decide +kernel
theorem dX11_laysSigns_83 : decode cX11_laysSigns 83 = .ok (.iload 4, 2) := by decide +kernel
theorem dX11_laysSigns_85 : decode cX11_laysSigns 85 = .ok (.if_icmp .ne 7, 3) := by decide +kernel
theorem dX11_laysSigns_88 : decode cX11_laysSigns 88 = .ok (.iconst 1, 1) := by decide +kernel
theorem dX11_laysSigns_89 : decode cX11_laysSigns 89 = .ok (.goto 4, 3) := by decide +kernel
theorem dX11_laysSigns_92 : decode cX11_laysSigns 92 = .ok (.iconst 2, 1) := by decide +kernel
theorem dX11_laysSigns_93 : decode cX11_laysSigns 93 = .ok (.iastore, 1) := by decide +kernel
theorem dX11_laysSigns_94 : decode cX11_laysSigns 94 = .ok (.iinc 5 1, 3) := by decide +kernel
theorem dX11_laysSigns_97 : decode cX11_laysSigns 97 = .ok (.goto (-51), 3) := by decide +kernel
theorem dX11_laysSigns_100 : decode cX11_laysSigns 100 = .ok (.return_, 1) := by decide +kernel
theorem dX11_least_0 : decode cX11_least 0 = .ok (.iload_n 1, 1) := by decide +kernel
theorem dX11_least_1 : decode cX11_least 1 = .ok (.iload_n 2, 1) := by decide +kernel
theorem dX11_least_2 : decode cX11_least 2 = .ok (.iload_n 3, 1) := by decide +kernel
theorem dX11_least_3 : decode cX11_least 3 = .ok (.invokestatic 265, 3) := by decide +kernel
theorem dX11_least_6 : decode cX11_least 6 = .ok (.ifCond .ne 5, 3) := by decide +kernel
theorem dX11_least_9 : decode cX11_least 9 = .ok (.iconst (-1), 1) := by decide +kernel
theorem dX11_least_10 : decode cX11_least 10 = .ok (.ireturn, 1) := by decide +kernel
theorem dX11_least_11 : decode cX11_least 11 = .ok (.aload_n 0, 1) := by decide +kernel
theorem dX11_least_12 : decode cX11_least 12 = .ok (.iload_n 1, 1) := by decide +kernel
theorem dX11_least_13 : decode cX11_least 13 = .ok (.iload_n 2, 1) := by decide +kernel
theorem dX11_least_14 : decode cX11_least 14 = .ok (.invokevirtual 269, 3) := by decide +kernel
theorem dX11_least_17 : decode cX11_least 17 = .ok (.ifCond .eq 11, 3) := by decide +kernel
theorem dX11_least_20 : decode cX11_least 20 = .ok (.aload_n 0, 1) := by decide +kernel
theorem dX11_least_21 : decode cX11_least 21 = .ok (.iload_n 2, 1) := by decide +kernel
theorem dX11_least_22 : decode cX11_least 22 = .ok (.invokevirtual 178, 3) := by decide +kernel
theorem dX11_least_25 : decode cX11_least 25 = .ok (.ifCond .eq 6, 3) := by decide +kernel
theorem dX11_least_28 : decode cX11_least 28 = .ok (.ldc 164, 2) := by decide +kernel
theorem dX11_least_30 : decode cX11_least 30 = .ok (.ireturn, 1) := by decide +kernel
theorem dX11_least_31 : decode cX11_least 31 = .ok (.aload_n 0, 1) := by decide +kernel
theorem dX11_least_32 : decode cX11_least 32 = .ok (.getfield 20, 3) := by decide +kernel
theorem dX11_least_35 : decode cX11_least 35 = .ok (.iload_n 2, 1) := by decide +kernel
theorem dX11_least_36 : decode cX11_least 36 = .ok (.iaload, 1) := by decide +kernel
theorem dX11_least_37 : decode cX11_least 37 = .ok (.i2l, 1) := by decide +kernel
theorem dX11_least_38 : decode cX11_least 38 = .ok (.lstore 4, 2) := by decide +kernel
theorem dX11_least_40 : decode cX11_least 40 = .ok (.aload_n 0, 1) := by decide +kernel
theorem dX11_least_41 : decode cX11_least 41 = .ok (.getfield 24, 3) := by decide +kernel
theorem dX11_least_44 : decode cX11_least 44 = .ok (.iload_n 2, 1) := by decide +kernel
theorem dX11_least_45 : decode cX11_least 45 = .ok (.iaload, 1) := by decide +kernel
theorem dX11_least_46 : decode cX11_least 46 = .ok (.i2l, 1) := by decide +kernel
theorem dX11_least_47 : decode cX11_least 47 = .ok (.lstore 6, 2) := by decide +kernel
theorem dX11_least_49 : decode cX11_least 49 = .ok (.aload_n 0, 1) := by decide +kernel
theorem dX11_least_50 : decode cX11_least 50 = .ok (.aload_n 0, 1) := by decide +kernel
theorem dX11_least_51 : decode cX11_least 51 = .ok (.getfield 20, 3) := by decide +kernel
theorem dX11_least_54 : decode cX11_least 54 = .ok (.iload_n 1, 1) := by decide +kernel
theorem dX11_least_55 : decode cX11_least 55 = .ok (.iaload, 1) := by decide +kernel
theorem dX11_least_56 : decode cX11_least 56 = .ok (.i2l, 1) := by decide +kernel
theorem dX11_least_57 : decode cX11_least 57 = .ok (.aload_n 0, 1) := by decide +kernel
theorem dX11_least_58 : decode cX11_least 58 = .ok (.getfield 24, 3) := by decide +kernel
theorem dX11_least_61 : decode cX11_least 61 = .ok (.iload_n 1, 1) := by decide +kernel
theorem dX11_least_62 : decode cX11_least 62 = .ok (.iaload, 1) := by decide +kernel
theorem dX11_least_63 : decode cX11_least 63 = .ok (.i2l, 1) := by decide +kernel
theorem dX11_least_64 : decode cX11_least 64 = .ok (.lload 4, 2) := by decide +kernel
theorem dX11_least_66 : decode cX11_least 66 = .ok (.lload 6, 2) := by decide +kernel
theorem dX11_least_68 : decode cX11_least 68 = .ok (.invokevirtual 131, 3) := by decide +kernel
theorem dX11_least_71 : decode cX11_least 71 = .ok (.aload_n 0, 1) := by decide +kernel
theorem dX11_least_72 : decode cX11_least 72 = .ok (.getfield 105, 3) := by decide +kernel
theorem dX11_least_75 : decode cX11_least 75 = .ok (.lstore 8, 2) := by decide +kernel
theorem dX11_least_77 : decode cX11_least 77 = .ok (.aload_n 0, 1) := by decide +kernel
theorem dX11_least_78 : decode cX11_least 78 = .ok (.getfield 109, 3) := by decide +kernel
theorem dX11_least_81 : decode cX11_least 81 = .ok (.lstore 10, 2) := by decide +kernel
theorem dX11_least_83 : decode cX11_least 83 = .ok (.lload 8, 2) := by decide +kernel
theorem dX11_least_85 : decode cX11_least 85 = .ok (.lstore 12, 2) := by decide +kernel
theorem dX11_least_87 : decode cX11_least 87 = .ok (.lload 10, 2) := by decide +kernel
theorem dX11_least_89 : decode cX11_least 89 = .ok (.lstore 14, 2) := by decide +kernel
theorem dX11_least_91 : decode cX11_least 91 = .ok (.bipush (-2), 2) := by decide +kernel
theorem dX11_least_93 : decode cX11_least 93 = .ok (.istore 16, 2) := by decide +kernel
theorem dX11_least_95 : decode cX11_least 95 = .ok (.iload 16, 2) := by decide +kernel
theorem dX11_least_97 : decode cX11_least 97 = .ok (.iconst 3, 1) := by decide +kernel
theorem dX11_least_98 : decode cX11_least 98 = .ok (.if_icmp .ge 126, 3) := by decide +kernel
theorem dX11_least_101 : decode cX11_least 101 = .ok (.bipush (-2), 2) := by decide +kernel
theorem dX11_least_103 : decode cX11_least 103 = .ok (.istore 17, 2) := by decide +kernel
theorem dX11_least_105 : decode cX11_least 105 = .ok (.iload 17, 2) := by decide +kernel
theorem dX11_least_107 : decode cX11_least 107 = .ok (.iconst 3, 1) := by decide +kernel
theorem dX11_least_108 : decode cX11_least 108 = .ok (.if_icmp .ge 110, 3) := by decide +kernel
theorem dX11_least_111 : decode cX11_least 111 = .ok (.aload_n 0, 1) := by decide +kernel
theorem dX11_least_112 : decode cX11_least 112 = .ok (.lload 4, 2) := by decide +kernel
theorem dX11_least_114 : decode cX11_least 114 = .ok (.lload 6, 2) := by decide +kernel
theorem dX11_least_116 : decode cX11_least 116 = .ok (.iload 16, 2) := by decide +kernel
theorem dX11_least_118 : decode cX11_least 118 = .ok (.i2l, 1) := by decide +kernel
theorem dX11_least_119 : decode cX11_least 119 = .ok (.iload 17, 2) := by decide +kernel
theorem dX11_least_121 : decode cX11_least 121 = .ok (.i2l, 1) := by decide +kernel
theorem dX11_least_122 : decode cX11_least 122 = .ok (.invokevirtual 121, 3) := by decide +kernel
theorem dX11_least_125 : decode cX11_least 125 = .ok (.lload 8, 2) := by decide +kernel
theorem dX11_least_127 : decode cX11_least 127 = .ok (.aload_n 0, 1) := by decide +kernel
theorem dX11_least_128 : decode cX11_least 128 = .ok (.getfield 105, 3) := by decide +kernel
theorem dX11_least_131 : decode cX11_least 131 = .ok (.ladd, 1) := by decide +kernel
theorem dX11_least_132 : decode cX11_least 132 = .ok (.lstore 18, 2) := by decide +kernel
theorem dX11_least_134 : decode cX11_least 134 = .ok (.lload 10, 2) := by decide +kernel
theorem dX11_least_136 : decode cX11_least 136 = .ok (.aload_n 0, 1) := by decide +kernel
theorem dX11_least_137 : decode cX11_least 137 = .ok (.getfield 109, 3) := by decide +kernel
theorem dX11_least_140 : decode cX11_least 140 = .ok (.ladd, 1) := by decide +kernel
theorem dX11_least_141 : decode cX11_least 141 = .ok (.lstore 20, 2) := by decide +kernel
theorem dX11_least_143 : decode cX11_least 143 = .ok (.lload 18, 2) := by decide +kernel
theorem dX11_least_145 : decode cX11_least 145 = .ok (.lload 20, 2) := by decide +kernel
theorem dX11_least_147 : decode cX11_least 147 = .ok (.invokestatic 112, 3) := by decide +kernel
theorem dX11_least_150 : decode cX11_least 150 = .ok (.lstore 22, 2) := by decide +kernel
theorem dX11_least_152 : decode cX11_least 152 = .ok (.lload 12, 2) := by decide +kernel
theorem dX11_least_154 : decode cX11_least 154 = .ok (.lload 14, 2) := by decide +kernel
theorem dX11_least_156 : decode cX11_least 156 = .ok (.invokestatic 112, 3) := by decide +kernel
theorem dX11_least_159 : decode cX11_least 159 = .ok (.lstore 24, 2) := by decide +kernel
theorem dX11_least_161 : decode cX11_least 161 = .ok (.lload 22, 2) := by decide +kernel
theorem dX11_least_163 : decode cX11_least 163 = .ok (.lload 24, 2) := by decide +kernel
theorem dX11_least_165 : decode cX11_least 165 = .ok (.lcmp, 1) := by decide +kernel
theorem dX11_least_166 : decode cX11_least 166 = .ok (.ifCond .gt 46, 3) := by decide +kernel
theorem dX11_least_169 : decode cX11_least 169 = .ok (.lload 22, 2) := by decide +kernel
theorem dX11_least_171 : decode cX11_least 171 = .ok (.lload 24, 2) := by decide +kernel
theorem dX11_least_173 : decode cX11_least 173 = .ok (.lcmp, 1) := by decide +kernel
theorem dX11_least_174 : decode cX11_least 174 = .ok (.ifCond .ne 30, 3) := by decide +kernel
theorem dX11_least_177 : decode cX11_least 177 = .ok (.lload 18, 2) := by decide +kernel
theorem dX11_least_179 : decode cX11_least 179 = .ok (.lload 12, 2) := by decide +kernel
theorem dX11_least_181 : decode cX11_least 181 = .ok (.lcmp, 1) := by decide +kernel
theorem dX11_least_182 : decode cX11_least 182 = .ok (.ifCond .gt 30, 3) := by decide +kernel
theorem dX11_least_185 : decode cX11_least 185 = .ok (.lload 18, 2) := by decide +kernel
theorem dX11_least_187 : decode cX11_least 187 = .ok (.lload 12, 2) := by decide +kernel
theorem dX11_least_189 : decode cX11_least 189 = .ok (.lcmp, 1) := by decide +kernel
theorem dX11_least_190 : decode cX11_least 190 = .ok (.ifCond .ne 14, 3) := by decide +kernel
theorem dX11_least_193 : decode cX11_least 193 = .ok (.lload 20, 2) := by decide +kernel
theorem dX11_least_195 : decode cX11_least 195 = .ok (.lload 14, 2) := by decide +kernel
theorem dX11_least_197 : decode cX11_least 197 = .ok (.lcmp, 1) := by decide +kernel
theorem dX11_least_198 : decode cX11_least 198 = .ok (.ifCond .lt 6, 3) := by decide +kernel
theorem dX11_least_201 : decode cX11_least 201 = .ok (.goto 11, 3) := by decide +kernel
theorem dX11_least_204 : decode cX11_least 204 = .ok (.lload 18, 2) := by decide +kernel
theorem dX11_least_206 : decode cX11_least 206 = .ok (.lstore 12, 2) := by decide +kernel
theorem dX11_least_208 : decode cX11_least 208 = .ok (.lload 20, 2) := by decide +kernel
theorem dX11_least_210 : decode cX11_least 210 = .ok (.lstore 14, 2) := by decide +kernel
theorem dX11_least_212 : decode cX11_least 212 = .ok (.iinc 17 1, 3) := by decide +kernel
theorem dX11_least_215 : decode cX11_least 215 = .ok (.goto (-110), 3) := by decide +kernel
theorem dX11_least_218 : decode cX11_least 218 = .ok (.iinc 16 1, 3) := by decide +kernel
theorem dX11_least_221 : decode cX11_least 221 = .ok (.goto (-126), 3) := by decide +kernel
theorem dX11_least_224 : decode cX11_least 224 = .ok (.iload_n 3, 1) := by decide +kernel
theorem dX11_least_225 : decode cX11_least 225 = .ok (.ifCond .ne 8, 3) := by decide +kernel
theorem dX11_least_228 : decode cX11_least 228 = .ok (.lload 12, 2) := by decide +kernel
theorem dX11_least_230 : decode cX11_least 230 = .ok (.goto 5, 3) := by decide +kernel
theorem dX11_least_233 : decode cX11_least 233 = .ok (.lload 14, 2) := by decide +kernel
theorem dX11_least_235 : decode cX11_least 235 = .ok (.l2i, 1) := by decide +kernel
theorem dX11_least_236 : decode cX11_least 236 = .ok (.ireturn, 1) := by decide +kernel
theorem dX11_leastCube_0 : decode cX11_leastCube 0 = .ok (.iconst 2, 1) := by decide +kernel
theorem dX11_leastCube_1 : decode cX11_leastCube 1 = .ok (.istore_n 2, 1) := by decide +kernel
theorem dX11_leastCube_2 : decode cX11_leastCube 2 = .ok (.iload_n 2, 1) := by decide +kernel
theorem dX11_leastCube_3 : decode cX11_leastCube 3 = .ok (.iload_n 0, 1) := by decide +kernel
theorem dX11_leastCube_4 : decode cX11_leastCube 4 = .ok (.invokestatic 375, 3) := by decide +kernel
theorem dX11_leastCube_7 : decode cX11_leastCube 7 = .ok (.iload_n 1, 1) := by decide +kernel
theorem dX11_leastCube_8 : decode cX11_leastCube 8 = .ok (.if_icmp .eq 10, 3) := by decide +kernel
theorem dX11_leastCube_11 : decode cX11_leastCube 11 = .ok (.iload_n 2, 1) := by decide +kernel
theorem dX11_leastCube_12 : decode cX11_leastCube 12 = .ok (.iconst 1, 1) := by decide +kernel
theorem dX11_leastCube_13 : decode cX11_leastCube 13 = .ok (.iadd, 1) := by decide +kernel
theorem dX11_leastCube_14 : decode cX11_leastCube 14 = .ok (.istore_n 2, 1) := by decide +kernel
theorem dX11_leastCube_15 : decode cX11_leastCube 15 = .ok (.goto (-13), 3) := by decide +kernel
theorem dX11_leastCube_18 : decode cX11_leastCube 18 = .ok (.iload_n 2, 1) := by decide +kernel
theorem dX11_leastCube_19 : decode cX11_leastCube 19 = .ok (.ireturn, 1) := by decide +kernel
theorem dX11_leastPart_0 : decode cX11_leastPart 0 = .ok (.iconst 2, 1) := by decide +kernel
theorem dX11_leastPart_1 : decode cX11_leastPart 1 = .ok (.istore_n 1, 1) := by decide +kernel
theorem dX11_leastPart_2 : decode cX11_leastPart 2 = .ok (.iload_n 1, 1) := by decide +kernel
theorem dX11_leastPart_3 : decode cX11_leastPart 3 = .ok (.iload_n 1, 1) := by decide +kernel
theorem dX11_leastPart_4 : decode cX11_leastPart 4 = .ok (.imul, 1) := by decide +kernel
theorem dX11_leastPart_5 : decode cX11_leastPart 5 = .ok (.iload_n 0, 1) := by decide +kernel
theorem dX11_leastPart_6 : decode cX11_leastPart 6 = .ok (.if_icmp .gt 16, 3) := by decide +kernel
theorem dX11_leastPart_9 : decode cX11_leastPart 9 = .ok (.iload_n 0, 1) := by decide +kernel
theorem dX11_leastPart_10 : decode cX11_leastPart 10 = .ok (.iload_n 1, 1) := by decide +kernel
theorem dX11_leastPart_11 : decode cX11_leastPart 11 = .ok (.irem, 1) := by decide +kernel
theorem dX11_leastPart_12 : decode cX11_leastPart 12 = .ok (.ifCond .eq 10, 3) := by decide +kernel
theorem dX11_leastPart_15 : decode cX11_leastPart 15 = .ok (.iload_n 1, 1) := by decide +kernel
theorem dX11_leastPart_16 : decode cX11_leastPart 16 = .ok (.iconst 1, 1) := by decide +kernel
theorem dX11_leastPart_17 : decode cX11_leastPart 17 = .ok (.iadd, 1) := by decide +kernel
theorem dX11_leastPart_18 : decode cX11_leastPart 18 = .ok (.istore_n 1, 1) := by decide +kernel
theorem dX11_leastPart_19 : decode cX11_leastPart 19 = .ok (.goto (-17), 3) := by decide +kernel
theorem dX11_leastPart_22 : decode cX11_leastPart 22 = .ok (.iload_n 1, 1) := by decide +kernel
theorem dX11_leastPart_23 : decode cX11_leastPart 23 = .ok (.iload_n 1, 1) := by decide +kernel
theorem dX11_leastPart_24 : decode cX11_leastPart 24 = .ok (.imul, 1) := by decide +kernel
theorem dX11_leastPart_25 : decode cX11_leastPart 25 = .ok (.iload_n 0, 1) := by decide +kernel
theorem dX11_leastPart_26 : decode cX11_leastPart 26 = .ok (.if_icmp .gt 7, 3) := by decide +kernel
theorem dX11_leastPart_29 : decode cX11_leastPart 29 = .ok (.iload_n 1, 1) := by decide +kernel
theorem dX11_leastPart_30 : decode cX11_leastPart 30 = .ok (.goto 4, 3) := by decide +kernel
theorem dX11_leastPart_33 : decode cX11_leastPart 33 = .ok (.iload_n 0, 1) := by decide +kernel
theorem dX11_leastPart_34 : decode cX11_leastPart 34 = .ok (.ireturn, 1) := by decide +kernel
theorem dX11_length_0 : decode cX11_length 0 = .ok (.iload_n 1, 1) := by decide +kernel
theorem dX11_length_1 : decode cX11_length 1 = .ok (.invokestatic 85, 3) := by decide +kernel
theorem dX11_length_4 : decode cX11_length 4 = .ok (.ifCond .ne 5, 3) := by decide +kernel
theorem dX11_length_7 : decode cX11_length 7 = .ok (.iconst (-1), 1) := by decide +kernel
theorem dX11_length_8 : decode cX11_length 8 = .ok (.ireturn, 1) := by decide +kernel
theorem dX11_length_9 : decode cX11_length 9 = .ok (.aload_n 0, 1) := by decide +kernel
theorem dX11_length_10 : decode cX11_length 10 = .ok (.getfield 13, 3) := by decide +kernel
theorem dX11_length_13 : decode cX11_length 13 = .ok (.iload_n 1, 1) := by decide +kernel
theorem dX11_length_14 : decode cX11_length 14 = .ok (.baload, 1) := by decide +kernel
theorem dX11_length_15 : decode cX11_length 15 = .ok (.ifCond .ne 6, 3) := by decide +kernel
theorem dX11_length_18 : decode cX11_length 18 = .ok (.bipush (-2), 2) := by decide +kernel
theorem dX11_length_20 : decode cX11_length 20 = .ok (.ireturn, 1) := by decide +kernel
theorem dX11_length_21 : decode cX11_length 21 = .ok (.aload_n 0, 1) := by decide +kernel
theorem dX11_length_22 : decode cX11_length 22 = .ok (.iload_n 1, 1) := by decide +kernel
theorem dX11_length_23 : decode cX11_length 23 = .ok (.invokevirtual 178, 3) := by decide +kernel
theorem dX11_length_26 : decode cX11_length 26 = .ok (.ifCond .eq 5, 3) := by decide +kernel
theorem dX11_length_29 : decode cX11_length 29 = .ok (.iconst 0, 1) := by decide +kernel
theorem dX11_length_30 : decode cX11_length 30 = .ok (.ireturn, 1) := by decide +kernel
theorem dX11_length_31 : decode cX11_length 31 = .ok (.aload_n 0, 1) := by decide +kernel
theorem dX11_length_32 : decode cX11_length 32 = .ok (.aload_n 0, 1) := by decide +kernel
theorem dX11_length_33 : decode cX11_length 33 = .ok (.getfield 20, 3) := by decide +kernel
theorem dX11_length_36 : decode cX11_length 36 = .ok (.iload_n 1, 1) := by decide +kernel
theorem dX11_length_37 : decode cX11_length 37 = .ok (.iaload, 1) := by decide +kernel
theorem dX11_length_38 : decode cX11_length 38 = .ok (.i2l, 1) := by decide +kernel
theorem dX11_length_39 : decode cX11_length 39 = .ok (.aload_n 0, 1) := by decide +kernel
theorem dX11_length_40 : decode cX11_length 40 = .ok (.getfield 24, 3) := by decide +kernel
theorem dX11_length_43 : decode cX11_length 43 = .ok (.iload_n 1, 1) := by decide +kernel
theorem dX11_length_44 : decode cX11_length 44 = .ok (.iaload, 1) := by decide +kernel
theorem dX11_length_45 : decode cX11_length 45 = .ok (.i2l, 1) := by decide +kernel
theorem dX11_length_46 : decode cX11_length 46 = .ok (.invokestatic 112, 3) := by decide +kernel
theorem dX11_length_49 : decode cX11_length 49 = .ok (.iconst 0, 1) := by decide +kernel
theorem dX11_length_50 : decode cX11_length 50 = .ok (.iconst 0, 1) := by decide +kernel
theorem dX11_length_51 : decode cX11_length 51 = .ok (.invokevirtual 423, 3) := by decide +kernel
theorem dX11_length_54 : decode cX11_length 54 = .ok (.aload_n 0, 1) := by decide +kernel
theorem dX11_length_55 : decode cX11_length 55 = .ok (.getfield 416, 3) := by decide +kernel
theorem dX11_length_58 : decode cX11_length 58 = .ok (.lstore_n 2, 1) := by decide +kernel
theorem dX11_length_59 : decode cX11_length 59 = .ok (.aload_n 0, 1) := by decide +kernel
theorem dX11_length_60 : decode cX11_length 60 = .ok (.getfield 419, 3) := by decide +kernel
theorem dX11_length_63 : decode cX11_length 63 = .ok (.istore 4, 2) := by decide +kernel
theorem dX11_length_65 : decode cX11_length 65 = .ok (.lload_n 2, 1) := by decide +kernel
theorem dX11_length_66 : decode cX11_length 66 = .ok (.lstore 5, 2) := by decide +kernel
theorem dX11_length_68 : decode cX11_length 68 = .ok (.iload 4, 2) := by decide +kernel
theorem dX11_length_70 : decode cX11_length 70 = .ok (.iconst 1, 1) := by decide +kernel
theorem dX11_length_71 : decode cX11_length 71 = .ok (.isub, 1) := by decide +kernel
theorem dX11_length_72 : decode cX11_length 72 = .ok (.istore 7, 2) := by decide +kernel
theorem dX11_length_74 : decode cX11_length 74 = .ok (.iconst 0, 1) := by decide +kernel
theorem dX11_length_75 : decode cX11_length 75 = .ok (.istore 8, 2) := by decide +kernel
theorem dX11_length_77 : decode cX11_length 77 = .ok (.iload 8, 2) := by decide +kernel
theorem dX11_length_79 : decode cX11_length 79 = .ok (.bipush 6, 2) := by decide +kernel
theorem dX11_length_81 : decode cX11_length 81 = .ok (.if_icmp .ge 109, 3) := by decide +kernel
theorem dX11_length_84 : decode cX11_length 84 = .ok (.lload_n 2, 1) := by decide +kernel
theorem dX11_length_85 : decode cX11_length 85 = .ok (.bipush 38, 2) := by decide +kernel
theorem dX11_length_87 : decode cX11_length 87 = .ok (.lshl, 1) := by decide +kernel
theorem dX11_length_88 : decode cX11_length 88 = .ok (.lstore 9, 2) := by decide +kernel
theorem dX11_length_90 : decode cX11_length 90 = .ok (.aload_n 0, 1) := by decide +kernel
theorem dX11_length_91 : decode cX11_length 91 = .ok (.lload 9, 2) := by decide +kernel
theorem dX11_length_93 : decode cX11_length 93 = .ok (.lload 5, 2) := by decide +kernel
theorem dX11_length_95 : decode cX11_length 95 = .ok (.ldiv, 1) := by decide +kernel
theorem dX11_length_96 : decode cX11_length 96 = .ok (.iload 4, 2) := by decide +kernel
theorem dX11_length_98 : decode cX11_length 98 = .ok (.iload 7, 2) := by decide +kernel
theorem dX11_length_100 : decode cX11_length 100 = .ok (.isub, 1) := by decide +kernel
theorem dX11_length_101 : decode cX11_length 101 = .ok (.bipush 38, 2) := by decide +kernel
theorem dX11_length_103 : decode cX11_length 103 = .ok (.isub, 1) := by decide +kernel
theorem dX11_length_104 : decode cX11_length 104 = .ok (.lload 9, 2) := by decide +kernel
theorem dX11_length_106 : decode cX11_length 106 = .ok (.lload 5, 2) := by decide +kernel
theorem dX11_length_108 : decode cX11_length 108 = .ok (.lrem, 1) := by decide +kernel
theorem dX11_length_109 : decode cX11_length 109 = .ok (.lconst 0, 1) := by decide +kernel
theorem dX11_length_110 : decode cX11_length 110 = .ok (.lcmp, 1) := by decide +kernel
theorem dX11_length_111 : decode cX11_length 111 = .ok (.ifCond .eq 7, 3) := by decide +kernel
theorem dX11_length_114 : decode cX11_length 114 = .ok (.iconst 1, 1) := by decide +kernel
theorem dX11_length_115 : decode cX11_length 115 = .ok (.goto 4, 3) := by decide +kernel
theorem dX11_length_118 : decode cX11_length 118 = .ok (.iconst 0, 1) := by decide +kernel
theorem dX11_length_119 : decode cX11_length 119 = .ok (.invokevirtual 423, 3) := by decide +kernel
theorem dX11_length_122 : decode cX11_length 122 = .ok (.iload 7, 2) := by decide +kernel
theorem dX11_length_124 : decode cX11_length 124 = .ok (.aload_n 0, 1) := by decide +kernel
theorem dX11_length_125 : decode cX11_length 125 = .ok (.getfield 419, 3) := by decide +kernel
theorem dX11_length_128 : decode cX11_length 128 = .ok (.if_icmp .ge 8, 3) := by decide +kernel
theorem dX11_length_131 : decode cX11_length 131 = .ok (.iload 7, 2) := by decide +kernel
theorem dX11_length_133 : decode cX11_length 133 = .ok (.goto 7, 3) := by decide +kernel
theorem dX11_length_136 : decode cX11_length 136 = .ok (.aload_n 0, 1) := by decide +kernel
theorem dX11_length_137 : decode cX11_length 137 = .ok (.getfield 419, 3) := by decide +kernel
theorem dX11_length_140 : decode cX11_length 140 = .ok (.istore 11, 2) := by decide +kernel
theorem dX11_length_142 : decode cX11_length 142 = .ok (.aload_n 0, 1) := by decide +kernel
theorem dX11_length_143 : decode cX11_length 143 = .ok (.lload 5, 2) := by decide +kernel
theorem dX11_length_145 : decode cX11_length 145 = .ok (.iload 7, 2) := by decide +kernel
theorem dX11_length_147 : decode cX11_length 147 = .ok (.iload 11, 2) := by decide +kernel
theorem dX11_length_149 : decode cX11_length 149 = .ok (.isub, 1) := by decide +kernel
theorem dX11_length_150 : decode cX11_length 150 = .ok (.lshl, 1) := by decide +kernel
theorem dX11_length_151 : decode cX11_length 151 = .ok (.aload_n 0, 1) := by decide +kernel
theorem dX11_length_152 : decode cX11_length 152 = .ok (.getfield 416, 3) := by decide +kernel
theorem dX11_length_155 : decode cX11_length 155 = .ok (.aload_n 0, 1) := by decide +kernel
theorem dX11_length_156 : decode cX11_length 156 = .ok (.getfield 419, 3) := by decide +kernel
theorem dX11_length_159 : decode cX11_length 159 = .ok (.iload 11, 2) := by decide +kernel
theorem dX11_length_161 : decode cX11_length 161 = .ok (.isub, 1) := by decide +kernel
theorem dX11_length_162 : decode cX11_length 162 = .ok (.lshl, 1) := by decide +kernel
theorem dX11_length_163 : decode cX11_length 163 = .ok (.ladd, 1) := by decide +kernel
theorem dX11_length_164 : decode cX11_length 164 = .ok (.iload 11, 2) := by decide +kernel
theorem dX11_length_166 : decode cX11_length 166 = .ok (.iconst 0, 1) := by decide +kernel
theorem dX11_length_167 : decode cX11_length 167 = .ok (.invokevirtual 423, 3) := by decide +kernel
theorem dX11_length_170 : decode cX11_length 170 = .ok (.aload_n 0, 1) := by decide +kernel
theorem dX11_length_171 : decode cX11_length 171 = .ok (.getfield 416, 3) := by decide +kernel
theorem dX11_length_174 : decode cX11_length 174 = .ok (.lstore 5, 2) := by decide +kernel
theorem dX11_length_176 : decode cX11_length 176 = .ok (.aload_n 0, 1) := by decide +kernel
theorem dX11_length_177 : decode cX11_length 177 = .ok (.getfield 419, 3) := by decide +kernel
theorem dX11_length_180 : decode cX11_length 180 = .ok (.iconst 1, 1) := by decide +kernel
theorem dX11_length_181 : decode cX11_length 181 = .ok (.isub, 1) := by decide +kernel
theorem dX11_length_182 : decode cX11_length 182 = .ok (.istore 7, 2) := by decide +kernel
theorem dX11_length_184 : decode cX11_length 184 = .ok (.iinc 8 1, 3) := by decide +kernel
theorem dX11_length_187 : decode cX11_length 187 = .ok (.goto (-110), 3) := by decide +kernel
theorem dX11_length_190 : decode cX11_length 190 = .ok (.aload_n 0, 1) := by decide +kernel
theorem dX11_length_191 : decode cX11_length 191 = .ok (.lload 5, 2) := by decide +kernel
theorem dX11_length_193 : decode cX11_length 193 = .ok (.ldc2_w 427, 3) := by decide +kernel
theorem dX11_length_196 : decode cX11_length 196 = .ok (.lmul, 1) := by decide +kernel
theorem dX11_length_197 : decode cX11_length 197 = .ok (.iload 7, 2) := by decide +kernel
theorem dX11_length_199 : decode cX11_length 199 = .ok (.iconst 0, 1) := by decide +kernel
theorem dX11_length_200 : decode cX11_length 200 = .ok (.invokevirtual 423, 3) := by decide +kernel
theorem dX11_length_203 : decode cX11_length 203 = .ok (.aload_n 0, 1) := by decide +kernel
theorem dX11_length_204 : decode cX11_length 204 = .ok (.invokevirtual 429, 3) := by decide +kernel
theorem dX11_length_207 : decode cX11_length 207 = .ok (.ireturn, 1) := by decide +kernel
theorem dX11_letter_0 : decode cX11_letter 0 = .ok (.iload_n 1, 1) := by decide +kernel
theorem dX11_letter_1 : decode cX11_letter 1 = .ok (.invokestatic 85, 3) := by decide +kernel
theorem dX11_letter_4 : decode cX11_letter 4 = .ok (.ifCond .eq 8, 3) := by decide +kernel
theorem dX11_letter_7 : decode cX11_letter 7 = .ok (.iload_n 2, 1) := by decide +kernel
theorem dX11_letter_8 : decode cX11_letter 8 = .ok (.iconst (-1), 1) := by decide +kernel
theorem dX11_letter_9 : decode cX11_letter 9 = .ok (.if_icmp .ge 5, 3) := by decide +kernel
theorem dX11_letter_12 : decode cX11_letter 12 = .ok (.iconst (-1), 1) := by decide +kernel
theorem dX11_letter_13 : decode cX11_letter 13 = .ok (.ireturn, 1) := by decide +kernel
theorem dX11_letter_14 : decode cX11_letter 14 = .ok (.aload_n 0, 1) := by decide +kernel
theorem dX11_letter_15 : decode cX11_letter 15 = .ok (.getfield 13, 3) := by decide +kernel
theorem dX11_letter_18 : decode cX11_letter 18 = .ok (.iload_n 1, 1) := by decide +kernel
theorem dX11_letter_19 : decode cX11_letter 19 = .ok (.baload, 1) := by decide +kernel
theorem dX11_letter_20 : decode cX11_letter 20 = .ok (.ifCond .ne 6, 3) := by decide +kernel
theorem dX11_letter_23 : decode cX11_letter 23 = .ok (.bipush (-2), 2) := by decide +kernel
theorem dX11_letter_25 : decode cX11_letter 25 = .ok (.ireturn, 1) := by decide +kernel
theorem dX11_letter_26 : decode cX11_letter 26 = .ok (.aload_n 0, 1) := by decide +kernel
theorem dX11_letter_27 : decode cX11_letter 27 = .ok (.getfield 20, 3) := by decide +kernel
theorem dX11_letter_30 : decode cX11_letter 30 = .ok (.iload_n 1, 1) := by decide +kernel
theorem dX11_letter_31 : decode cX11_letter 31 = .ok (.iaload, 1) := by decide +kernel
theorem dX11_letter_32 : decode cX11_letter 32 = .ok (.istore_n 3, 1) := by decide +kernel
theorem dX11_letter_33 : decode cX11_letter 33 = .ok (.aload_n 0, 1) := by decide +kernel
theorem dX11_letter_34 : decode cX11_letter 34 = .ok (.getfield 24, 3) := by decide +kernel
theorem dX11_letter_37 : decode cX11_letter 37 = .ok (.iload_n 1, 1) := by decide +kernel
theorem dX11_letter_38 : decode cX11_letter 38 = .ok (.iaload, 1) := by decide +kernel
theorem dX11_letter_39 : decode cX11_letter 39 = .ok (.istore 4, 2) := by decide +kernel
theorem dX11_letter_41 : decode cX11_letter 41 = .ok (.aload_n 0, 1) := by decide +kernel
theorem dX11_letter_42 : decode cX11_letter 42 = .ok (.iconst 0, 1) := by decide +kernel
theorem dX11_letter_43 : decode cX11_letter 43 = .ok (.putfield 399, 3) := by decide +kernel
theorem dX11_letter_46 : decode cX11_letter 46 = .ok (.aload_n 0, 1) := by decide +kernel
theorem dX11_letter_47 : decode cX11_letter 47 = .ok (.iload_n 2, 1) := by decide +kernel
theorem dX11_letter_48 : decode cX11_letter 48 = .ok (.putfield 402, 3) := by decide +kernel
theorem dX11_letter_51 : decode cX11_letter 51 = .ok (.iload_n 3, 1) := by decide +kernel
theorem dX11_letter_52 : decode cX11_letter 52 = .ok (.ifCond .ge 9, 3) := by decide +kernel
theorem dX11_letter_55 : decode cX11_letter 55 = .ok (.aload_n 0, 1) := by decide +kernel
theorem dX11_letter_56 : decode cX11_letter 56 = .ok (.bipush 45, 2) := by decide +kernel
theorem dX11_letter_58 : decode cX11_letter 58 = .ok (.invokevirtual 408, 3) := by decide +kernel
theorem dX11_letter_61 : decode cX11_letter 61 = .ok (.iload_n 3, 1) := by decide +kernel
theorem dX11_letter_62 : decode cX11_letter 62 = .ok (.ifCond .ne 8, 3) := by decide +kernel
theorem dX11_letter_65 : decode cX11_letter 65 = .ok (.iload 4, 2) := by decide +kernel
theorem dX11_letter_67 : decode cX11_letter 67 = .ok (.ifCond .ne 17, 3) := by decide +kernel
theorem dX11_letter_70 : decode cX11_letter 70 = .ok (.aload_n 0, 1) := by decide +kernel
theorem dX11_letter_71 : decode cX11_letter 71 = .ok (.iload_n 3, 1) := by decide +kernel
theorem dX11_letter_72 : decode cX11_letter 72 = .ok (.ifCond .ge 8, 3) := by decide +kernel
theorem dX11_letter_75 : decode cX11_letter 75 = .ok (.iload_n 3, 1) := by decide +kernel
theorem dX11_letter_76 : decode cX11_letter 76 = .ok (.ineg, 1) := by decide +kernel
theorem dX11_letter_77 : decode cX11_letter 77 = .ok (.goto 4, 3) := by decide +kernel
theorem dX11_letter_80 : decode cX11_letter 80 = .ok (.iload_n 3, 1) := by decide +kernel
theorem dX11_letter_81 : decode cX11_letter 81 = .ok (.invokevirtual 411, 3) := by decide +kernel
theorem dX11_letter_84 : decode cX11_letter 84 = .ok (.iload 4, 2) := by decide +kernel
theorem dX11_letter_86 : decode cX11_letter 86 = .ok (.ifCond .ge 9, 3) := by decide +kernel
theorem dX11_letter_89 : decode cX11_letter 89 = .ok (.aload_n 0, 1) := by decide +kernel
theorem dX11_letter_90 : decode cX11_letter 90 = .ok (.bipush 45, 2) := by decide +kernel
theorem dX11_letter_92 : decode cX11_letter 92 = .ok (.invokevirtual 408, 3) := by decide +kernel
theorem dX11_letter_95 : decode cX11_letter 95 = .ok (.iload 4, 2) := by decide +kernel
theorem dX11_letter_97 : decode cX11_letter 97 = .ok (.ifCond .le 13, 3) := by decide +kernel
theorem dX11_letter_100 : decode cX11_letter 100 = .ok (.iload_n 3, 1) := by decide +kernel
theorem dX11_letter_101 : decode cX11_letter 101 = .ok (.ifCond .eq 9, 3) := by decide +kernel
theorem dX11_letter_104 : decode cX11_letter 104 = .ok (.aload_n 0, 1) := by decide +kernel
theorem dX11_letter_105 : decode cX11_letter 105 = .ok (.bipush 43, 2) := by decide +kernel
theorem dX11_letter_107 : decode cX11_letter 107 = .ok (.invokevirtual 408, 3) := by decide +kernel
theorem dX11_letter_110 : decode cX11_letter 110 = .ok (.iload 4, 2) := by decide +kernel
theorem dX11_letter_112 : decode cX11_letter 112 = .ok (.iconst 1, 1) := by decide +kernel
theorem dX11_letter_113 : decode cX11_letter 113 = .ok (.if_icmp .gt 9, 3) := by decide +kernel
theorem dX11_letter_116 : decode cX11_letter 116 = .ok (.iload 4, 2) := by decide +kernel
theorem dX11_letter_118 : decode cX11_letter 118 = .ok (.iconst (-1), 1) := by decide +kernel
theorem dX11_letter_119 : decode cX11_letter 119 = .ok (.if_icmp .ge 20, 3) := by decide +kernel
theorem dX11_letter_122 : decode cX11_letter 122 = .ok (.aload_n 0, 1) := by decide +kernel
theorem dX11_letter_123 : decode cX11_letter 123 = .ok (.iload 4, 2) := by decide +kernel
theorem dX11_letter_125 : decode cX11_letter 125 = .ok (.ifCond .ge 9, 3) := by decide +kernel
theorem dX11_letter_128 : decode cX11_letter 128 = .ok (.iload 4, 2) := by decide +kernel
theorem dX11_letter_130 : decode cX11_letter 130 = .ok (.ineg, 1) := by decide +kernel
theorem dX11_letter_131 : decode cX11_letter 131 = .ok (.goto 5, 3) := by decide +kernel
theorem dX11_letter_134 : decode cX11_letter 134 = .ok (.iload 4, 2) := by decide +kernel
theorem dX11_letter_136 : decode cX11_letter 136 = .ok (.invokevirtual 411, 3) := by decide +kernel
theorem dX11_letter_139 : decode cX11_letter 139 = .ok (.iload 4, 2) := by decide +kernel
theorem dX11_letter_141 : decode cX11_letter 141 = .ok (.ifCond .eq 9, 3) := by decide +kernel
theorem dX11_letter_144 : decode cX11_letter 144 = .ok (.aload_n 0, 1) := by decide +kernel
theorem dX11_letter_145 : decode cX11_letter 145 = .ok (.bipush 119, 2) := by decide +kernel
theorem dX11_letter_147 : decode cX11_letter 147 = .ok (.invokevirtual 408, 3) := by decide +kernel
theorem dX11_letter_150 : decode cX11_letter 150 = .ok (.iload_n 2, 1) := by decide +kernel
theorem dX11_letter_151 : decode cX11_letter 151 = .ok (.iconst (-1), 1) := by decide +kernel
theorem dX11_letter_152 : decode cX11_letter 152 = .ok (.if_icmp .ne 10, 3) := by decide +kernel
theorem dX11_letter_155 : decode cX11_letter 155 = .ok (.aload_n 0, 1) := by decide +kernel
theorem dX11_letter_156 : decode cX11_letter 156 = .ok (.getfield 399, 3) := by decide +kernel
theorem dX11_letter_159 : decode cX11_letter 159 = .ok (.goto 20, 3) := by decide +kernel
theorem dX11_letter_162 : decode cX11_letter 162 = .ok (.iload_n 2, 1) := by decide +kernel
theorem dX11_letter_163 : decode cX11_letter 163 = .ok (.aload_n 0, 1) := by decide +kernel
theorem dX11_letter_164 : decode cX11_letter 164 = .ok (.getfield 399, 3) := by decide +kernel
theorem dX11_letter_167 : decode cX11_letter 167 = .ok (.if_icmp .ge 10, 3) := by decide +kernel
theorem dX11_letter_170 : decode cX11_letter 170 = .ok (.aload_n 0, 1) := by decide +kernel
theorem dX11_letter_171 : decode cX11_letter 171 = .ok (.getfield 405, 3) := by decide +kernel
theorem dX11_letter_174 : decode cX11_letter 174 = .ok (.goto 5, 3) := by decide +kernel
theorem dX11_letter_177 : decode cX11_letter 177 = .ok (.bipush (-3), 2) := by decide +kernel
theorem dX11_letter_179 : decode cX11_letter 179 = .ok (.ireturn, 1) := by decide +kernel
theorem dX11_letters_0 : decode cX11_letters 0 = .ok (.aload_n 0, 1) := by decide +kernel
theorem dX11_letters_1 : decode cX11_letters 1 = .ok (.getfield 399, 3) := by decide +kernel
theorem dX11_letters_4 : decode cX11_letters 4 = .ok (.aload_n 0, 1) := by decide +kernel
theorem dX11_letters_5 : decode cX11_letters 5 = .ok (.getfield 402, 3) := by decide +kernel
theorem dX11_letters_8 : decode cX11_letters 8 = .ok (.if_icmp .ne 8, 3) := by decide +kernel
theorem dX11_letters_11 : decode cX11_letters 11 = .ok (.aload_n 0, 1) := by decide +kernel
theorem dX11_letters_12 : decode cX11_letters 12 = .ok (.iload_n 1, 1) := by decide +kernel
theorem dX11_letters_13 : decode cX11_letters 13 = .ok (.putfield 405, 3) := by decide +kernel
theorem dX11_letters_16 : decode cX11_letters 16 = .ok (.aload_n 0, 1) := by decide +kernel
theorem dX11_letters_17 : decode cX11_letters 17 = .ok (.aload_n 0, 1) := by decide +kernel
theorem dX11_letters_18 : decode cX11_letters 18 = .ok (.getfield 399, 3) := by decide +kernel
theorem dX11_letters_21 : decode cX11_letters 21 = .ok (.iconst 1, 1) := by decide +kernel
theorem dX11_letters_22 : decode cX11_letters 22 = .ok (.iadd, 1) := by decide +kernel
theorem dX11_letters_23 : decode cX11_letters 23 = .ok (.putfield 399, 3) := by decide +kernel
theorem dX11_letters_26 : decode cX11_letters 26 = .ok (.return_, 1) := by decide +kernel
theorem dX11_linear_0 : decode cX11_linear 0 = .ok (.iload_n 1, 1) := by decide +kernel
theorem dX11_linear_1 : decode cX11_linear 1 = .ok (.invokestatic 85, 3) := by decide +kernel
theorem dX11_linear_4 : decode cX11_linear 4 = .ok (.ifCond .eq 39, 3) := by decide +kernel
theorem dX11_linear_7 : decode cX11_linear 7 = .ok (.iload_n 2, 1) := by decide +kernel
theorem dX11_linear_8 : decode cX11_linear 8 = .ok (.invokestatic 85, 3) := by decide +kernel
theorem dX11_linear_11 : decode cX11_linear 11 = .ok (.ifCond .eq 32, 3) := by decide +kernel
theorem dX11_linear_14 : decode cX11_linear 14 = .ok (.iload_n 3, 1) := by decide +kernel
theorem dX11_linear_15 : decode cX11_linear 15 = .ok (.invokestatic 85, 3) := by decide +kernel
theorem dX11_linear_18 : decode cX11_linear 18 = .ok (.ifCond .eq 25, 3) := by decide +kernel
theorem dX11_linear_21 : decode cX11_linear 21 = .ok (.iload 4, 2) := by decide +kernel
theorem dX11_linear_23 : decode cX11_linear 23 = .ok (.iconst (-1), 1) := by decide +kernel
theorem dX11_linear_24 : decode cX11_linear 24 = .ok (.if_icmp .lt 19, 3) := by decide +kernel
theorem dX11_linear_27 : decode cX11_linear 27 = .ok (.iload 4, 2) := by decide +kernel
theorem dX11_linear_29 : decode cX11_linear 29 = .ok (.ifCond .lt 16, 3) := by decide +kernel
theorem dX11_linear_32 : decode cX11_linear 32 = .ok (.iload 5, 2) := by decide +kernel
theorem dX11_linear_34 : decode cX11_linear 34 = .ok (.i2l, 1) := by decide +kernel
theorem dX11_linear_35 : decode cX11_linear 35 = .ok (.lconst 0, 1) := by decide +kernel
theorem dX11_linear_36 : decode cX11_linear 36 = .ok (.lconst 1, 1) := by decide +kernel
theorem dX11_linear_37 : decode cX11_linear 37 = .ok (.invokestatic 77, 3) := by decide +kernel
theorem dX11_linear_40 : decode cX11_linear 40 = .ok (.ifCond .ne 5, 3) := by decide +kernel
theorem dX11_linear_43 : decode cX11_linear 43 = .ok (.iconst (-1), 1) := by decide +kernel
theorem dX11_linear_44 : decode cX11_linear 44 = .ok (.ireturn, 1) := by decide +kernel
theorem dX11_linear_45 : decode cX11_linear 45 = .ok (.aload_n 0, 1) := by decide +kernel
theorem dX11_linear_46 : decode cX11_linear 46 = .ok (.iload_n 1, 1) := by decide +kernel
theorem dX11_linear_47 : decode cX11_linear 47 = .ok (.iload_n 2, 1) := by decide +kernel
theorem dX11_linear_48 : decode cX11_linear 48 = .ok (.invokevirtual 269, 3) := by decide +kernel
theorem dX11_linear_51 : decode cX11_linear 51 = .ok (.ifCond .eq 12, 3) := by decide +kernel
theorem dX11_linear_54 : decode cX11_linear 54 = .ok (.aload_n 0, 1) := by decide +kernel
theorem dX11_linear_55 : decode cX11_linear 55 = .ok (.getfield 13, 3) := by decide +kernel
theorem dX11_linear_58 : decode cX11_linear 58 = .ok (.iload_n 3, 1) := by decide +kernel
theorem dX11_linear_59 : decode cX11_linear 59 = .ok (.baload, 1) := by decide +kernel
theorem dX11_linear_60 : decode cX11_linear 60 = .ok (.ifCond .ne 6, 3) := by decide +kernel
theorem dX11_linear_63 : decode cX11_linear 63 = .ok (.bipush (-2), 2) := by decide +kernel
theorem dX11_linear_65 : decode cX11_linear 65 = .ok (.ireturn, 1) := by decide +kernel
theorem dX11_linear_66 : decode cX11_linear 66 = .ok (.aload_n 0, 1) := by decide +kernel
theorem dX11_linear_67 : decode cX11_linear 67 = .ok (.iload_n 3, 1) := by decide +kernel
theorem dX11_linear_68 : decode cX11_linear 68 = .ok (.sipush 2000, 3) := by decide +kernel
theorem dX11_linear_71 : decode cX11_linear 71 = .ok (.invokevirtual 331, 3) := by decide +kernel
theorem dX11_linear_74 : decode cX11_linear 74 = .ok (.ifCond .eq 6, 3) := by decide +kernel
theorem dX11_linear_77 : decode cX11_linear 77 = .ok (.bipush (-3), 2) := by decide +kernel
theorem dX11_linear_79 : decode cX11_linear 79 = .ok (.ireturn, 1) := by decide +kernel
theorem dX11_linear_80 : decode cX11_linear 80 = .ok (.aload_n 0, 1) := by decide +kernel
theorem dX11_linear_81 : decode cX11_linear 81 = .ok (.aload_n 0, 1) := by decide +kernel
theorem dX11_linear_82 : decode cX11_linear 82 = .ok (.getfield 20, 3) := by decide +kernel
theorem dX11_linear_85 : decode cX11_linear 85 = .ok (.iload_n 3, 1) := by decide +kernel
theorem dX11_linear_86 : decode cX11_linear 86 = .ok (.iaload, 1) := by decide +kernel
theorem dX11_linear_87 : decode cX11_linear 87 = .ok (.i2l, 1) := by decide +kernel
theorem dX11_linear_88 : decode cX11_linear 88 = .ok (.aload_n 0, 1) := by decide +kernel
theorem dX11_linear_89 : decode cX11_linear 89 = .ok (.getfield 24, 3) := by decide +kernel
theorem dX11_linear_92 : decode cX11_linear 92 = .ok (.iload_n 3, 1) := by decide +kernel
theorem dX11_linear_93 : decode cX11_linear 93 = .ok (.iaload, 1) := by decide +kernel
theorem dX11_linear_94 : decode cX11_linear 94 = .ok (.i2l, 1) := by decide +kernel
theorem dX11_linear_95 : decode cX11_linear 95 = .ok (.invokevirtual 273, 3) := by decide +kernel
theorem dX11_linear_98 : decode cX11_linear 98 = .ok (.aload_n 0, 1) := by decide +kernel
theorem dX11_linear_99 : decode cX11_linear 99 = .ok (.iconst 0, 1) := by decide +kernel
theorem dX11_linear_100 : decode cX11_linear 100 = .ok (.aload_n 0, 1) := by decide +kernel
theorem dX11_linear_101 : decode cX11_linear 101 = .ok (.getfield 20, 3) := by decide +kernel
theorem dX11_linear_104 : decode cX11_linear 104 = .ok (.iload_n 1, 1) := by decide +kernel
theorem dX11_linear_105 : decode cX11_linear 105 = .ok (.iaload, 1) := by decide +kernel
theorem dX11_linear_106 : decode cX11_linear 106 = .ok (.i2l, 1) := by decide +kernel
theorem dX11_linear_107 : decode cX11_linear 107 = .ok (.aload_n 0, 1) := by decide +kernel
theorem dX11_linear_108 : decode cX11_linear 108 = .ok (.getfield 24, 3) := by decide +kernel
theorem dX11_linear_111 : decode cX11_linear 111 = .ok (.iload_n 1, 1) := by decide +kernel
theorem dX11_linear_112 : decode cX11_linear 112 = .ok (.iaload, 1) := by decide +kernel
theorem dX11_linear_113 : decode cX11_linear 113 = .ok (.i2l, 1) := by decide +kernel
theorem dX11_linear_114 : decode cX11_linear 114 = .ok (.aload_n 0, 1) := by decide +kernel
theorem dX11_linear_115 : decode cX11_linear 115 = .ok (.getfield 20, 3) := by decide +kernel
theorem dX11_linear_118 : decode cX11_linear 118 = .ok (.iload_n 2, 1) := by decide +kernel
theorem dX11_linear_119 : decode cX11_linear 119 = .ok (.iaload, 1) := by decide +kernel
theorem dX11_linear_120 : decode cX11_linear 120 = .ok (.i2l, 1) := by decide +kernel
theorem dX11_linear_121 : decode cX11_linear 121 = .ok (.aload_n 0, 1) := by decide +kernel
theorem dX11_linear_122 : decode cX11_linear 122 = .ok (.getfield 24, 3) := by decide +kernel
theorem dX11_linear_125 : decode cX11_linear 125 = .ok (.iload_n 2, 1) := by decide +kernel
theorem dX11_linear_126 : decode cX11_linear 126 = .ok (.iaload, 1) := by decide +kernel
theorem dX11_linear_127 : decode cX11_linear 127 = .ok (.i2l, 1) := by decide +kernel
theorem dX11_linear_128 : decode cX11_linear 128 = .ok (.iload 4, 2) := by decide +kernel
theorem dX11_linear_130 : decode cX11_linear 130 = .ok (.iload 5, 2) := by decide +kernel
theorem dX11_linear_132 : decode cX11_linear 132 = .ok (.invokevirtual 342, 3) := by decide +kernel
