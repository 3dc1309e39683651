theorem dJ9_abs_067f4_0 : decode cJ9_abs_067f4 0 = .ok (.lload_n 0, 1) := by decide +kernel
theorem dJ9_abs_067f4_1 : decode cJ9_abs_067f4 1 = .ok (.lconst 0, 1) := by decide +kernel
theorem dJ9_abs_067f4_2 : decode cJ9_abs_067f4 2 = .ok (.lcmp, 1) := by decide +kernel
theorem dJ9_abs_067f4_3 : decode cJ9_abs_067f4 3 = .ok (.ifCond .ge 8, 3) := by decide +kernel
theorem dJ9_abs_067f4_6 : decode cJ9_abs_067f4 6 = .ok (.lload_n 0, 1) := by decide +kernel
theorem dJ9_abs_067f4_7 : decode cJ9_abs_067f4 7 = .ok (.lneg, 1) := by decide +kernel
theorem dJ9_abs_067f4_8 : decode cJ9_abs_067f4 8 = .ok (.goto 4, 3) := by decide +kernel
theorem dJ9_abs_067f4_11 : decode cJ9_abs_067f4 11 = .ok (.lload_n 0, 1) := by decide +kernel
theorem dJ9_abs_067f4_12 : decode cJ9_abs_067f4 12 = .ok (.lreturn, 1) := by decide +kernel
theorem dJ9_abs_0f7a4_0 : decode cJ9_abs_0f7a4 0 = .ok (.iload_n 0, 1) := by decide +kernel
theorem dJ9_abs_0f7a4_1 : decode cJ9_abs_0f7a4 1 = .ok (.ifCond .ge 8, 3) := by decide +kernel
theorem dJ9_abs_0f7a4_4 : decode cJ9_abs_0f7a4 4 = .ok (.iload_n 0, 1) := by decide +kernel
theorem dJ9_abs_0f7a4_5 : decode cJ9_abs_0f7a4 5 = .ok (.ineg, 1) := by decide +kernel
theorem dJ9_abs_0f7a4_6 : decode cJ9_abs_0f7a4 6 = .ok (.goto 4, 3) := by decide +kernel
theorem dJ9_abs_0f7a4_9 : decode cJ9_abs_0f7a4 9 = .ok (.iload_n 0, 1) := by decide +kernel
theorem dJ9_abs_0f7a4_10 : decode cJ9_abs_0f7a4 10 = .ok (.ireturn, 1) := by decide +kernel
theorem dJ9_floorDiv_f86c9_0 : decode cJ9_floorDiv_f86c9 0 = .ok (.lload_n 0, 1) := by decide +kernel
theorem dJ9_floorDiv_f86c9_1 : decode cJ9_floorDiv_f86c9 1 = .ok (.lload_n 2, 1) := by decide +kernel
theorem dJ9_floorDiv_f86c9_2 : decode cJ9_floorDiv_f86c9 2 = .ok (.ldiv, 1) := by decide +kernel
theorem dJ9_floorDiv_f86c9_3 : decode cJ9_floorDiv_f86c9 3 = .ok (.lstore 4, 2) := by decide +kernel
theorem dJ9_floorDiv_f86c9_5 : decode cJ9_floorDiv_f86c9 5 = .ok (.lload_n 0, 1) := by decide +kernel
theorem dJ9_floorDiv_f86c9_6 : decode cJ9_floorDiv_f86c9 6 = .ok (.lload_n 2, 1) := by decide +kernel
theorem dJ9_floorDiv_f86c9_7 : decode cJ9_floorDiv_f86c9 7 = .ok (.lxor, 1) := by decide +kernel
theorem dJ9_floorDiv_f86c9_8 : decode cJ9_floorDiv_f86c9 8 = .ok (.lconst 0, 1) := by decide +kernel
theorem dJ9_floorDiv_f86c9_9 : decode cJ9_floorDiv_f86c9 9 = .ok (.lcmp, 1) := by decide +kernel
theorem dJ9_floorDiv_f86c9_10 : decode cJ9_floorDiv_f86c9 10 = .ok (.ifCond .ge 17, 3) := by decide +kernel
theorem dJ9_floorDiv_f86c9_13 : decode cJ9_floorDiv_f86c9 13 = .ok (.lload 4, 2) := by decide +kernel
theorem dJ9_floorDiv_f86c9_15 : decode cJ9_floorDiv_f86c9 15 = .ok (.lload_n 2, 1) := by decide +kernel
theorem dJ9_floorDiv_f86c9_16 : decode cJ9_floorDiv_f86c9 16 = .ok (.lmul, 1) := by decide +kernel
theorem dJ9_floorDiv_f86c9_17 : decode cJ9_floorDiv_f86c9 17 = .ok (.lload_n 0, 1) := by decide +kernel
theorem dJ9_floorDiv_f86c9_18 : decode cJ9_floorDiv_f86c9 18 = .ok (.lcmp, 1) := by decide +kernel
theorem dJ9_floorDiv_f86c9_19 : decode cJ9_floorDiv_f86c9 19 = .ok (.ifCond .eq 8, 3) := by decide +kernel
theorem dJ9_floorDiv_f86c9_22 : decode cJ9_floorDiv_f86c9 22 = .ok (.lload 4, 2) := by decide +kernel
theorem dJ9_floorDiv_f86c9_24 : decode cJ9_floorDiv_f86c9 24 = .ok (.lconst 1, 1) := by decide +kernel
theorem dJ9_floorDiv_f86c9_25 : decode cJ9_floorDiv_f86c9 25 = .ok (.lsub, 1) := by decide +kernel
theorem dJ9_floorDiv_f86c9_26 : decode cJ9_floorDiv_f86c9 26 = .ok (.lreturn, 1) := by decide +kernel
theorem dJ9_floorDiv_f86c9_27 : decode cJ9_floorDiv_f86c9 27 = .ok (.lload 4, 2) := by decide +kernel
theorem dJ9_floorDiv_f86c9_29 : decode cJ9_floorDiv_f86c9 29 = .ok (.lreturn, 1) := by decide +kernel
theorem dJ9_floorMod_7cf53_0 : decode cJ9_floorMod_7cf53 0 = .ok (.iload_n 0, 1) := by decide +kernel
theorem dJ9_floorMod_7cf53_1 : decode cJ9_floorMod_7cf53 1 = .ok (.iload_n 1, 1) := by decide +kernel
theorem dJ9_floorMod_7cf53_2 : decode cJ9_floorMod_7cf53 2 = .ok (.irem, 1) := by decide +kernel
theorem dJ9_floorMod_7cf53_3 : decode cJ9_floorMod_7cf53 3 = .ok (.istore_n 2, 1) := by decide +kernel
theorem dJ9_floorMod_7cf53_4 : decode cJ9_floorMod_7cf53 4 = .ok (.iload_n 0, 1) := by decide +kernel
theorem dJ9_floorMod_7cf53_5 : decode cJ9_floorMod_7cf53 5 = .ok (.iload_n 1, 1) := by decide +kernel
theorem dJ9_floorMod_7cf53_6 : decode cJ9_floorMod_7cf53 6 = .ok (.ixor, 1) := by decide +kernel
theorem dJ9_floorMod_7cf53_7 : decode cJ9_floorMod_7cf53 7 = .ok (.ifCond .ge 11, 3) := by decide +kernel
theorem dJ9_floorMod_7cf53_10 : decode cJ9_floorMod_7cf53 10 = .ok (.iload_n 2, 1) := by decide +kernel
theorem dJ9_floorMod_7cf53_11 : decode cJ9_floorMod_7cf53 11 = .ok (.ifCond .eq 7, 3) := by decide +kernel
theorem dJ9_floorMod_7cf53_14 : decode cJ9_floorMod_7cf53 14 = .ok (.iload_n 2, 1) := by decide +kernel
theorem dJ9_floorMod_7cf53_15 : decode cJ9_floorMod_7cf53 15 = .ok (.iload_n 1, 1) := by decide +kernel
theorem dJ9_floorMod_7cf53_16 : decode cJ9_floorMod_7cf53 16 = .ok (.iadd, 1) := by decide +kernel
theorem dJ9_floorMod_7cf53_17 : decode cJ9_floorMod_7cf53 17 = .ok (.ireturn, 1) := by decide +kernel
theorem dJ9_floorMod_7cf53_18 : decode cJ9_floorMod_7cf53 18 = .ok (.iload_n 2, 1) := by decide +kernel
theorem dJ9_floorMod_7cf53_19 : decode cJ9_floorMod_7cf53 19 = .ok (.ireturn, 1) := by decide +kernel
theorem dJ9_floorMod_f86c9_0 : decode cJ9_floorMod_f86c9 0 = .ok (.lload_n 0, 1) := by decide +kernel
theorem dJ9_floorMod_f86c9_1 : decode cJ9_floorMod_f86c9 1 = .ok (.lload_n 2, 1) := by decide +kernel
theorem dJ9_floorMod_f86c9_2 : decode cJ9_floorMod_f86c9 2 = .ok (.lrem, 1) := by decide +kernel
theorem dJ9_floorMod_f86c9_3 : decode cJ9_floorMod_f86c9 3 = .ok (.lstore 4, 2) := by decide +kernel
theorem dJ9_floorMod_f86c9_5 : decode cJ9_floorMod_f86c9 5 = .ok (.lload_n 0, 1) := by decide +kernel
theorem dJ9_floorMod_f86c9_6 : decode cJ9_floorMod_f86c9 6 = .ok (.lload_n 2, 1) := by decide +kernel
theorem dJ9_floorMod_f86c9_7 : decode cJ9_floorMod_f86c9 7 = .ok (.lxor, 1) := by decide +kernel
theorem dJ9_floorMod_f86c9_8 : decode cJ9_floorMod_f86c9 8 = .ok (.lconst 0, 1) := by decide +kernel
theorem dJ9_floorMod_f86c9_9 : decode cJ9_floorMod_f86c9 9 = .ok (.lcmp, 1) := by decide +kernel
theorem dJ9_floorMod_f86c9_10 : decode cJ9_floorMod_f86c9 10 = .ok (.ifCond .ge 15, 3) := by decide +kernel
theorem dJ9_floorMod_f86c9_13 : decode cJ9_floorMod_f86c9 13 = .ok (.lload 4, 2) := by decide +kernel
theorem dJ9_floorMod_f86c9_15 : decode cJ9_floorMod_f86c9 15 = .ok (.lconst 0, 1) := by decide +kernel
theorem dJ9_floorMod_f86c9_16 : decode cJ9_floorMod_f86c9 16 = .ok (.lcmp, 1) := by decide +kernel
theorem dJ9_floorMod_f86c9_17 : decode cJ9_floorMod_f86c9 17 = .ok (.ifCond .eq 8, 3) := by decide +kernel
theorem dJ9_floorMod_f86c9_20 : decode cJ9_floorMod_f86c9 20 = .ok (.lload 4, 2) := by decide +kernel
theorem dJ9_floorMod_f86c9_22 : decode cJ9_floorMod_f86c9 22 = .ok (.lload_n 2, 1) := by decide +kernel
theorem dJ9_floorMod_f86c9_23 : decode cJ9_floorMod_f86c9 23 = .ok (.ladd, 1) := by decide +kernel
theorem dJ9_floorMod_f86c9_24 : decode cJ9_floorMod_f86c9 24 = .ok (.lreturn, 1) := by decide +kernel
theorem dJ9_floorMod_f86c9_25 : decode cJ9_floorMod_f86c9 25 = .ok (.lload 4, 2) := by decide +kernel
theorem dJ9_floorMod_f86c9_27 : decode cJ9_floorMod_f86c9 27 = .ok (.lreturn, 1) := by decide +kernel
theorem dJ9_max_7cf53_0 : decode cJ9_max_7cf53 0 = .ok (.iload_n 0, 1) := by decide +kernel
theorem dJ9_max_7cf53_1 : decode cJ9_max_7cf53 1 = .ok (.iload_n 1, 1) := by decide +kernel
theorem dJ9_max_7cf53_2 : decode cJ9_max_7cf53 2 = .ok (.if_icmp .lt 7, 3) := by decide +kernel
theorem dJ9_max_7cf53_5 : decode cJ9_max_7cf53 5 = .ok (.iload_n 0, 1) := by decide +kernel
theorem dJ9_max_7cf53_6 : decode cJ9_max_7cf53 6 = .ok (.goto 4, 3) := by decide +kernel
theorem dJ9_max_7cf53_9 : decode cJ9_max_7cf53 9 = .ok (.iload_n 1, 1) := by decide +kernel
theorem dJ9_max_7cf53_10 : decode cJ9_max_7cf53 10 = .ok (.ireturn, 1) := by decide +kernel
theorem dJ9_max_f86c9_0 : decode cJ9_max_f86c9 0 = .ok (.lload_n 0, 1) := by decide +kernel
theorem dJ9_max_f86c9_1 : decode cJ9_max_f86c9 1 = .ok (.lload_n 2, 1) := by decide +kernel
theorem dJ9_max_f86c9_2 : decode cJ9_max_f86c9 2 = .ok (.lcmp, 1) := by decide +kernel
theorem dJ9_max_f86c9_3 : decode cJ9_max_f86c9 3 = .ok (.ifCond .lt 7, 3) := by decide +kernel
theorem dJ9_max_f86c9_6 : decode cJ9_max_f86c9 6 = .ok (.lload_n 0, 1) := by decide +kernel
theorem dJ9_max_f86c9_7 : decode cJ9_max_f86c9 7 = .ok (.goto 4, 3) := by decide +kernel
theorem dJ9_max_f86c9_10 : decode cJ9_max_f86c9 10 = .ok (.lload_n 2, 1) := by decide +kernel
theorem dJ9_max_f86c9_11 : decode cJ9_max_f86c9 11 = .ok (.lreturn, 1) := by decide +kernel
theorem dX0_clear_0 : decode cX0_clear 0 = .ok (.iload_n 1, 1) := by decide +kernel
theorem dX0_clear_1 : decode cX0_clear 1 = .ok (.invokestatic 25, 3) := by decide +kernel
theorem dX0_clear_4 : decode cX0_clear 4 = .ok (.ifCond .eq 17, 3) := by decide +kernel
theorem dX0_clear_7 : decode cX0_clear 7 = .ok (.aload_n 0, 1) := by decide +kernel
theorem dX0_clear_8 : decode cX0_clear 8 = .ok (.aload_n 0, 1) := by decide +kernel
theorem dX0_clear_9 : decode cX0_clear 9 = .ok (.getfield 29, 3) := by decide +kernel
theorem dX0_clear_12 : decode cX0_clear 12 = .ok (.iconst 1, 1) := by decide +kernel
theorem dX0_clear_13 : decode cX0_clear 13 = .ok (.iload_n 1, 1) := by decide +kernel
theorem dX0_clear_14 : decode cX0_clear 14 = .ok (.ishl, 1) := by decide +kernel
theorem dX0_clear_15 : decode cX0_clear 15 = .ok (.iconst (-1), 1) := by decide +kernel
theorem dX0_clear_16 : decode cX0_clear 16 = .ok (.ixor, 1) := by decide +kernel
theorem dX0_clear_17 : decode cX0_clear 17 = .ok (.iand, 1) := by decide +kernel
theorem dX0_clear_18 : decode cX0_clear 18 = .ok (.putfield 29, 3) := by decide +kernel
theorem dX0_clear_21 : decode cX0_clear 21 = .ok (.return_, 1) := by decide +kernel
theorem dX0_fill_0 : decode cX0_fill 0 = .ok (.iload_n 1, 1) := by decide +kernel
theorem dX0_fill_1 : decode cX0_fill 1 = .ok (.invokestatic 25, 3) := by decide +kernel
theorem dX0_fill_4 : decode cX0_fill 4 = .ok (.ifCond .eq 29, 3) := by decide +kernel
theorem dX0_fill_7 : decode cX0_fill 7 = .ok (.aload_n 0, 1) := by decide +kernel
theorem dX0_fill_8 : decode cX0_fill 8 = .ok (.getfield 9, 3) := by decide +kernel
theorem dX0_fill_11 : decode cX0_fill 11 = .ok (.iload_n 1, 1) := by decide +kernel
theorem dX0_fill_12 : decode cX0_fill 12 = .ok (.iload_n 2, 1) := by decide +kernel
theorem dX0_fill_13 : decode cX0_fill 13 = .ok (.iastore, 1) := by decide +kernel
theorem dX0_fill_14 : decode cX0_fill 14 = .ok (.aload_n 0, 1) := by decide +kernel
theorem dX0_fill_15 : decode cX0_fill 15 = .ok (.getfield 13, 3) := by decide +kernel
theorem dX0_fill_18 : decode cX0_fill 18 = .ok (.iload_n 1, 1) := by decide +kernel
theorem dX0_fill_19 : decode cX0_fill 19 = .ok (.iload_n 3, 1) := by decide +kernel
theorem dX0_fill_20 : decode cX0_fill 20 = .ok (.iastore, 1) := by decide +kernel
theorem dX0_fill_21 : decode cX0_fill 21 = .ok (.aload_n 0, 1) := by decide +kernel
theorem dX0_fill_22 : decode cX0_fill 22 = .ok (.aload_n 0, 1) := by decide +kernel
theorem dX0_fill_23 : decode cX0_fill 23 = .ok (.getfield 29, 3) := by decide +kernel
theorem dX0_fill_26 : decode cX0_fill 26 = .ok (.iconst 1, 1) := by decide +kernel
theorem dX0_fill_27 : decode cX0_fill 27 = .ok (.iload_n 1, 1) := by decide +kernel
theorem dX0_fill_28 : decode cX0_fill 28 = .ok (.ishl, 1) := by decide +kernel
theorem dX0_fill_29 : decode cX0_fill 29 = .ok (.ior, 1) := by decide +kernel
theorem dX0_fill_30 : decode cX0_fill 30 = .ok (.putfield 29, 3) := by decide +kernel
theorem dX0_fill_33 : decode cX0_fill 33 = .ok (.return_, 1) := by decide +kernel
theorem dX0_has_0 : decode cX0_has 0 = .ok (.iload_n 1, 1) := by decide +kernel
theorem dX0_has_1 : decode cX0_has 1 = .ok (.invokestatic 25, 3) := by decide +kernel
theorem dX0_has_4 : decode cX0_has 4 = .ok (.ifCond .eq 19, 3) := by decide +kernel
theorem dX0_has_7 : decode cX0_has 7 = .ok (.aload_n 0, 1) := by decide +kernel
theorem dX0_has_8 : decode cX0_has 8 = .ok (.getfield 29, 3) := by decide +kernel
theorem dX0_has_11 : decode cX0_has 11 = .ok (.iload_n 1, 1) := by decide +kernel
theorem dX0_has_12 : decode cX0_has 12 = .ok (.ishr, 1) := by decide +kernel
theorem dX0_has_13 : decode cX0_has 13 = .ok (.iconst 1, 1) := by decide +kernel
theorem dX0_has_14 : decode cX0_has 14 = .ok (.iand, 1) := by decide +kernel
theorem dX0_has_15 : decode cX0_has 15 = .ok (.iconst 1, 1) := by decide +kernel
theorem dX0_has_16 : decode cX0_has 16 = .ok (.if_icmp .ne 7, 3) := by decide +kernel
theorem dX0_has_19 : decode cX0_has 19 = .ok (.iconst 1, 1) := by decide +kernel
theorem dX0_has_20 : decode cX0_has 20 = .ok (.goto 4, 3) := by decide +kernel
theorem dX0_has_23 : decode cX0_has 23 = .ok (.iconst 0, 1) := by decide +kernel
theorem dX0_has_24 : decode cX0_has 24 = .ok (.ireturn, 1) := by decide +kernel
theorem dX0_isOne_0 : decode cX0_isOne 0 = .ok (.iload_n 0, 1) := by decide +kernel
theorem dX0_isOne_1 : decode cX0_isOne 1 = .ok (.ifCond .lt 13, 3) := by decide +kernel
theorem dX0_isOne_4 : decode cX0_isOne 4 = .ok (.iload_n 0, 1) := by decide +kernel
theorem dX0_isOne_5 : decode cX0_isOne 5 = .ok (.bipush 8, 2) := by decide +kernel
theorem dX0_isOne_7 : decode cX0_isOne 7 = .ok (.if_icmp .ge 7, 3) := by decide +kernel
theorem dX0_isOne_10 : decode cX0_isOne 10 = .ok (.iconst 1, 1) := by decide +kernel
theorem dX0_isOne_11 : decode cX0_isOne 11 = .ok (.goto 4, 3) := by decide +kernel
theorem dX0_isOne_14 : decode cX0_isOne 14 = .ok (.iconst 0, 1) := by decide +kernel
theorem dX0_isOne_15 : decode cX0_isOne 15 = .ok (.ireturn, 1) := by decide +kernel
theorem dX0_load_0 : decode cX0_load 0 = .ok (.iload_n 1, 1) := by decide +kernel
theorem dX0_load_1 : decode cX0_load 1 = .ok (.invokestatic 25, 3) := by decide +kernel
theorem dX0_load_4 : decode cX0_load 4 = .ok (.ifCond .eq 21, 3) := by decide +kernel
theorem dX0_load_7 : decode cX0_load 7 = .ok (.aload_n 2, 1) := by decide +kernel
theorem dX0_load_8 : decode cX0_load 8 = .ok (.aload_n 0, 1) := by decide +kernel
theorem dX0_load_9 : decode cX0_load 9 = .ok (.getfield 9, 3) := by decide +kernel
theorem dX0_load_12 : decode cX0_load 12 = .ok (.iload_n 1, 1) := by decide +kernel
theorem dX0_load_13 : decode cX0_load 13 = .ok (.iaload, 1) := by decide +kernel
theorem dX0_load_14 : decode cX0_load 14 = .ok (.i2l, 1) := by decide +kernel
theorem dX0_load_15 : decode cX0_load 15 = .ok (.aload_n 0, 1) := by decide +kernel
theorem dX0_load_16 : decode cX0_load 16 = .ok (.getfield 13, 3) := by decide +kernel
theorem dX0_load_19 : decode cX0_load 19 = .ok (.iload_n 1, 1) := by decide +kernel
theorem dX0_load_20 : decode cX0_load 20 = .ok (.iaload, 1) := by decide +kernel
theorem dX0_load_21 : decode cX0_load 21 = .ok (.i2l, 1) := by decide +kernel
theorem dX0_load_22 : decode cX0_load 22 = .ok (.invokevirtual 33, 3) := by decide +kernel
theorem dX0_load_25 : decode cX0_load 25 = .ok (.return_, 1) := by decide +kernel
theorem dX0_popState_0 : decode cX0_popState 0 = .ok (.aload_n 0, 1) := by decide +kernel
theorem dX0_popState_1 : decode cX0_popState 1 = .ok (.getfield 39, 3) := by decide +kernel
theorem dX0_popState_4 : decode cX0_popState 4 = .ok (.iconst 1, 1) := by decide +kernel
theorem dX0_popState_5 : decode cX0_popState 5 = .ok (.if_icmp .lt 12, 3) := by decide +kernel
theorem dX0_popState_8 : decode cX0_popState 8 = .ok (.aload_n 0, 1) := by decide +kernel
theorem dX0_popState_9 : decode cX0_popState 9 = .ok (.getfield 39, 3) := by decide +kernel
theorem dX0_popState_12 : decode cX0_popState 12 = .ok (.bipush 12, 2) := by decide +kernel
theorem dX0_popState_14 : decode cX0_popState 14 = .ok (.if_icmp .le 5, 3) := by decide +kernel
theorem dX0_popState_17 : decode cX0_popState 17 = .ok (.iconst 0, 1) := by decide +kernel
theorem dX0_popState_18 : decode cX0_popState 18 = .ok (.ireturn, 1) := by decide +kernel
theorem dX0_popState_19 : decode cX0_popState 19 = .ok (.aload_n 0, 1) := by decide +kernel
theorem dX0_popState_20 : decode cX0_popState 20 = .ok (.dup, 1) := by decide +kernel
theorem dX0_popState_21 : decode cX0_popState 21 = .ok (.getfield 39, 3) := by decide +kernel
theorem dX0_popState_24 : decode cX0_popState 24 = .ok (.iconst 1, 1) := by decide +kernel
theorem dX0_popState_25 : decode cX0_popState 25 = .ok (.isub, 1) := by decide +kernel
theorem dX0_popState_26 : decode cX0_popState 26 = .ok (.putfield 39, 3) := by decide +kernel
theorem dX0_popState_29 : decode cX0_popState 29 = .ok (.iconst 0, 1) := by decide +kernel
theorem dX0_popState_30 : decode cX0_popState 30 = .ok (.istore_n 1, 1) := by decide +kernel
theorem dX0_popState_31 : decode cX0_popState 31 = .ok (.iload_n 1, 1) := by decide +kernel
theorem dX0_popState_32 : decode cX0_popState 32 = .ok (.bipush 8, 2) := by decide +kernel
theorem dX0_popState_34 : decode cX0_popState 34 = .ok (.if_icmp .ge 49, 3) := by decide +kernel
theorem dX0_popState_37 : decode cX0_popState 37 = .ok (.aload_n 0, 1) := by decide +kernel
theorem dX0_popState_38 : decode cX0_popState 38 = .ok (.getfield 9, 3) := by decide +kernel
theorem dX0_popState_41 : decode cX0_popState 41 = .ok (.iload_n 1, 1) := by decide +kernel
theorem dX0_popState_42 : decode cX0_popState 42 = .ok (.aload_n 0, 1) := by decide +kernel
theorem dX0_popState_43 : decode cX0_popState 43 = .ok (.getfield 16, 3) := by decide +kernel
theorem dX0_popState_46 : decode cX0_popState 46 = .ok (.aload_n 0, 1) := by decide +kernel
theorem dX0_popState_47 : decode cX0_popState 47 = .ok (.getfield 39, 3) := by decide +kernel
theorem dX0_popState_50 : decode cX0_popState 50 = .ok (.bipush 8, 2) := by decide +kernel
theorem dX0_popState_52 : decode cX0_popState 52 = .ok (.imul, 1) := by decide +kernel
theorem dX0_popState_53 : decode cX0_popState 53 = .ok (.iload_n 1, 1) := by decide +kernel
theorem dX0_popState_54 : decode cX0_popState 54 = .ok (.iadd, 1) := by decide +kernel
theorem dX0_popState_55 : decode cX0_popState 55 = .ok (.iaload, 1) := by decide +kernel
theorem dX0_popState_56 : decode cX0_popState 56 = .ok (.iastore, 1) := by decide +kernel
theorem dX0_popState_57 : decode cX0_popState 57 = .ok (.aload_n 0, 1) := by decide +kernel
theorem dX0_popState_58 : decode cX0_popState 58 = .ok (.getfield 13, 3) := by decide +kernel
theorem dX0_popState_61 : decode cX0_popState 61 = .ok (.iload_n 1, 1) := by decide +kernel
theorem dX0_popState_62 : decode cX0_popState 62 = .ok (.aload_n 0, 1) := by decide +kernel
theorem dX0_popState_63 : decode cX0_popState 63 = .ok (.getfield 19, 3) := by decide +kernel
theorem dX0_popState_66 : decode cX0_popState 66 = .ok (.aload_n 0, 1) := by decide +kernel
theorem dX0_popState_67 : decode cX0_popState 67 = .ok (.getfield 39, 3) := by decide +kernel
theorem dX0_popState_70 : decode cX0_popState 70 = .ok (.bipush 8, 2) := by decide +kernel
theorem dX0_popState_72 : decode cX0_popState 72 = .ok (.imul, 1) := by decide +kernel
theorem dX0_popState_73 : decode cX0_popState 73 = .ok (.iload_n 1, 1) := by decide +kernel
theorem dX0_popState_74 : decode cX0_popState 74 = .ok (.iadd, 1) := by decide +kernel
theorem dX0_popState_75 : decode cX0_popState 75 = .ok (.iaload, 1) := by decide +kernel
theorem dX0_popState_76 : decode cX0_popState 76 = .ok (.iastore, 1) := by decide +kernel
theorem dX0_popState_77 : decode cX0_popState 77 = .ok (.iinc 1 1, 3) := by decide +kernel
theorem dX0_popState_80 : decode cX0_popState 80 = .ok (.goto (-49), 3) := by decide +kernel
theorem dX0_popState_83 : decode cX0_popState 83 = .ok (.aload_n 0, 1) := by decide +kernel
theorem dX0_popState_84 : decode cX0_popState 84 = .ok (.aload_n 0, 1) := by decide +kernel
theorem dX0_popState_85 : decode cX0_popState 85 = .ok (.getfield 22, 3) := by decide +kernel
theorem dX0_popState_88 : decode cX0_popState 88 = .ok (.aload_n 0, 1) := by decide +kernel
theorem dX0_popState_89 : decode cX0_popState 89 = .ok (.getfield 39, 3) := by decide +kernel
theorem dX0_popState_92 : decode cX0_popState 92 = .ok (.iaload, 1) := by decide +kernel
theorem dX0_popState_93 : decode cX0_popState 93 = .ok (.putfield 29, 3) := by decide +kernel
theorem dX0_popState_96 : decode cX0_popState 96 = .ok (.iconst 1, 1) := by decide +kernel
theorem dX0_popState_97 : decode cX0_popState 97 = .ok (.ireturn, 1) := by decide +kernel
theorem dX0_pushState_0 : decode cX0_pushState 0 = .ok (.aload_n 0, 1) := by decide +kernel
theorem dX0_pushState_1 : decode cX0_pushState 1 = .ok (.getfield 39, 3) := by decide +kernel
theorem dX0_pushState_4 : decode cX0_pushState 4 = .ok (.ifCond .lt 12, 3) := by decide +kernel
theorem dX0_pushState_7 : decode cX0_pushState 7 = .ok (.aload_n 0, 1) := by decide +kernel
theorem dX0_pushState_8 : decode cX0_pushState 8 = .ok (.getfield 39, 3) := by decide +kernel
theorem dX0_pushState_11 : decode cX0_pushState 11 = .ok (.bipush 12, 2) := by decide +kernel
theorem dX0_pushState_13 : decode cX0_pushState 13 = .ok (.if_icmp .lt 5, 3) := by decide +kernel
theorem dX0_pushState_16 : decode cX0_pushState 16 = .ok (.iconst 0, 1) := by decide +kernel
theorem dX0_pushState_17 : decode cX0_pushState 17 = .ok (.ireturn, 1) := by decide +kernel
theorem dX0_pushState_18 : decode cX0_pushState 18 = .ok (.iconst 0, 1) := by decide +kernel
theorem dX0_pushState_19 : decode cX0_pushState 19 = .ok (.istore_n 1, 1) := by decide +kernel
theorem dX0_pushState_20 : decode cX0_pushState 20 = .ok (.iload_n 1, 1) := by decide +kernel
theorem dX0_pushState_21 : decode cX0_pushState 21 = .ok (.bipush 8, 2) := by decide +kernel
theorem dX0_pushState_23 : decode cX0_pushState 23 = .ok (.if_icmp .ge 49, 3) := by decide +kernel
theorem dX0_pushState_26 : decode cX0_pushState 26 = .ok (.aload_n 0, 1) := by decide +kernel
theorem dX0_pushState_27 : decode cX0_pushState 27 = .ok (.getfield 16, 3) := by decide +kernel
theorem dX0_pushState_30 : decode cX0_pushState 30 = .ok (.aload_n 0, 1) := by decide +kernel
theorem dX0_pushState_31 : decode cX0_pushState 31 = .ok (.getfield 39, 3) := by decide +kernel
theorem dX0_pushState_34 : decode cX0_pushState 34 = .ok (.bipush 8, 2) := by decide +kernel
theorem dX0_pushState_36 : decode cX0_pushState 36 = .ok (.imul, 1) := by decide +kernel
theorem dX0_pushState_37 : decode cX0_pushState 37 = .ok (.iload_n 1, 1) := by decide +kernel
theorem dX0_pushState_38 : decode cX0_pushState 38 = .ok (.iadd, 1) := by decide +kernel
theorem dX0_pushState_39 : decode cX0_pushState 39 = .ok (.aload_n 0, 1) := by decide +kernel
theorem dX0_pushState_40 : decode cX0_pushState 40 = .ok (.getfield 9, 3) := by decide +kernel
theorem dX0_pushState_43 : decode cX0_pushState 43 = .ok (.iload_n 1, 1) := by decide +kernel
theorem dX0_pushState_44 : decode cX0_pushState 44 = .ok (.iaload, 1) := by decide +kernel
theorem dX0_pushState_45 : decode cX0_pushState 45 = .ok (.iastore, 1) := by decide +kernel
theorem dX0_pushState_46 : decode cX0_pushState 46 = .ok (.aload_n 0, 1) := by decide +kernel
theorem dX0_pushState_47 : decode cX0_pushState 47 = .ok (.getfield 19, 3) := by decide +kernel
theorem dX0_pushState_50 : decode cX0_pushState 50 = .ok (.aload_n 0, 1) := by decide +kernel
theorem dX0_pushState_51 : decode cX0_pushState 51 = .ok (.getfield 39, 3) := by decide +kernel
theorem dX0_pushState_54 : decode cX0_pushState 54 = .ok (.bipush 8, 2) := by decide +kernel
theorem dX0_pushState_56 : decode cX0_pushState 56 = .ok (.imul, 1) := by decide +kernel
theorem dX0_pushState_57 : decode cX0_pushState 57 = .ok (.iload_n 1, 1) := by decide +kernel
theorem dX0_pushState_58 : decode cX0_pushState 58 = .ok (.iadd, 1) := by decide +kernel
theorem dX0_pushState_59 : decode cX0_pushState 59 = .ok (.aload_n 0, 1) := by decide +kernel
theorem dX0_pushState_60 : decode cX0_pushState 60 = .ok (.getfield 13, 3) := by decide +kernel
theorem dX0_pushState_63 : decode cX0_pushState 63 = .ok (.iload_n 1, 1) := by decide +kernel
theorem dX0_pushState_64 : decode cX0_pushState 64 = .ok (.iaload, 1) := by decide +kernel
theorem dX0_pushState_65 : decode cX0_pushState 65 = .ok (.iastore, 1) := by decide +kernel
theorem dX0_pushState_66 : decode cX0_pushState 66 = .ok (.iinc 1 1, 3) := by decide +kernel
theorem dX0_pushState_69 : decode cX0_pushState 69 = .ok (.goto (-49), 3) := by decide +kernel
theorem dX0_pushState_72 : decode cX0_pushState 72 = .ok (.aload_n 0, 1) := by decide +kernel
theorem dX0_pushState_73 : decode cX0_pushState 73 = .ok (.getfield 22, 3) := by decide +kernel
theorem dX0_pushState_76 : decode cX0_pushState 76 = .ok (.aload_n 0, 1) := by decide +kernel
theorem dX0_pushState_77 : decode cX0_pushState 77 = .ok (.getfield 39, 3) := by decide +kernel
theorem dX0_pushState_80 : decode cX0_pushState 80 = .ok (.aload_n 0, 1) := by decide +kernel
theorem dX0_pushState_81 : decode cX0_pushState 81 = .ok (.getfield 29, 3) := by decide +kernel
theorem dX0_pushState_84 : decode cX0_pushState 84 = .ok (.iastore, 1) := by decide +kernel
theorem dX0_pushState_85 : decode cX0_pushState 85 = .ok (.aload_n 0, 1) := by decide +kernel
theorem dX0_pushState_86 : decode cX0_pushState 86 = .ok (.dup, 1) := by decide +kernel
theorem dX0_pushState_87 : decode cX0_pushState 87 = .ok (.getfield 39, 3) := by decide +kernel
theorem dX0_pushState_90 : decode cX0_pushState 90 = .ok (.iconst 1, 1) := by decide +kernel
theorem dX0_pushState_91 : decode cX0_pushState 91 = .ok (.iadd, 1) := by decide +kernel
theorem dX0_pushState_92 : decode cX0_pushState 92 = .ok (.putfield 39, 3) := by decide +kernel
theorem dX0_pushState_95 : decode cX0_pushState 95 = .ok (.iconst 1, 1) := by decide +kernel
theorem dX0_pushState_96 : decode cX0_pushState 96 = .ok (.ireturn, 1) := by decide +kernel
theorem dX10_are_0 : decode cX10_are 0 = .ok (.iload_n 3, 1) := by decide +kernel
theorem dX10_are_1 : decode cX10_are 1 = .ok (.ifCond .lt 8, 3) := by decide +kernel
theorem dX10_are_4 : decode cX10_are 4 = .ok (.iload_n 3, 1) := by decide +kernel
theorem dX10_are_5 : decode cX10_are 5 = .ok (.iconst 2, 1) := by decide +kernel
theorem dX10_are_6 : decode cX10_are 6 = .ok (.if_icmp .le 5, 3) := by decide +kernel
theorem dX10_are_9 : decode cX10_are 9 = .ok (.iconst (-1), 1) := by decide +kernel
theorem dX10_are_10 : decode cX10_are 10 = .ok (.ireturn, 1) := by decide +kernel
theorem dX10_are_11 : decode cX10_are 11 = .ok (.aload_n 0, 1) := by decide +kernel
theorem dX10_are_12 : decode cX10_are 12 = .ok (.iload_n 1, 1) := by decide +kernel
theorem dX10_are_13 : decode cX10_are 13 = .ok (.iload_n 2, 1) := by decide +kernel
theorem dX10_are_14 : decode cX10_are 14 = .ok (.invokevirtual 176, 3) := by decide +kernel
theorem dX10_are_17 : decode cX10_are 17 = .ok (.istore 4, 2) := by decide +kernel
theorem dX10_are_19 : decode cX10_are 19 = .ok (.iload 4, 2) := by decide +kernel
theorem dX10_are_21 : decode cX10_are 21 = .ok (.ifCond .eq 6, 3) := by decide +kernel
theorem dX10_are_24 : decode cX10_are 24 = .ok (.iload 4, 2) := by decide +kernel
theorem dX10_are_26 : decode cX10_are 26 = .ok (.ireturn, 1) := by decide +kernel
theorem dX10_are_27 : decode cX10_are 27 = .ok (.iload_n 3, 1) := by decide +kernel
theorem dX10_are_28 : decode cX10_are 28 = .ok (.lookupswitch 62 #[(0, 28), (1, 43)], 28) := by decide +kernel
theorem dX10_are_56 : decode cX10_are 56 = .ok (.aload_n 0, 1) := by decide +kernel
theorem dX10_are_57 : decode cX10_are 57 = .ok (.getfield 70, 3) := by decide +kernel
theorem dX10_are_60 : decode cX10_are 60 = .ok (.aload_n 0, 1) := by decide +kernel
theorem dX10_are_61 : decode cX10_are 61 = .ok (.getfield 74, 3) := by decide +kernel
theorem dX10_are_64 : decode cX10_are 64 = .ok (.invokevirtual 218, 3) := by decide +kernel
theorem dX10_are_67 : decode cX10_are 67 = .ok (.invokestatic 133, 3) := by decide +kernel
theorem dX10_are_70 : decode cX10_are 70 = .ok (.ireturn, 1) := by decide +kernel
theorem dX10_are_71 : decode cX10_are 71 = .ok (.aload_n 0, 1) := by decide +kernel
theorem dX10_are_72 : decode cX10_are 72 = .ok (.getfield 28, 3) := by decide +kernel
theorem dX10_are_75 : decode cX10_are 75 = .ok (.aload_n 0, 1) := by decide +kernel
theorem dX10_are_76 : decode cX10_are 76 = .ok (.getfield 70, 3) := by decide +kernel
theorem dX10_are_79 : decode cX10_are 79 = .ok (.aload_n 0, 1) := by decide +kernel
theorem dX10_are_80 : decode cX10_are 80 = .ok (.getfield 74, 3) := by decide +kernel
theorem dX10_are_83 : decode cX10_are 83 = .ok (.invokevirtual 221, 3) := by decide +kernel
theorem dX10_are_86 : decode cX10_are 86 = .ok (.invokestatic 133, 3) := by decide +kernel
theorem dX10_are_89 : decode cX10_are 89 = .ok (.ireturn, 1) := by decide +kernel
theorem dX10_are_90 : decode cX10_are 90 = .ok (.aload_n 0, 1) := by decide +kernel
theorem dX10_are_91 : decode cX10_are 91 = .ok (.getfield 74, 3) := by decide +kernel
theorem dX10_are_94 : decode cX10_are 94 = .ok (.aload_n 0, 1) := by decide +kernel
theorem dX10_are_95 : decode cX10_are 95 = .ok (.getfield 70, 3) := by decide +kernel
theorem dX10_are_98 : decode cX10_are 98 = .ok (.invokevirtual 225, 3) := by decide +kernel
theorem dX10_are_101 : decode cX10_are 101 = .ok (.invokestatic 133, 3) := by decide +kernel
theorem dX10_are_104 : decode cX10_are 104 = .ok (.ireturn, 1) := by decide +kernel
theorem dX10_bearsSigns_0 : decode cX10_bearsSigns 0 = .ok (.aload_n 0, 1) := by decide +kernel
theorem dX10_bearsSigns_1 : decode cX10_bearsSigns 1 = .ok (.invokevirtual 156, 3) := by decide +kernel
theorem dX10_bearsSigns_4 : decode cX10_bearsSigns 4 = .ok (.ifCond .ne 14, 3) := by decide +kernel
theorem dX10_bearsSigns_7 : decode cX10_bearsSigns 7 = .ok (.aload_n 0, 1) := by decide +kernel
theorem dX10_bearsSigns_8 : decode cX10_bearsSigns 8 = .ok (.invokevirtual 382, 3) := by decide +kernel
theorem dX10_bearsSigns_11 : decode cX10_bearsSigns 11 = .ok (.ifCond .ne 7, 3) := by decide +kernel
theorem dX10_bearsSigns_14 : decode cX10_bearsSigns 14 = .ok (.iconst 1, 1) := by decide +kernel
theorem dX10_bearsSigns_15 : decode cX10_bearsSigns 15 = .ok (.goto 4, 3) := by decide +kernel
theorem dX10_bearsSigns_18 : decode cX10_bearsSigns 18 = .ok (.iconst 0, 1) := by decide +kernel
theorem dX10_bearsSigns_19 : decode cX10_bearsSigns 19 = .ok (.ireturn, 1) := by decide +kernel
theorem dX10_bit_0 : decode cX10_bit 0 = .ok (.iload_n 0, 1) := by decide +kernel
theorem dX10_bit_1 : decode cX10_bit 1 = .ok (.ifCond .eq 7, 3) := by decide +kernel
theorem dX10_bit_4 : decode cX10_bit 4 = .ok (.iconst 1, 1) := by decide +kernel
theorem dX10_bit_5 : decode cX10_bit 5 = .ok (.goto 4, 3) := by decide +kernel
theorem dX10_bit_8 : decode cX10_bit 8 = .ok (.iconst 0, 1) := by decide +kernel
theorem dX10_bit_9 : decode cX10_bit 9 = .ok (.ireturn, 1) := by decide +kernel
theorem dX10_both_0 : decode cX10_both 0 = .ok (.iload_n 1, 1) := by decide +kernel
theorem dX10_both_1 : decode cX10_both 1 = .ok (.invokestatic 105, 3) := by decide +kernel
theorem dX10_both_4 : decode cX10_both 4 = .ok (.ifCond .eq 29, 3) := by decide +kernel
theorem dX10_both_7 : decode cX10_both 7 = .ok (.iload_n 2, 1) := by decide +kernel
theorem dX10_both_8 : decode cX10_both 8 = .ok (.invokestatic 105, 3) := by decide +kernel
theorem dX10_both_11 : decode cX10_both 11 = .ok (.ifCond .eq 22, 3) := by decide +kernel
theorem dX10_both_14 : decode cX10_both 14 = .ok (.iload_n 3, 1) := by decide +kernel
theorem dX10_both_15 : decode cX10_both 15 = .ok (.invokestatic 105, 3) := by decide +kernel
theorem dX10_both_18 : decode cX10_both 18 = .ok (.ifCond .eq 15, 3) := by decide +kernel
theorem dX10_both_21 : decode cX10_both 21 = .ok (.iload 4, 2) := by decide +kernel
theorem dX10_both_23 : decode cX10_both 23 = .ok (.invokestatic 105, 3) := by decide +kernel
theorem dX10_both_26 : decode cX10_both 26 = .ok (.ifCond .eq 7, 3) := by decide +kernel
theorem dX10_both_29 : decode cX10_both 29 = .ok (.iconst 1, 1) := by decide +kernel
theorem dX10_both_30 : decode cX10_both 30 = .ok (.goto 4, 3) := by decide +kernel
theorem dX10_both_33 : decode cX10_both 33 = .ok (.iconst 0, 1) := by decide +kernel
theorem dX10_both_34 : decode cX10_both 34 = .ok (.istore 6, 2) := by decide +kernel
theorem dX10_both_36 : decode cX10_both 36 = .ok (.iload 6, 2) := by decide +kernel
theorem dX10_both_38 : decode cX10_both 38 = .ok (.ifCond .eq 14, 3) := by decide +kernel
theorem dX10_both_41 : decode cX10_both 41 = .ok (.iload 5, 2) := by decide +kernel
theorem dX10_both_43 : decode cX10_both 43 = .ok (.ifCond .lt 9, 3) := by decide +kernel
theorem dX10_both_46 : decode cX10_both 46 = .ok (.iload 5, 2) := by decide +kernel
theorem dX10_both_48 : decode cX10_both 48 = .ok (.iconst 1, 1) := by decide +kernel
theorem dX10_both_49 : decode cX10_both 49 = .ok (.if_icmp .le 5, 3) := by decide +kernel
theorem dX10_both_52 : decode cX10_both 52 = .ok (.iconst (-1), 1) := by decide +kernel
theorem dX10_both_53 : decode cX10_both 53 = .ok (.ireturn, 1) := by decide +kernel
theorem dX10_both_54 : decode cX10_both 54 = .ok (.aload_n 0, 1) := by decide +kernel
theorem dX10_both_55 : decode cX10_both 55 = .ok (.iload_n 1, 1) := by decide +kernel
theorem dX10_both_56 : decode cX10_both 56 = .ok (.iload_n 2, 1) := by decide +kernel
theorem dX10_both_57 : decode cX10_both 57 = .ok (.invokevirtual 176, 3) := by decide +kernel
theorem dX10_both_60 : decode cX10_both 60 = .ok (.ifCond .ne 26, 3) := by decide +kernel
theorem dX10_both_63 : decode cX10_both 63 = .ok (.aload_n 0, 1) := by decide +kernel
theorem dX10_both_64 : decode cX10_both 64 = .ok (.getfield 12, 3) := by decide +kernel
theorem dX10_both_67 : decode cX10_both 67 = .ok (.iload_n 3, 1) := by decide +kernel
theorem dX10_both_68 : decode cX10_both 68 = .ok (.invokevirtual 130, 3) := by decide +kernel
theorem dX10_both_71 : decode cX10_both 71 = .ok (.ifCond .eq 15, 3) := by decide +kernel
theorem dX10_both_74 : decode cX10_both 74 = .ok (.aload_n 0, 1) := by decide +kernel
theorem dX10_both_75 : decode cX10_both 75 = .ok (.getfield 12, 3) := by decide +kernel
theorem dX10_both_78 : decode cX10_both 78 = .ok (.iload 4, 2) := by decide +kernel
theorem dX10_both_80 : decode cX10_both 80 = .ok (.invokevirtual 130, 3) := by decide +kernel
theorem dX10_both_83 : decode cX10_both 83 = .ok (.ifCond .ne 6, 3) := by decide +kernel
theorem dX10_both_86 : decode cX10_both 86 = .ok (.bipush (-2), 2) := by decide +kernel
theorem dX10_both_88 : decode cX10_both 88 = .ok (.ireturn, 1) := by decide +kernel
theorem dX10_both_89 : decode cX10_both 89 = .ok (.aload_n 0, 1) := by decide +kernel
theorem dX10_both_90 : decode cX10_both 90 = .ok (.getfield 12, 3) := by decide +kernel
theorem dX10_both_93 : decode cX10_both 93 = .ok (.iload_n 3, 1) := by decide +kernel
theorem dX10_both_94 : decode cX10_both 94 = .ok (.aload_n 0, 1) := by decide +kernel
theorem dX10_both_95 : decode cX10_both 95 = .ok (.getfield 77, 3) := by decide +kernel
theorem dX10_both_98 : decode cX10_both 98 = .ok (.invokevirtual 141, 3) := by decide +kernel
theorem dX10_both_101 : decode cX10_both 101 = .ok (.aload_n 0, 1) := by decide +kernel
theorem dX10_both_102 : decode cX10_both 102 = .ok (.getfield 12, 3) := by decide +kernel
theorem dX10_both_105 : decode cX10_both 105 = .ok (.iload 4, 2) := by decide +kernel
theorem dX10_both_107 : decode cX10_both 107 = .ok (.aload_n 0, 1) := by decide +kernel
theorem dX10_both_108 : decode cX10_both 108 = .ok (.getfield 80, 3) := by decide +kernel
theorem dX10_both_111 : decode cX10_both 111 = .ok (.invokevirtual 141, 3) := by decide +kernel
theorem dX10_both_114 : decode cX10_both 114 = .ok (.aload_n 0, 1) := by decide +kernel
theorem dX10_both_115 : decode cX10_both 115 = .ok (.getfield 74, 3) := by decide +kernel
theorem dX10_both_118 : decode cX10_both 118 = .ok (.invokevirtual 170, 3) := by decide +kernel
theorem dX10_both_121 : decode cX10_both 121 = .ok (.ifCond .ne 35, 3) := by decide +kernel
theorem dX10_both_124 : decode cX10_both 124 = .ok (.aload_n 0, 1) := by decide +kernel
theorem dX10_both_125 : decode cX10_both 125 = .ok (.getfield 80, 3) := by decide +kernel
theorem dX10_both_128 : decode cX10_both 128 = .ok (.invokevirtual 170, 3) := by decide +kernel
theorem dX10_both_131 : decode cX10_both 131 = .ok (.ifCond .ne 25, 3) := by decide +kernel
theorem dX10_both_134 : decode cX10_both 134 = .ok (.aload_n 0, 1) := by decide +kernel
theorem dX10_both_135 : decode cX10_both 135 = .ok (.getfield 28, 3) := by decide +kernel
theorem dX10_both_138 : decode cX10_both 138 = .ok (.aload_n 0, 1) := by decide +kernel
theorem dX10_both_139 : decode cX10_both 139 = .ok (.getfield 74, 3) := by decide +kernel
theorem dX10_both_142 : decode cX10_both 142 = .ok (.aload_n 0, 1) := by decide +kernel
theorem dX10_both_143 : decode cX10_both 143 = .ok (.getfield 80, 3) := by decide +kernel
theorem dX10_both_146 : decode cX10_both 146 = .ok (.aload_n 0, 1) := by decide +kernel
theorem dX10_both_147 : decode cX10_both 147 = .ok (.getfield 83, 3) := by decide +kernel
theorem dX10_both_150 : decode cX10_both 150 = .ok (.invokevirtual 280, 3) := by decide +kernel
theorem dX10_both_153 : decode cX10_both 153 = .ok (.ifCond .ne 6, 3) := by decide +kernel
theorem dX10_both_156 : decode cX10_both 156 = .ok (.bipush (-3), 2) := by decide +kernel
theorem dX10_both_158 : decode cX10_both 158 = .ok (.ireturn, 1) := by decide +kernel
theorem dX10_both_159 : decode cX10_both 159 = .ok (.aload_n 0, 1) := by decide +kernel
theorem dX10_both_160 : decode cX10_both 160 = .ok (.getfield 86, 3) := by decide +kernel
theorem dX10_both_163 : decode cX10_both 163 = .ok (.aload_n 0, 1) := by decide +kernel
theorem dX10_both_164 : decode cX10_both 164 = .ok (.getfield 74, 3) := by decide +kernel
theorem dX10_both_167 : decode cX10_both 167 = .ok (.invokevirtual 186, 3) := by decide +kernel
theorem dX10_both_170 : decode cX10_both 170 = .ok (.aload_n 0, 1) := by decide +kernel
theorem dX10_both_171 : decode cX10_both 171 = .ok (.getfield 86, 3) := by decide +kernel
theorem dX10_both_174 : decode cX10_both 174 = .ok (.aload_n 0, 1) := by decide +kernel
theorem dX10_both_175 : decode cX10_both 175 = .ok (.getfield 80, 3) := by decide +kernel
theorem dX10_both_178 : decode cX10_both 178 = .ok (.invokevirtual 196, 3) := by decide +kernel
theorem dX10_both_181 : decode cX10_both 181 = .ok (.aload_n 0, 1) := by decide +kernel
theorem dX10_both_182 : decode cX10_both 182 = .ok (.getfield 86, 3) := by decide +kernel
theorem dX10_both_185 : decode cX10_both 185 = .ok (.invokevirtual 126, 3) := by decide +kernel
theorem dX10_both_188 : decode cX10_both 188 = .ok (.ifCond .ne 6, 3) := by decide +kernel
theorem dX10_both_191 : decode cX10_both 191 = .ok (.bipush (-4), 2) := by decide +kernel
theorem dX10_both_193 : decode cX10_both 193 = .ok (.ireturn, 1) := by decide +kernel
theorem dX10_both_194 : decode cX10_both 194 = .ok (.aload_n 0, 1) := by decide +kernel
theorem dX10_both_195 : decode cX10_both 195 = .ok (.invokevirtual 355, 3) := by decide +kernel
theorem dX10_both_198 : decode cX10_both 198 = .ok (.aload_n 0, 1) := by decide +kernel
theorem dX10_both_199 : decode cX10_both 199 = .ok (.getfield 83, 3) := by decide +kernel
theorem dX10_both_202 : decode cX10_both 202 = .ok (.iload 5, 2) := by decide +kernel
theorem dX10_both_204 : decode cX10_both 204 = .ok (.invokestatic 273, 3) := by decide +kernel
theorem dX10_both_207 : decode cX10_both 207 = .ok (.ireturn, 1) := by decide +kernel
theorem dX10_change_0 : decode cX10_change 0 = .ok (.iload_n 1, 1) := by decide +kernel
theorem dX10_change_1 : decode cX10_change 1 = .ok (.invokestatic 105, 3) := by decide +kernel
theorem dX10_change_4 : decode cX10_change 4 = .ok (.ifCond .eq 13, 3) := by decide +kernel
theorem dX10_change_7 : decode cX10_change 7 = .ok (.iload_n 2, 1) := by decide +kernel
theorem dX10_change_8 : decode cX10_change 8 = .ok (.ifCond .lt 9, 3) := by decide +kernel
theorem dX10_change_11 : decode cX10_change 11 = .ok (.iload_n 2, 1) := by decide +kernel
theorem dX10_change_12 : decode cX10_change 12 = .ok (.bipush 7, 2) := by decide +kernel
theorem dX10_change_14 : decode cX10_change 14 = .ok (.if_icmp .le 5, 3) := by decide +kernel
theorem dX10_change_17 : decode cX10_change 17 = .ok (.iconst (-1), 1) := by decide +kernel
theorem dX10_change_18 : decode cX10_change 18 = .ok (.ireturn, 1) := by decide +kernel
theorem dX10_change_19 : decode cX10_change 19 = .ok (.aload_n 0, 1) := by decide +kernel
theorem dX10_change_20 : decode cX10_change 20 = .ok (.getfield 12, 3) := by decide +kernel
theorem dX10_change_23 : decode cX10_change 23 = .ok (.iload_n 1, 1) := by decide +kernel
theorem dX10_change_24 : decode cX10_change 24 = .ok (.invokevirtual 130, 3) := by decide +kernel
theorem dX10_change_27 : decode cX10_change 27 = .ok (.ifCond .ne 6, 3) := by decide +kernel
theorem dX10_change_30 : decode cX10_change 30 = .ok (.bipush (-2), 2) := by decide +kernel
theorem dX10_change_32 : decode cX10_change 32 = .ok (.ireturn, 1) := by decide +kernel
theorem dX10_change_33 : decode cX10_change 33 = .ok (.aload_n 0, 1) := by decide +kernel
theorem dX10_change_34 : decode cX10_change 34 = .ok (.getfield 12, 3) := by decide +kernel
theorem dX10_change_37 : decode cX10_change 37 = .ok (.iload_n 1, 1) := by decide +kernel
theorem dX10_change_38 : decode cX10_change 38 = .ok (.aload_n 0, 1) := by decide +kernel
theorem dX10_change_39 : decode cX10_change 39 = .ok (.getfield 83, 3) := by decide +kernel
theorem dX10_change_42 : decode cX10_change 42 = .ok (.invokevirtual 141, 3) := by decide +kernel
theorem dX10_change_45 : decode cX10_change 45 = .ok (.iload_n 2, 1) := by decide +kernel
theorem dX10_change_46 : decode cX10_change 46 = .ok (.ifCond .ne 13, 3) := by decide +kernel
theorem dX10_change_49 : decode cX10_change 49 = .ok (.aload_n 0, 1) := by decide +kernel
theorem dX10_change_50 : decode cX10_change 50 = .ok (.getfield 83, 3) := by decide +kernel
theorem dX10_change_53 : decode cX10_change 53 = .ok (.invokevirtual 212, 3) := by decide +kernel
theorem dX10_change_56 : decode cX10_change 56 = .ok (.goto 28, 3) := by decide +kernel
theorem dX10_change_59 : decode cX10_change 59 = .ok (.iload_n 2, 1) := by decide +kernel
theorem dX10_change_60 : decode cX10_change 60 = .ok (.iconst 1, 1) := by decide +kernel
theorem dX10_change_61 : decode cX10_change 61 = .ok (.if_icmp .ne 13, 3) := by decide +kernel
theorem dX10_change_64 : decode cX10_change 64 = .ok (.aload_n 0, 1) := by decide +kernel
theorem dX10_change_65 : decode cX10_change 65 = .ok (.getfield 83, 3) := by decide +kernel
theorem dX10_change_68 : decode cX10_change 68 = .ok (.invokevirtual 209, 3) := by decide +kernel
theorem dX10_change_71 : decode cX10_change 71 = .ok (.goto 13, 3) := by decide +kernel
theorem dX10_change_74 : decode cX10_change 74 = .ok (.aload_n 0, 1) := by decide +kernel
theorem dX10_change_75 : decode cX10_change 75 = .ok (.getfield 83, 3) := by decide +kernel
theorem dX10_change_78 : decode cX10_change 78 = .ok (.iload_n 2, 1) := by decide +kernel
theorem dX10_change_79 : decode cX10_change 79 = .ok (.iconst 2, 1) := by decide +kernel
theorem dX10_change_80 : decode cX10_change 80 = .ok (.isub, 1) := by decide +kernel
theorem dX10_change_81 : decode cX10_change 81 = .ok (.invokevirtual 215, 3) := by decide +kernel
theorem dX10_change_84 : decode cX10_change 84 = .ok (.aload_n 0, 1) := by decide +kernel
theorem dX10_change_85 : decode cX10_change 85 = .ok (.iload_n 1, 1) := by decide +kernel
theorem dX10_change_86 : decode cX10_change 86 = .ok (.invokevirtual 183, 3) := by decide +kernel
theorem dX10_change_89 : decode cX10_change 89 = .ok (.ireturn, 1) := by decide +kernel
theorem dX10_classes_0 : decode cX10_classes 0 = .ok (.iload_n 1, 1) := by decide +kernel
theorem dX10_classes_1 : decode cX10_classes 1 = .ok (.invokestatic 105, 3) := by decide +kernel
theorem dX10_classes_4 : decode cX10_classes 4 = .ok (.ifCond .eq 12, 3) := by decide +kernel
theorem dX10_classes_7 : decode cX10_classes 7 = .ok (.iload_n 2, 1) := by decide +kernel
theorem dX10_classes_8 : decode cX10_classes 8 = .ok (.ifCond .lt 8, 3) := by decide +kernel
theorem dX10_classes_11 : decode cX10_classes 11 = .ok (.iload_n 2, 1) := by decide +kernel
theorem dX10_classes_12 : decode cX10_classes 12 = .ok (.iconst 2, 1) := by decide +kernel
theorem dX10_classes_13 : decode cX10_classes 13 = .ok (.if_icmp .le 5, 3) := by decide +kernel
theorem dX10_classes_16 : decode cX10_classes 16 = .ok (.iconst (-1), 1) := by decide +kernel
theorem dX10_classes_17 : decode cX10_classes 17 = .ok (.ireturn, 1) := by decide +kernel
theorem dX10_classes_18 : decode cX10_classes 18 = .ok (.aload_n 0, 1) := by decide +kernel
theorem dX10_classes_19 : decode cX10_classes 19 = .ok (.getfield 12, 3) := by decide +kernel
theorem dX10_classes_22 : decode cX10_classes 22 = .ok (.iload_n 1, 1) := by decide +kernel
theorem dX10_classes_23 : decode cX10_classes 23 = .ok (.invokevirtual 130, 3) := by decide +kernel
theorem dX10_classes_26 : decode cX10_classes 26 = .ok (.ifCond .ne 6, 3) := by decide +kernel
theorem dX10_classes_29 : decode cX10_classes 29 = .ok (.bipush (-2), 2) := by decide +kernel
theorem dX10_classes_31 : decode cX10_classes 31 = .ok (.ireturn, 1) := by decide +kernel
theorem dX10_classes_32 : decode cX10_classes 32 = .ok (.aload_n 0, 1) := by decide +kernel
theorem dX10_classes_33 : decode cX10_classes 33 = .ok (.getfield 12, 3) := by decide +kernel
theorem dX10_classes_36 : decode cX10_classes 36 = .ok (.iload_n 1, 1) := by decide +kernel
theorem dX10_classes_37 : decode cX10_classes 37 = .ok (.aload_n 0, 1) := by decide +kernel
theorem dX10_classes_38 : decode cX10_classes 38 = .ok (.getfield 74, 3) := by decide +kernel
theorem dX10_classes_41 : decode cX10_classes 41 = .ok (.invokevirtual 141, 3) := by decide +kernel
theorem dX10_classes_44 : decode cX10_classes 44 = .ok (.iload_n 2, 1) := by decide +kernel
theorem dX10_classes_45 : decode cX10_classes 45 = .ok (.ifCond .ne 17, 3) := by decide +kernel
theorem dX10_classes_48 : decode cX10_classes 48 = .ok (.aload_n 0, 1) := by decide +kernel
theorem dX10_classes_49 : decode cX10_classes 49 = .ok (.getfield 35, 3) := by decide +kernel
theorem dX10_classes_52 : decode cX10_classes 52 = .ok (.aload_n 0, 1) := by decide +kernel
theorem dX10_classes_53 : decode cX10_classes 53 = .ok (.getfield 74, 3) := by decide +kernel
theorem dX10_classes_56 : decode cX10_classes 56 = .ok (.invokevirtual 284, 3) := by decide +kernel
theorem dX10_classes_59 : decode cX10_classes 59 = .ok (.goto 17, 3) := by decide +kernel
theorem dX10_classes_62 : decode cX10_classes 62 = .ok (.aload_n 0, 1) := by decide +kernel
theorem dX10_classes_63 : decode cX10_classes 63 = .ok (.getfield 35, 3) := by decide +kernel
theorem dX10_classes_66 : decode cX10_classes 66 = .ok (.aload_n 0, 1) := by decide +kernel
theorem dX10_classes_67 : decode cX10_classes 67 = .ok (.getfield 74, 3) := by decide +kernel
theorem dX10_classes_70 : decode cX10_classes 70 = .ok (.sipush 2000, 3) := by decide +kernel
theorem dX10_classes_73 : decode cX10_classes 73 = .ok (.invokevirtual 287, 3) := by decide +kernel
theorem dX10_classes_76 : decode cX10_classes 76 = .ok (.istore_n 3, 1) := by decide +kernel
theorem dX10_classes_77 : decode cX10_classes 77 = .ok (.iload_n 3, 1) := by decide +kernel
theorem dX10_classes_78 : decode cX10_classes 78 = .ok (.ifCond .ne 6, 3) := by decide +kernel
theorem dX10_classes_81 : decode cX10_classes 81 = .ok (.bipush (-3), 2) := by decide +kernel
theorem dX10_classes_83 : decode cX10_classes 83 = .ok (.ireturn, 1) := by decide +kernel
theorem dX10_classes_84 : decode cX10_classes 84 = .ok (.iload_n 2, 1) := by decide +kernel
theorem dX10_classes_85 : decode cX10_classes 85 = .ok (.ifCond .ne 12, 3) := by decide +kernel
theorem dX10_classes_88 : decode cX10_classes 88 = .ok (.aload_n 0, 1) := by decide +kernel
theorem dX10_classes_89 : decode cX10_classes 89 = .ok (.getfield 74, 3) := by decide +kernel
theorem dX10_classes_92 : decode cX10_classes 92 = .ok (.invokevirtual 152, 3) := by decide +kernel
theorem dX10_classes_95 : decode cX10_classes 95 = .ok (.l2i, 1) := by decide +kernel
theorem dX10_classes_96 : decode cX10_classes 96 = .ok (.ireturn, 1) := by decide +kernel
theorem dX10_classes_97 : decode cX10_classes 97 = .ok (.aload_n 0, 1) := by decide +kernel
theorem dX10_classes_98 : decode cX10_classes 98 = .ok (.getfield 42, 3) := by decide +kernel
theorem dX10_classes_101 : decode cX10_classes 101 = .ok (.aload_n 0, 1) := by decide +kernel
theorem dX10_classes_102 : decode cX10_classes 102 = .ok (.getfield 74, 3) := by decide +kernel
theorem dX10_classes_105 : decode cX10_classes 105 = .ok (.invokevirtual 228, 3) := by decide +kernel
theorem dX10_classes_108 : decode cX10_classes 108 = .ok (.aload_n 0, 1) := by decide +kernel
theorem dX10_classes_109 : decode cX10_classes 109 = .ok (.getfield 42, 3) := by decide +kernel
theorem dX10_classes_112 : decode cX10_classes 112 = .ok (.invokevirtual 253, 3) := by decide +kernel
theorem dX10_classes_115 : decode cX10_classes 115 = .ok (.l2i, 1) := by decide +kernel
theorem dX10_classes_116 : decode cX10_classes 116 = .ok (.istore 4, 2) := by decide +kernel
theorem dX10_classes_118 : decode cX10_classes 118 = .ok (.iload_n 2, 1) := by decide +kernel
theorem dX10_classes_119 : decode cX10_classes 119 = .ok (.iconst 1, 1) := by decide +kernel
theorem dX10_classes_120 : decode cX10_classes 120 = .ok (.if_icmp .ne 8, 3) := by decide +kernel
theorem dX10_classes_123 : decode cX10_classes 123 = .ok (.iload 4, 2) := by decide +kernel
theorem dX10_classes_125 : decode cX10_classes 125 = .ok (.goto 9, 3) := by decide +kernel
theorem dX10_classes_128 : decode cX10_classes 128 = .ok (.aload_n 0, 1) := by decide +kernel
theorem dX10_classes_129 : decode cX10_classes 129 = .ok (.iload 4, 2) := by decide +kernel
theorem dX10_classes_131 : decode cX10_classes 131 = .ok (.invokevirtual 291, 3) := by decide +kernel
theorem dX10_classes_134 : decode cX10_classes 134 = .ok (.ireturn, 1) := by decide +kernel
theorem dX10_clearMarks_0 : decode cX10_clearMarks 0 = .ok (.iconst 0, 1) := by decide +kernel
theorem dX10_clearMarks_1 : decode cX10_clearMarks 1 = .ok (.istore_n 2, 1) := by decide +kernel
theorem dX10_clearMarks_2 : decode cX10_clearMarks 2 = .ok (.iload_n 2, 1) := by decide +kernel
theorem dX10_clearMarks_3 : decode cX10_clearMarks 3 = .ok (.aload_n 0, 1) := by decide +kernel
theorem dX10_clearMarks_4 : decode cX10_clearMarks 4 = .ok (.getfield 89, 3) := by decide +kernel
theorem dX10_clearMarks_7 : decode cX10_clearMarks 7 = .ok (.arraylength, 1) := by decide +kernel
theorem dX10_clearMarks_8 : decode cX10_clearMarks 8 = .ok (.if_icmp .ge 16, 3) := by decide +kernel
theorem dX10_clearMarks_11 : decode cX10_clearMarks 11 = .ok (.aload_n 0, 1) := by decide +kernel
theorem dX10_clearMarks_12 : decode cX10_clearMarks 12 = .ok (.getfield 89, 3) := by decide +kernel
theorem dX10_clearMarks_15 : decode cX10_clearMarks 15 = .ok (.iload_n 2, 1) := by decide +kernel
theorem dX10_clearMarks_16 : decode cX10_clearMarks 16 = .ok (.iload_n 1, 1) := by decide +kernel
theorem dX10_clearMarks_17 : decode cX10_clearMarks 17 = .ok (.iastore, 1) := by decide +kernel
theorem dX10_clearMarks_18 : decode cX10_clearMarks 18 = .ok (.iinc 2 1, 3) := by decide +kernel
theorem dX10_clearMarks_21 : decode cX10_clearMarks 21 = .ok (.goto (-19), 3) := by decide +kernel
theorem dX10_clearMarks_24 : decode cX10_clearMarks 24 = .ok (.return_, 1) := by decide +kernel
theorem dX10_count_0 : decode cX10_count 0 = .ok (.iload_n 1, 1) := by decide +kernel
theorem dX10_count_1 : decode cX10_count 1 = .ok (.tableswitch 51 0 2 #[27, 35, 43], 27) := by decide +kernel
theorem dX10_count_28 : decode cX10_count 28 = .ok (.aload_n 0, 1) := by decide +kernel
theorem dX10_count_29 : decode cX10_count 29 = .ok (.getfield 12, 3) := by decide +kernel
theorem dX10_count_32 : decode cX10_count 32 = .ok (.getfield 454, 3) := by decide +kernel
theorem dX10_count_35 : decode cX10_count 35 = .ok (.ireturn, 1) := by decide +kernel
theorem dX10_count_36 : decode cX10_count 36 = .ok (.aload_n 0, 1) := by decide +kernel
theorem dX10_count_37 : decode cX10_count 37 = .ok (.getfield 21, 3) := by decide +kernel
theorem dX10_count_40 : decode cX10_count 40 = .ok (.getfield 101, 3) := by decide +kernel
theorem dX10_count_43 : decode cX10_count 43 = .ok (.ireturn, 1) := by decide +kernel
theorem dX10_count_44 : decode cX10_count 44 = .ok (.aload_n 0, 1) := by decide +kernel
theorem dX10_count_45 : decode cX10_count 45 = .ok (.getfield 12, 3) := by decide +kernel
theorem dX10_count_48 : decode cX10_count 48 = .ok (.getfield 457, 3) := by decide +kernel
theorem dX10_count_51 : decode cX10_count 51 = .ok (.ireturn, 1) := by decide +kernel
theorem dX10_count_52 : decode cX10_count 52 = .ok (.iconst (-1), 1) := by decide +kernel
theorem dX10_count_53 : decode cX10_count 53 = .ok (.ireturn, 1) := by decide +kernel
theorem dX10_crowd_0 : decode cX10_crowd 0 = .ok (.iload_n 1, 1) := by decide +kernel
theorem dX10_crowd_1 : decode cX10_crowd 1 = .ok (.invokestatic 105, 3) := by decide +kernel
theorem dX10_crowd_4 : decode cX10_crowd 4 = .ok (.ifCond .eq 23, 3) := by decide +kernel
theorem dX10_crowd_7 : decode cX10_crowd 7 = .ok (.iload_n 2, 1) := by decide +kernel
theorem dX10_crowd_8 : decode cX10_crowd 8 = .ok (.iconst 1, 1) := by decide +kernel
theorem dX10_crowd_9 : decode cX10_crowd 9 = .ok (.if_icmp .lt 18, 3) := by decide +kernel
theorem dX10_crowd_12 : decode cX10_crowd 12 = .ok (.iload_n 2, 1) := by decide +kernel
theorem dX10_crowd_13 : decode cX10_crowd 13 = .ok (.bipush 100, 2) := by decide +kernel
theorem dX10_crowd_15 : decode cX10_crowd 15 = .ok (.if_icmp .gt 12, 3) := by decide +kernel
theorem dX10_crowd_18 : decode cX10_crowd 18 = .ok (.iload_n 3, 1) := by decide +kernel
theorem dX10_crowd_19 : decode cX10_crowd 19 = .ok (.ifCond .lt 8, 3) := by decide +kernel
theorem dX10_crowd_22 : decode cX10_crowd 22 = .ok (.iload_n 3, 1) := by decide +kernel
theorem dX10_crowd_23 : decode cX10_crowd 23 = .ok (.iconst 3, 1) := by decide +kernel
theorem dX10_crowd_24 : decode cX10_crowd 24 = .ok (.if_icmp .le 5, 3) := by decide +kernel
theorem dX10_crowd_27 : decode cX10_crowd 27 = .ok (.iconst (-1), 1) := by decide +kernel
theorem dX10_crowd_28 : decode cX10_crowd 28 = .ok (.ireturn, 1) := by decide +kernel
theorem dX10_crowd_29 : decode cX10_crowd 29 = .ok (.aload_n 0, 1) := by decide +kernel
theorem dX10_crowd_30 : decode cX10_crowd 30 = .ok (.getfield 12, 3) := by decide +kernel
theorem dX10_crowd_33 : decode cX10_crowd 33 = .ok (.iload_n 1, 1) := by decide +kernel
theorem dX10_crowd_34 : decode cX10_crowd 34 = .ok (.invokevirtual 130, 3) := by decide +kernel
theorem dX10_crowd_37 : decode cX10_crowd 37 = .ok (.ifCond .ne 6, 3) := by decide +kernel
theorem dX10_crowd_40 : decode cX10_crowd 40 = .ok (.bipush (-2), 2) := by decide +kernel
theorem dX10_crowd_42 : decode cX10_crowd 42 = .ok (.ireturn, 1) := by decide +kernel
theorem dX10_crowd_43 : decode cX10_crowd 43 = .ok (.aload_n 0, 1) := by decide +kernel
theorem dX10_crowd_44 : decode cX10_crowd 44 = .ok (.getfield 12, 3) := by decide +kernel
theorem dX10_crowd_47 : decode cX10_crowd 47 = .ok (.iload_n 1, 1) := by decide +kernel
theorem dX10_crowd_48 : decode cX10_crowd 48 = .ok (.aload_n 0, 1) := by decide +kernel
theorem dX10_crowd_49 : decode cX10_crowd 49 = .ok (.getfield 70, 3) := by decide +kernel
theorem dX10_crowd_52 : decode cX10_crowd 52 = .ok (.invokevirtual 141, 3) := by decide +kernel
theorem dX10_crowd_55 : decode cX10_crowd 55 = .ok (.aload_n 0, 1) := by decide +kernel
theorem dX10_crowd_56 : decode cX10_crowd 56 = .ok (.getfield 49, 3) := by decide +kernel
theorem dX10_crowd_59 : decode cX10_crowd 59 = .ok (.invokevirtual 417, 3) := by decide +kernel
theorem dX10_crowd_62 : decode cX10_crowd 62 = .ok (.iconst 0, 1) := by decide +kernel
theorem dX10_crowd_63 : decode cX10_crowd 63 = .ok (.istore 4, 2) := by decide +kernel
theorem dX10_crowd_65 : decode cX10_crowd 65 = .ok (.iconst 0, 1) := by decide +kernel
theorem dX10_crowd_66 : decode cX10_crowd 66 = .ok (.istore 5, 2) := by decide +kernel
theorem dX10_crowd_68 : decode cX10_crowd 68 = .ok (.iload 5, 2) := by decide +kernel
theorem dX10_crowd_70 : decode cX10_crowd 70 = .ok (.iload_n 2, 1) := by decide +kernel
theorem dX10_crowd_71 : decode cX10_crowd 71 = .ok (.if_icmp .ge 41, 3) := by decide +kernel
theorem dX10_crowd_74 : decode cX10_crowd 74 = .ok (.aload_n 0, 1) := by decide +kernel
theorem dX10_crowd_75 : decode cX10_crowd 75 = .ok (.getfield 49, 3) := by decide +kernel
theorem dX10_crowd_78 : decode cX10_crowd 78 = .ok (.iload 5, 2) := by decide +kernel
theorem dX10_crowd_80 : decode cX10_crowd 80 = .ok (.aload_n 0, 1) := by decide +kernel
theorem dX10_crowd_81 : decode cX10_crowd 81 = .ok (.getfield 74, 3) := by decide +kernel
theorem dX10_crowd_84 : decode cX10_crowd 84 = .ok (.invokevirtual 421, 3) := by decide +kernel
theorem dX10_crowd_87 : decode cX10_crowd 87 = .ok (.aload_n 0, 1) := by decide +kernel
theorem dX10_crowd_88 : decode cX10_crowd 88 = .ok (.aload_n 0, 1) := by decide +kernel
theorem dX10_crowd_89 : decode cX10_crowd 89 = .ok (.getfield 70, 3) := by decide +kernel
theorem dX10_crowd_92 : decode cX10_crowd 92 = .ok (.aload_n 0, 1) := by decide +kernel
theorem dX10_crowd_93 : decode cX10_crowd 93 = .ok (.getfield 74, 3) := by decide +kernel
theorem dX10_crowd_96 : decode cX10_crowd 96 = .ok (.invokevirtual 262, 3) := by decide +kernel
theorem dX10_crowd_99 : decode cX10_crowd 99 = .ok (.iload_n 3, 1) := by decide +kernel
theorem dX10_crowd_100 : decode cX10_crowd 100 = .ok (.if_icmp .ne 6, 3) := by decide +kernel
theorem dX10_crowd_103 : decode cX10_crowd 103 = .ok (.iinc 4 1, 3) := by decide +kernel
theorem dX10_crowd_106 : decode cX10_crowd 106 = .ok (.iinc 5 1, 3) := by decide +kernel
theorem dX10_crowd_109 : decode cX10_crowd 109 = .ok (.goto (-41), 3) := by decide +kernel
theorem dX10_crowd_112 : decode cX10_crowd 112 = .ok (.iload 4, 2) := by decide +kernel
theorem dX10_crowd_114 : decode cX10_crowd 114 = .ok (.ireturn, 1) := by decide +kernel
theorem dX10_cubesAmong_0 : decode cX10_cubesAmong 0 = .ok (.aload_n 0, 1) := by decide +kernel
theorem dX10_cubesAmong_1 : decode cX10_cubesAmong 1 = .ok (.getfield 70, 3) := by decide +kernel
theorem dX10_cubesAmong_4 : decode cX10_cubesAmong 4 = .ok (.lconst 1, 1) := by decide +kernel
theorem dX10_cubesAmong_5 : decode cX10_cubesAmong 5 = .ok (.lconst 0, 1) := by decide +kernel
theorem dX10_cubesAmong_6 : decode cX10_cubesAmong 6 = .ok (.invokevirtual 122, 3) := by decide +kernel
theorem dX10_cubesAmong_9 : decode cX10_cubesAmong 9 = .ok (.aload_n 0, 1) := by decide +kernel
theorem dX10_cubesAmong_10 : decode cX10_cubesAmong 10 = .ok (.getfield 35, 3) := by decide +kernel
theorem dX10_cubesAmong_13 : decode cX10_cubesAmong 13 = .ok (.aload_n 0, 1) := by decide +kernel
theorem dX10_cubesAmong_14 : decode cX10_cubesAmong 14 = .ok (.getfield 70, 3) := by decide +kernel
theorem dX10_cubesAmong_17 : decode cX10_cubesAmong 17 = .ok (.invokevirtual 270, 3) := by decide +kernel
theorem dX10_cubesAmong_20 : decode cX10_cubesAmong 20 = .ok (.aload_n 0, 1) := by decide +kernel
theorem dX10_cubesAmong_21 : decode cX10_cubesAmong 21 = .ok (.iconst 1, 1) := by decide +kernel
theorem dX10_cubesAmong_22 : decode cX10_cubesAmong 22 = .ok (.aload_n 0, 1) := by decide +kernel
theorem dX10_cubesAmong_23 : decode cX10_cubesAmong 23 = .ok (.getfield 70, 3) := by decide +kernel
theorem dX10_cubesAmong_26 : decode cX10_cubesAmong 26 = .ok (.iconst (-1), 1) := by decide +kernel
theorem dX10_cubesAmong_27 : decode cX10_cubesAmong 27 = .ok (.invokevirtual 294, 3) := by decide +kernel
theorem dX10_cubesAmong_30 : decode cX10_cubesAmong 30 = .ok (.istore_n 2, 1) := by decide +kernel
theorem dX10_cubesAmong_31 : decode cX10_cubesAmong 31 = .ok (.iload_n 2, 1) := by decide +kernel
theorem dX10_cubesAmong_32 : decode cX10_cubesAmong 32 = .ok (.iconst 1, 1) := by decide +kernel
theorem dX10_cubesAmong_33 : decode cX10_cubesAmong 33 = .ok (.if_icmp .ge 7, 3) := by decide +kernel
theorem dX10_cubesAmong_36 : decode cX10_cubesAmong 36 = .ok (.iconst 0, 1) := by decide +kernel
theorem dX10_cubesAmong_37 : decode cX10_cubesAmong 37 = .ok (.goto 6, 3) := by decide +kernel
theorem dX10_cubesAmong_40 : decode cX10_cubesAmong 40 = .ok (.iload_n 1, 1) := by decide +kernel
theorem dX10_cubesAmong_41 : decode cX10_cubesAmong 41 = .ok (.iload_n 2, 1) := by decide +kernel
theorem dX10_cubesAmong_42 : decode cX10_cubesAmong 42 = .ok (.idiv, 1) := by decide +kernel
theorem dX10_cubesAmong_43 : decode cX10_cubesAmong 43 = .ok (.ireturn, 1) := by decide +kernel
theorem dX10_direct_0 : decode cX10_direct 0 = .ok (.iload_n 3, 1) := by decide +kernel
theorem dX10_direct_1 : decode cX10_direct 1 = .ok (.ifCond .lt 8, 3) := by decide +kernel
theorem dX10_direct_4 : decode cX10_direct 4 = .ok (.iload_n 3, 1) := by decide +kernel
theorem dX10_direct_5 : decode cX10_direct 5 = .ok (.iconst 1, 1) := by decide +kernel
theorem dX10_direct_6 : decode cX10_direct 6 = .ok (.if_icmp .le 5, 3) := by decide +kernel
theorem dX10_direct_9 : decode cX10_direct 9 = .ok (.iconst (-1), 1) := by decide +kernel
theorem dX10_direct_10 : decode cX10_direct 10 = .ok (.ireturn, 1) := by decide +kernel
theorem dX10_direct_11 : decode cX10_direct 11 = .ok (.aload_n 0, 1) := by decide +kernel
theorem dX10_direct_12 : decode cX10_direct 12 = .ok (.iload_n 1, 1) := by decide +kernel
theorem dX10_direct_13 : decode cX10_direct 13 = .ok (.iload_n 2, 1) := by decide +kernel
theorem dX10_direct_14 : decode cX10_direct 14 = .ok (.invokevirtual 176, 3) := by decide +kernel
theorem dX10_direct_17 : decode cX10_direct 17 = .ok (.istore 4, 2) := by decide +kernel
theorem dX10_direct_19 : decode cX10_direct 19 = .ok (.iload 4, 2) := by decide +kernel
theorem dX10_direct_21 : decode cX10_direct 21 = .ok (.ifCond .eq 6, 3) := by decide +kernel
theorem dX10_direct_24 : decode cX10_direct 24 = .ok (.iload 4, 2) := by decide +kernel
theorem dX10_direct_26 : decode cX10_direct 26 = .ok (.ireturn, 1) := by decide +kernel
theorem dX10_direct_27 : decode cX10_direct 27 = .ok (.aload_n 0, 1) := by decide +kernel
theorem dX10_direct_28 : decode cX10_direct 28 = .ok (.getfield 74, 3) := by decide +kernel
theorem dX10_direct_31 : decode cX10_direct 31 = .ok (.invokevirtual 156, 3) := by decide +kernel
theorem dX10_direct_34 : decode cX10_direct 34 = .ok (.ifCond .ne 14, 3) := by decide +kernel
theorem dX10_direct_37 : decode cX10_direct 37 = .ok (.aload_n 0, 1) := by decide +kernel
theorem dX10_direct_38 : decode cX10_direct 38 = .ok (.aload_n 0, 1) := by decide +kernel
theorem dX10_direct_39 : decode cX10_direct 39 = .ok (.getfield 74, 3) := by decide +kernel
theorem dX10_direct_42 : decode cX10_direct 42 = .ok (.invokevirtual 162, 3) := by decide +kernel
theorem dX10_direct_45 : decode cX10_direct 45 = .ok (.ifCond .ne 6, 3) := by decide +kernel
theorem dX10_direct_48 : decode cX10_direct 48 = .ok (.bipush (-3), 2) := by decide +kernel
theorem dX10_direct_50 : decode cX10_direct 50 = .ok (.ireturn, 1) := by decide +kernel
theorem dX10_direct_51 : decode cX10_direct 51 = .ok (.aload_n 0, 1) := by decide +kernel
theorem dX10_direct_52 : decode cX10_direct 52 = .ok (.getfield 35, 3) := by decide +kernel
theorem dX10_direct_55 : decode cX10_direct 55 = .ok (.aload_n 0, 1) := by decide +kernel
theorem dX10_direct_56 : decode cX10_direct 56 = .ok (.getfield 74, 3) := by decide +kernel
theorem dX10_direct_59 : decode cX10_direct 59 = .ok (.invokevirtual 284, 3) := by decide +kernel
theorem dX10_direct_62 : decode cX10_direct 62 = .ok (.pop, 1) := by decide +kernel
theorem dX10_direct_63 : decode cX10_direct 63 = .ok (.aload_n 0, 1) := by decide +kernel
theorem dX10_direct_64 : decode cX10_direct 64 = .ok (.getfield 35, 3) := by decide +kernel
theorem dX10_direct_67 : decode cX10_direct 67 = .ok (.aload_n 0, 1) := by decide +kernel
theorem dX10_direct_68 : decode cX10_direct 68 = .ok (.getfield 70, 3) := by decide +kernel
theorem dX10_direct_71 : decode cX10_direct 71 = .ok (.aload_n 0, 1) := by decide +kernel
theorem dX10_direct_72 : decode cX10_direct 72 = .ok (.getfield 74, 3) := by decide +kernel
theorem dX10_direct_75 : decode cX10_direct 75 = .ok (.invokevirtual 152, 3) := by decide +kernel
theorem dX10_direct_78 : decode cX10_direct 78 = .ok (.lconst 1, 1) := by decide +kernel
theorem dX10_direct_79 : decode cX10_direct 79 = .ok (.lsub, 1) := by decide +kernel
theorem dX10_direct_80 : decode cX10_direct 80 = .ok (.ldc2_w 377, 3) := by decide +kernel
theorem dX10_direct_83 : decode cX10_direct 83 = .ok (.ldiv, 1) := by decide +kernel
theorem dX10_direct_84 : decode cX10_direct 84 = .ok (.aload_n 0, 1) := by decide +kernel
theorem dX10_direct_85 : decode cX10_direct 85 = .ok (.getfield 83, 3) := by decide +kernel
theorem dX10_direct_88 : decode cX10_direct 88 = .ok (.invokevirtual 276, 3) := by decide +kernel
theorem dX10_direct_91 : decode cX10_direct 91 = .ok (.aload_n 0, 1) := by decide +kernel
theorem dX10_direct_92 : decode cX10_direct 92 = .ok (.getfield 83, 3) := by decide +kernel
theorem dX10_direct_95 : decode cX10_direct 95 = .ok (.iload_n 3, 1) := by decide +kernel
theorem dX10_direct_96 : decode cX10_direct 96 = .ok (.invokestatic 273, 3) := by decide +kernel
theorem dX10_direct_99 : decode cX10_direct 99 = .ok (.ireturn, 1) := by decide +kernel
theorem dX10_disk_0 : decode cX10_disk 0 = .ok (.iload_n 1, 1) := by decide +kernel
theorem dX10_disk_1 : decode cX10_disk 1 = .ok (.ifCond .lt 19, 3) := by decide +kernel
theorem dX10_disk_4 : decode cX10_disk 4 = .ok (.iload_n 1, 1) := by decide +kernel
theorem dX10_disk_5 : decode cX10_disk 5 = .ok (.ldc_w 431, 3) := by decide +kernel
theorem dX10_disk_8 : decode cX10_disk 8 = .ok (.if_icmp .gt 12, 3) := by decide +kernel
theorem dX10_disk_11 : decode cX10_disk 11 = .ok (.iload_n 2, 1) := by decide +kernel
theorem dX10_disk_12 : decode cX10_disk 12 = .ok (.ifCond .lt 8, 3) := by decide +kernel
theorem dX10_disk_15 : decode cX10_disk 15 = .ok (.iload_n 2, 1) := by decide +kernel
theorem dX10_disk_16 : decode cX10_disk 16 = .ok (.iconst 1, 1) := by decide +kernel
theorem dX10_disk_17 : decode cX10_disk 17 = .ok (.if_icmp .le 5, 3) := by decide +kernel
theorem dX10_disk_20 : decode cX10_disk 20 = .ok (.iconst (-1), 1) := by decide +kernel
theorem dX10_disk_21 : decode cX10_disk 21 = .ok (.ireturn, 1) := by decide +kernel
theorem dX10_disk_22 : decode cX10_disk 22 = .ok (.aload_n 0, 1) := by decide +kernel
theorem dX10_disk_23 : decode cX10_disk 23 = .ok (.getfield 56, 3) := by decide +kernel
theorem dX10_disk_26 : decode cX10_disk 26 = .ok (.iload_n 1, 1) := by decide +kernel
theorem dX10_disk_27 : decode cX10_disk 27 = .ok (.invokevirtual 435, 3) := by decide +kernel
theorem dX10_disk_30 : decode cX10_disk 30 = .ok (.iload_n 2, 1) := by decide +kernel
theorem dX10_disk_31 : decode cX10_disk 31 = .ok (.ifCond .ne 13, 3) := by decide +kernel
theorem dX10_disk_34 : decode cX10_disk 34 = .ok (.aload_n 0, 1) := by decide +kernel
theorem dX10_disk_35 : decode cX10_disk 35 = .ok (.getfield 56, 3) := by decide +kernel
theorem dX10_disk_38 : decode cX10_disk 38 = .ok (.getfield 438, 3) := by decide +kernel
theorem dX10_disk_41 : decode cX10_disk 41 = .ok (.goto 10, 3) := by decide +kernel
theorem dX10_disk_44 : decode cX10_disk 44 = .ok (.aload_n 0, 1) := by decide +kernel
theorem dX10_disk_45 : decode cX10_disk 45 = .ok (.getfield 56, 3) := by decide +kernel
theorem dX10_disk_48 : decode cX10_disk 48 = .ok (.getfield 441, 3) := by decide +kernel
theorem dX10_disk_51 : decode cX10_disk 51 = .ok (.ireturn, 1) := by decide +kernel
theorem dX10_divisors_0 : decode cX10_divisors 0 = .ok (.aload_n 0, 1) := by decide +kernel
theorem dX10_divisors_1 : decode cX10_divisors 1 = .ok (.getfield 12, 3) := by decide +kernel
theorem dX10_divisors_4 : decode cX10_divisors 4 = .ok (.iload_n 1, 1) := by decide +kernel
theorem dX10_divisors_5 : decode cX10_divisors 5 = .ok (.invokevirtual 130, 3) := by decide +kernel
theorem dX10_divisors_8 : decode cX10_divisors 8 = .ok (.ifCond .eq 12, 3) := by decide +kernel
theorem dX10_divisors_11 : decode cX10_divisors 11 = .ok (.iload_n 2, 1) := by decide +kernel
theorem dX10_divisors_12 : decode cX10_divisors 12 = .ok (.ifCond .lt 8, 3) := by decide +kernel
theorem dX10_divisors_15 : decode cX10_divisors 15 = .ok (.iload_n 2, 1) := by decide +kernel
theorem dX10_divisors_16 : decode cX10_divisors 16 = .ok (.iconst 3, 1) := by decide +kernel
theorem dX10_divisors_17 : decode cX10_divisors 17 = .ok (.if_icmp .le 7, 3) := by decide +kernel
theorem dX10_divisors_20 : decode cX10_divisors 20 = .ok (.ldc2_w 247, 3) := by decide +kernel
theorem dX10_divisors_23 : decode cX10_divisors 23 = .ok (.lreturn, 1) := by decide +kernel
theorem dX10_divisors_24 : decode cX10_divisors 24 = .ok (.aload_n 0, 1) := by decide +kernel
theorem dX10_divisors_25 : decode cX10_divisors 25 = .ok (.getfield 12, 3) := by decide +kernel
theorem dX10_divisors_28 : decode cX10_divisors 28 = .ok (.iload_n 1, 1) := by decide +kernel
theorem dX10_divisors_29 : decode cX10_divisors 29 = .ok (.aload_n 0, 1) := by decide +kernel
theorem dX10_divisors_30 : decode cX10_divisors 30 = .ok (.getfield 70, 3) := by decide +kernel
theorem dX10_divisors_33 : decode cX10_divisors 33 = .ok (.invokevirtual 141, 3) := by decide +kernel
theorem dX10_divisors_36 : decode cX10_divisors 36 = .ok (.aload_n 0, 1) := by decide +kernel
theorem dX10_divisors_37 : decode cX10_divisors 37 = .ok (.getfield 70, 3) := by decide +kernel
theorem dX10_divisors_40 : decode cX10_divisors 40 = .ok (.invokevirtual 170, 3) := by decide +kernel
theorem dX10_divisors_43 : decode cX10_divisors 43 = .ok (.ifCond .eq 7, 3) := by decide +kernel
theorem dX10_divisors_46 : decode cX10_divisors 46 = .ok (.ldc2_w 247, 3) := by decide +kernel
theorem dX10_divisors_49 : decode cX10_divisors 49 = .ok (.lreturn, 1) := by decide +kernel
theorem dX10_divisors_50 : decode cX10_divisors 50 = .ok (.aload_n 0, 1) := by decide +kernel
theorem dX10_divisors_51 : decode cX10_divisors 51 = .ok (.getfield 42, 3) := by decide +kernel
theorem dX10_divisors_54 : decode cX10_divisors 54 = .ok (.aload_n 0, 1) := by decide +kernel
theorem dX10_divisors_55 : decode cX10_divisors 55 = .ok (.getfield 70, 3) := by decide +kernel
theorem dX10_divisors_58 : decode cX10_divisors 58 = .ok (.invokevirtual 228, 3) := by decide +kernel
theorem dX10_divisors_61 : decode cX10_divisors 61 = .ok (.iload_n 2, 1) := by decide +kernel
theorem dX10_divisors_62 : decode cX10_divisors 62 = .ok (.tableswitch 52 0 2 #[26, 35, 44], 26) := by decide +kernel
theorem dX10_divisors_88 : decode cX10_divisors 88 = .ok (.aload_n 0, 1) := by decide +kernel
theorem dX10_divisors_89 : decode cX10_divisors 89 = .ok (.getfield 42, 3) := by decide +kernel
theorem dX10_divisors_92 : decode cX10_divisors 92 = .ok (.iconst 0, 1) := by decide +kernel
theorem dX10_divisors_93 : decode cX10_divisors 93 = .ok (.invokevirtual 249, 3) := by decide +kernel
theorem dX10_divisors_96 : decode cX10_divisors 96 = .ok (.lreturn, 1) := by decide +kernel
theorem dX10_divisors_97 : decode cX10_divisors 97 = .ok (.aload_n 0, 1) := by decide +kernel
theorem dX10_divisors_98 : decode cX10_divisors 98 = .ok (.getfield 42, 3) := by decide +kernel
theorem dX10_divisors_101 : decode cX10_divisors 101 = .ok (.iconst 1, 1) := by decide +kernel
theorem dX10_divisors_102 : decode cX10_divisors 102 = .ok (.invokevirtual 249, 3) := by decide +kernel
theorem dX10_divisors_105 : decode cX10_divisors 105 = .ok (.lreturn, 1) := by decide +kernel
theorem dX10_divisors_106 : decode cX10_divisors 106 = .ok (.aload_n 0, 1) := by decide +kernel
theorem dX10_divisors_107 : decode cX10_divisors 107 = .ok (.getfield 42, 3) := by decide +kernel
theorem dX10_divisors_110 : decode cX10_divisors 110 = .ok (.invokevirtual 253, 3) := by decide +kernel
theorem dX10_divisors_113 : decode cX10_divisors 113 = .ok (.lreturn, 1) := by decide +kernel
theorem dX10_divisors_114 : decode cX10_divisors 114 = .ok (.aload_n 0, 1) := by decide +kernel
theorem dX10_divisors_115 : decode cX10_divisors 115 = .ok (.getfield 42, 3) := by decide +kernel
theorem dX10_divisors_118 : decode cX10_divisors 118 = .ok (.invokevirtual 256, 3) := by decide +kernel
theorem dX10_divisors_121 : decode cX10_divisors 121 = .ok (.i2l, 1) := by decide +kernel
theorem dX10_divisors_122 : decode cX10_divisors 122 = .ok (.lreturn, 1) := by decide +kernel
theorem dX10_drawn_0 : decode cX10_drawn 0 = .ok (.iload_n 1, 1) := by decide +kernel
theorem dX10_drawn_1 : decode cX10_drawn 1 = .ok (.invokestatic 105, 3) := by decide +kernel
theorem dX10_drawn_4 : decode cX10_drawn 4 = .ok (.ifCond .eq 15, 3) := by decide +kernel
theorem dX10_drawn_7 : decode cX10_drawn 7 = .ok (.iload_n 3, 1) := by decide +kernel
theorem dX10_drawn_8 : decode cX10_drawn 8 = .ok (.iconst 1, 1) := by decide +kernel
theorem dX10_drawn_9 : decode cX10_drawn 9 = .ok (.if_icmp .lt 10, 3) := by decide +kernel
theorem dX10_drawn_12 : decode cX10_drawn 12 = .ok (.iload_n 3, 1) := by decide +kernel
theorem dX10_drawn_13 : decode cX10_drawn 13 = .ok (.sipush 1000, 3) := by decide +kernel
theorem dX10_drawn_16 : decode cX10_drawn 16 = .ok (.if_icmp .le 5, 3) := by decide +kernel
theorem dX10_drawn_19 : decode cX10_drawn 19 = .ok (.iconst (-1), 1) := by decide +kernel
theorem dX10_drawn_20 : decode cX10_drawn 20 = .ok (.ireturn, 1) := by decide +kernel
theorem dX10_drawn_21 : decode cX10_drawn 21 = .ok (.iconst 2, 1) := by decide +kernel
theorem dX10_drawn_22 : decode cX10_drawn 22 = .ok (.iload_n 3, 1) := by decide +kernel
theorem dX10_drawn_23 : decode cX10_drawn 23 = .ok (.imul, 1) := by decide +kernel
theorem dX10_drawn_24 : decode cX10_drawn 24 = .ok (.iconst 1, 1) := by decide +kernel
theorem dX10_drawn_25 : decode cX10_drawn 25 = .ok (.iadd, 1) := by decide +kernel
theorem dX10_drawn_26 : decode cX10_drawn 26 = .ok (.istore 4, 2) := by decide +kernel
theorem dX10_drawn_28 : decode cX10_drawn 28 = .ok (.iload_n 2, 1) := by decide +kernel
theorem dX10_drawn_29 : decode cX10_drawn 29 = .ok (.ldc_w 450, 3) := by decide +kernel
theorem dX10_drawn_32 : decode cX10_drawn 32 = .ok (.iand, 1) := by decide +kernel
theorem dX10_drawn_33 : decode cX10_drawn 33 = .ok (.invokestatic 451, 3) := by decide +kernel
theorem dX10_drawn_36 : decode cX10_drawn 36 = .ok (.istore 5, 2) := by decide +kernel
theorem dX10_drawn_38 : decode cX10_drawn 38 = .ok (.iload 5, 2) := by decide +kernel
theorem dX10_drawn_40 : decode cX10_drawn 40 = .ok (.iconst 4, 1) := by decide +kernel
theorem dX10_drawn_41 : decode cX10_drawn 41 = .ok (.idiv, 1) := by decide +kernel
theorem dX10_drawn_42 : decode cX10_drawn 42 = .ok (.iload 4, 2) := by decide +kernel
theorem dX10_drawn_44 : decode cX10_drawn 44 = .ok (.irem, 1) := by decide +kernel
theorem dX10_drawn_45 : decode cX10_drawn 45 = .ok (.iload_n 3, 1) := by decide +kernel
theorem dX10_drawn_46 : decode cX10_drawn 46 = .ok (.isub, 1) := by decide +kernel
theorem dX10_drawn_47 : decode cX10_drawn 47 = .ok (.istore 6, 2) := by decide +kernel
theorem dX10_drawn_49 : decode cX10_drawn 49 = .ok (.iload 5, 2) := by decide +kernel
theorem dX10_drawn_51 : decode cX10_drawn 51 = .ok (.invokestatic 451, 3) := by decide +kernel
theorem dX10_drawn_54 : decode cX10_drawn 54 = .ok (.istore 5, 2) := by decide +kernel
theorem dX10_drawn_56 : decode cX10_drawn 56 = .ok (.iload 5, 2) := by decide +kernel
theorem dX10_drawn_58 : decode cX10_drawn 58 = .ok (.iconst 4, 1) := by decide +kernel
theorem dX10_drawn_59 : decode cX10_drawn 59 = .ok (.idiv, 1) := by decide +kernel
theorem dX10_drawn_60 : decode cX10_drawn 60 = .ok (.iload 4, 2) := by decide +kernel
theorem dX10_drawn_62 : decode cX10_drawn 62 = .ok (.irem, 1) := by decide +kernel
theorem dX10_drawn_63 : decode cX10_drawn 63 = .ok (.iload_n 3, 1) := by decide +kernel
theorem dX10_drawn_64 : decode cX10_drawn 64 = .ok (.isub, 1) := by decide +kernel
theorem dX10_drawn_65 : decode cX10_drawn 65 = .ok (.istore 7, 2) := by decide +kernel
theorem dX10_drawn_67 : decode cX10_drawn 67 = .ok (.aload_n 0, 1) := by decide +kernel
theorem dX10_drawn_68 : decode cX10_drawn 68 = .ok (.getfield 12, 3) := by decide +kernel
theorem dX10_drawn_71 : decode cX10_drawn 71 = .ok (.iload_n 1, 1) := by decide +kernel
theorem dX10_drawn_72 : decode cX10_drawn 72 = .ok (.iload 6, 2) := by decide +kernel
theorem dX10_drawn_74 : decode cX10_drawn 74 = .ok (.iload 7, 2) := by decide +kernel
theorem dX10_drawn_76 : decode cX10_drawn 76 = .ok (.invokevirtual 118, 3) := by decide +kernel
theorem dX10_drawn_79 : decode cX10_drawn 79 = .ok (.iload 5, 2) := by decide +kernel
theorem dX10_drawn_81 : decode cX10_drawn 81 = .ok (.ireturn, 1) := by decide +kernel
theorem dX10_feed_0 : decode cX10_feed 0 = .ok (.aload_n 0, 1) := by decide +kernel
theorem dX10_feed_1 : decode cX10_feed 1 = .ok (.getfield 21, 3) := by decide +kernel
theorem dX10_feed_4 : decode cX10_feed 4 = .ok (.bipush 20, 2) := by decide +kernel
theorem dX10_feed_6 : decode cX10_feed 6 = .ok (.invokevirtual 93, 3) := by decide +kernel
theorem dX10_feed_9 : decode cX10_feed 9 = .ok (.ifCond .ne 5, 3) := by decide +kernel
theorem dX10_feed_12 : decode cX10_feed 12 = .ok (.iconst (-1), 1) := by decide +kernel
theorem dX10_feed_13 : decode cX10_feed 13 = .ok (.ireturn, 1) := by decide +kernel
theorem dX10_feed_14 : decode cX10_feed 14 = .ok (.aload_n 0, 1) := by decide +kernel
theorem dX10_feed_15 : decode cX10_feed 15 = .ok (.getfield 21, 3) := by decide +kernel
theorem dX10_feed_18 : decode cX10_feed 18 = .ok (.iload_n 1, 1) := by decide +kernel
theorem dX10_feed_19 : decode cX10_feed 19 = .ok (.invokevirtual 97, 3) := by decide +kernel
theorem dX10_feed_22 : decode cX10_feed 22 = .ok (.aload_n 0, 1) := by decide +kernel
theorem dX10_feed_23 : decode cX10_feed 23 = .ok (.getfield 21, 3) := by decide +kernel
theorem dX10_feed_26 : decode cX10_feed 26 = .ok (.iload_n 2, 1) := by decide +kernel
theorem dX10_feed_27 : decode cX10_feed 27 = .ok (.invokevirtual 97, 3) := by decide +kernel
theorem dX10_feed_30 : decode cX10_feed 30 = .ok (.aload_n 0, 1) := by decide +kernel
theorem dX10_feed_31 : decode cX10_feed 31 = .ok (.getfield 21, 3) := by decide +kernel
theorem dX10_feed_34 : decode cX10_feed 34 = .ok (.iload_n 3, 1) := by decide +kernel
theorem dX10_feed_35 : decode cX10_feed 35 = .ok (.invokevirtual 97, 3) := by decide +kernel
theorem dX10_feed_38 : decode cX10_feed 38 = .ok (.aload_n 0, 1) := by decide +kernel
theorem dX10_feed_39 : decode cX10_feed 39 = .ok (.getfield 21, 3) := by decide +kernel
theorem dX10_feed_42 : decode cX10_feed 42 = .ok (.iload 4, 2) := by decide +kernel
theorem dX10_feed_44 : decode cX10_feed 44 = .ok (.invokevirtual 97, 3) := by decide +kernel
theorem dX10_feed_47 : decode cX10_feed 47 = .ok (.aload_n 0, 1) := by decide +kernel
theorem dX10_feed_48 : decode cX10_feed 48 = .ok (.getfield 21, 3) := by decide +kernel
theorem dX10_feed_51 : decode cX10_feed 51 = .ok (.iload 5, 2) := by decide +kernel
theorem dX10_feed_53 : decode cX10_feed 53 = .ok (.invokevirtual 97, 3) := by decide +kernel
theorem dX10_feed_56 : decode cX10_feed 56 = .ok (.aload_n 0, 1) := by decide +kernel
theorem dX10_feed_57 : decode cX10_feed 57 = .ok (.getfield 21, 3) := by decide +kernel
theorem dX10_feed_60 : decode cX10_feed 60 = .ok (.getfield 101, 3) := by decide +kernel
theorem dX10_feed_63 : decode cX10_feed 63 = .ok (.ireturn, 1) := by decide +kernel
theorem dX10_foundAnswer_0 : decode cX10_foundAnswer 0 = .ok (.iload_n 2, 1) := by decide +kernel
theorem dX10_foundAnswer_1 : decode cX10_foundAnswer 1 = .ok (.iconst (-1), 1) := by decide +kernel
theorem dX10_foundAnswer_2 : decode cX10_foundAnswer 2 = .ok (.if_icmp .ne 5, 3) := by decide +kernel
theorem dX10_foundAnswer_5 : decode cX10_foundAnswer 5 = .ok (.iload_n 1, 1) := by decide +kernel
theorem dX10_foundAnswer_6 : decode cX10_foundAnswer 6 = .ok (.ireturn, 1) := by decide +kernel
theorem dX10_foundAnswer_7 : decode cX10_foundAnswer 7 = .ok (.iload_n 2, 1) := by decide +kernel
theorem dX10_foundAnswer_8 : decode cX10_foundAnswer 8 = .ok (.iload_n 1, 1) := by decide +kernel
theorem dX10_foundAnswer_9 : decode cX10_foundAnswer 9 = .ok (.if_icmp .lt 8, 3) := by decide +kernel
theorem dX10_foundAnswer_12 : decode cX10_foundAnswer 12 = .ok (.bipush (-4), 2) := by decide +kernel
theorem dX10_foundAnswer_14 : decode cX10_foundAnswer 14 = .ok (.goto 11, 3) := by decide +kernel
theorem dX10_foundAnswer_17 : decode cX10_foundAnswer 17 = .ok (.aload_n 0, 1) := by decide +kernel
theorem dX10_foundAnswer_18 : decode cX10_foundAnswer 18 = .ok (.getfield 83, 3) := by decide +kernel
theorem dX10_foundAnswer_21 : decode cX10_foundAnswer 21 = .ok (.iload_n 3, 1) := by decide +kernel
theorem dX10_foundAnswer_22 : decode cX10_foundAnswer 22 = .ok (.invokestatic 273, 3) := by decide +kernel
theorem dX10_foundAnswer_25 : decode cX10_foundAnswer 25 = .ok (.ireturn, 1) := by decide +kernel
theorem dX10_greatest_0 : decode cX10_greatest 0 = .ok (.iload_n 1, 1) := by decide +kernel
theorem dX10_greatest_1 : decode cX10_greatest 1 = .ok (.invokestatic 105, 3) := by decide +kernel
theorem dX10_greatest_4 : decode cX10_greatest 4 = .ok (.ifCond .eq 12, 3) := by decide +kernel
theorem dX10_greatest_7 : decode cX10_greatest 7 = .ok (.iload_n 2, 1) := by decide +kernel
theorem dX10_greatest_8 : decode cX10_greatest 8 = .ok (.ifCond .lt 8, 3) := by decide +kernel
theorem dX10_greatest_11 : decode cX10_greatest 11 = .ok (.iload_n 2, 1) := by decide +kernel
theorem dX10_greatest_12 : decode cX10_greatest 12 = .ok (.iconst 1, 1) := by decide +kernel
theorem dX10_greatest_13 : decode cX10_greatest 13 = .ok (.if_icmp .le 5, 3) := by decide +kernel
theorem dX10_greatest_16 : decode cX10_greatest 16 = .ok (.iconst (-1), 1) := by decide +kernel
theorem dX10_greatest_17 : decode cX10_greatest 17 = .ok (.ireturn, 1) := by decide +kernel
theorem dX10_greatest_18 : decode cX10_greatest 18 = .ok (.aload_n 0, 1) := by decide +kernel
theorem dX10_greatest_19 : decode cX10_greatest 19 = .ok (.getfield 12, 3) := by decide +kernel
theorem dX10_greatest_22 : decode cX10_greatest 22 = .ok (.iload_n 1, 1) := by decide +kernel
theorem dX10_greatest_23 : decode cX10_greatest 23 = .ok (.invokevirtual 130, 3) := by decide +kernel
theorem dX10_greatest_26 : decode cX10_greatest 26 = .ok (.ifCond .ne 6, 3) := by decide +kernel
theorem dX10_greatest_29 : decode cX10_greatest 29 = .ok (.bipush (-2), 2) := by decide +kernel
theorem dX10_greatest_31 : decode cX10_greatest 31 = .ok (.ireturn, 1) := by decide +kernel
theorem dX10_greatest_32 : decode cX10_greatest 32 = .ok (.aload_n 0, 1) := by decide +kernel
theorem dX10_greatest_33 : decode cX10_greatest 33 = .ok (.getfield 12, 3) := by decide +kernel
theorem dX10_greatest_36 : decode cX10_greatest 36 = .ok (.iload_n 1, 1) := by decide +kernel
theorem dX10_greatest_37 : decode cX10_greatest 37 = .ok (.aload_n 0, 1) := by decide +kernel
theorem dX10_greatest_38 : decode cX10_greatest 38 = .ok (.getfield 74, 3) := by decide +kernel
theorem dX10_greatest_41 : decode cX10_greatest 41 = .ok (.invokevirtual 141, 3) := by decide +kernel
theorem dX10_greatest_44 : decode cX10_greatest 44 = .ok (.aload_n 0, 1) := by decide +kernel
theorem dX10_greatest_45 : decode cX10_greatest 45 = .ok (.getfield 35, 3) := by decide +kernel
theorem dX10_greatest_48 : decode cX10_greatest 48 = .ok (.aload_n 0, 1) := by decide +kernel
theorem dX10_greatest_49 : decode cX10_greatest 49 = .ok (.getfield 74, 3) := by decide +kernel
theorem dX10_greatest_52 : decode cX10_greatest 52 = .ok (.sipush 500, 3) := by decide +kernel
theorem dX10_greatest_55 : decode cX10_greatest 55 = .ok (.invokevirtual 287, 3) := by decide +kernel
theorem dX10_greatest_58 : decode cX10_greatest 58 = .ok (.ifCond .ne 6, 3) := by decide +kernel
theorem dX10_greatest_61 : decode cX10_greatest 61 = .ok (.bipush (-3), 2) := by decide +kernel
theorem dX10_greatest_63 : decode cX10_greatest 63 = .ok (.ireturn, 1) := by decide +kernel
theorem dX10_greatest_64 : decode cX10_greatest 64 = .ok (.aload_n 0, 1) := by decide +kernel
theorem dX10_greatest_65 : decode cX10_greatest 65 = .ok (.aload_n 0, 1) := by decide +kernel
theorem dX10_greatest_66 : decode cX10_greatest 66 = .ok (.getfield 74, 3) := by decide +kernel
theorem dX10_greatest_69 : decode cX10_greatest 69 = .ok (.invokevirtual 336, 3) := by decide +kernel
theorem dX10_greatest_72 : decode cX10_greatest 72 = .ok (.iconst 0, 1) := by decide +kernel
theorem dX10_greatest_73 : decode cX10_greatest 73 = .ok (.istore_n 3, 1) := by decide +kernel
theorem dX10_greatest_74 : decode cX10_greatest 74 = .ok (.iconst 0, 1) := by decide +kernel
theorem dX10_greatest_75 : decode cX10_greatest 75 = .ok (.istore 4, 2) := by decide +kernel
theorem dX10_greatest_77 : decode cX10_greatest 77 = .ok (.iconst 0, 1) := by decide +kernel
theorem dX10_greatest_78 : decode cX10_greatest 78 = .ok (.istore 5, 2) := by decide +kernel
theorem dX10_greatest_80 : decode cX10_greatest 80 = .ok (.iload 5, 2) := by decide +kernel
theorem dX10_greatest_82 : decode cX10_greatest 82 = .ok (.aload_n 0, 1) := by decide +kernel
theorem dX10_greatest_83 : decode cX10_greatest 83 = .ok (.getfield 35, 3) := by decide +kernel
theorem dX10_greatest_86 : decode cX10_greatest 86 = .ok (.invokevirtual 331, 3) := by decide +kernel
theorem dX10_greatest_89 : decode cX10_greatest 89 = .ok (.if_icmp .ge 38, 3) := by decide +kernel
theorem dX10_greatest_92 : decode cX10_greatest 92 = .ok (.aload_n 0, 1) := by decide +kernel
theorem dX10_greatest_93 : decode cX10_greatest 93 = .ok (.iload 5, 2) := by decide +kernel
theorem dX10_greatest_95 : decode cX10_greatest 95 = .ok (.invokevirtual 324, 3) := by decide +kernel
theorem dX10_greatest_98 : decode cX10_greatest 98 = .ok (.istore 6, 2) := by decide +kernel
theorem dX10_greatest_100 : decode cX10_greatest 100 = .ok (.iload 6, 2) := by decide +kernel
theorem dX10_greatest_102 : decode cX10_greatest 102 = .ok (.iload_n 3, 1) := by decide +kernel
theorem dX10_greatest_103 : decode cX10_greatest 103 = .ok (.if_icmp .le 9, 3) := by decide +kernel
theorem dX10_greatest_106 : decode cX10_greatest 106 = .ok (.iload 6, 2) := by decide +kernel
theorem dX10_greatest_108 : decode cX10_greatest 108 = .ok (.istore_n 3, 1) := by decide +kernel
theorem dX10_greatest_109 : decode cX10_greatest 109 = .ok (.iconst 0, 1) := by decide +kernel
theorem dX10_greatest_110 : decode cX10_greatest 110 = .ok (.istore 4, 2) := by decide +kernel
theorem dX10_greatest_112 : decode cX10_greatest 112 = .ok (.iload 6, 2) := by decide +kernel
theorem dX10_greatest_114 : decode cX10_greatest 114 = .ok (.iload_n 3, 1) := by decide +kernel
theorem dX10_greatest_115 : decode cX10_greatest 115 = .ok (.if_icmp .ne 6, 3) := by decide +kernel
theorem dX10_greatest_118 : decode cX10_greatest 118 = .ok (.iinc 4 1, 3) := by decide +kernel
theorem dX10_greatest_121 : decode cX10_greatest 121 = .ok (.iinc 5 1, 3) := by decide +kernel
theorem dX10_greatest_124 : decode cX10_greatest 124 = .ok (.goto (-44), 3) := by decide +kernel
theorem dX10_greatest_127 : decode cX10_greatest 127 = .ok (.iload_n 2, 1) := by decide +kernel
theorem dX10_greatest_128 : decode cX10_greatest 128 = .ok (.ifCond .ne 7, 3) := by decide +kernel
theorem dX10_greatest_131 : decode cX10_greatest 131 = .ok (.iload_n 3, 1) := by decide +kernel
theorem dX10_greatest_132 : decode cX10_greatest 132 = .ok (.goto 5, 3) := by decide +kernel
theorem dX10_greatest_135 : decode cX10_greatest 135 = .ok (.iload 4, 2) := by decide +kernel
theorem dX10_greatest_137 : decode cX10_greatest 137 = .ok (.ireturn, 1) := by decide +kernel
theorem dX10_inverse_0 : decode cX10_inverse 0 = .ok (.aload_n 0, 1) := by decide +kernel
theorem dX10_inverse_1 : decode cX10_inverse 1 = .ok (.iload_n 1, 1) := by decide +kernel
theorem dX10_inverse_2 : decode cX10_inverse 2 = .ok (.iload_n 2, 1) := by decide +kernel
theorem dX10_inverse_3 : decode cX10_inverse 3 = .ok (.iload_n 3, 1) := by decide +kernel
theorem dX10_inverse_4 : decode cX10_inverse 4 = .ok (.invokevirtual 266, 3) := by decide +kernel
theorem dX10_inverse_7 : decode cX10_inverse 7 = .ok (.istore 4, 2) := by decide +kernel
theorem dX10_inverse_9 : decode cX10_inverse 9 = .ok (.iload 4, 2) := by decide +kernel
theorem dX10_inverse_11 : decode cX10_inverse 11 = .ok (.ifCond .eq 6, 3) := by decide +kernel
theorem dX10_inverse_14 : decode cX10_inverse 14 = .ok (.iload 4, 2) := by decide +kernel
theorem dX10_inverse_16 : decode cX10_inverse 16 = .ok (.ireturn, 1) := by decide +kernel
theorem dX10_inverse_17 : decode cX10_inverse 17 = .ok (.aload_n 0, 1) := by decide +kernel
theorem dX10_inverse_18 : decode cX10_inverse 18 = .ok (.getfield 28, 3) := by decide +kernel
theorem dX10_inverse_21 : decode cX10_inverse 21 = .ok (.aload_n 0, 1) := by decide +kernel
theorem dX10_inverse_22 : decode cX10_inverse 22 = .ok (.getfield 70, 3) := by decide +kernel
theorem dX10_inverse_25 : decode cX10_inverse 25 = .ok (.aload_n 0, 1) := by decide +kernel
theorem dX10_inverse_26 : decode cX10_inverse 26 = .ok (.getfield 74, 3) := by decide +kernel
theorem dX10_inverse_29 : decode cX10_inverse 29 = .ok (.aload_n 0, 1) := by decide +kernel
theorem dX10_inverse_30 : decode cX10_inverse 30 = .ok (.getfield 83, 3) := by decide +kernel
theorem dX10_inverse_33 : decode cX10_inverse 33 = .ok (.invokevirtual 280, 3) := by decide +kernel
theorem dX10_inverse_36 : decode cX10_inverse 36 = .ok (.ifCond .ne 6, 3) := by decide +kernel
theorem dX10_inverse_39 : decode cX10_inverse 39 = .ok (.bipush (-4), 2) := by decide +kernel
theorem dX10_inverse_41 : decode cX10_inverse 41 = .ok (.ireturn, 1) := by decide +kernel
theorem dX10_inverse_42 : decode cX10_inverse 42 = .ok (.aload_n 0, 1) := by decide +kernel
theorem dX10_inverse_43 : decode cX10_inverse 43 = .ok (.getfield 35, 3) := by decide +kernel
theorem dX10_inverse_46 : decode cX10_inverse 46 = .ok (.aload_n 0, 1) := by decide +kernel
theorem dX10_inverse_47 : decode cX10_inverse 47 = .ok (.getfield 83, 3) := by decide +kernel
theorem dX10_inverse_50 : decode cX10_inverse 50 = .ok (.invokevirtual 270, 3) := by decide +kernel
theorem dX10_inverse_53 : decode cX10_inverse 53 = .ok (.aload_n 0, 1) := by decide +kernel
theorem dX10_inverse_54 : decode cX10_inverse 54 = .ok (.getfield 83, 3) := by decide +kernel
theorem dX10_inverse_57 : decode cX10_inverse 57 = .ok (.iload_n 3, 1) := by decide +kernel
theorem dX10_inverse_58 : decode cX10_inverse 58 = .ok (.invokestatic 273, 3) := by decide +kernel
theorem dX10_inverse_61 : decode cX10_inverse 61 = .ok (.ireturn, 1) := by decide +kernel
theorem dX10_isPartOf_0 : decode cX10_isPartOf 0 = .ok (.iload_n 0, 1) := by decide +kernel
theorem dX10_isPartOf_1 : decode cX10_isPartOf 1 = .ok (.iconst (-1), 1) := by decide +kernel
theorem dX10_isPartOf_2 : decode cX10_isPartOf 2 = .ok (.if_icmp .eq 12, 3) := by decide +kernel
theorem dX10_isPartOf_5 : decode cX10_isPartOf 5 = .ok (.iload_n 1, 1) := by decide +kernel
theorem dX10_isPartOf_6 : decode cX10_isPartOf 6 = .ok (.ifCond .eq 8, 3) := by decide +kernel
theorem dX10_isPartOf_9 : decode cX10_isPartOf 9 = .ok (.iload_n 1, 1) := by decide +kernel
theorem dX10_isPartOf_10 : decode cX10_isPartOf 10 = .ok (.iconst 1, 1) := by decide +kernel
theorem dX10_isPartOf_11 : decode cX10_isPartOf 11 = .ok (.if_icmp .ne 7, 3) := by decide +kernel
theorem dX10_isPartOf_14 : decode cX10_isPartOf 14 = .ok (.iconst 1, 1) := by decide +kernel
theorem dX10_isPartOf_15 : decode cX10_isPartOf 15 = .ok (.goto 4, 3) := by decide +kernel
theorem dX10_isPartOf_18 : decode cX10_isPartOf 18 = .ok (.iconst 0, 1) := by decide +kernel
theorem dX10_isPartOf_19 : decode cX10_isPartOf 19 = .ok (.ireturn, 1) := by decide +kernel
theorem dX10_isPrimeNumber_0 : decode cX10_isPrimeNumber 0 = .ok (.aload_n 1, 1) := by decide +kernel
theorem dX10_isPrimeNumber_1 : decode cX10_isPrimeNumber 1 = .ok (.invokevirtual 170, 3) := by decide +kernel
theorem dX10_isPrimeNumber_4 : decode cX10_isPrimeNumber 4 = .ok (.ifCond .eq 5, 3) := by decide +kernel
theorem dX10_isPrimeNumber_7 : decode cX10_isPrimeNumber 7 = .ok (.iconst 0, 1) := by decide +kernel
theorem dX10_isPrimeNumber_8 : decode cX10_isPrimeNumber 8 = .ok (.ireturn, 1) := by decide +kernel
theorem dX10_isPrimeNumber_9 : decode cX10_isPrimeNumber 9 = .ok (.aload_n 0, 1) := by decide +kernel
theorem dX10_isPrimeNumber_10 : decode cX10_isPrimeNumber 10 = .ok (.getfield 42, 3) := by decide +kernel
theorem dX10_isPrimeNumber_13 : decode cX10_isPrimeNumber 13 = .ok (.aload_n 1, 1) := by decide +kernel
theorem dX10_isPrimeNumber_14 : decode cX10_isPrimeNumber 14 = .ok (.invokevirtual 228, 3) := by decide +kernel
theorem dX10_isPrimeNumber_17 : decode cX10_isPrimeNumber 17 = .ok (.aload_n 0, 1) := by decide +kernel
theorem dX10_isPrimeNumber_18 : decode cX10_isPrimeNumber 18 = .ok (.getfield 42, 3) := by decide +kernel
theorem dX10_isPrimeNumber_21 : decode cX10_isPrimeNumber 21 = .ok (.invokevirtual 466, 3) := by decide +kernel
theorem dX10_isPrimeNumber_24 : decode cX10_isPrimeNumber 24 = .ok (.iconst 1, 1) := by decide +kernel
theorem dX10_isPrimeNumber_25 : decode cX10_isPrimeNumber 25 = .ok (.if_icmp .ne 7, 3) := by decide +kernel
theorem dX10_isPrimeNumber_28 : decode cX10_isPrimeNumber 28 = .ok (.iconst 1, 1) := by decide +kernel
theorem dX10_isPrimeNumber_29 : decode cX10_isPrimeNumber 29 = .ok (.goto 4, 3) := by decide +kernel
theorem dX10_isPrimeNumber_32 : decode cX10_isPrimeNumber 32 = .ok (.iconst 0, 1) := by decide +kernel
theorem dX10_isPrimeNumber_33 : decode cX10_isPrimeNumber 33 = .ok (.ireturn, 1) := by decide +kernel
theorem dX10_joinClasses_0 : decode cX10_joinClasses 0 = .ok (.aload_n 0, 1) := by decide +kernel
theorem dX10_joinClasses_1 : decode cX10_joinClasses 1 = .ok (.getfield 35, 3) := by decide +kernel
theorem dX10_joinClasses_4 : decode cX10_joinClasses 4 = .ok (.aload_n 0, 1) := by decide +kernel
theorem dX10_joinClasses_5 : decode cX10_joinClasses 5 = .ok (.getfield 80, 3) := by decide +kernel
theorem dX10_joinClasses_8 : decode cX10_joinClasses 8 = .ok (.invokevirtual 284, 3) := by decide +kernel
theorem dX10_joinClasses_11 : decode cX10_joinClasses 11 = .ok (.pop, 1) := by decide +kernel
theorem dX10_joinClasses_12 : decode cX10_joinClasses 12 = .ok (.aload_n 0, 1) := by decide +kernel
theorem dX10_joinClasses_13 : decode cX10_joinClasses 13 = .ok (.getfield 35, 3) := by decide +kernel
theorem dX10_joinClasses_16 : decode cX10_joinClasses 16 = .ok (.aload_n 0, 1) := by decide +kernel
theorem dX10_joinClasses_17 : decode cX10_joinClasses 17 = .ok (.getfield 83, 3) := by decide +kernel
theorem dX10_joinClasses_20 : decode cX10_joinClasses 20 = .ok (.invokevirtual 270, 3) := by decide +kernel
theorem dX10_joinClasses_23 : decode cX10_joinClasses 23 = .ok (.aload_n 0, 1) := by decide +kernel
theorem dX10_joinClasses_24 : decode cX10_joinClasses 24 = .ok (.getfield 77, 3) := by decide +kernel
theorem dX10_joinClasses_27 : decode cX10_joinClasses 27 = .ok (.aload_n 0, 1) := by decide +kernel
theorem dX10_joinClasses_28 : decode cX10_joinClasses 28 = .ok (.getfield 70, 3) := by decide +kernel
theorem dX10_joinClasses_31 : decode cX10_joinClasses 31 = .ok (.invokevirtual 193, 3) := by decide +kernel
theorem dX10_joinClasses_34 : decode cX10_joinClasses 34 = .ok (.aload_n 0, 1) := by decide +kernel
theorem dX10_joinClasses_35 : decode cX10_joinClasses 35 = .ok (.getfield 35, 3) := by decide +kernel
theorem dX10_joinClasses_38 : decode cX10_joinClasses 38 = .ok (.aload_n 0, 1) := by decide +kernel
theorem dX10_joinClasses_39 : decode cX10_joinClasses 39 = .ok (.getfield 77, 3) := by decide +kernel
theorem dX10_joinClasses_42 : decode cX10_joinClasses 42 = .ok (.invokevirtual 270, 3) := by decide +kernel
theorem dX10_joinClasses_45 : decode cX10_joinClasses 45 = .ok (.aload_n 0, 1) := by decide +kernel
theorem dX10_joinClasses_46 : decode cX10_joinClasses 46 = .ok (.getfield 83, 3) := by decide +kernel
theorem dX10_joinClasses_49 : decode cX10_joinClasses 49 = .ok (.aload_n 0, 1) := by decide +kernel
theorem dX10_joinClasses_50 : decode cX10_joinClasses 50 = .ok (.getfield 77, 3) := by decide +kernel
theorem dX10_joinClasses_53 : decode cX10_joinClasses 53 = .ok (.invokevirtual 196, 3) := by decide +kernel
theorem dX10_joinClasses_56 : decode cX10_joinClasses 56 = .ok (.aload_n 0, 1) := by decide +kernel
theorem dX10_joinClasses_57 : decode cX10_joinClasses 57 = .ok (.getfield 35, 3) := by decide +kernel
theorem dX10_joinClasses_60 : decode cX10_joinClasses 60 = .ok (.aload_n 0, 1) := by decide +kernel
theorem dX10_joinClasses_61 : decode cX10_joinClasses 61 = .ok (.getfield 83, 3) := by decide +kernel
theorem dX10_joinClasses_64 : decode cX10_joinClasses 64 = .ok (.invokevirtual 270, 3) := by decide +kernel
theorem dX10_joinClasses_67 : decode cX10_joinClasses 67 = .ok (.aload_n 0, 1) := by decide +kernel
theorem dX10_joinClasses_68 : decode cX10_joinClasses 68 = .ok (.getfield 83, 3) := by decide +kernel
theorem dX10_joinClasses_71 : decode cX10_joinClasses 71 = .ok (.aload_n 0, 1) := by decide +kernel
theorem dX10_joinClasses_72 : decode cX10_joinClasses 72 = .ok (.getfield 74, 3) := by decide +kernel
theorem dX10_joinClasses_75 : decode cX10_joinClasses 75 = .ok (.invokevirtual 196, 3) := by decide +kernel
theorem dX10_joinClasses_78 : decode cX10_joinClasses 78 = .ok (.aload_n 0, 1) := by decide +kernel
theorem dX10_joinClasses_79 : decode cX10_joinClasses 79 = .ok (.getfield 83, 3) := by decide +kernel
theorem dX10_joinClasses_82 : decode cX10_joinClasses 82 = .ok (.aload_n 0, 1) := by decide +kernel
theorem dX10_joinClasses_83 : decode cX10_joinClasses 83 = .ok (.getfield 70, 3) := by decide +kernel
theorem dX10_joinClasses_86 : decode cX10_joinClasses 86 = .ok (.invokevirtual 190, 3) := by decide +kernel
theorem dX10_joinClasses_89 : decode cX10_joinClasses 89 = .ok (.aload_n 0, 1) := by decide +kernel
theorem dX10_joinClasses_90 : decode cX10_joinClasses 90 = .ok (.getfield 35, 3) := by decide +kernel
theorem dX10_joinClasses_93 : decode cX10_joinClasses 93 = .ok (.aload_n 0, 1) := by decide +kernel
theorem dX10_joinClasses_94 : decode cX10_joinClasses 94 = .ok (.getfield 86, 3) := by decide +kernel
theorem dX10_joinClasses_97 : decode cX10_joinClasses 97 = .ok (.invokevirtual 284, 3) := by decide +kernel
theorem dX10_joinClasses_100 : decode cX10_joinClasses 100 = .ok (.pop, 1) := by decide +kernel
theorem dX10_joinClasses_101 : decode cX10_joinClasses 101 = .ok (.aload_n 0, 1) := by decide +kernel
theorem dX10_joinClasses_102 : decode cX10_joinClasses 102 = .ok (.getfield 35, 3) := by decide +kernel
theorem dX10_joinClasses_105 : decode cX10_joinClasses 105 = .ok (.aload_n 0, 1) := by decide +kernel
theorem dX10_joinClasses_106 : decode cX10_joinClasses 106 = .ok (.getfield 83, 3) := by decide +kernel
theorem dX10_joinClasses_109 : decode cX10_joinClasses 109 = .ok (.invokevirtual 270, 3) := by decide +kernel
theorem dX10_joinClasses_112 : decode cX10_joinClasses 112 = .ok (.return_, 1) := by decide +kernel
theorem dX10_keep_0 : decode cX10_keep 0 = .ok (.aload_n 0, 1) := by decide +kernel
theorem dX10_keep_1 : decode cX10_keep 1 = .ok (.getfield 12, 3) := by decide +kernel
theorem dX10_keep_4 : decode cX10_keep 4 = .ok (.invokevirtual 460, 3) := by decide +kernel
theorem dX10_keep_7 : decode cX10_keep 7 = .ok (.ifCond .eq 13, 3) := by decide +kernel
theorem dX10_keep_10 : decode cX10_keep 10 = .ok (.aload_n 0, 1) := by decide +kernel
theorem dX10_keep_11 : decode cX10_keep 11 = .ok (.getfield 12, 3) := by decide +kernel
theorem dX10_keep_14 : decode cX10_keep 14 = .ok (.getfield 457, 3) := by decide +kernel
theorem dX10_keep_17 : decode cX10_keep 17 = .ok (.goto 4, 3) := by decide +kernel
theorem dX10_keep_20 : decode cX10_keep 20 = .ok (.iconst (-1), 1) := by decide +kernel
theorem dX10_keep_21 : decode cX10_keep 21 = .ok (.ireturn, 1) := by decide +kernel
theorem dX10_least_0 : decode cX10_least 0 = .ok (.iload_n 3, 1) := by decide +kernel
theorem dX10_least_1 : decode cX10_least 1 = .ok (.ifCond .lt 22, 3) := by decide +kernel
theorem dX10_least_4 : decode cX10_least 4 = .ok (.iload_n 3, 1) := by decide +kernel
theorem dX10_least_5 : decode cX10_least 5 = .ok (.iconst 1, 1) := by decide +kernel
theorem dX10_least_6 : decode cX10_least 6 = .ok (.if_icmp .gt 17, 3) := by decide +kernel
theorem dX10_least_9 : decode cX10_least 9 = .ok (.iload_n 1, 1) := by decide +kernel
theorem dX10_least_10 : decode cX10_least 10 = .ok (.invokestatic 105, 3) := by decide +kernel
theorem dX10_least_13 : decode cX10_least 13 = .ok (.ifCond .eq 10, 3) := by decide +kernel
theorem dX10_least_16 : decode cX10_least 16 = .ok (.iload_n 2, 1) := by decide +kernel
theorem dX10_least_17 : decode cX10_least 17 = .ok (.invokestatic 105, 3) := by decide +kernel
theorem dX10_least_20 : decode cX10_least 20 = .ok (.ifCond .ne 5, 3) := by decide +kernel
theorem dX10_least_23 : decode cX10_least 23 = .ok (.iconst (-1), 1) := by decide +kernel
theorem dX10_least_24 : decode cX10_least 24 = .ok (.ireturn, 1) := by decide +kernel
theorem dX10_least_25 : decode cX10_least 25 = .ok (.aload_n 0, 1) := by decide +kernel
theorem dX10_least_26 : decode cX10_least 26 = .ok (.iload_n 1, 1) := by decide +kernel
theorem dX10_least_27 : decode cX10_least 27 = .ok (.iload_n 2, 1) := by decide +kernel
theorem dX10_least_28 : decode cX10_least 28 = .ok (.invokevirtual 176, 3) := by decide +kernel
theorem dX10_least_31 : decode cX10_least 31 = .ok (.ifCond .ne 13, 3) := by decide +kernel
theorem dX10_least_34 : decode cX10_least 34 = .ok (.aload_n 0, 1) := by decide +kernel
theorem dX10_least_35 : decode cX10_least 35 = .ok (.getfield 74, 3) := by decide +kernel
theorem dX10_least_38 : decode cX10_least 38 = .ok (.invokevirtual 170, 3) := by decide +kernel
theorem dX10_least_41 : decode cX10_least 41 = .ok (.ifCond .eq 6, 3) := by decide +kernel
theorem dX10_least_44 : decode cX10_least 44 = .ok (.ldc 140, 2) := by decide +kernel
theorem dX10_least_46 : decode cX10_least 46 = .ok (.ireturn, 1) := by decide +kernel
theorem dX10_least_47 : decode cX10_least 47 = .ok (.aload_n 0, 1) := by decide +kernel
theorem dX10_least_48 : decode cX10_least 48 = .ok (.iconst 4, 1) := by decide +kernel
theorem dX10_least_49 : decode cX10_least 49 = .ok (.invokevirtual 180, 3) := by decide +kernel
theorem dX10_least_52 : decode cX10_least 52 = .ok (.aload_n 0, 1) := by decide +kernel
theorem dX10_least_53 : decode cX10_least 53 = .ok (.invokevirtual 349, 3) := by decide +kernel
theorem dX10_least_56 : decode cX10_least 56 = .ok (.aload_n 0, 1) := by decide +kernel
theorem dX10_least_57 : decode cX10_least 57 = .ok (.getfield 77, 3) := by decide +kernel
theorem dX10_least_60 : decode cX10_least 60 = .ok (.iload_n 3, 1) := by decide +kernel
theorem dX10_least_61 : decode cX10_least 61 = .ok (.invokestatic 273, 3) := by decide +kernel
theorem dX10_least_64 : decode cX10_least 64 = .ok (.ireturn, 1) := by decide +kernel
theorem dX10_leastAround_0 : decode cX10_leastAround 0 = .ok (.aload_n 0, 1) := by decide +kernel
theorem dX10_leastAround_1 : decode cX10_leastAround 1 = .ok (.getfield 77, 3) := by decide +kernel
theorem dX10_leastAround_4 : decode cX10_leastAround 4 = .ok (.aload_n 0, 1) := by decide +kernel
theorem dX10_leastAround_5 : decode cX10_leastAround 5 = .ok (.getfield 83, 3) := by decide +kernel
theorem dX10_leastAround_8 : decode cX10_leastAround 8 = .ok (.invokevirtual 186, 3) := by decide +kernel
theorem dX10_leastAround_11 : decode cX10_leastAround 11 = .ok (.iconst 0, 1) := by decide +kernel
theorem dX10_leastAround_12 : decode cX10_leastAround 12 = .ok (.istore_n 1, 1) := by decide +kernel
theorem dX10_leastAround_13 : decode cX10_leastAround 13 = .ok (.iload_n 1, 1) := by decide +kernel
theorem dX10_leastAround_14 : decode cX10_leastAround 14 = .ok (.bipush 6, 2) := by decide +kernel
theorem dX10_leastAround_16 : decode cX10_leastAround 16 = .ok (.if_icmp .ge 64, 3) := by decide +kernel
theorem dX10_leastAround_19 : decode cX10_leastAround 19 = .ok (.aload_n 0, 1) := by decide +kernel
theorem dX10_leastAround_20 : decode cX10_leastAround 20 = .ok (.getfield 86, 3) := by decide +kernel
theorem dX10_leastAround_23 : decode cX10_leastAround 23 = .ok (.aload_n 0, 1) := by decide +kernel
theorem dX10_leastAround_24 : decode cX10_leastAround 24 = .ok (.getfield 74, 3) := by decide +kernel
theorem dX10_leastAround_27 : decode cX10_leastAround 27 = .ok (.invokevirtual 186, 3) := by decide +kernel
theorem dX10_leastAround_30 : decode cX10_leastAround 30 = .ok (.aload_n 0, 1) := by decide +kernel
theorem dX10_leastAround_31 : decode cX10_leastAround 31 = .ok (.getfield 86, 3) := by decide +kernel
theorem dX10_leastAround_34 : decode cX10_leastAround 34 = .ok (.iload_n 1, 1) := by decide +kernel
theorem dX10_leastAround_35 : decode cX10_leastAround 35 = .ok (.invokevirtual 215, 3) := by decide +kernel
theorem dX10_leastAround_38 : decode cX10_leastAround 38 = .ok (.aload_n 0, 1) := by decide +kernel
theorem dX10_leastAround_39 : decode cX10_leastAround 39 = .ok (.getfield 86, 3) := by decide +kernel
theorem dX10_leastAround_42 : decode cX10_leastAround 42 = .ok (.aload_n 0, 1) := by decide +kernel
theorem dX10_leastAround_43 : decode cX10_leastAround 43 = .ok (.getfield 83, 3) := by decide +kernel
theorem dX10_leastAround_46 : decode cX10_leastAround 46 = .ok (.invokevirtual 190, 3) := by decide +kernel
theorem dX10_leastAround_49 : decode cX10_leastAround 49 = .ok (.aload_n 0, 1) := by decide +kernel
theorem dX10_leastAround_50 : decode cX10_leastAround 50 = .ok (.getfield 86, 3) := by decide +kernel
theorem dX10_leastAround_53 : decode cX10_leastAround 53 = .ok (.aload_n 0, 1) := by decide +kernel
theorem dX10_leastAround_54 : decode cX10_leastAround 54 = .ok (.getfield 77, 3) := by decide +kernel
theorem dX10_leastAround_57 : decode cX10_leastAround 57 = .ok (.invokevirtual 352, 3) := by decide +kernel
theorem dX10_leastAround_60 : decode cX10_leastAround 60 = .ok (.ifCond .eq 14, 3) := by decide +kernel
theorem dX10_leastAround_63 : decode cX10_leastAround 63 = .ok (.aload_n 0, 1) := by decide +kernel
theorem dX10_leastAround_64 : decode cX10_leastAround 64 = .ok (.getfield 77, 3) := by decide +kernel
theorem dX10_leastAround_67 : decode cX10_leastAround 67 = .ok (.aload_n 0, 1) := by decide +kernel
theorem dX10_leastAround_68 : decode cX10_leastAround 68 = .ok (.getfield 86, 3) := by decide +kernel
theorem dX10_leastAround_71 : decode cX10_leastAround 71 = .ok (.invokevirtual 186, 3) := by decide +kernel
theorem dX10_leastAround_74 : decode cX10_leastAround 74 = .ok (.iinc 1 1, 3) := by decide +kernel
theorem dX10_leastAround_77 : decode cX10_leastAround 77 = .ok (.goto (-64), 3) := by decide +kernel
theorem dX10_leastAround_80 : decode cX10_leastAround 80 = .ok (.return_, 1) := by decide +kernel
theorem dX10_leastMarked_0 : decode cX10_leastMarked 0 = .ok (.iconst 2, 1) := by decide +kernel
theorem dX10_leastMarked_1 : decode cX10_leastMarked 1 = .ok (.istore_n 3, 1) := by decide +kernel
theorem dX10_leastMarked_2 : decode cX10_leastMarked 2 = .ok (.iload_n 3, 1) := by decide +kernel
theorem dX10_leastMarked_3 : decode cX10_leastMarked 3 = .ok (.iload_n 1, 1) := by decide +kernel
theorem dX10_leastMarked_4 : decode cX10_leastMarked 4 = .ok (.if_icmp .ge 26, 3) := by decide +kernel
theorem dX10_leastMarked_7 : decode cX10_leastMarked 7 = .ok (.aload_n 0, 1) := by decide +kernel
theorem dX10_leastMarked_8 : decode cX10_leastMarked 8 = .ok (.iload_n 3, 1) := by decide +kernel
theorem dX10_leastMarked_9 : decode cX10_leastMarked 9 = .ok (.invokevirtual 324, 3) := by decide +kernel
theorem dX10_leastMarked_12 : decode cX10_leastMarked 12 = .ok (.ifCond .ne 7, 3) := by decide +kernel
theorem dX10_leastMarked_15 : decode cX10_leastMarked 15 = .ok (.iconst 1, 1) := by decide +kernel
theorem dX10_leastMarked_16 : decode cX10_leastMarked 16 = .ok (.goto 4, 3) := by decide +kernel
theorem dX10_leastMarked_19 : decode cX10_leastMarked 19 = .ok (.iconst 0, 1) := by decide +kernel
theorem dX10_leastMarked_20 : decode cX10_leastMarked 20 = .ok (.iload_n 2, 1) := by decide +kernel
theorem dX10_leastMarked_21 : decode cX10_leastMarked 21 = .ok (.if_icmp .eq 9, 3) := by decide +kernel
theorem dX10_leastMarked_24 : decode cX10_leastMarked 24 = .ok (.iinc 3 1, 3) := by decide +kernel
theorem dX10_leastMarked_27 : decode cX10_leastMarked 27 = .ok (.goto (-25), 3) := by decide +kernel
theorem dX10_leastMarked_30 : decode cX10_leastMarked 30 = .ok (.iload_n 3, 1) := by decide +kernel
theorem dX10_leastMarked_31 : decode cX10_leastMarked 31 = .ok (.ireturn, 1) := by decide +kernel
theorem dX10_length_0 : decode cX10_length 0 = .ok (.iload_n 1, 1) := by decide +kernel
theorem dX10_length_1 : decode cX10_length 1 = .ok (.invokestatic 105, 3) := by decide +kernel
theorem dX10_length_4 : decode cX10_length 4 = .ok (.ifCond .ne 5, 3) := by decide +kernel
theorem dX10_length_7 : decode cX10_length 7 = .ok (.iconst (-1), 1) := by decide +kernel
theorem dX10_length_8 : decode cX10_length 8 = .ok (.ireturn, 1) := by decide +kernel
theorem dX10_length_9 : decode cX10_length 9 = .ok (.aload_n 0, 1) := by decide +kernel
theorem dX10_length_10 : decode cX10_length 10 = .ok (.getfield 12, 3) := by decide +kernel
theorem dX10_length_13 : decode cX10_length 13 = .ok (.iload_n 1, 1) := by decide +kernel
theorem dX10_length_14 : decode cX10_length 14 = .ok (.invokevirtual 130, 3) := by decide +kernel
theorem dX10_length_17 : decode cX10_length 17 = .ok (.ifCond .ne 6, 3) := by decide +kernel
theorem dX10_length_20 : decode cX10_length 20 = .ok (.bipush (-2), 2) := by decide +kernel
theorem dX10_length_22 : decode cX10_length 22 = .ok (.ireturn, 1) := by decide +kernel
theorem dX10_length_23 : decode cX10_length 23 = .ok (.aload_n 0, 1) := by decide +kernel
theorem dX10_length_24 : decode cX10_length 24 = .ok (.getfield 12, 3) := by decide +kernel
theorem dX10_length_27 : decode cX10_length 27 = .ok (.iload_n 1, 1) := by decide +kernel
theorem dX10_length_28 : decode cX10_length 28 = .ok (.aload_n 0, 1) := by decide +kernel
theorem dX10_length_29 : decode cX10_length 29 = .ok (.getfield 70, 3) := by decide +kernel
theorem dX10_length_32 : decode cX10_length 32 = .ok (.invokevirtual 141, 3) := by decide +kernel
theorem dX10_length_35 : decode cX10_length 35 = .ok (.aload_n 0, 1) := by decide +kernel
theorem dX10_length_36 : decode cX10_length 36 = .ok (.getfield 70, 3) := by decide +kernel
theorem dX10_length_39 : decode cX10_length 39 = .ok (.invokevirtual 152, 3) := by decide +kernel
theorem dX10_length_42 : decode cX10_length 42 = .ok (.l2f, 1) := by decide +kernel
theorem dX10_length_43 : decode cX10_length 43 = .ok (.fstore_n 2, 1) := by decide +kernel
theorem dX10_length_44 : decode cX10_length 44 = .ok (.fload_n 2, 1) := by decide +kernel
theorem dX10_length_45 : decode cX10_length 45 = .ok (.fconst 2, 1) := by decide +kernel
theorem dX10_length_46 : decode cX10_length 46 = .ok (.fdiv, 1) := by decide +kernel
theorem dX10_length_47 : decode cX10_length 47 = .ok (.fstore_n 3, 1) := by decide +kernel
theorem dX10_length_48 : decode cX10_length 48 = .ok (.iconst 0, 1) := by decide +kernel
theorem dX10_length_49 : decode cX10_length 49 = .ok (.istore 4, 2) := by decide +kernel
theorem dX10_length_51 : decode cX10_length 51 = .ok (.iload 4, 2) := by decide +kernel
theorem dX10_length_53 : decode cX10_length 53 = .ok (.bipush 6, 2) := by decide +kernel
theorem dX10_length_55 : decode cX10_length 55 = .ok (.if_icmp .ge 23, 3) := by decide +kernel
theorem dX10_length_58 : decode cX10_length 58 = .ok (.fload_n 3, 1) := by decide +kernel
theorem dX10_length_59 : decode cX10_length 59 = .ok (.fconst 0, 1) := by decide +kernel
theorem dX10_length_60 : decode cX10_length 60 = .ok (.fcmp .l, 1) := by decide +kernel
theorem dX10_length_61 : decode cX10_length 61 = .ok (.ifCond .le 17, 3) := by decide +kernel
theorem dX10_length_64 : decode cX10_length 64 = .ok (.fload_n 3, 1) := by decide +kernel
theorem dX10_length_65 : decode cX10_length 65 = .ok (.fload_n 2, 1) := by decide +kernel
theorem dX10_length_66 : decode cX10_length 66 = .ok (.fload_n 3, 1) := by decide +kernel
theorem dX10_length_67 : decode cX10_length 67 = .ok (.fdiv, 1) := by decide +kernel
theorem dX10_length_68 : decode cX10_length 68 = .ok (.fadd, 1) := by decide +kernel
theorem dX10_length_69 : decode cX10_length 69 = .ok (.fconst 2, 1) := by decide +kernel
theorem dX10_length_70 : decode cX10_length 70 = .ok (.fdiv, 1) := by decide +kernel
theorem dX10_length_71 : decode cX10_length 71 = .ok (.fstore_n 3, 1) := by decide +kernel
theorem dX10_length_72 : decode cX10_length 72 = .ok (.iinc 4 1, 3) := by decide +kernel
theorem dX10_length_75 : decode cX10_length 75 = .ok (.goto (-24), 3) := by decide +kernel
theorem dX10_length_78 : decode cX10_length 78 = .ok (.fload_n 3, 1) := by decide +kernel
theorem dX10_length_79 : decode cX10_length 79 = .ok (.ldc_w 429, 3) := by decide +kernel
theorem dX10_length_82 : decode cX10_length 82 = .ok (.fmul, 1) := by decide +kernel
theorem dX10_length_83 : decode cX10_length 83 = .ok (.f2i, 1) := by decide +kernel
theorem dX10_length_84 : decode cX10_length 84 = .ok (.ireturn, 1) := by decide +kernel
theorem dX10_letter_0 : decode cX10_letter 0 = .ok (.iload_n 1, 1) := by decide +kernel
theorem dX10_letter_1 : decode cX10_letter 1 = .ok (.invokestatic 105, 3) := by decide +kernel
theorem dX10_letter_4 : decode cX10_letter 4 = .ok (.ifCond .eq 8, 3) := by decide +kernel
theorem dX10_letter_7 : decode cX10_letter 7 = .ok (.iload_n 2, 1) := by decide +kernel
theorem dX10_letter_8 : decode cX10_letter 8 = .ok (.iconst (-1), 1) := by decide +kernel
theorem dX10_letter_9 : decode cX10_letter 9 = .ok (.if_icmp .ge 5, 3) := by decide +kernel
theorem dX10_letter_12 : decode cX10_letter 12 = .ok (.iconst (-1), 1) := by decide +kernel
theorem dX10_letter_13 : decode cX10_letter 13 = .ok (.ireturn, 1) := by decide +kernel
theorem dX10_letter_14 : decode cX10_letter 14 = .ok (.aload_n 0, 1) := by decide +kernel
theorem dX10_letter_15 : decode cX10_letter 15 = .ok (.getfield 12, 3) := by decide +kernel
theorem dX10_letter_18 : decode cX10_letter 18 = .ok (.iload_n 1, 1) := by decide +kernel
theorem dX10_letter_19 : decode cX10_letter 19 = .ok (.invokevirtual 130, 3) := by decide +kernel
theorem dX10_letter_22 : decode cX10_letter 22 = .ok (.ifCond .ne 6, 3) := by decide +kernel
theorem dX10_letter_25 : decode cX10_letter 25 = .ok (.bipush (-2), 2) := by decide +kernel
theorem dX10_letter_27 : decode cX10_letter 27 = .ok (.ireturn, 1) := by decide +kernel
theorem dX10_letter_28 : decode cX10_letter 28 = .ok (.aload_n 0, 1) := by decide +kernel
theorem dX10_letter_29 : decode cX10_letter 29 = .ok (.getfield 12, 3) := by decide +kernel
theorem dX10_letter_32 : decode cX10_letter 32 = .ok (.iload_n 1, 1) := by decide +kernel
theorem dX10_letter_33 : decode cX10_letter 33 = .ok (.aload_n 0, 1) := by decide +kernel
theorem dX10_letter_34 : decode cX10_letter 34 = .ok (.getfield 70, 3) := by decide +kernel
theorem dX10_letter_37 : decode cX10_letter 37 = .ok (.invokevirtual 141, 3) := by decide +kernel
theorem dX10_letter_40 : decode cX10_letter 40 = .ok (.aload_n 0, 1) := by decide +kernel
theorem dX10_letter_41 : decode cX10_letter 41 = .ok (.getfield 63, 3) := by decide +kernel
theorem dX10_letter_44 : decode cX10_letter 44 = .ok (.aload_n 0, 1) := by decide +kernel
theorem dX10_letter_45 : decode cX10_letter 45 = .ok (.getfield 70, 3) := by decide +kernel
theorem dX10_letter_48 : decode cX10_letter 48 = .ok (.getfield 145, 3) := by decide +kernel
theorem dX10_letter_51 : decode cX10_letter 51 = .ok (.l2i, 1) := by decide +kernel
theorem dX10_letter_52 : decode cX10_letter 52 = .ok (.aload_n 0, 1) := by decide +kernel
theorem dX10_letter_53 : decode cX10_letter 53 = .ok (.getfield 70, 3) := by decide +kernel
theorem dX10_letter_56 : decode cX10_letter 56 = .ok (.getfield 149, 3) := by decide +kernel
theorem dX10_letter_59 : decode cX10_letter 59 = .ok (.l2i, 1) := by decide +kernel
theorem dX10_letter_60 : decode cX10_letter 60 = .ok (.invokevirtual 422, 3) := by decide +kernel
theorem dX10_letter_63 : decode cX10_letter 63 = .ok (.iload_n 2, 1) := by decide +kernel
theorem dX10_letter_64 : decode cX10_letter 64 = .ok (.iconst (-1), 1) := by decide +kernel
theorem dX10_letter_65 : decode cX10_letter 65 = .ok (.if_icmp .ne 11, 3) := by decide +kernel
theorem dX10_letter_68 : decode cX10_letter 68 = .ok (.aload_n 0, 1) := by decide +kernel
theorem dX10_letter_69 : decode cX10_letter 69 = .ok (.getfield 63, 3) := by decide +kernel
theorem dX10_letter_72 : decode cX10_letter 72 = .ok (.getfield 425, 3) := by decide +kernel
theorem dX10_letter_75 : decode cX10_letter 75 = .ok (.ireturn, 1) := by decide +kernel
theorem dX10_letter_76 : decode cX10_letter 76 = .ok (.iload_n 2, 1) := by decide +kernel
theorem dX10_letter_77 : decode cX10_letter 77 = .ok (.aload_n 0, 1) := by decide +kernel
theorem dX10_letter_78 : decode cX10_letter 78 = .ok (.getfield 63, 3) := by decide +kernel
theorem dX10_letter_81 : decode cX10_letter 81 = .ok (.getfield 425, 3) := by decide +kernel
theorem dX10_letter_84 : decode cX10_letter 84 = .ok (.if_icmp .lt 8, 3) := by decide +kernel
theorem dX10_letter_87 : decode cX10_letter 87 = .ok (.bipush (-3), 2) := by decide +kernel
theorem dX10_letter_89 : decode cX10_letter 89 = .ok (.goto 11, 3) := by decide +kernel
theorem dX10_letter_92 : decode cX10_letter 92 = .ok (.aload_n 0, 1) := by decide +kernel
theorem dX10_letter_93 : decode cX10_letter 93 = .ok (.getfield 63, 3) := by decide +kernel
theorem dX10_letter_96 : decode cX10_letter 96 = .ok (.iload_n 2, 1) := by decide +kernel
theorem dX10_letter_97 : decode cX10_letter 97 = .ok (.invokevirtual 426, 3) := by decide +kernel
theorem dX10_letter_100 : decode cX10_letter 100 = .ok (.ireturn, 1) := by decide +kernel
theorem dX10_linear_0 : decode cX10_linear 0 = .ok (.iload_n 3, 1) := by decide +kernel
theorem dX10_linear_1 : decode cX10_linear 1 = .ok (.invokestatic 105, 3) := by decide +kernel
theorem dX10_linear_4 : decode cX10_linear 4 = .ok (.ifCond .eq 19, 3) := by decide +kernel
theorem dX10_linear_7 : decode cX10_linear 7 = .ok (.iload 4, 2) := by decide +kernel
theorem dX10_linear_9 : decode cX10_linear 9 = .ok (.iconst (-1), 1) := by decide +kernel
theorem dX10_linear_10 : decode cX10_linear 10 = .ok (.if_icmp .lt 13, 3) := by decide +kernel
theorem dX10_linear_13 : decode cX10_linear 13 = .ok (.iload 4, 2) := by decide +kernel
theorem dX10_linear_15 : decode cX10_linear 15 = .ok (.iload 5, 2) := by decide +kernel
theorem dX10_linear_17 : decode cX10_linear 17 = .ok (.invokestatic 298, 3) := by decide +kernel
theorem dX10_linear_20 : decode cX10_linear 20 = .ok (.ifCond .ne 5, 3) := by decide +kernel
theorem dX10_linear_23 : decode cX10_linear 23 = .ok (.iconst (-1), 1) := by decide +kernel
theorem dX10_linear_24 : decode cX10_linear 24 = .ok (.ireturn, 1) := by decide +kernel
theorem dX10_linear_25 : decode cX10_linear 25 = .ok (.aload_n 0, 1) := by decide +kernel
theorem dX10_linear_26 : decode cX10_linear 26 = .ok (.iload_n 1, 1) := by decide +kernel
theorem dX10_linear_27 : decode cX10_linear 27 = .ok (.iload_n 2, 1) := by decide +kernel
theorem dX10_linear_28 : decode cX10_linear 28 = .ok (.invokevirtual 176, 3) := by decide +kernel
theorem dX10_linear_31 : decode cX10_linear 31 = .ok (.istore 6, 2) := by decide +kernel
theorem dX10_linear_33 : decode cX10_linear 33 = .ok (.iload 6, 2) := by decide +kernel
theorem dX10_linear_35 : decode cX10_linear 35 = .ok (.ifCond .eq 6, 3) := by decide +kernel
theorem dX10_linear_38 : decode cX10_linear 38 = .ok (.iload 6, 2) := by decide +kernel
theorem dX10_linear_40 : decode cX10_linear 40 = .ok (.ireturn, 1) := by decide +kernel
theorem dX10_linear_41 : decode cX10_linear 41 = .ok (.aload_n 0, 1) := by decide +kernel
theorem dX10_linear_42 : decode cX10_linear 42 = .ok (.getfield 12, 3) := by decide +kernel
theorem dX10_linear_45 : decode cX10_linear 45 = .ok (.iload_n 3, 1) := by decide +kernel
theorem dX10_linear_46 : decode cX10_linear 46 = .ok (.invokevirtual 130, 3) := by decide +kernel
theorem dX10_linear_49 : decode cX10_linear 49 = .ok (.ifCond .ne 6, 3) := by decide +kernel
theorem dX10_linear_52 : decode cX10_linear 52 = .ok (.bipush (-2), 2) := by decide +kernel
theorem dX10_linear_54 : decode cX10_linear 54 = .ok (.ireturn, 1) := by decide +kernel
theorem dX10_linear_55 : decode cX10_linear 55 = .ok (.aload_n 0, 1) := by decide +kernel
theorem dX10_linear_56 : decode cX10_linear 56 = .ok (.getfield 12, 3) := by decide +kernel
theorem dX10_linear_59 : decode cX10_linear 59 = .ok (.iload_n 3, 1) := by decide +kernel
theorem dX10_linear_60 : decode cX10_linear 60 = .ok (.aload_n 0, 1) := by decide +kernel
theorem dX10_linear_61 : decode cX10_linear 61 = .ok (.getfield 77, 3) := by decide +kernel
theorem dX10_linear_64 : decode cX10_linear 64 = .ok (.invokevirtual 141, 3) := by decide +kernel
theorem dX10_linear_67 : decode cX10_linear 67 = .ok (.aload_n 0, 1) := by decide +kernel
theorem dX10_linear_68 : decode cX10_linear 68 = .ok (.getfield 35, 3) := by decide +kernel
theorem dX10_linear_71 : decode cX10_linear 71 = .ok (.aload_n 0, 1) := by decide +kernel
theorem dX10_linear_72 : decode cX10_linear 72 = .ok (.getfield 77, 3) := by decide +kernel
theorem dX10_linear_75 : decode cX10_linear 75 = .ok (.sipush 2000, 3) := by decide +kernel
theorem dX10_linear_78 : decode cX10_linear 78 = .ok (.invokevirtual 287, 3) := by decide +kernel
theorem dX10_linear_81 : decode cX10_linear 81 = .ok (.ifCond .ne 6, 3) := by decide +kernel
theorem dX10_linear_84 : decode cX10_linear 84 = .ok (.bipush (-3), 2) := by decide +kernel
theorem dX10_linear_86 : decode cX10_linear 86 = .ok (.ireturn, 1) := by decide +kernel
theorem dX10_linear_87 : decode cX10_linear 87 = .ok (.aload_n 0, 1) := by decide +kernel
theorem dX10_linear_88 : decode cX10_linear 88 = .ok (.getfield 35, 3) := by decide +kernel
theorem dX10_linear_91 : decode cX10_linear 91 = .ok (.aload_n 0, 1) := by decide +kernel
theorem dX10_linear_92 : decode cX10_linear 92 = .ok (.getfield 70, 3) := by decide +kernel
theorem dX10_linear_95 : decode cX10_linear 95 = .ok (.invokevirtual 270, 3) := by decide +kernel
theorem dX10_linear_98 : decode cX10_linear 98 = .ok (.aload_n 0, 1) := by decide +kernel
theorem dX10_linear_99 : decode cX10_linear 99 = .ok (.getfield 35, 3) := by decide +kernel
theorem dX10_linear_102 : decode cX10_linear 102 = .ok (.aload_n 0, 1) := by decide +kernel
theorem dX10_linear_103 : decode cX10_linear 103 = .ok (.getfield 74, 3) := by decide +kernel
theorem dX10_linear_106 : decode cX10_linear 106 = .ok (.invokevirtual 270, 3) := by decide +kernel
theorem dX10_linear_109 : decode cX10_linear 109 = .ok (.aload_n 0, 1) := by decide +kernel
theorem dX10_linear_110 : decode cX10_linear 110 = .ok (.aload_n 0, 1) := by decide +kernel
theorem dX10_linear_111 : decode cX10_linear 111 = .ok (.iconst 0, 1) := by decide +kernel
theorem dX10_linear_112 : decode cX10_linear 112 = .ok (.aload_n 0, 1) := by decide +kernel
theorem dX10_linear_113 : decode cX10_linear 113 = .ok (.getfield 74, 3) := by decide +kernel
theorem dX10_linear_116 : decode cX10_linear 116 = .ok (.iload 4, 2) := by decide +kernel
theorem dX10_linear_118 : decode cX10_linear 118 = .ok (.invokevirtual 294, 3) := by decide +kernel
theorem dX10_linear_121 : decode cX10_linear 121 = .ok (.iload 4, 2) := by decide +kernel
theorem dX10_linear_123 : decode cX10_linear 123 = .ok (.iload 5, 2) := by decide +kernel
theorem dX10_linear_125 : decode cX10_linear 125 = .ok (.invokevirtual 302, 3) := by decide +kernel
theorem dX10_linear_128 : decode cX10_linear 128 = .ok (.ireturn, 1) := by decide +kernel
theorem dX10_loadTwo_0 : decode cX10_loadTwo 0 = .ok (.iload_n 1, 1) := by decide +kernel
theorem dX10_loadTwo_1 : decode cX10_loadTwo 1 = .ok (.invokestatic 105, 3) := by decide +kernel
theorem dX10_loadTwo_4 : decode cX10_loadTwo 4 = .ok (.ifCond .eq 10, 3) := by decide +kernel
theorem dX10_loadTwo_7 : decode cX10_loadTwo 7 = .ok (.iload_n 2, 1) := by decide +kernel
theorem dX10_loadTwo_8 : decode cX10_loadTwo 8 = .ok (.invokestatic 105, 3) := by decide +kernel
theorem dX10_loadTwo_11 : decode cX10_loadTwo 11 = .ok (.ifCond .ne 5, 3) := by decide +kernel
theorem dX10_loadTwo_14 : decode cX10_loadTwo 14 = .ok (.iconst (-1), 1) := by decide +kernel
theorem dX10_loadTwo_15 : decode cX10_loadTwo 15 = .ok (.ireturn, 1) := by decide +kernel
theorem dX10_loadTwo_16 : decode cX10_loadTwo 16 = .ok (.aload_n 0, 1) := by decide +kernel
theorem dX10_loadTwo_17 : decode cX10_loadTwo 17 = .ok (.getfield 12, 3) := by decide +kernel
theorem dX10_loadTwo_20 : decode cX10_loadTwo 20 = .ok (.iload_n 1, 1) := by decide +kernel
theorem dX10_loadTwo_21 : decode cX10_loadTwo 21 = .ok (.invokevirtual 130, 3) := by decide +kernel
theorem dX10_loadTwo_24 : decode cX10_loadTwo 24 = .ok (.ifCond .eq 14, 3) := by decide +kernel
theorem dX10_loadTwo_27 : decode cX10_loadTwo 27 = .ok (.aload_n 0, 1) := by decide +kernel
theorem dX10_loadTwo_28 : decode cX10_loadTwo 28 = .ok (.getfield 12, 3) := by decide +kernel
theorem dX10_loadTwo_31 : decode cX10_loadTwo 31 = .ok (.iload_n 2, 1) := by decide +kernel
theorem dX10_loadTwo_32 : decode cX10_loadTwo 32 = .ok (.invokevirtual 130, 3) := by decide +kernel
theorem dX10_loadTwo_35 : decode cX10_loadTwo 35 = .ok (.ifCond .ne 6, 3) := by decide +kernel
theorem dX10_loadTwo_38 : decode cX10_loadTwo 38 = .ok (.bipush (-2), 2) := by decide +kernel
theorem dX10_loadTwo_40 : decode cX10_loadTwo 40 = .ok (.ireturn, 1) := by decide +kernel
theorem dX10_loadTwo_41 : decode cX10_loadTwo 41 = .ok (.aload_n 0, 1) := by decide +kernel
theorem dX10_loadTwo_42 : decode cX10_loadTwo 42 = .ok (.getfield 12, 3) := by decide +kernel
theorem dX10_loadTwo_45 : decode cX10_loadTwo 45 = .ok (.iload_n 1, 1) := by decide +kernel
theorem dX10_loadTwo_46 : decode cX10_loadTwo 46 = .ok (.aload_n 0, 1) := by decide +kernel
theorem dX10_loadTwo_47 : decode cX10_loadTwo 47 = .ok (.getfield 70, 3) := by decide +kernel
theorem dX10_loadTwo_50 : decode cX10_loadTwo 50 = .ok (.invokevirtual 141, 3) := by decide +kernel
theorem dX10_loadTwo_53 : decode cX10_loadTwo 53 = .ok (.aload_n 0, 1) := by decide +kernel
theorem dX10_loadTwo_54 : decode cX10_loadTwo 54 = .ok (.getfield 12, 3) := by decide +kernel
theorem dX10_loadTwo_57 : decode cX10_loadTwo 57 = .ok (.iload_n 2, 1) := by decide +kernel
theorem dX10_loadTwo_58 : decode cX10_loadTwo 58 = .ok (.aload_n 0, 1) := by decide +kernel
theorem dX10_loadTwo_59 : decode cX10_loadTwo 59 = .ok (.getfield 74, 3) := by decide +kernel
theorem dX10_loadTwo_62 : decode cX10_loadTwo 62 = .ok (.invokevirtual 141, 3) := by decide +kernel
theorem dX10_loadTwo_65 : decode cX10_loadTwo 65 = .ok (.iconst 0, 1) := by decide +kernel
theorem dX10_loadTwo_66 : decode cX10_loadTwo 66 = .ok (.ireturn, 1) := by decide +kernel
theorem dX10_mark_0 : decode cX10_mark 0 = .ok (.iload_n 1, 1) := by decide +kernel
theorem dX10_mark_1 : decode cX10_mark 1 = .ok (.ifCond .lt 19, 3) := by decide +kernel
theorem dX10_mark_4 : decode cX10_mark 4 = .ok (.iload_n 1, 1) := by decide +kernel
theorem dX10_mark_5 : decode cX10_mark 5 = .ok (.aload_n 0, 1) := by decide +kernel
theorem dX10_mark_6 : decode cX10_mark 6 = .ok (.getfield 89, 3) := by decide +kernel
theorem dX10_mark_9 : decode cX10_mark 9 = .ok (.arraylength, 1) := by decide +kernel
theorem dX10_mark_10 : decode cX10_mark 10 = .ok (.if_icmp .ge 10, 3) := by decide +kernel
theorem dX10_mark_13 : decode cX10_mark 13 = .ok (.aload_n 0, 1) := by decide +kernel
theorem dX10_mark_14 : decode cX10_mark 14 = .ok (.getfield 89, 3) := by decide +kernel
theorem dX10_mark_17 : decode cX10_mark 17 = .ok (.iload_n 1, 1) := by decide +kernel
theorem dX10_mark_18 : decode cX10_mark 18 = .ok (.iload_n 2, 1) := by decide +kernel
theorem dX10_mark_19 : decode cX10_mark 19 = .ok (.iastore, 1) := by decide +kernel
theorem dX10_mark_20 : decode cX10_mark 20 = .ok (.return_, 1) := by decide +kernel
theorem dX10_markAt_0 : decode cX10_markAt 0 = .ok (.iload_n 1, 1) := by decide +kernel
theorem dX10_markAt_1 : decode cX10_markAt 1 = .ok (.ifCond .lt 21, 3) := by decide +kernel
theorem dX10_markAt_4 : decode cX10_markAt 4 = .ok (.iload_n 1, 1) := by decide +kernel
theorem dX10_markAt_5 : decode cX10_markAt 5 = .ok (.aload_n 0, 1) := by decide +kernel
theorem dX10_markAt_6 : decode cX10_markAt 6 = .ok (.getfield 89, 3) := by decide +kernel
theorem dX10_markAt_9 : decode cX10_markAt 9 = .ok (.arraylength, 1) := by decide +kernel
theorem dX10_markAt_10 : decode cX10_markAt 10 = .ok (.if_icmp .ge 12, 3) := by decide +kernel
theorem dX10_markAt_13 : decode cX10_markAt 13 = .ok (.aload_n 0, 1) := by decide +kernel
theorem dX10_markAt_14 : decode cX10_markAt 14 = .ok (.getfield 89, 3) := by decide +kernel
theorem dX10_markAt_17 : decode cX10_markAt 17 = .ok (.iload_n 1, 1) := by decide +kernel
theorem dX10_markAt_18 : decode cX10_markAt 18 = .ok (.iaload, 1) := by decide +kernel
theorem dX10_markAt_19 : decode cX10_markAt 19 = .ok (.goto 4, 3) := by decide +kernel
theorem dX10_markAt_22 : decode cX10_markAt 22 = .ok (.iconst 0, 1) := by decide +kernel
theorem dX10_markAt_23 : decode cX10_markAt 23 = .ok (.ireturn, 1) := by decide +kernel
theorem dX10_markCubes_0 : decode cX10_markCubes 0 = .ok (.aload_n 0, 1) := by decide +kernel
theorem dX10_markCubes_1 : decode cX10_markCubes 1 = .ok (.iconst 3, 1) := by decide +kernel
theorem dX10_markCubes_2 : decode cX10_markCubes 2 = .ok (.invokevirtual 317, 3) := by decide +kernel
theorem dX10_markCubes_5 : decode cX10_markCubes 5 = .ok (.iconst 1, 1) := by decide +kernel
theorem dX10_markCubes_6 : decode cX10_markCubes 6 = .ok (.istore_n 2, 1) := by decide +kernel
theorem dX10_markCubes_7 : decode cX10_markCubes 7 = .ok (.iload_n 2, 1) := by decide +kernel
theorem dX10_markCubes_8 : decode cX10_markCubes 8 = .ok (.iload_n 1, 1) := by decide +kernel
theorem dX10_markCubes_9 : decode cX10_markCubes 9 = .ok (.if_icmp .ge 28, 3) := by decide +kernel
theorem dX10_markCubes_12 : decode cX10_markCubes 12 = .ok (.aload_n 0, 1) := by decide +kernel
theorem dX10_markCubes_13 : decode cX10_markCubes 13 = .ok (.iload_n 2, 1) := by decide +kernel
theorem dX10_markCubes_14 : decode cX10_markCubes 14 = .ok (.i2l, 1) := by decide +kernel
theorem dX10_markCubes_15 : decode cX10_markCubes 15 = .ok (.iload_n 2, 1) := by decide +kernel
theorem dX10_markCubes_16 : decode cX10_markCubes 16 = .ok (.i2l, 1) := by decide +kernel
theorem dX10_markCubes_17 : decode cX10_markCubes 17 = .ok (.lmul, 1) := by decide +kernel
theorem dX10_markCubes_18 : decode cX10_markCubes 18 = .ok (.iload_n 2, 1) := by decide +kernel
theorem dX10_markCubes_19 : decode cX10_markCubes 19 = .ok (.i2l, 1) := by decide +kernel
theorem dX10_markCubes_20 : decode cX10_markCubes 20 = .ok (.lmul, 1) := by decide +kernel
theorem dX10_markCubes_21 : decode cX10_markCubes 21 = .ok (.iload_n 1, 1) := by decide +kernel
theorem dX10_markCubes_22 : decode cX10_markCubes 22 = .ok (.i2l, 1) := by decide +kernel
theorem dX10_markCubes_23 : decode cX10_markCubes 23 = .ok (.invokestatic 405, 3) := by decide +kernel
theorem dX10_markCubes_26 : decode cX10_markCubes 26 = .ok (.l2i, 1) := by decide +kernel
theorem dX10_markCubes_27 : decode cX10_markCubes 27 = .ok (.iconst 0, 1) := by decide +kernel
theorem dX10_markCubes_28 : decode cX10_markCubes 28 = .ok (.invokevirtual 327, 3) := by decide +kernel
theorem dX10_markCubes_31 : decode cX10_markCubes 31 = .ok (.iinc 2 1, 3) := by decide +kernel
theorem dX10_markCubes_34 : decode cX10_markCubes 34 = .ok (.goto (-27), 3) := by decide +kernel
theorem dX10_markCubes_37 : decode cX10_markCubes 37 = .ok (.return_, 1) := by decide +kernel
theorem dX10_markOrders_0 : decode cX10_markOrders 0 = .ok (.aload_n 0, 1) := by decide +kernel
theorem dX10_markOrders_1 : decode cX10_markOrders 1 = .ok (.iconst 0, 1) := by decide +kernel
theorem dX10_markOrders_2 : decode cX10_markOrders 2 = .ok (.invokevirtual 317, 3) := by decide +kernel
theorem dX10_markOrders_5 : decode cX10_markOrders 5 = .ok (.lconst 0, 1) := by decide +kernel
theorem dX10_markOrders_6 : decode cX10_markOrders 6 = .ok (.lstore_n 2, 1) := by decide +kernel
theorem dX10_markOrders_7 : decode cX10_markOrders 7 = .ok (.lload_n 2, 1) := by decide +kernel
theorem dX10_markOrders_8 : decode cX10_markOrders 8 = .ok (.aload_n 0, 1) := by decide +kernel
theorem dX10_markOrders_9 : decode cX10_markOrders 9 = .ok (.getfield 35, 3) := by decide +kernel
theorem dX10_markOrders_12 : decode cX10_markOrders 12 = .ok (.getfield 305, 3) := by decide +kernel
theorem dX10_markOrders_15 : decode cX10_markOrders 15 = .ok (.lcmp, 1) := by decide +kernel
theorem dX10_markOrders_16 : decode cX10_markOrders 16 = .ok (.ifCond .ge 94, 3) := by decide +kernel
theorem dX10_markOrders_19 : decode cX10_markOrders 19 = .ok (.lconst 0, 1) := by decide +kernel
theorem dX10_markOrders_20 : decode cX10_markOrders 20 = .ok (.lstore 4, 2) := by decide +kernel
theorem dX10_markOrders_22 : decode cX10_markOrders 22 = .ok (.lload 4, 2) := by decide +kernel
theorem dX10_markOrders_24 : decode cX10_markOrders 24 = .ok (.aload_n 0, 1) := by decide +kernel
theorem dX10_markOrders_25 : decode cX10_markOrders 25 = .ok (.getfield 35, 3) := by decide +kernel
theorem dX10_markOrders_28 : decode cX10_markOrders 28 = .ok (.getfield 308, 3) := by decide +kernel
theorem dX10_markOrders_31 : decode cX10_markOrders 31 = .ok (.lcmp, 1) := by decide +kernel
theorem dX10_markOrders_32 : decode cX10_markOrders 32 = .ok (.ifCond .ge 71, 3) := by decide +kernel
theorem dX10_markOrders_35 : decode cX10_markOrders 35 = .ok (.aload_n 0, 1) := by decide +kernel
theorem dX10_markOrders_36 : decode cX10_markOrders 36 = .ok (.getfield 70, 3) := by decide +kernel
theorem dX10_markOrders_39 : decode cX10_markOrders 39 = .ok (.lload 4, 2) := by decide +kernel
theorem dX10_markOrders_41 : decode cX10_markOrders 41 = .ok (.lload_n 2, 1) := by decide +kernel
theorem dX10_markOrders_42 : decode cX10_markOrders 42 = .ok (.invokevirtual 122, 3) := by decide +kernel
theorem dX10_markOrders_45 : decode cX10_markOrders 45 = .ok (.aload_n 0, 1) := by decide +kernel
theorem dX10_markOrders_46 : decode cX10_markOrders 46 = .ok (.aload_n 0, 1) := by decide +kernel
theorem dX10_markOrders_47 : decode cX10_markOrders 47 = .ok (.getfield 35, 3) := by decide +kernel
theorem dX10_markOrders_50 : decode cX10_markOrders 50 = .ok (.aload_n 0, 1) := by decide +kernel
theorem dX10_markOrders_51 : decode cX10_markOrders 51 = .ok (.getfield 70, 3) := by decide +kernel
theorem dX10_markOrders_54 : decode cX10_markOrders 54 = .ok (.invokevirtual 320, 3) := by decide +kernel
theorem dX10_markOrders_57 : decode cX10_markOrders 57 = .ok (.invokevirtual 324, 3) := by decide +kernel
theorem dX10_markOrders_60 : decode cX10_markOrders 60 = .ok (.ifCond .ne 34, 3) := by decide +kernel
theorem dX10_markOrders_63 : decode cX10_markOrders 63 = .ok (.aload_n 0, 1) := by decide +kernel
theorem dX10_markOrders_64 : decode cX10_markOrders 64 = .ok (.getfield 28, 3) := by decide +kernel
theorem dX10_markOrders_67 : decode cX10_markOrders 67 = .ok (.aload_n 0, 1) := by decide +kernel
theorem dX10_markOrders_68 : decode cX10_markOrders 68 = .ok (.getfield 70, 3) := by decide +kernel
theorem dX10_markOrders_71 : decode cX10_markOrders 71 = .ok (.aload_n 1, 1) := by decide +kernel
theorem dX10_markOrders_72 : decode cX10_markOrders 72 = .ok (.invokevirtual 221, 3) := by decide +kernel
theorem dX10_markOrders_75 : decode cX10_markOrders 75 = .ok (.ifCond .eq 19, 3) := by decide +kernel
theorem dX10_markOrders_78 : decode cX10_markOrders 78 = .ok (.aload_n 0, 1) := by decide +kernel
theorem dX10_markOrders_79 : decode cX10_markOrders 79 = .ok (.aload_n 0, 1) := by decide +kernel
theorem dX10_markOrders_80 : decode cX10_markOrders 80 = .ok (.getfield 70, 3) := by decide +kernel
theorem dX10_markOrders_83 : decode cX10_markOrders 83 = .ok (.aload_n 0, 1) := by decide +kernel
theorem dX10_markOrders_84 : decode cX10_markOrders 84 = .ok (.aload_n 0, 1) := by decide +kernel
theorem dX10_markOrders_85 : decode cX10_markOrders 85 = .ok (.getfield 70, 3) := by decide +kernel
theorem dX10_markOrders_88 : decode cX10_markOrders 88 = .ok (.invokevirtual 333, 3) := by decide +kernel
theorem dX10_markOrders_91 : decode cX10_markOrders 91 = .ok (.invokevirtual 339, 3) := by decide +kernel
theorem dX10_markOrders_94 : decode cX10_markOrders 94 = .ok (.lload 4, 2) := by decide +kernel
theorem dX10_markOrders_96 : decode cX10_markOrders 96 = .ok (.lconst 1, 1) := by decide +kernel
theorem dX10_markOrders_97 : decode cX10_markOrders 97 = .ok (.ladd, 1) := by decide +kernel
theorem dX10_markOrders_98 : decode cX10_markOrders 98 = .ok (.lstore 4, 2) := by decide +kernel
theorem dX10_markOrders_100 : decode cX10_markOrders 100 = .ok (.goto (-78), 3) := by decide +kernel
theorem dX10_markOrders_103 : decode cX10_markOrders 103 = .ok (.lload_n 2, 1) := by decide +kernel
theorem dX10_markOrders_104 : decode cX10_markOrders 104 = .ok (.lconst 1, 1) := by decide +kernel
theorem dX10_markOrders_105 : decode cX10_markOrders 105 = .ok (.ladd, 1) := by decide +kernel
theorem dX10_markOrders_106 : decode cX10_markOrders 106 = .ok (.lstore_n 2, 1) := by decide +kernel
theorem dX10_markOrders_107 : decode cX10_markOrders 107 = .ok (.goto (-100), 3) := by decide +kernel
theorem dX10_markOrders_110 : decode cX10_markOrders 110 = .ok (.return_, 1) := by decide +kernel
theorem dX10_markPowers_0 : decode cX10_markPowers 0 = .ok (.aload_n 0, 1) := by decide +kernel
theorem dX10_markPowers_1 : decode cX10_markPowers 1 = .ok (.getfield 83, 3) := by decide +kernel
theorem dX10_markPowers_4 : decode cX10_markPowers 4 = .ok (.aload_n 1, 1) := by decide +kernel
theorem dX10_markPowers_5 : decode cX10_markPowers 5 = .ok (.invokevirtual 186, 3) := by decide +kernel
theorem dX10_markPowers_8 : decode cX10_markPowers 8 = .ok (.iconst 1, 1) := by decide +kernel
theorem dX10_markPowers_9 : decode cX10_markPowers 9 = .ok (.istore_n 3, 1) := by decide +kernel
theorem dX10_markPowers_10 : decode cX10_markPowers 10 = .ok (.iload_n 3, 1) := by decide +kernel
theorem dX10_markPowers_11 : decode cX10_markPowers 11 = .ok (.iload_n 2, 1) := by decide +kernel
theorem dX10_markPowers_12 : decode cX10_markPowers 12 = .ok (.if_icmp .gt 72, 3) := by decide +kernel
theorem dX10_markPowers_15 : decode cX10_markPowers 15 = .ok (.iload_n 3, 1) := by decide +kernel
theorem dX10_markPowers_16 : decode cX10_markPowers 16 = .ok (.sipush 2000, 3) := by decide +kernel
theorem dX10_markPowers_19 : decode cX10_markPowers 19 = .ok (.if_icmp .gt 65, 3) := by decide +kernel
theorem dX10_markPowers_22 : decode cX10_markPowers 22 = .ok (.iload_n 3, 1) := by decide +kernel
theorem dX10_markPowers_23 : decode cX10_markPowers 23 = .ok (.i2l, 1) := by decide +kernel
theorem dX10_markPowers_24 : decode cX10_markPowers 24 = .ok (.iload_n 2, 1) := by decide +kernel
theorem dX10_markPowers_25 : decode cX10_markPowers 25 = .ok (.i2l, 1) := by decide +kernel
theorem dX10_markPowers_26 : decode cX10_markPowers 26 = .ok (.invokestatic 343, 3) := by decide +kernel
theorem dX10_markPowers_29 : decode cX10_markPowers 29 = .ok (.lstore 4, 2) := by decide +kernel
theorem dX10_markPowers_31 : decode cX10_markPowers 31 = .ok (.lload 4, 2) := by decide +kernel
theorem dX10_markPowers_33 : decode cX10_markPowers 33 = .ok (.lconst 0, 1) := by decide +kernel
theorem dX10_markPowers_34 : decode cX10_markPowers 34 = .ok (.lcmp, 1) := by decide +kernel
theorem dX10_markPowers_35 : decode cX10_markPowers 35 = .ok (.ifCond .le 24, 3) := by decide +kernel
theorem dX10_markPowers_38 : decode cX10_markPowers 38 = .ok (.aload_n 0, 1) := by decide +kernel
theorem dX10_markPowers_39 : decode cX10_markPowers 39 = .ok (.aload_n 0, 1) := by decide +kernel
theorem dX10_markPowers_40 : decode cX10_markPowers 40 = .ok (.getfield 35, 3) := by decide +kernel
theorem dX10_markPowers_43 : decode cX10_markPowers 43 = .ok (.aload_n 0, 1) := by decide +kernel
theorem dX10_markPowers_44 : decode cX10_markPowers 44 = .ok (.getfield 83, 3) := by decide +kernel
theorem dX10_markPowers_47 : decode cX10_markPowers 47 = .ok (.invokevirtual 320, 3) := by decide +kernel
theorem dX10_markPowers_50 : decode cX10_markPowers 50 = .ok (.iload_n 2, 1) := by decide +kernel
theorem dX10_markPowers_51 : decode cX10_markPowers 51 = .ok (.i2l, 1) := by decide +kernel
theorem dX10_markPowers_52 : decode cX10_markPowers 52 = .ok (.lload 4, 2) := by decide +kernel
theorem dX10_markPowers_54 : decode cX10_markPowers 54 = .ok (.ldiv, 1) := by decide +kernel
theorem dX10_markPowers_55 : decode cX10_markPowers 55 = .ok (.l2i, 1) := by decide +kernel
theorem dX10_markPowers_56 : decode cX10_markPowers 56 = .ok (.invokevirtual 327, 3) := by decide +kernel
theorem dX10_markPowers_59 : decode cX10_markPowers 59 = .ok (.aload_n 0, 1) := by decide +kernel
theorem dX10_markPowers_60 : decode cX10_markPowers 60 = .ok (.getfield 83, 3) := by decide +kernel
theorem dX10_markPowers_63 : decode cX10_markPowers 63 = .ok (.aload_n 1, 1) := by decide +kernel
theorem dX10_markPowers_64 : decode cX10_markPowers 64 = .ok (.invokevirtual 196, 3) := by decide +kernel
theorem dX10_markPowers_67 : decode cX10_markPowers 67 = .ok (.aload_n 0, 1) := by decide +kernel
theorem dX10_markPowers_68 : decode cX10_markPowers 68 = .ok (.getfield 35, 3) := by decide +kernel
theorem dX10_markPowers_71 : decode cX10_markPowers 71 = .ok (.aload_n 0, 1) := by decide +kernel
theorem dX10_markPowers_72 : decode cX10_markPowers 72 = .ok (.getfield 83, 3) := by decide +kernel
theorem dX10_markPowers_75 : decode cX10_markPowers 75 = .ok (.invokevirtual 270, 3) := by decide +kernel
theorem dX10_markPowers_78 : decode cX10_markPowers 78 = .ok (.iinc 3 1, 3) := by decide +kernel
theorem dX10_markPowers_81 : decode cX10_markPowers 81 = .ok (.goto (-71), 3) := by decide +kernel
theorem dX10_markPowers_84 : decode cX10_markPowers 84 = .ok (.return_, 1) := by decide +kernel
theorem dX10_markSigns_0 : decode cX10_markSigns 0 = .ok (.aload_n 0, 1) := by decide +kernel
theorem dX10_markSigns_1 : decode cX10_markSigns 1 = .ok (.iload_n 1, 1) := by decide +kernel
theorem dX10_markSigns_2 : decode cX10_markSigns 2 = .ok (.invokevirtual 398, 3) := by decide +kernel
theorem dX10_markSigns_5 : decode cX10_markSigns 5 = .ok (.iload_n 1, 1) := by decide +kernel
theorem dX10_markSigns_6 : decode cX10_markSigns 6 = .ok (.aload_n 0, 1) := by decide +kernel
theorem dX10_markSigns_7 : decode cX10_markSigns 7 = .ok (.getfield 74, 3) := by decide +kernel
theorem dX10_markSigns_10 : decode cX10_markSigns 10 = .ok (.invokestatic 395, 3) := by decide +kernel
theorem dX10_markSigns_13 : decode cX10_markSigns 13 = .ok (.aload_n 0, 1) := by decide +kernel
theorem dX10_markSigns_14 : decode cX10_markSigns 14 = .ok (.iload_n 1, 1) := by decide +kernel
theorem dX10_markSigns_15 : decode cX10_markSigns 15 = .ok (.iconst 0, 1) := by decide +kernel
theorem dX10_markSigns_16 : decode cX10_markSigns 16 = .ok (.invokevirtual 401, 3) := by decide +kernel
theorem dX10_markSigns_19 : decode cX10_markSigns 19 = .ok (.i2l, 1) := by decide +kernel
theorem dX10_markSigns_20 : decode cX10_markSigns 20 = .ok (.lstore_n 2, 1) := by decide +kernel
theorem dX10_markSigns_21 : decode cX10_markSigns 21 = .ok (.aload_n 0, 1) := by decide +kernel
theorem dX10_markSigns_22 : decode cX10_markSigns 22 = .ok (.getfield 70, 3) := by decide +kernel
theorem dX10_markSigns_25 : decode cX10_markSigns 25 = .ok (.lload_n 2, 1) := by decide +kernel
theorem dX10_markSigns_26 : decode cX10_markSigns 26 = .ok (.lconst 0, 1) := by decide +kernel
theorem dX10_markSigns_27 : decode cX10_markSigns 27 = .ok (.invokevirtual 122, 3) := by decide +kernel
theorem dX10_markSigns_30 : decode cX10_markSigns 30 = .ok (.aload_n 0, 1) := by decide +kernel
theorem dX10_markSigns_31 : decode cX10_markSigns 31 = .ok (.aload_n 0, 1) := by decide +kernel
theorem dX10_markSigns_32 : decode cX10_markSigns 32 = .ok (.getfield 70, 3) := by decide +kernel
theorem dX10_markSigns_35 : decode cX10_markSigns 35 = .ok (.aload_n 0, 1) := by decide +kernel
theorem dX10_markSigns_36 : decode cX10_markSigns 36 = .ok (.getfield 74, 3) := by decide +kernel
theorem dX10_markSigns_39 : decode cX10_markSigns 39 = .ok (.invokevirtual 262, 3) := by decide +kernel
theorem dX10_markSigns_42 : decode cX10_markSigns 42 = .ok (.istore 4, 2) := by decide +kernel
theorem dX10_markSigns_44 : decode cX10_markSigns 44 = .ok (.iconst 1, 1) := by decide +kernel
theorem dX10_markSigns_45 : decode cX10_markSigns 45 = .ok (.istore 5, 2) := by decide +kernel
theorem dX10_markSigns_47 : decode cX10_markSigns 47 = .ok (.iload 5, 2) := by decide +kernel
theorem dX10_markSigns_49 : decode cX10_markSigns 49 = .ok (.iload_n 1, 1) := by decide +kernel
theorem dX10_markSigns_50 : decode cX10_markSigns 50 = .ok (.if_icmp .ge 56, 3) := by decide +kernel
theorem dX10_markSigns_53 : decode cX10_markSigns 53 = .ok (.aload_n 0, 1) := by decide +kernel
theorem dX10_markSigns_54 : decode cX10_markSigns 54 = .ok (.iload 5, 2) := by decide +kernel
theorem dX10_markSigns_56 : decode cX10_markSigns 56 = .ok (.invokevirtual 324, 3) := by decide +kernel
theorem dX10_markSigns_59 : decode cX10_markSigns 59 = .ok (.ifCond .ne 41, 3) := by decide +kernel
theorem dX10_markSigns_62 : decode cX10_markSigns 62 = .ok (.aload_n 0, 1) := by decide +kernel
theorem dX10_markSigns_63 : decode cX10_markSigns 63 = .ok (.iload 5, 2) := by decide +kernel
theorem dX10_markSigns_65 : decode cX10_markSigns 65 = .ok (.i2l, 1) := by decide +kernel
theorem dX10_markSigns_66 : decode cX10_markSigns 66 = .ok (.lload_n 2, 1) := by decide +kernel
theorem dX10_markSigns_67 : decode cX10_markSigns 67 = .ok (.lmul, 1) := by decide +kernel
theorem dX10_markSigns_68 : decode cX10_markSigns 68 = .ok (.iload_n 1, 1) := by decide +kernel
theorem dX10_markSigns_69 : decode cX10_markSigns 69 = .ok (.i2l, 1) := by decide +kernel
theorem dX10_markSigns_70 : decode cX10_markSigns 70 = .ok (.invokestatic 405, 3) := by decide +kernel
theorem dX10_markSigns_73 : decode cX10_markSigns 73 = .ok (.l2i, 1) := by decide +kernel
theorem dX10_markSigns_74 : decode cX10_markSigns 74 = .ok (.iload 4, 2) := by decide +kernel
theorem dX10_markSigns_76 : decode cX10_markSigns 76 = .ok (.invokevirtual 327, 3) := by decide +kernel
theorem dX10_markSigns_79 : decode cX10_markSigns 79 = .ok (.aload_n 0, 1) := by decide +kernel
theorem dX10_markSigns_80 : decode cX10_markSigns 80 = .ok (.iload 5, 2) := by decide +kernel
theorem dX10_markSigns_82 : decode cX10_markSigns 82 = .ok (.i2l, 1) := by decide +kernel
theorem dX10_markSigns_83 : decode cX10_markSigns 83 = .ok (.lload_n 2, 1) := by decide +kernel
theorem dX10_markSigns_84 : decode cX10_markSigns 84 = .ok (.lmul, 1) := by decide +kernel
theorem dX10_markSigns_85 : decode cX10_markSigns 85 = .ok (.lload_n 2, 1) := by decide +kernel
theorem dX10_markSigns_86 : decode cX10_markSigns 86 = .ok (.lmul, 1) := by decide +kernel
theorem dX10_markSigns_87 : decode cX10_markSigns 87 = .ok (.iload_n 1, 1) := by decide +kernel
theorem dX10_markSigns_88 : decode cX10_markSigns 88 = .ok (.i2l, 1) := by decide +kernel
theorem dX10_markSigns_89 : decode cX10_markSigns 89 = .ok (.invokestatic 405, 3) := by decide +kernel
theorem dX10_markSigns_92 : decode cX10_markSigns 92 = .ok (.l2i, 1) := by decide +kernel
theorem dX10_markSigns_93 : decode cX10_markSigns 93 = .ok (.iconst 3, 1) := by decide +kernel
theorem dX10_markSigns_94 : decode cX10_markSigns 94 = .ok (.iload 4, 2) := by decide +kernel
theorem dX10_markSigns_96 : decode cX10_markSigns 96 = .ok (.isub, 1) := by decide +kernel
theorem dX10_markSigns_97 : decode cX10_markSigns 97 = .ok (.invokevirtual 327, 3) := by decide +kernel
theorem dX10_markSigns_100 : decode cX10_markSigns 100 = .ok (.iinc 5 1, 3) := by decide +kernel
theorem dX10_markSigns_103 : decode cX10_markSigns 103 = .ok (.goto (-56), 3) := by decide +kernel
theorem dX10_markSigns_106 : decode cX10_markSigns 106 = .ok (.return_, 1) := by decide +kernel
theorem dX10_middle_0 : decode cX10_middle 0 = .ok (.iload_n 1, 1) := by decide +kernel
theorem dX10_middle_1 : decode cX10_middle 1 = .ok (.ifCond .lt 8, 3) := by decide +kernel
theorem dX10_middle_4 : decode cX10_middle 4 = .ok (.iload_n 1, 1) := by decide +kernel
theorem dX10_middle_5 : decode cX10_middle 5 = .ok (.iconst 1, 1) := by decide +kernel
theorem dX10_middle_6 : decode cX10_middle 6 = .ok (.if_icmp .le 6, 3) := by decide +kernel
theorem dX10_middle_9 : decode cX10_middle 9 = .ok (.ldc 140, 2) := by decide +kernel
theorem dX10_middle_11 : decode cX10_middle 11 = .ok (.ireturn, 1) := by decide +kernel
theorem dX10_middle_12 : decode cX10_middle 12 = .ok (.fconst 0, 1) := by decide +kernel
theorem dX10_middle_13 : decode cX10_middle 13 = .ok (.fstore_n 2, 1) := by decide +kernel
theorem dX10_middle_14 : decode cX10_middle 14 = .ok (.iconst 0, 1) := by decide +kernel
theorem dX10_middle_15 : decode cX10_middle 15 = .ok (.istore_n 3, 1) := by decide +kernel
theorem dX10_middle_16 : decode cX10_middle 16 = .ok (.iconst 0, 1) := by decide +kernel
theorem dX10_middle_17 : decode cX10_middle 17 = .ok (.istore 4, 2) := by decide +kernel
theorem dX10_middle_19 : decode cX10_middle 19 = .ok (.iload 4, 2) := by decide +kernel
theorem dX10_middle_21 : decode cX10_middle 21 = .ok (.bipush 8, 2) := by decide +kernel
theorem dX10_middle_23 : decode cX10_middle 23 = .ok (.if_icmp .ge 49, 3) := by decide +kernel
theorem dX10_middle_26 : decode cX10_middle 26 = .ok (.aload_n 0, 1) := by decide +kernel
theorem dX10_middle_27 : decode cX10_middle 27 = .ok (.getfield 12, 3) := by decide +kernel
theorem dX10_middle_30 : decode cX10_middle 30 = .ok (.iload 4, 2) := by decide +kernel
theorem dX10_middle_32 : decode cX10_middle 32 = .ok (.invokevirtual 130, 3) := by decide +kernel
theorem dX10_middle_35 : decode cX10_middle 35 = .ok (.ifCond .eq 31, 3) := by decide +kernel
theorem dX10_middle_38 : decode cX10_middle 38 = .ok (.aload_n 0, 1) := by decide +kernel
theorem dX10_middle_39 : decode cX10_middle 39 = .ok (.getfield 12, 3) := by decide +kernel
theorem dX10_middle_42 : decode cX10_middle 42 = .ok (.iload 4, 2) := by decide +kernel
theorem dX10_middle_44 : decode cX10_middle 44 = .ok (.aload_n 0, 1) := by decide +kernel
theorem dX10_middle_45 : decode cX10_middle 45 = .ok (.getfield 70, 3) := by decide +kernel
theorem dX10_middle_48 : decode cX10_middle 48 = .ok (.invokevirtual 141, 3) := by decide +kernel
theorem dX10_middle_51 : decode cX10_middle 51 = .ok (.fload_n 2, 1) := by decide +kernel
theorem dX10_middle_52 : decode cX10_middle 52 = .ok (.aload_n 0, 1) := by decide +kernel
theorem dX10_middle_53 : decode cX10_middle 53 = .ok (.getfield 70, 3) := by decide +kernel
theorem dX10_middle_56 : decode cX10_middle 56 = .ok (.iload_n 1, 1) := by decide +kernel
theorem dX10_middle_57 : decode cX10_middle 57 = .ok (.invokestatic 273, 3) := by decide +kernel
theorem dX10_middle_60 : decode cX10_middle 60 = .ok (.i2f, 1) := by decide +kernel
theorem dX10_middle_61 : decode cX10_middle 61 = .ok (.fadd, 1) := by decide +kernel
theorem dX10_middle_62 : decode cX10_middle 62 = .ok (.fstore_n 2, 1) := by decide +kernel
theorem dX10_middle_63 : decode cX10_middle 63 = .ok (.iinc 3 1, 3) := by decide +kernel
theorem dX10_middle_66 : decode cX10_middle 66 = .ok (.iinc 4 1, 3) := by decide +kernel
theorem dX10_middle_69 : decode cX10_middle 69 = .ok (.goto (-50), 3) := by decide +kernel
theorem dX10_middle_72 : decode cX10_middle 72 = .ok (.iload_n 3, 1) := by decide +kernel
theorem dX10_middle_73 : decode cX10_middle 73 = .ok (.ifCond .ne 6, 3) := by decide +kernel
theorem dX10_middle_76 : decode cX10_middle 76 = .ok (.ldc 140, 2) := by decide +kernel
theorem dX10_middle_78 : decode cX10_middle 78 = .ok (.ireturn, 1) := by decide +kernel
theorem dX10_middle_79 : decode cX10_middle 79 = .ok (.fload_n 2, 1) := by decide +kernel
theorem dX10_middle_80 : decode cX10_middle 80 = .ok (.iload_n 3, 1) := by decide +kernel
theorem dX10_middle_81 : decode cX10_middle 81 = .ok (.i2f, 1) := by decide +kernel
theorem dX10_middle_82 : decode cX10_middle 82 = .ok (.fdiv, 1) := by decide +kernel
theorem dX10_middle_83 : decode cX10_middle 83 = .ok (.ldc_w 430, 3) := by decide +kernel
theorem dX10_middle_86 : decode cX10_middle 86 = .ok (.fmul, 1) := by decide +kernel
theorem dX10_middle_87 : decode cX10_middle 87 = .ok (.f2i, 1) := by decide +kernel
theorem dX10_middle_88 : decode cX10_middle 88 = .ok (.ireturn, 1) := by decide +kernel
theorem dX10_nearest_0 : decode cX10_nearest 0 = .ok (.iload_n 1, 1) := by decide +kernel
theorem dX10_nearest_1 : decode cX10_nearest 1 = .ok (.invokestatic 105, 3) := by decide +kernel
theorem dX10_nearest_4 : decode cX10_nearest 4 = .ok (.ifCond .eq 12, 3) := by decide +kernel
theorem dX10_nearest_7 : decode cX10_nearest 7 = .ok (.iload_n 2, 1) := by decide +kernel
theorem dX10_nearest_8 : decode cX10_nearest 8 = .ok (.ifCond .lt 8, 3) := by decide +kernel
theorem dX10_nearest_11 : decode cX10_nearest 11 = .ok (.iload_n 2, 1) := by decide +kernel
theorem dX10_nearest_12 : decode cX10_nearest 12 = .ok (.iconst 1, 1) := by decide +kernel
theorem dX10_nearest_13 : decode cX10_nearest 13 = .ok (.if_icmp .le 5, 3) := by decide +kernel
theorem dX10_nearest_16 : decode cX10_nearest 16 = .ok (.iconst (-1), 1) := by decide +kernel
theorem dX10_nearest_17 : decode cX10_nearest 17 = .ok (.ireturn, 1) := by decide +kernel
theorem dX10_nearest_18 : decode cX10_nearest 18 = .ok (.aload_n 0, 1) := by decide +kernel
theorem dX10_nearest_19 : decode cX10_nearest 19 = .ok (.getfield 12, 3) := by decide +kernel
theorem dX10_nearest_22 : decode cX10_nearest 22 = .ok (.iload_n 1, 1) := by decide +kernel
theorem dX10_nearest_23 : decode cX10_nearest 23 = .ok (.invokevirtual 130, 3) := by decide +kernel
theorem dX10_nearest_26 : decode cX10_nearest 26 = .ok (.ifCond .ne 6, 3) := by decide +kernel
theorem dX10_nearest_29 : decode cX10_nearest 29 = .ok (.bipush (-2), 2) := by decide +kernel
theorem dX10_nearest_31 : decode cX10_nearest 31 = .ok (.ireturn, 1) := by decide +kernel
theorem dX10_nearest_32 : decode cX10_nearest 32 = .ok (.aload_n 0, 1) := by decide +kernel
theorem dX10_nearest_33 : decode cX10_nearest 33 = .ok (.getfield 12, 3) := by decide +kernel
theorem dX10_nearest_36 : decode cX10_nearest 36 = .ok (.iload_n 1, 1) := by decide +kernel
theorem dX10_nearest_37 : decode cX10_nearest 37 = .ok (.aload_n 0, 1) := by decide +kernel
theorem dX10_nearest_38 : decode cX10_nearest 38 = .ok (.getfield 70, 3) := by decide +kernel
theorem dX10_nearest_41 : decode cX10_nearest 41 = .ok (.invokevirtual 141, 3) := by decide +kernel
theorem dX10_nearest_44 : decode cX10_nearest 44 = .ok (.iconst (-1), 1) := by decide +kernel
theorem dX10_nearest_45 : decode cX10_nearest 45 = .ok (.istore_n 3, 1) := by decide +kernel
theorem dX10_nearest_46 : decode cX10_nearest 46 = .ok (.lconst 0, 1) := by decide +kernel
theorem dX10_nearest_47 : decode cX10_nearest 47 = .ok (.lstore 4, 2) := by decide +kernel
theorem dX10_nearest_49 : decode cX10_nearest 49 = .ok (.iconst 0, 1) := by decide +kernel
theorem dX10_nearest_50 : decode cX10_nearest 50 = .ok (.istore 6, 2) := by decide +kernel
theorem dX10_nearest_52 : decode cX10_nearest 52 = .ok (.iload 6, 2) := by decide +kernel
theorem dX10_nearest_54 : decode cX10_nearest 54 = .ok (.bipush 8, 2) := by decide +kernel
theorem dX10_nearest_56 : decode cX10_nearest 56 = .ok (.if_icmp .ge 81, 3) := by decide +kernel
theorem dX10_nearest_59 : decode cX10_nearest 59 = .ok (.iload 6, 2) := by decide +kernel
theorem dX10_nearest_61 : decode cX10_nearest 61 = .ok (.iload_n 1, 1) := by decide +kernel
theorem dX10_nearest_62 : decode cX10_nearest 62 = .ok (.if_icmp .eq 69, 3) := by decide +kernel
theorem dX10_nearest_65 : decode cX10_nearest 65 = .ok (.aload_n 0, 1) := by decide +kernel
theorem dX10_nearest_66 : decode cX10_nearest 66 = .ok (.getfield 12, 3) := by decide +kernel
theorem dX10_nearest_69 : decode cX10_nearest 69 = .ok (.iload 6, 2) := by decide +kernel
theorem dX10_nearest_71 : decode cX10_nearest 71 = .ok (.invokevirtual 130, 3) := by decide +kernel
theorem dX10_nearest_74 : decode cX10_nearest 74 = .ok (.ifCond .eq 57, 3) := by decide +kernel
theorem dX10_nearest_77 : decode cX10_nearest 77 = .ok (.aload_n 0, 1) := by decide +kernel
theorem dX10_nearest_78 : decode cX10_nearest 78 = .ok (.getfield 12, 3) := by decide +kernel
theorem dX10_nearest_81 : decode cX10_nearest 81 = .ok (.iload 6, 2) := by decide +kernel
theorem dX10_nearest_83 : decode cX10_nearest 83 = .ok (.aload_n 0, 1) := by decide +kernel
theorem dX10_nearest_84 : decode cX10_nearest 84 = .ok (.getfield 74, 3) := by decide +kernel
theorem dX10_nearest_87 : decode cX10_nearest 87 = .ok (.invokevirtual 141, 3) := by decide +kernel
theorem dX10_nearest_90 : decode cX10_nearest 90 = .ok (.aload_n 0, 1) := by decide +kernel
theorem dX10_nearest_91 : decode cX10_nearest 91 = .ok (.getfield 74, 3) := by decide +kernel
theorem dX10_nearest_94 : decode cX10_nearest 94 = .ok (.aload_n 0, 1) := by decide +kernel
theorem dX10_nearest_95 : decode cX10_nearest 95 = .ok (.getfield 70, 3) := by decide +kernel
theorem dX10_nearest_98 : decode cX10_nearest 98 = .ok (.invokevirtual 193, 3) := by decide +kernel
theorem dX10_nearest_101 : decode cX10_nearest 101 = .ok (.iload_n 3, 1) := by decide +kernel
theorem dX10_nearest_102 : decode cX10_nearest 102 = .ok (.iconst (-1), 1) := by decide +kernel
theorem dX10_nearest_103 : decode cX10_nearest 103 = .ok (.if_icmp .eq 16, 3) := by decide +kernel
theorem dX10_nearest_106 : decode cX10_nearest 106 = .ok (.aload_n 0, 1) := by decide +kernel
theorem dX10_nearest_107 : decode cX10_nearest 107 = .ok (.getfield 74, 3) := by decide +kernel
theorem dX10_nearest_110 : decode cX10_nearest 110 = .ok (.invokevirtual 152, 3) := by decide +kernel
theorem dX10_nearest_113 : decode cX10_nearest 113 = .ok (.lload 4, 2) := by decide +kernel
theorem dX10_nearest_115 : decode cX10_nearest 115 = .ok (.lcmp, 1) := by decide +kernel
theorem dX10_nearest_116 : decode cX10_nearest 116 = .ok (.ifCond .ge 15, 3) := by decide +kernel
theorem dX10_nearest_119 : decode cX10_nearest 119 = .ok (.iload 6, 2) := by decide +kernel
theorem dX10_nearest_121 : decode cX10_nearest 121 = .ok (.istore_n 3, 1) := by decide +kernel
theorem dX10_nearest_122 : decode cX10_nearest 122 = .ok (.aload_n 0, 1) := by decide +kernel
theorem dX10_nearest_123 : decode cX10_nearest 123 = .ok (.getfield 74, 3) := by decide +kernel
theorem dX10_nearest_126 : decode cX10_nearest 126 = .ok (.invokevirtual 152, 3) := by decide +kernel
theorem dX10_nearest_129 : decode cX10_nearest 129 = .ok (.lstore 4, 2) := by decide +kernel
theorem dX10_nearest_131 : decode cX10_nearest 131 = .ok (.iinc 6 1, 3) := by decide +kernel
theorem dX10_nearest_134 : decode cX10_nearest 134 = .ok (.goto (-82), 3) := by decide +kernel
theorem dX10_nearest_137 : decode cX10_nearest 137 = .ok (.iload_n 3, 1) := by decide +kernel
theorem dX10_nearest_138 : decode cX10_nearest 138 = .ok (.iconst (-1), 1) := by decide +kernel
theorem dX10_nearest_139 : decode cX10_nearest 139 = .ok (.if_icmp .ne 6, 3) := by decide +kernel
theorem dX10_nearest_142 : decode cX10_nearest 142 = .ok (.bipush (-3), 2) := by decide +kernel
theorem dX10_nearest_144 : decode cX10_nearest 144 = .ok (.ireturn, 1) := by decide +kernel
theorem dX10_nearest_145 : decode cX10_nearest 145 = .ok (.iload_n 2, 1) := by decide +kernel
theorem dX10_nearest_146 : decode cX10_nearest 146 = .ok (.ifCond .ne 7, 3) := by decide +kernel
theorem dX10_nearest_149 : decode cX10_nearest 149 = .ok (.iload_n 3, 1) := by decide +kernel
theorem dX10_nearest_150 : decode cX10_nearest 150 = .ok (.goto 6, 3) := by decide +kernel
theorem dX10_nearest_153 : decode cX10_nearest 153 = .ok (.lload 4, 2) := by decide +kernel
theorem dX10_nearest_155 : decode cX10_nearest 155 = .ok (.l2i, 1) := by decide +kernel
theorem dX10_nearest_156 : decode cX10_nearest 156 = .ok (.ireturn, 1) := by decide +kernel
theorem dX10_nextDraw_0 : decode cX10_nextDraw 0 = .ok (.sipush 25173, 3) := by decide +kernel
theorem dX10_nextDraw_3 : decode cX10_nextDraw 3 = .ok (.iload_n 0, 1) := by decide +kernel
theorem dX10_nextDraw_4 : decode cX10_nextDraw 4 = .ok (.imul, 1) := by decide +kernel
theorem dX10_nextDraw_5 : decode cX10_nextDraw 5 = .ok (.sipush 13849, 3) := by decide +kernel
theorem dX10_nextDraw_8 : decode cX10_nextDraw 8 = .ok (.iadd, 1) := by decide +kernel
theorem dX10_nextDraw_9 : decode cX10_nextDraw 9 = .ok (.ldc_w 450, 3) := by decide +kernel
theorem dX10_nextDraw_12 : decode cX10_nextDraw 12 = .ok (.iand, 1) := by decide +kernel
theorem dX10_nextDraw_13 : decode cX10_nextDraw 13 = .ok (.ireturn, 1) := by decide +kernel
theorem dX10_openClasses_0 : decode cX10_openClasses 0 = .ok (.iload_n 3, 1) := by decide +kernel
theorem dX10_openClasses_1 : decode cX10_openClasses 1 = .ok (.ifCond .lt 8, 3) := by decide +kernel
theorem dX10_openClasses_4 : decode cX10_openClasses 4 = .ok (.iload_n 3, 1) := by decide +kernel
theorem dX10_openClasses_5 : decode cX10_openClasses 5 = .ok (.iconst 1, 1) := by decide +kernel
theorem dX10_openClasses_6 : decode cX10_openClasses 6 = .ok (.if_icmp .le 5, 3) := by decide +kernel
theorem dX10_openClasses_9 : decode cX10_openClasses 9 = .ok (.iconst (-1), 1) := by decide +kernel
theorem dX10_openClasses_10 : decode cX10_openClasses 10 = .ok (.ireturn, 1) := by decide +kernel
theorem dX10_openClasses_11 : decode cX10_openClasses 11 = .ok (.aload_n 0, 1) := by decide +kernel
theorem dX10_openClasses_12 : decode cX10_openClasses 12 = .ok (.iload_n 1, 1) := by decide +kernel
theorem dX10_openClasses_13 : decode cX10_openClasses 13 = .ok (.iload_n 2, 1) := by decide +kernel
theorem dX10_openClasses_14 : decode cX10_openClasses 14 = .ok (.invokevirtual 176, 3) := by decide +kernel
theorem dX10_openClasses_17 : decode cX10_openClasses 17 = .ok (.istore 4, 2) := by decide +kernel
theorem dX10_openClasses_19 : decode cX10_openClasses 19 = .ok (.iload 4, 2) := by decide +kernel
theorem dX10_openClasses_21 : decode cX10_openClasses 21 = .ok (.ifCond .eq 6, 3) := by decide +kernel
theorem dX10_openClasses_24 : decode cX10_openClasses 24 = .ok (.iload 4, 2) := by decide +kernel
theorem dX10_openClasses_26 : decode cX10_openClasses 26 = .ok (.ireturn, 1) := by decide +kernel
theorem dX10_openClasses_27 : decode cX10_openClasses 27 = .ok (.aload_n 0, 1) := by decide +kernel
theorem dX10_openClasses_28 : decode cX10_openClasses 28 = .ok (.getfield 35, 3) := by decide +kernel
theorem dX10_openClasses_31 : decode cX10_openClasses 31 = .ok (.aload_n 0, 1) := by decide +kernel
theorem dX10_openClasses_32 : decode cX10_openClasses 32 = .ok (.getfield 74, 3) := by decide +kernel
theorem dX10_openClasses_35 : decode cX10_openClasses 35 = .ok (.invokevirtual 284, 3) := by decide +kernel
theorem dX10_openClasses_38 : decode cX10_openClasses 38 = .ok (.ifCond .eq 7, 3) := by decide +kernel
theorem dX10_openClasses_41 : decode cX10_openClasses 41 = .ok (.iconst 0, 1) := by decide +kernel
theorem dX10_openClasses_42 : decode cX10_openClasses 42 = .ok (.goto 5, 3) := by decide +kernel
theorem dX10_openClasses_45 : decode cX10_openClasses 45 = .ok (.bipush (-3), 2) := by decide +kernel
theorem dX10_openClasses_47 : decode cX10_openClasses 47 = .ok (.ireturn, 1) := by decide +kernel
theorem dX10_order_0 : decode cX10_order 0 = .ok (.aload_n 0, 1) := by decide +kernel
theorem dX10_order_1 : decode cX10_order 1 = .ok (.iload_n 1, 1) := by decide +kernel
theorem dX10_order_2 : decode cX10_order 2 = .ok (.iload_n 2, 1) := by decide +kernel
theorem dX10_order_3 : decode cX10_order 3 = .ok (.invokevirtual 176, 3) := by decide +kernel
theorem dX10_order_6 : decode cX10_order 6 = .ok (.istore_n 3, 1) := by decide +kernel
theorem dX10_order_7 : decode cX10_order 7 = .ok (.iload_n 3, 1) := by decide +kernel
theorem dX10_order_8 : decode cX10_order 8 = .ok (.ifCond .eq 5, 3) := by decide +kernel
theorem dX10_order_11 : decode cX10_order 11 = .ok (.iload_n 3, 1) := by decide +kernel
theorem dX10_order_12 : decode cX10_order 12 = .ok (.ireturn, 1) := by decide +kernel
theorem dX10_order_13 : decode cX10_order 13 = .ok (.aload_n 0, 1) := by decide +kernel
theorem dX10_order_14 : decode cX10_order 14 = .ok (.getfield 35, 3) := by decide +kernel
theorem dX10_order_17 : decode cX10_order 17 = .ok (.aload_n 0, 1) := by decide +kernel
theorem dX10_order_18 : decode cX10_order 18 = .ok (.getfield 74, 3) := by decide +kernel
theorem dX10_order_21 : decode cX10_order 21 = .ok (.sipush 2000, 3) := by decide +kernel
theorem dX10_order_24 : decode cX10_order 24 = .ok (.invokevirtual 287, 3) := by decide +kernel
theorem dX10_order_27 : decode cX10_order 27 = .ok (.ifCond .ne 6, 3) := by decide +kernel
theorem dX10_order_30 : decode cX10_order 30 = .ok (.bipush (-3), 2) := by decide +kernel
theorem dX10_order_32 : decode cX10_order 32 = .ok (.ireturn, 1) := by decide +kernel
theorem dX10_order_33 : decode cX10_order 33 = .ok (.aload_n 0, 1) := by decide +kernel
theorem dX10_order_34 : decode cX10_order 34 = .ok (.getfield 28, 3) := by decide +kernel
theorem dX10_order_37 : decode cX10_order 37 = .ok (.aload_n 0, 1) := by decide +kernel
theorem dX10_order_38 : decode cX10_order 38 = .ok (.getfield 70, 3) := by decide +kernel
theorem dX10_order_41 : decode cX10_order 41 = .ok (.aload_n 0, 1) := by decide +kernel
theorem dX10_order_42 : decode cX10_order 42 = .ok (.getfield 74, 3) := by decide +kernel
theorem dX10_order_45 : decode cX10_order 45 = .ok (.invokevirtual 221, 3) := by decide +kernel
theorem dX10_order_48 : decode cX10_order 48 = .ok (.ifCond .ne 6, 3) := by decide +kernel
theorem dX10_order_51 : decode cX10_order 51 = .ok (.bipush (-4), 2) := by decide +kernel
theorem dX10_order_53 : decode cX10_order 53 = .ok (.ireturn, 1) := by decide +kernel
theorem dX10_order_54 : decode cX10_order 54 = .ok (.aload_n 0, 1) := by decide +kernel
theorem dX10_order_55 : decode cX10_order 55 = .ok (.aload_n 0, 1) := by decide +kernel
theorem dX10_order_56 : decode cX10_order 56 = .ok (.getfield 70, 3) := by decide +kernel
theorem dX10_order_59 : decode cX10_order 59 = .ok (.invokevirtual 333, 3) := by decide +kernel
theorem dX10_order_62 : decode cX10_order 62 = .ok (.ireturn, 1) := by decide +kernel
theorem dX10_orderOf_0 : decode cX10_orderOf 0 = .ok (.aload_n 0, 1) := by decide +kernel
theorem dX10_orderOf_1 : decode cX10_orderOf 1 = .ok (.getfield 35, 3) := by decide +kernel
theorem dX10_orderOf_4 : decode cX10_orderOf 4 = .ok (.aload_n 1, 1) := by decide +kernel
theorem dX10_orderOf_5 : decode cX10_orderOf 5 = .ok (.invokevirtual 270, 3) := by decide +kernel
theorem dX10_orderOf_8 : decode cX10_orderOf 8 = .ok (.aload_n 0, 1) := by decide +kernel
theorem dX10_orderOf_9 : decode cX10_orderOf 9 = .ok (.getfield 86, 3) := by decide +kernel
theorem dX10_orderOf_12 : decode cX10_orderOf 12 = .ok (.lconst 1, 1) := by decide +kernel
theorem dX10_orderOf_13 : decode cX10_orderOf 13 = .ok (.lconst 0, 1) := by decide +kernel
theorem dX10_orderOf_14 : decode cX10_orderOf 14 = .ok (.invokevirtual 122, 3) := by decide +kernel
theorem dX10_orderOf_17 : decode cX10_orderOf 17 = .ok (.aload_n 0, 1) := by decide +kernel
theorem dX10_orderOf_18 : decode cX10_orderOf 18 = .ok (.getfield 35, 3) := by decide +kernel
theorem dX10_orderOf_21 : decode cX10_orderOf 21 = .ok (.aload_n 0, 1) := by decide +kernel
theorem dX10_orderOf_22 : decode cX10_orderOf 22 = .ok (.getfield 86, 3) := by decide +kernel
theorem dX10_orderOf_25 : decode cX10_orderOf 25 = .ok (.invokevirtual 270, 3) := by decide +kernel
theorem dX10_orderOf_28 : decode cX10_orderOf 28 = .ok (.aload_n 0, 1) := by decide +kernel
theorem dX10_orderOf_29 : decode cX10_orderOf 29 = .ok (.getfield 83, 3) := by decide +kernel
theorem dX10_orderOf_32 : decode cX10_orderOf 32 = .ok (.aload_n 1, 1) := by decide +kernel
theorem dX10_orderOf_33 : decode cX10_orderOf 33 = .ok (.invokevirtual 186, 3) := by decide +kernel
theorem dX10_orderOf_36 : decode cX10_orderOf 36 = .ok (.iconst 1, 1) := by decide +kernel
theorem dX10_orderOf_37 : decode cX10_orderOf 37 = .ok (.istore_n 2, 1) := by decide +kernel
theorem dX10_orderOf_38 : decode cX10_orderOf 38 = .ok (.iload_n 2, 1) := by decide +kernel
theorem dX10_orderOf_39 : decode cX10_orderOf 39 = .ok (.sipush 2000, 3) := by decide +kernel
theorem dX10_orderOf_42 : decode cX10_orderOf 42 = .ok (.if_icmp .ge 42, 3) := by decide +kernel
theorem dX10_orderOf_45 : decode cX10_orderOf 45 = .ok (.aload_n 0, 1) := by decide +kernel
theorem dX10_orderOf_46 : decode cX10_orderOf 46 = .ok (.getfield 83, 3) := by decide +kernel
theorem dX10_orderOf_49 : decode cX10_orderOf 49 = .ok (.aload_n 0, 1) := by decide +kernel
theorem dX10_orderOf_50 : decode cX10_orderOf 50 = .ok (.getfield 86, 3) := by decide +kernel
theorem dX10_orderOf_53 : decode cX10_orderOf 53 = .ok (.invokevirtual 314, 3) := by decide +kernel
theorem dX10_orderOf_56 : decode cX10_orderOf 56 = .ok (.ifCond .ne 28, 3) := by decide +kernel
theorem dX10_orderOf_59 : decode cX10_orderOf 59 = .ok (.aload_n 0, 1) := by decide +kernel
theorem dX10_orderOf_60 : decode cX10_orderOf 60 = .ok (.getfield 83, 3) := by decide +kernel
theorem dX10_orderOf_63 : decode cX10_orderOf 63 = .ok (.aload_n 1, 1) := by decide +kernel
theorem dX10_orderOf_64 : decode cX10_orderOf 64 = .ok (.invokevirtual 196, 3) := by decide +kernel
theorem dX10_orderOf_67 : decode cX10_orderOf 67 = .ok (.aload_n 0, 1) := by decide +kernel
theorem dX10_orderOf_68 : decode cX10_orderOf 68 = .ok (.getfield 35, 3) := by decide +kernel
theorem dX10_orderOf_71 : decode cX10_orderOf 71 = .ok (.aload_n 0, 1) := by decide +kernel
theorem dX10_orderOf_72 : decode cX10_orderOf 72 = .ok (.getfield 83, 3) := by decide +kernel
theorem dX10_orderOf_75 : decode cX10_orderOf 75 = .ok (.invokevirtual 270, 3) := by decide +kernel
theorem dX10_orderOf_78 : decode cX10_orderOf 78 = .ok (.iinc 2 1, 3) := by decide +kernel
theorem dX10_orderOf_81 : decode cX10_orderOf 81 = .ok (.goto (-43), 3) := by decide +kernel
theorem dX10_orderOf_84 : decode cX10_orderOf 84 = .ok (.iload_n 2, 1) := by decide +kernel
theorem dX10_orderOf_85 : decode cX10_orderOf 85 = .ok (.ireturn, 1) := by decide +kernel
theorem dX10_part_0 : decode cX10_part 0 = .ok (.iload_n 1, 1) := by decide +kernel
theorem dX10_part_1 : decode cX10_part 1 = .ok (.ifCond .ne 10, 3) := by decide +kernel
theorem dX10_part_4 : decode cX10_part 4 = .ok (.aload_n 0, 1) := by decide +kernel
theorem dX10_part_5 : decode cX10_part 5 = .ok (.getfield 145, 3) := by decide +kernel
theorem dX10_part_8 : decode cX10_part 8 = .ok (.goto 7, 3) := by decide +kernel
theorem dX10_part_11 : decode cX10_part 11 = .ok (.aload_n 0, 1) := by decide +kernel
theorem dX10_part_12 : decode cX10_part 12 = .ok (.getfield 149, 3) := by decide +kernel
theorem dX10_part_15 : decode cX10_part 15 = .ok (.l2i, 1) := by decide +kernel
theorem dX10_part_16 : decode cX10_part 16 = .ok (.ireturn, 1) := by decide +kernel
theorem dX10_partOrNorm_0 : decode cX10_partOrNorm 0 = .ok (.iload_n 1, 1) := by decide +kernel
theorem dX10_partOrNorm_1 : decode cX10_partOrNorm 1 = .ok (.iconst 2, 1) := by decide +kernel
theorem dX10_partOrNorm_2 : decode cX10_partOrNorm 2 = .ok (.if_icmp .ne 11, 3) := by decide +kernel
theorem dX10_partOrNorm_5 : decode cX10_partOrNorm 5 = .ok (.aload_n 0, 1) := by decide +kernel
theorem dX10_partOrNorm_6 : decode cX10_partOrNorm 6 = .ok (.invokevirtual 152, 3) := by decide +kernel
theorem dX10_partOrNorm_9 : decode cX10_partOrNorm 9 = .ok (.l2i, 1) := by decide +kernel
theorem dX10_partOrNorm_10 : decode cX10_partOrNorm 10 = .ok (.goto 8, 3) := by decide +kernel
theorem dX10_partOrNorm_13 : decode cX10_partOrNorm 13 = .ok (.aload_n 0, 1) := by decide +kernel
theorem dX10_partOrNorm_14 : decode cX10_partOrNorm 14 = .ok (.iload_n 1, 1) := by decide +kernel
theorem dX10_partOrNorm_15 : decode cX10_partOrNorm 15 = .ok (.invokestatic 273, 3) := by decide +kernel
theorem dX10_partOrNorm_18 : decode cX10_partOrNorm 18 = .ok (.ireturn, 1) := by decide +kernel
theorem dX10_parting_0 : decode cX10_parting 0 = .ok (.iload_n 3, 1) := by decide +kernel
theorem dX10_parting_1 : decode cX10_parting 1 = .ok (.iconst (-1), 1) := by decide +kernel
theorem dX10_parting_2 : decode cX10_parting 2 = .ok (.if_icmp .ne 7, 3) := by decide +kernel
theorem dX10_parting_5 : decode cX10_parting 5 = .ok (.iconst 5, 1) := by decide +kernel
theorem dX10_parting_6 : decode cX10_parting 6 = .ok (.goto 4, 3) := by decide +kernel
theorem dX10_parting_9 : decode cX10_parting 9 = .ok (.iconst 1, 1) := by decide +kernel
theorem dX10_parting_10 : decode cX10_parting 10 = .ok (.istore 5, 2) := by decide +kernel
theorem dX10_parting_12 : decode cX10_parting 12 = .ok (.iload_n 3, 1) := by decide +kernel
theorem dX10_parting_13 : decode cX10_parting 13 = .ok (.iconst (-1), 1) := by decide +kernel
theorem dX10_parting_14 : decode cX10_parting 14 = .ok (.if_icmp .lt 24, 3) := by decide +kernel
theorem dX10_parting_17 : decode cX10_parting 17 = .ok (.iload 4, 2) := by decide +kernel
theorem dX10_parting_19 : decode cX10_parting 19 = .ok (.ifCond .lt 19, 3) := by decide +kernel
theorem dX10_parting_22 : decode cX10_parting 22 = .ok (.iload 4, 2) := by decide +kernel
theorem dX10_parting_24 : decode cX10_parting 24 = .ok (.iload 5, 2) := by decide +kernel
theorem dX10_parting_26 : decode cX10_parting 26 = .ok (.if_icmp .gt 12, 3) := by decide +kernel
theorem dX10_parting_29 : decode cX10_parting 29 = .ok (.aload_n 0, 1) := by decide +kernel
theorem dX10_parting_30 : decode cX10_parting 30 = .ok (.iload_n 1, 1) := by decide +kernel
theorem dX10_parting_31 : decode cX10_parting 31 = .ok (.iload_n 2, 1) := by decide +kernel
theorem dX10_parting_32 : decode cX10_parting 32 = .ok (.invokevirtual 176, 3) := by decide +kernel
theorem dX10_parting_35 : decode cX10_parting 35 = .ok (.ifCond .eq 6, 3) := by decide +kernel
theorem dX10_parting_38 : decode cX10_parting 38 = .ok (.ldc 140, 2) := by decide +kernel
theorem dX10_parting_40 : decode cX10_parting 40 = .ok (.ireturn, 1) := by decide +kernel
theorem dX10_parting_41 : decode cX10_parting 41 = .ok (.aload_n 0, 1) := by decide +kernel
theorem dX10_parting_42 : decode cX10_parting 42 = .ok (.getfield 28, 3) := by decide +kernel
theorem dX10_parting_45 : decode cX10_parting 45 = .ok (.aload_n 0, 1) := by decide +kernel
theorem dX10_parting_46 : decode cX10_parting 46 = .ok (.getfield 70, 3) := by decide +kernel
theorem dX10_parting_49 : decode cX10_parting 49 = .ok (.aload_n 0, 1) := by decide +kernel
theorem dX10_parting_50 : decode cX10_parting 50 = .ok (.getfield 74, 3) := by decide +kernel
theorem dX10_parting_53 : decode cX10_parting 53 = .ok (.invokevirtual 203, 3) := by decide +kernel
theorem dX10_parting_56 : decode cX10_parting 56 = .ok (.iload_n 3, 1) := by decide +kernel
theorem dX10_parting_57 : decode cX10_parting 57 = .ok (.aload_n 0, 1) := by decide +kernel
theorem dX10_parting_58 : decode cX10_parting 58 = .ok (.getfield 28, 3) := by decide +kernel
theorem dX10_parting_61 : decode cX10_parting 61 = .ok (.getfield 358, 3) := by decide +kernel
theorem dX10_parting_64 : decode cX10_parting 64 = .ok (.if_icmp .lt 6, 3) := by decide +kernel
theorem dX10_parting_67 : decode cX10_parting 67 = .ok (.ldc 140, 2) := by decide +kernel
theorem dX10_parting_69 : decode cX10_parting 69 = .ok (.ireturn, 1) := by decide +kernel
theorem dX10_parting_70 : decode cX10_parting 70 = .ok (.iload_n 3, 1) := by decide +kernel
theorem dX10_parting_71 : decode cX10_parting 71 = .ok (.iconst (-1), 1) := by decide +kernel
theorem dX10_parting_72 : decode cX10_parting 72 = .ok (.if_icmp .eq 25, 3) := by decide +kernel
theorem dX10_parting_75 : decode cX10_parting 75 = .ok (.aload_n 0, 1) := by decide +kernel
theorem dX10_parting_76 : decode cX10_parting 76 = .ok (.getfield 28, 3) := by decide +kernel
theorem dX10_parting_79 : decode cX10_parting 79 = .ok (.iload_n 3, 1) := by decide +kernel
theorem dX10_parting_80 : decode cX10_parting 80 = .ok (.aload_n 0, 1) := by decide +kernel
theorem dX10_parting_81 : decode cX10_parting 81 = .ok (.getfield 83, 3) := by decide +kernel
theorem dX10_parting_84 : decode cX10_parting 84 = .ok (.invokevirtual 359, 3) := by decide +kernel
theorem dX10_parting_87 : decode cX10_parting 87 = .ok (.aload_n 0, 1) := by decide +kernel
theorem dX10_parting_88 : decode cX10_parting 88 = .ok (.getfield 83, 3) := by decide +kernel
theorem dX10_parting_91 : decode cX10_parting 91 = .ok (.iload 4, 2) := by decide +kernel
theorem dX10_parting_93 : decode cX10_parting 93 = .ok (.invokestatic 273, 3) := by decide +kernel
theorem dX10_parting_96 : decode cX10_parting 96 = .ok (.ireturn, 1) := by decide +kernel
theorem dX10_parting_97 : decode cX10_parting 97 = .ok (.iload 4, 2) := by decide +kernel
theorem dX10_parting_99 : decode cX10_parting 99 = .ok (.tableswitch 57 0 3 #[29, 29, 42, 42], 29) := by decide +kernel
theorem dX10_parting_128 : decode cX10_parting 128 = .ok (.aload_n 0, 1) := by decide +kernel
theorem dX10_parting_129 : decode cX10_parting 129 = .ok (.getfield 28, 3) := by decide +kernel
theorem dX10_parting_132 : decode cX10_parting 132 = .ok (.getfield 206, 3) := by decide +kernel
theorem dX10_parting_135 : decode cX10_parting 135 = .ok (.iload 4, 2) := by decide +kernel
theorem dX10_parting_137 : decode cX10_parting 137 = .ok (.invokestatic 273, 3) := by decide +kernel
theorem dX10_parting_140 : decode cX10_parting 140 = .ok (.ireturn, 1) := by decide +kernel
theorem dX10_parting_141 : decode cX10_parting 141 = .ok (.aload_n 0, 1) := by decide +kernel
theorem dX10_parting_142 : decode cX10_parting 142 = .ok (.getfield 28, 3) := by decide +kernel
theorem dX10_parting_145 : decode cX10_parting 145 = .ok (.getfield 362, 3) := by decide +kernel
theorem dX10_parting_148 : decode cX10_parting 148 = .ok (.iload 4, 2) := by decide +kernel
theorem dX10_parting_150 : decode cX10_parting 150 = .ok (.iconst 2, 1) := by decide +kernel
theorem dX10_parting_151 : decode cX10_parting 151 = .ok (.isub, 1) := by decide +kernel
theorem dX10_parting_152 : decode cX10_parting 152 = .ok (.invokestatic 273, 3) := by decide +kernel
theorem dX10_parting_155 : decode cX10_parting 155 = .ok (.ireturn, 1) := by decide +kernel
theorem dX10_parting_156 : decode cX10_parting 156 = .ok (.aload_n 0, 1) := by decide +kernel
theorem dX10_parting_157 : decode cX10_parting 157 = .ok (.getfield 28, 3) := by decide +kernel
theorem dX10_parting_160 : decode cX10_parting 160 = .ok (.getfield 365, 3) := by decide +kernel
theorem dX10_parting_163 : decode cX10_parting 163 = .ok (.iload 4, 2) := by decide +kernel
theorem dX10_parting_165 : decode cX10_parting 165 = .ok (.iconst 4, 1) := by decide +kernel
theorem dX10_parting_166 : decode cX10_parting 166 = .ok (.isub, 1) := by decide +kernel
theorem dX10_parting_167 : decode cX10_parting 167 = .ok (.invokestatic 273, 3) := by decide +kernel
theorem dX10_parting_170 : decode cX10_parting 170 = .ok (.ireturn, 1) := by decide +kernel
theorem dX10_partings_0 : decode cX10_partings 0 = .ok (.aload_n 0, 1) := by decide +kernel
theorem dX10_partings_1 : decode cX10_partings 1 = .ok (.iload_n 1, 1) := by decide +kernel
theorem dX10_partings_2 : decode cX10_partings 2 = .ok (.iload_n 2, 1) := by decide +kernel
theorem dX10_partings_3 : decode cX10_partings 3 = .ok (.invokevirtual 176, 3) := by decide +kernel
theorem dX10_partings_6 : decode cX10_partings 6 = .ok (.istore_n 3, 1) := by decide +kernel
theorem dX10_partings_7 : decode cX10_partings 7 = .ok (.iload_n 3, 1) := by decide +kernel
theorem dX10_partings_8 : decode cX10_partings 8 = .ok (.ifCond .eq 5, 3) := by decide +kernel
theorem dX10_partings_11 : decode cX10_partings 11 = .ok (.iload_n 3, 1) := by decide +kernel
theorem dX10_partings_12 : decode cX10_partings 12 = .ok (.ireturn, 1) := by decide +kernel
theorem dX10_partings_13 : decode cX10_partings 13 = .ok (.aload_n 0, 1) := by decide +kernel
theorem dX10_partings_14 : decode cX10_partings 14 = .ok (.getfield 28, 3) := by decide +kernel
theorem dX10_partings_17 : decode cX10_partings 17 = .ok (.aload_n 0, 1) := by decide +kernel
theorem dX10_partings_18 : decode cX10_partings 18 = .ok (.getfield 70, 3) := by decide +kernel
theorem dX10_partings_21 : decode cX10_partings 21 = .ok (.aload_n 0, 1) := by decide +kernel
theorem dX10_partings_22 : decode cX10_partings 22 = .ok (.getfield 74, 3) := by decide +kernel
theorem dX10_partings_25 : decode cX10_partings 25 = .ok (.invokevirtual 203, 3) := by decide +kernel
theorem dX10_partings_28 : decode cX10_partings 28 = .ok (.aload_n 0, 1) := by decide +kernel
theorem dX10_partings_29 : decode cX10_partings 29 = .ok (.getfield 28, 3) := by decide +kernel
theorem dX10_partings_32 : decode cX10_partings 32 = .ok (.getfield 358, 3) := by decide +kernel
theorem dX10_partings_35 : decode cX10_partings 35 = .ok (.ireturn, 1) := by decide +kernel
theorem dX10_pointsOf_0 : decode cX10_pointsOf 0 = .ok (.iconst 0, 1) := by decide +kernel
theorem dX10_pointsOf_1 : decode cX10_pointsOf 1 = .ok (.istore_n 2, 1) := by decide +kernel
theorem dX10_pointsOf_2 : decode cX10_pointsOf 2 = .ok (.iconst 0, 1) := by decide +kernel
theorem dX10_pointsOf_3 : decode cX10_pointsOf 3 = .ok (.istore_n 3, 1) := by decide +kernel
theorem dX10_pointsOf_4 : decode cX10_pointsOf 4 = .ok (.iload_n 3, 1) := by decide +kernel
theorem dX10_pointsOf_5 : decode cX10_pointsOf 5 = .ok (.iload_n 1, 1) := by decide +kernel
theorem dX10_pointsOf_6 : decode cX10_pointsOf 6 = .ok (.if_icmp .ge 42, 3) := by decide +kernel
theorem dX10_pointsOf_9 : decode cX10_pointsOf 9 = .ok (.iload_n 3, 1) := by decide +kernel
theorem dX10_pointsOf_10 : decode cX10_pointsOf 10 = .ok (.iconst 1, 1) := by decide +kernel
theorem dX10_pointsOf_11 : decode cX10_pointsOf 11 = .ok (.if_icmp .gt 9, 3) := by decide +kernel
theorem dX10_pointsOf_14 : decode cX10_pointsOf 14 = .ok (.iconst 1, 1) := by decide +kernel
theorem dX10_pointsOf_15 : decode cX10_pointsOf 15 = .ok (.iload_n 3, 1) := by decide +kernel
theorem dX10_pointsOf_16 : decode cX10_pointsOf 16 = .ok (.isub, 1) := by decide +kernel
theorem dX10_pointsOf_17 : decode cX10_pointsOf 17 = .ok (.goto 8, 3) := by decide +kernel
theorem dX10_pointsOf_20 : decode cX10_pointsOf 20 = .ok (.iload_n 1, 1) := by decide +kernel
theorem dX10_pointsOf_21 : decode cX10_pointsOf 21 = .ok (.iconst 1, 1) := by decide +kernel
theorem dX10_pointsOf_22 : decode cX10_pointsOf 22 = .ok (.iadd, 1) := by decide +kernel
theorem dX10_pointsOf_23 : decode cX10_pointsOf 23 = .ok (.iload_n 3, 1) := by decide +kernel
theorem dX10_pointsOf_24 : decode cX10_pointsOf 24 = .ok (.isub, 1) := by decide +kernel
theorem dX10_pointsOf_25 : decode cX10_pointsOf 25 = .ok (.istore 4, 2) := by decide +kernel
theorem dX10_pointsOf_27 : decode cX10_pointsOf 27 = .ok (.iload_n 2, 1) := by decide +kernel
theorem dX10_pointsOf_28 : decode cX10_pointsOf 28 = .ok (.aload_n 0, 1) := by decide +kernel
theorem dX10_pointsOf_29 : decode cX10_pointsOf 29 = .ok (.iload_n 3, 1) := by decide +kernel
theorem dX10_pointsOf_30 : decode cX10_pointsOf 30 = .ok (.invokevirtual 414, 3) := by decide +kernel
theorem dX10_pointsOf_33 : decode cX10_pointsOf 33 = .ok (.aload_n 0, 1) := by decide +kernel
theorem dX10_pointsOf_34 : decode cX10_pointsOf 34 = .ok (.iload 4, 2) := by decide +kernel
theorem dX10_pointsOf_36 : decode cX10_pointsOf 36 = .ok (.invokevirtual 414, 3) := by decide +kernel
theorem dX10_pointsOf_39 : decode cX10_pointsOf 39 = .ok (.imul, 1) := by decide +kernel
theorem dX10_pointsOf_40 : decode cX10_pointsOf 40 = .ok (.iadd, 1) := by decide +kernel
theorem dX10_pointsOf_41 : decode cX10_pointsOf 41 = .ok (.istore_n 2, 1) := by decide +kernel
theorem dX10_pointsOf_42 : decode cX10_pointsOf 42 = .ok (.iinc 3 1, 3) := by decide +kernel
theorem dX10_pointsOf_45 : decode cX10_pointsOf 45 = .ok (.goto (-41), 3) := by decide +kernel
theorem dX10_pointsOf_48 : decode cX10_pointsOf 48 = .ok (.iload_n 2, 1) := by decide +kernel
theorem dX10_pointsOf_49 : decode cX10_pointsOf 49 = .ok (.ireturn, 1) := by decide +kernel
theorem dX10_power_0 : decode cX10_power 0 = .ok (.iload_n 2, 1) := by decide +kernel
theorem dX10_power_1 : decode cX10_power 1 = .ok (.ifCond .lt 10, 3) := by decide +kernel
theorem dX10_power_4 : decode cX10_power 4 = .ok (.iload_n 2, 1) := by decide +kernel
theorem dX10_power_5 : decode cX10_power 5 = .ok (.ldc_w 275, 3) := by decide +kernel
theorem dX10_power_8 : decode cX10_power 8 = .ok (.if_icmp .le 5, 3) := by decide +kernel
theorem dX10_power_11 : decode cX10_power 11 = .ok (.iconst (-1), 1) := by decide +kernel
theorem dX10_power_12 : decode cX10_power 12 = .ok (.ireturn, 1) := by decide +kernel
theorem dX10_power_13 : decode cX10_power 13 = .ok (.aload_n 0, 1) := by decide +kernel
theorem dX10_power_14 : decode cX10_power 14 = .ok (.iload_n 1, 1) := by decide +kernel
theorem dX10_power_15 : decode cX10_power 15 = .ok (.iload_n 3, 1) := by decide +kernel
theorem dX10_power_16 : decode cX10_power 16 = .ok (.iload 4, 2) := by decide +kernel
theorem dX10_power_18 : decode cX10_power 18 = .ok (.invokevirtual 266, 3) := by decide +kernel
theorem dX10_power_21 : decode cX10_power 21 = .ok (.istore 5, 2) := by decide +kernel
theorem dX10_power_23 : decode cX10_power 23 = .ok (.iload 5, 2) := by decide +kernel
theorem dX10_power_25 : decode cX10_power 25 = .ok (.ifCond .eq 6, 3) := by decide +kernel
theorem dX10_power_28 : decode cX10_power 28 = .ok (.iload 5, 2) := by decide +kernel
theorem dX10_power_30 : decode cX10_power 30 = .ok (.ireturn, 1) := by decide +kernel
theorem dX10_power_31 : decode cX10_power 31 = .ok (.aload_n 0, 1) := by decide +kernel
theorem dX10_power_32 : decode cX10_power 32 = .ok (.getfield 35, 3) := by decide +kernel
theorem dX10_power_35 : decode cX10_power 35 = .ok (.aload_n 0, 1) := by decide +kernel
theorem dX10_power_36 : decode cX10_power 36 = .ok (.getfield 70, 3) := by decide +kernel
theorem dX10_power_39 : decode cX10_power 39 = .ok (.iload_n 2, 1) := by decide +kernel
theorem dX10_power_40 : decode cX10_power 40 = .ok (.i2l, 1) := by decide +kernel
theorem dX10_power_41 : decode cX10_power 41 = .ok (.aload_n 0, 1) := by decide +kernel
theorem dX10_power_42 : decode cX10_power 42 = .ok (.getfield 83, 3) := by decide +kernel
theorem dX10_power_45 : decode cX10_power 45 = .ok (.invokevirtual 276, 3) := by decide +kernel
theorem dX10_power_48 : decode cX10_power 48 = .ok (.aload_n 0, 1) := by decide +kernel
theorem dX10_power_49 : decode cX10_power 49 = .ok (.getfield 83, 3) := by decide +kernel
theorem dX10_power_52 : decode cX10_power 52 = .ok (.iload 4, 2) := by decide +kernel
theorem dX10_power_54 : decode cX10_power 54 = .ok (.invokestatic 273, 3) := by decide +kernel
theorem dX10_power_57 : decode cX10_power 57 = .ok (.ireturn, 1) := by decide +kernel
theorem dX10_prime_0 : decode cX10_prime 0 = .ok (.iload_n 1, 1) := by decide +kernel
theorem dX10_prime_1 : decode cX10_prime 1 = .ok (.invokestatic 392, 3) := by decide +kernel
theorem dX10_prime_4 : decode cX10_prime 4 = .ok (.ifCond .eq 13, 3) := by decide +kernel
theorem dX10_prime_7 : decode cX10_prime 7 = .ok (.iload_n 2, 1) := by decide +kernel
theorem dX10_prime_8 : decode cX10_prime 8 = .ok (.ifCond .lt 9, 3) := by decide +kernel
theorem dX10_prime_11 : decode cX10_prime 11 = .ok (.iload_n 2, 1) := by decide +kernel
theorem dX10_prime_12 : decode cX10_prime 12 = .ok (.bipush 7, 2) := by decide +kernel
theorem dX10_prime_14 : decode cX10_prime 14 = .ok (.if_icmp .le 6, 3) := by decide +kernel
theorem dX10_prime_17 : decode cX10_prime 17 = .ok (.ldc 140, 2) := by decide +kernel
theorem dX10_prime_19 : decode cX10_prime 19 = .ok (.ireturn, 1) := by decide +kernel
theorem dX10_prime_20 : decode cX10_prime 20 = .ok (.iload_n 1, 1) := by decide +kernel
theorem dX10_prime_21 : decode cX10_prime 21 = .ok (.aload_n 0, 1) := by decide +kernel
theorem dX10_prime_22 : decode cX10_prime 22 = .ok (.getfield 74, 3) := by decide +kernel
theorem dX10_prime_25 : decode cX10_prime 25 = .ok (.invokestatic 395, 3) := by decide +kernel
theorem dX10_prime_28 : decode cX10_prime 28 = .ok (.iload_n 2, 1) := by decide +kernel
theorem dX10_prime_29 : decode cX10_prime 29 = .ok (.tableswitch 83 0 3 #[31, 40, 49, 70], 31) := by decide +kernel
theorem dX10_prime_60 : decode cX10_prime 60 = .ok (.aload_n 0, 1) := by decide +kernel
theorem dX10_prime_61 : decode cX10_prime 61 = .ok (.getfield 74, 3) := by decide +kernel
theorem dX10_prime_64 : decode cX10_prime 64 = .ok (.getfield 145, 3) := by decide +kernel
theorem dX10_prime_67 : decode cX10_prime 67 = .ok (.l2i, 1) := by decide +kernel
theorem dX10_prime_68 : decode cX10_prime 68 = .ok (.ireturn, 1) := by decide +kernel
theorem dX10_prime_69 : decode cX10_prime 69 = .ok (.aload_n 0, 1) := by decide +kernel
theorem dX10_prime_70 : decode cX10_prime 70 = .ok (.getfield 74, 3) := by decide +kernel
theorem dX10_prime_73 : decode cX10_prime 73 = .ok (.getfield 149, 3) := by decide +kernel
theorem dX10_prime_76 : decode cX10_prime 76 = .ok (.l2i, 1) := by decide +kernel
theorem dX10_prime_77 : decode cX10_prime 77 = .ok (.ireturn, 1) := by decide +kernel
theorem dX10_prime_78 : decode cX10_prime 78 = .ok (.ldc2_w 387, 3) := by decide +kernel
theorem dX10_prime_81 : decode cX10_prime 81 = .ok (.aload_n 0, 1) := by decide +kernel
theorem dX10_prime_82 : decode cX10_prime 82 = .ok (.getfield 74, 3) := by decide +kernel
theorem dX10_prime_85 : decode cX10_prime 85 = .ok (.getfield 145, 3) := by decide +kernel
theorem dX10_prime_88 : decode cX10_prime 88 = .ok (.lmul, 1) := by decide +kernel
theorem dX10_prime_89 : decode cX10_prime 89 = .ok (.aload_n 0, 1) := by decide +kernel
theorem dX10_prime_90 : decode cX10_prime 90 = .ok (.getfield 74, 3) := by decide +kernel
theorem dX10_prime_93 : decode cX10_prime 93 = .ok (.getfield 149, 3) := by decide +kernel
theorem dX10_prime_96 : decode cX10_prime 96 = .ok (.lsub, 1) := by decide +kernel
theorem dX10_prime_97 : decode cX10_prime 97 = .ok (.l2i, 1) := by decide +kernel
theorem dX10_prime_98 : decode cX10_prime 98 = .ok (.ireturn, 1) := by decide +kernel
theorem dX10_prime_99 : decode cX10_prime 99 = .ok (.aload_n 0, 1) := by decide +kernel
theorem dX10_prime_100 : decode cX10_prime 100 = .ok (.getfield 74, 3) := by decide +kernel
theorem dX10_prime_103 : decode cX10_prime 103 = .ok (.getfield 149, 3) := by decide +kernel
theorem dX10_prime_106 : decode cX10_prime 106 = .ok (.ldc2_w 377, 3) := by decide +kernel
theorem dX10_prime_109 : decode cX10_prime 109 = .ok (.ldiv, 1) := by decide +kernel
theorem dX10_prime_110 : decode cX10_prime 110 = .ok (.l2i, 1) := by decide +kernel
theorem dX10_prime_111 : decode cX10_prime 111 = .ok (.ireturn, 1) := by decide +kernel
theorem dX10_prime_112 : decode cX10_prime 112 = .ok (.aload_n 0, 1) := by decide +kernel
theorem dX10_prime_113 : decode cX10_prime 113 = .ok (.iload_n 1, 1) := by decide +kernel
theorem dX10_prime_114 : decode cX10_prime 114 = .ok (.invokevirtual 398, 3) := by decide +kernel
theorem dX10_prime_117 : decode cX10_prime 117 = .ok (.iload_n 2, 1) := by decide +kernel
theorem dX10_prime_118 : decode cX10_prime 118 = .ok (.tableswitch 67 4 6 #[26, 43, 60], 26) := by decide +kernel
theorem dX10_prime_144 : decode cX10_prime 144 = .ok (.aload_n 0, 1) := by decide +kernel
theorem dX10_prime_145 : decode cX10_prime 145 = .ok (.iconst 2, 1) := by decide +kernel
theorem dX10_prime_146 : decode cX10_prime 146 = .ok (.invokevirtual 324, 3) := by decide +kernel
theorem dX10_prime_149 : decode cX10_prime 149 = .ok (.ifCond .ne 7, 3) := by decide +kernel
theorem dX10_prime_152 : decode cX10_prime 152 = .ok (.iconst 1, 1) := by decide +kernel
theorem dX10_prime_153 : decode cX10_prime 153 = .ok (.goto 4, 3) := by decide +kernel
theorem dX10_prime_156 : decode cX10_prime 156 = .ok (.iconst 0, 1) := by decide +kernel
theorem dX10_prime_157 : decode cX10_prime 157 = .ok (.invokestatic 133, 3) := by decide +kernel
theorem dX10_prime_160 : decode cX10_prime 160 = .ok (.ireturn, 1) := by decide +kernel
theorem dX10_prime_161 : decode cX10_prime 161 = .ok (.aload_n 0, 1) := by decide +kernel
theorem dX10_prime_162 : decode cX10_prime 162 = .ok (.iconst 3, 1) := by decide +kernel
theorem dX10_prime_163 : decode cX10_prime 163 = .ok (.invokevirtual 324, 3) := by decide +kernel
theorem dX10_prime_166 : decode cX10_prime 166 = .ok (.ifCond .ne 7, 3) := by decide +kernel
theorem dX10_prime_169 : decode cX10_prime 169 = .ok (.iconst 1, 1) := by decide +kernel
theorem dX10_prime_170 : decode cX10_prime 170 = .ok (.goto 4, 3) := by decide +kernel
theorem dX10_prime_173 : decode cX10_prime 173 = .ok (.iconst 0, 1) := by decide +kernel
theorem dX10_prime_174 : decode cX10_prime 174 = .ok (.invokestatic 133, 3) := by decide +kernel
theorem dX10_prime_177 : decode cX10_prime 177 = .ok (.ireturn, 1) := by decide +kernel
theorem dX10_prime_178 : decode cX10_prime 178 = .ok (.aload_n 0, 1) := by decide +kernel
theorem dX10_prime_179 : decode cX10_prime 179 = .ok (.iload_n 1, 1) := by decide +kernel
theorem dX10_prime_180 : decode cX10_prime 180 = .ok (.iconst 1, 1) := by decide +kernel
theorem dX10_prime_181 : decode cX10_prime 181 = .ok (.invokevirtual 401, 3) := by decide +kernel
theorem dX10_prime_184 : decode cX10_prime 184 = .ok (.ireturn, 1) := by decide +kernel
theorem dX10_prime_185 : decode cX10_prime 185 = .ok (.aload_n 0, 1) := by decide +kernel
theorem dX10_prime_186 : decode cX10_prime 186 = .ok (.iload_n 1, 1) := by decide +kernel
theorem dX10_prime_187 : decode cX10_prime 187 = .ok (.iconst 0, 1) := by decide +kernel
theorem dX10_prime_188 : decode cX10_prime 188 = .ok (.invokevirtual 401, 3) := by decide +kernel
theorem dX10_prime_191 : decode cX10_prime 191 = .ok (.ireturn, 1) := by decide +kernel
theorem dX10_primeAt_0 : decode cX10_primeAt 0 = .ok (.iload_n 1, 1) := by decide +kernel
theorem dX10_primeAt_1 : decode cX10_primeAt 1 = .ok (.iconst (-1), 1) := by decide +kernel
theorem dX10_primeAt_2 : decode cX10_primeAt 2 = .ok (.if_icmp .ge 6, 3) := by decide +kernel
theorem dX10_primeAt_5 : decode cX10_primeAt 5 = .ok (.ldc 140, 2) := by decide +kernel
theorem dX10_primeAt_7 : decode cX10_primeAt 7 = .ok (.ireturn, 1) := by decide +kernel
theorem dX10_primeAt_8 : decode cX10_primeAt 8 = .ok (.aload_n 0, 1) := by decide +kernel
theorem dX10_primeAt_9 : decode cX10_primeAt 9 = .ok (.getfield 49, 3) := by decide +kernel
theorem dX10_primeAt_12 : decode cX10_primeAt 12 = .ok (.invokevirtual 417, 3) := by decide +kernel
theorem dX10_primeAt_15 : decode cX10_primeAt 15 = .ok (.iload_n 1, 1) := by decide +kernel
theorem dX10_primeAt_16 : decode cX10_primeAt 16 = .ok (.iconst (-1), 1) := by decide +kernel
theorem dX10_primeAt_17 : decode cX10_primeAt 17 = .ok (.if_icmp .ne 11, 3) := by decide +kernel
theorem dX10_primeAt_20 : decode cX10_primeAt 20 = .ok (.aload_n 0, 1) := by decide +kernel
theorem dX10_primeAt_21 : decode cX10_primeAt 21 = .ok (.getfield 49, 3) := by decide +kernel
theorem dX10_primeAt_24 : decode cX10_primeAt 24 = .ok (.getfield 420, 3) := by decide +kernel
theorem dX10_primeAt_27 : decode cX10_primeAt 27 = .ok (.ireturn, 1) := by decide +kernel
theorem dX10_primeAt_28 : decode cX10_primeAt 28 = .ok (.iload_n 1, 1) := by decide +kernel
theorem dX10_primeAt_29 : decode cX10_primeAt 29 = .ok (.aload_n 0, 1) := by decide +kernel
theorem dX10_primeAt_30 : decode cX10_primeAt 30 = .ok (.getfield 49, 3) := by decide +kernel
theorem dX10_primeAt_33 : decode cX10_primeAt 33 = .ok (.getfield 420, 3) := by decide +kernel
theorem dX10_primeAt_36 : decode cX10_primeAt 36 = .ok (.if_icmp .ge 12, 3) := by decide +kernel
theorem dX10_primeAt_39 : decode cX10_primeAt 39 = .ok (.iload_n 2, 1) := by decide +kernel
theorem dX10_primeAt_40 : decode cX10_primeAt 40 = .ok (.ifCond .lt 8, 3) := by decide +kernel
theorem dX10_primeAt_43 : decode cX10_primeAt 43 = .ok (.iload_n 2, 1) := by decide +kernel
theorem dX10_primeAt_44 : decode cX10_primeAt 44 = .ok (.iconst 2, 1) := by decide +kernel
theorem dX10_primeAt_45 : decode cX10_primeAt 45 = .ok (.if_icmp .le 6, 3) := by decide +kernel
theorem dX10_primeAt_48 : decode cX10_primeAt 48 = .ok (.ldc 140, 2) := by decide +kernel
theorem dX10_primeAt_50 : decode cX10_primeAt 50 = .ok (.ireturn, 1) := by decide +kernel
theorem dX10_primeAt_51 : decode cX10_primeAt 51 = .ok (.aload_n 0, 1) := by decide +kernel
theorem dX10_primeAt_52 : decode cX10_primeAt 52 = .ok (.getfield 49, 3) := by decide +kernel
theorem dX10_primeAt_55 : decode cX10_primeAt 55 = .ok (.iload_n 1, 1) := by decide +kernel
theorem dX10_primeAt_56 : decode cX10_primeAt 56 = .ok (.aload_n 0, 1) := by decide +kernel
theorem dX10_primeAt_57 : decode cX10_primeAt 57 = .ok (.getfield 83, 3) := by decide +kernel
theorem dX10_primeAt_60 : decode cX10_primeAt 60 = .ok (.invokevirtual 421, 3) := by decide +kernel
theorem dX10_primeAt_63 : decode cX10_primeAt 63 = .ok (.aload_n 0, 1) := by decide +kernel
theorem dX10_primeAt_64 : decode cX10_primeAt 64 = .ok (.getfield 83, 3) := by decide +kernel
theorem dX10_primeAt_67 : decode cX10_primeAt 67 = .ok (.iload_n 2, 1) := by decide +kernel
theorem dX10_primeAt_68 : decode cX10_primeAt 68 = .ok (.invokestatic 241, 3) := by decide +kernel
theorem dX10_primeAt_71 : decode cX10_primeAt 71 = .ok (.ireturn, 1) := by decide +kernel
theorem dX10_put_0 : decode cX10_put 0 = .ok (.aload_n 0, 1) := by decide +kernel
theorem dX10_put_1 : decode cX10_put 1 = .ok (.getfield 86, 3) := by decide +kernel
theorem dX10_put_4 : decode cX10_put 4 = .ok (.iload_n 2, 1) := by decide +kernel
theorem dX10_put_5 : decode cX10_put 5 = .ok (.i2l, 1) := by decide +kernel
theorem dX10_put_6 : decode cX10_put 6 = .ok (.iload_n 3, 1) := by decide +kernel
theorem dX10_put_7 : decode cX10_put 7 = .ok (.i2l, 1) := by decide +kernel
theorem dX10_put_8 : decode cX10_put 8 = .ok (.invokevirtual 122, 3) := by decide +kernel
theorem dX10_put_11 : decode cX10_put 11 = .ok (.iload_n 1, 1) := by decide +kernel
theorem dX10_put_12 : decode cX10_put 12 = .ok (.invokestatic 105, 3) := by decide +kernel
theorem dX10_put_15 : decode cX10_put 15 = .ok (.ifCond .eq 13, 3) := by decide +kernel
theorem dX10_put_18 : decode cX10_put 18 = .ok (.aload_n 0, 1) := by decide +kernel
theorem dX10_put_19 : decode cX10_put 19 = .ok (.getfield 86, 3) := by decide +kernel
theorem dX10_put_22 : decode cX10_put 22 = .ok (.invokevirtual 126, 3) := by decide +kernel
theorem dX10_put_25 : decode cX10_put 25 = .ok (.ifCond .ne 5, 3) := by decide +kernel
theorem dX10_put_28 : decode cX10_put 28 = .ok (.iconst 0, 1) := by decide +kernel
theorem dX10_put_29 : decode cX10_put 29 = .ok (.ireturn, 1) := by decide +kernel
theorem dX10_put_30 : decode cX10_put 30 = .ok (.aload_n 0, 1) := by decide +kernel
theorem dX10_put_31 : decode cX10_put 31 = .ok (.getfield 12, 3) := by decide +kernel
theorem dX10_put_34 : decode cX10_put 34 = .ok (.iload_n 1, 1) := by decide +kernel
theorem dX10_put_35 : decode cX10_put 35 = .ok (.iload_n 2, 1) := by decide +kernel
theorem dX10_put_36 : decode cX10_put 36 = .ok (.iload_n 3, 1) := by decide +kernel
theorem dX10_put_37 : decode cX10_put 37 = .ok (.invokevirtual 118, 3) := by decide +kernel
theorem dX10_put_40 : decode cX10_put 40 = .ok (.iconst 1, 1) := by decide +kernel
theorem dX10_put_41 : decode cX10_put 41 = .ok (.ireturn, 1) := by decide +kernel
theorem dX10_reckon_0 : decode cX10_reckon 0 = .ok (.aload_n 0, 1) := by decide +kernel
theorem dX10_reckon_1 : decode cX10_reckon 1 = .ok (.getfield 83, 3) := by decide +kernel
theorem dX10_reckon_4 : decode cX10_reckon 4 = .ok (.aload_n 0, 1) := by decide +kernel
theorem dX10_reckon_5 : decode cX10_reckon 5 = .ok (.getfield 70, 3) := by decide +kernel
theorem dX10_reckon_8 : decode cX10_reckon 8 = .ok (.invokevirtual 186, 3) := by decide +kernel
theorem dX10_reckon_11 : decode cX10_reckon 11 = .ok (.iload_n 1, 1) := by decide +kernel
theorem dX10_reckon_12 : decode cX10_reckon 12 = .ok (.tableswitch 136 0 4 #[36, 50, 64, 78, 96], 36) := by decide +kernel
theorem dX10_reckon_48 : decode cX10_reckon 48 = .ok (.aload_n 0, 1) := by decide +kernel
theorem dX10_reckon_49 : decode cX10_reckon 49 = .ok (.getfield 83, 3) := by decide +kernel
theorem dX10_reckon_52 : decode cX10_reckon 52 = .ok (.aload_n 0, 1) := by decide +kernel
theorem dX10_reckon_53 : decode cX10_reckon 53 = .ok (.getfield 74, 3) := by decide +kernel
theorem dX10_reckon_56 : decode cX10_reckon 56 = .ok (.invokevirtual 190, 3) := by decide +kernel
theorem dX10_reckon_59 : decode cX10_reckon 59 = .ok (.goto 125, 3) := by decide +kernel
theorem dX10_reckon_62 : decode cX10_reckon 62 = .ok (.aload_n 0, 1) := by decide +kernel
theorem dX10_reckon_63 : decode cX10_reckon 63 = .ok (.getfield 83, 3) := by decide +kernel
theorem dX10_reckon_66 : decode cX10_reckon 66 = .ok (.aload_n 0, 1) := by decide +kernel
theorem dX10_reckon_67 : decode cX10_reckon 67 = .ok (.getfield 74, 3) := by decide +kernel
theorem dX10_reckon_70 : decode cX10_reckon 70 = .ok (.invokevirtual 193, 3) := by decide +kernel
theorem dX10_reckon_73 : decode cX10_reckon 73 = .ok (.goto 111, 3) := by decide +kernel
theorem dX10_reckon_76 : decode cX10_reckon 76 = .ok (.aload_n 0, 1) := by decide +kernel
theorem dX10_reckon_77 : decode cX10_reckon 77 = .ok (.getfield 83, 3) := by decide +kernel
theorem dX10_reckon_80 : decode cX10_reckon 80 = .ok (.aload_n 0, 1) := by decide +kernel
theorem dX10_reckon_81 : decode cX10_reckon 81 = .ok (.getfield 74, 3) := by decide +kernel
theorem dX10_reckon_84 : decode cX10_reckon 84 = .ok (.invokevirtual 196, 3) := by decide +kernel
theorem dX10_reckon_87 : decode cX10_reckon 87 = .ok (.goto 97, 3) := by decide +kernel
theorem dX10_reckon_90 : decode cX10_reckon 90 = .ok (.aload_n 0, 1) := by decide +kernel
theorem dX10_reckon_91 : decode cX10_reckon 91 = .ok (.getfield 83, 3) := by decide +kernel
theorem dX10_reckon_94 : decode cX10_reckon 94 = .ok (.aload_n 0, 1) := by decide +kernel
theorem dX10_reckon_95 : decode cX10_reckon 95 = .ok (.getfield 70, 3) := by decide +kernel
theorem dX10_reckon_98 : decode cX10_reckon 98 = .ok (.aload_n 0, 1) := by decide +kernel
theorem dX10_reckon_99 : decode cX10_reckon 99 = .ok (.getfield 74, 3) := by decide +kernel
theorem dX10_reckon_102 : decode cX10_reckon 102 = .ok (.invokevirtual 199, 3) := by decide +kernel
theorem dX10_reckon_105 : decode cX10_reckon 105 = .ok (.goto 79, 3) := by decide +kernel
theorem dX10_reckon_108 : decode cX10_reckon 108 = .ok (.aload_n 0, 1) := by decide +kernel
theorem dX10_reckon_109 : decode cX10_reckon 109 = .ok (.getfield 86, 3) := by decide +kernel
theorem dX10_reckon_112 : decode cX10_reckon 112 = .ok (.aload_n 0, 1) := by decide +kernel
theorem dX10_reckon_113 : decode cX10_reckon 113 = .ok (.getfield 70, 3) := by decide +kernel
theorem dX10_reckon_116 : decode cX10_reckon 116 = .ok (.aload_n 0, 1) := by decide +kernel
theorem dX10_reckon_117 : decode cX10_reckon 117 = .ok (.getfield 74, 3) := by decide +kernel
theorem dX10_reckon_120 : decode cX10_reckon 120 = .ok (.invokevirtual 199, 3) := by decide +kernel
theorem dX10_reckon_123 : decode cX10_reckon 123 = .ok (.aload_n 0, 1) := by decide +kernel
theorem dX10_reckon_124 : decode cX10_reckon 124 = .ok (.getfield 86, 3) := by decide +kernel
theorem dX10_reckon_127 : decode cX10_reckon 127 = .ok (.aload_n 0, 1) := by decide +kernel
theorem dX10_reckon_128 : decode cX10_reckon 128 = .ok (.getfield 74, 3) := by decide +kernel
theorem dX10_reckon_131 : decode cX10_reckon 131 = .ok (.invokevirtual 196, 3) := by decide +kernel
theorem dX10_reckon_134 : decode cX10_reckon 134 = .ok (.aload_n 0, 1) := by decide +kernel
theorem dX10_reckon_135 : decode cX10_reckon 135 = .ok (.getfield 83, 3) := by decide +kernel
theorem dX10_reckon_138 : decode cX10_reckon 138 = .ok (.aload_n 0, 1) := by decide +kernel
theorem dX10_reckon_139 : decode cX10_reckon 139 = .ok (.getfield 86, 3) := by decide +kernel
theorem dX10_reckon_142 : decode cX10_reckon 142 = .ok (.invokevirtual 193, 3) := by decide +kernel
theorem dX10_reckon_145 : decode cX10_reckon 145 = .ok (.goto 39, 3) := by decide +kernel
theorem dX10_reckon_148 : decode cX10_reckon 148 = .ok (.aload_n 0, 1) := by decide +kernel
theorem dX10_reckon_149 : decode cX10_reckon 149 = .ok (.getfield 28, 3) := by decide +kernel
theorem dX10_reckon_152 : decode cX10_reckon 152 = .ok (.aload_n 0, 1) := by decide +kernel
theorem dX10_reckon_153 : decode cX10_reckon 153 = .ok (.getfield 70, 3) := by decide +kernel
theorem dX10_reckon_156 : decode cX10_reckon 156 = .ok (.aload_n 0, 1) := by decide +kernel
theorem dX10_reckon_157 : decode cX10_reckon 157 = .ok (.getfield 74, 3) := by decide +kernel
theorem dX10_reckon_160 : decode cX10_reckon 160 = .ok (.invokevirtual 203, 3) := by decide +kernel
theorem dX10_reckon_163 : decode cX10_reckon 163 = .ok (.aload_n 0, 1) := by decide +kernel
theorem dX10_reckon_164 : decode cX10_reckon 164 = .ok (.getfield 83, 3) := by decide +kernel
theorem dX10_reckon_167 : decode cX10_reckon 167 = .ok (.aload_n 0, 1) := by decide +kernel
theorem dX10_reckon_168 : decode cX10_reckon 168 = .ok (.getfield 28, 3) := by decide +kernel
theorem dX10_reckon_171 : decode cX10_reckon 171 = .ok (.getfield 206, 3) := by decide +kernel
theorem dX10_reckon_174 : decode cX10_reckon 174 = .ok (.invokevirtual 186, 3) := by decide +kernel
theorem dX10_reckon_177 : decode cX10_reckon 177 = .ok (.aload_n 0, 1) := by decide +kernel
theorem dX10_reckon_178 : decode cX10_reckon 178 = .ok (.getfield 83, 3) := by decide +kernel
theorem dX10_reckon_181 : decode cX10_reckon 181 = .ok (.invokevirtual 209, 3) := by decide +kernel
theorem dX10_reckon_184 : decode cX10_reckon 184 = .ok (.return_, 1) := by decide +kernel
theorem dX10_residue_0 : decode cX10_residue 0 = .ok (.aload_n 0, 1) := by decide +kernel
theorem dX10_residue_1 : decode cX10_residue 1 = .ok (.iload_n 1, 1) := by decide +kernel
theorem dX10_residue_2 : decode cX10_residue 2 = .ok (.iload_n 2, 1) := by decide +kernel
theorem dX10_residue_3 : decode cX10_residue 3 = .ok (.iload_n 3, 1) := by decide +kernel
theorem dX10_residue_4 : decode cX10_residue 4 = .ok (.invokevirtual 266, 3) := by decide +kernel
theorem dX10_residue_7 : decode cX10_residue 7 = .ok (.istore 4, 2) := by decide +kernel
theorem dX10_residue_9 : decode cX10_residue 9 = .ok (.iload 4, 2) := by decide +kernel
theorem dX10_residue_11 : decode cX10_residue 11 = .ok (.ifCond .eq 6, 3) := by decide +kernel
theorem dX10_residue_14 : decode cX10_residue 14 = .ok (.iload 4, 2) := by decide +kernel
theorem dX10_residue_16 : decode cX10_residue 16 = .ok (.ireturn, 1) := by decide +kernel
theorem dX10_residue_17 : decode cX10_residue 17 = .ok (.aload_n 0, 1) := by decide +kernel
theorem dX10_residue_18 : decode cX10_residue 18 = .ok (.getfield 35, 3) := by decide +kernel
theorem dX10_residue_21 : decode cX10_residue 21 = .ok (.aload_n 0, 1) := by decide +kernel
theorem dX10_residue_22 : decode cX10_residue 22 = .ok (.getfield 70, 3) := by decide +kernel
theorem dX10_residue_25 : decode cX10_residue 25 = .ok (.invokevirtual 270, 3) := by decide +kernel
theorem dX10_residue_28 : decode cX10_residue 28 = .ok (.aload_n 0, 1) := by decide +kernel
theorem dX10_residue_29 : decode cX10_residue 29 = .ok (.getfield 70, 3) := by decide +kernel
theorem dX10_residue_32 : decode cX10_residue 32 = .ok (.iload_n 3, 1) := by decide +kernel
theorem dX10_residue_33 : decode cX10_residue 33 = .ok (.invokestatic 273, 3) := by decide +kernel
theorem dX10_residue_36 : decode cX10_residue 36 = .ok (.ireturn, 1) := by decide +kernel
theorem dX10_ring_0 : decode cX10_ring 0 = .ok (.iload_n 1, 1) := by decide +kernel
theorem dX10_ring_1 : decode cX10_ring 1 = .ok (.ifCond .lt 19, 3) := by decide +kernel
theorem dX10_ring_4 : decode cX10_ring 4 = .ok (.iload_n 1, 1) := by decide +kernel
theorem dX10_ring_5 : decode cX10_ring 5 = .ok (.ldc_w 431, 3) := by decide +kernel
theorem dX10_ring_8 : decode cX10_ring 8 = .ok (.if_icmp .gt 12, 3) := by decide +kernel
theorem dX10_ring_11 : decode cX10_ring 11 = .ok (.iload_n 2, 1) := by decide +kernel
theorem dX10_ring_12 : decode cX10_ring 12 = .ok (.ifCond .lt 8, 3) := by decide +kernel
theorem dX10_ring_15 : decode cX10_ring 15 = .ok (.iload_n 2, 1) := by decide +kernel
theorem dX10_ring_16 : decode cX10_ring 16 = .ok (.iconst 2, 1) := by decide +kernel
theorem dX10_ring_17 : decode cX10_ring 17 = .ok (.if_icmp .le 5, 3) := by decide +kernel
theorem dX10_ring_20 : decode cX10_ring 20 = .ok (.iconst (-1), 1) := by decide +kernel
theorem dX10_ring_21 : decode cX10_ring 21 = .ok (.ireturn, 1) := by decide +kernel
theorem dX10_ring_22 : decode cX10_ring 22 = .ok (.aload_n 0, 1) := by decide +kernel
theorem dX10_ring_23 : decode cX10_ring 23 = .ok (.getfield 56, 3) := by decide +kernel
theorem dX10_ring_26 : decode cX10_ring 26 = .ok (.iload_n 1, 1) := by decide +kernel
theorem dX10_ring_27 : decode cX10_ring 27 = .ok (.iload_n 2, 1) := by decide +kernel
theorem dX10_ring_28 : decode cX10_ring 28 = .ok (.iconst (-1), 1) := by decide +kernel
theorem dX10_ring_29 : decode cX10_ring 29 = .ok (.invokevirtual 432, 3) := by decide +kernel
theorem dX10_ring_32 : decode cX10_ring 32 = .ok (.ireturn, 1) := by decide +kernel
theorem dX10_ringAt_0 : decode cX10_ringAt 0 = .ok (.iload_n 1, 1) := by decide +kernel
theorem dX10_ringAt_1 : decode cX10_ringAt 1 = .ok (.ifCond .lt 23, 3) := by decide +kernel
theorem dX10_ringAt_4 : decode cX10_ringAt 4 = .ok (.iload_n 1, 1) := by decide +kernel
theorem dX10_ringAt_5 : decode cX10_ringAt 5 = .ok (.ldc_w 431, 3) := by decide +kernel
theorem dX10_ringAt_8 : decode cX10_ringAt 8 = .ok (.if_icmp .gt 16, 3) := by decide +kernel
theorem dX10_ringAt_11 : decode cX10_ringAt 11 = .ok (.iload_n 2, 1) := by decide +kernel
theorem dX10_ringAt_12 : decode cX10_ringAt 12 = .ok (.ifCond .lt 12, 3) := by decide +kernel
theorem dX10_ringAt_15 : decode cX10_ringAt 15 = .ok (.iload_n 3, 1) := by decide +kernel
theorem dX10_ringAt_16 : decode cX10_ringAt 16 = .ok (.ifCond .lt 8, 3) := by decide +kernel
theorem dX10_ringAt_19 : decode cX10_ringAt 19 = .ok (.iload_n 3, 1) := by decide +kernel
theorem dX10_ringAt_20 : decode cX10_ringAt 20 = .ok (.iconst 1, 1) := by decide +kernel
theorem dX10_ringAt_21 : decode cX10_ringAt 21 = .ok (.if_icmp .le 6, 3) := by decide +kernel
theorem dX10_ringAt_24 : decode cX10_ringAt 24 = .ok (.ldc 140, 2) := by decide +kernel
theorem dX10_ringAt_26 : decode cX10_ringAt 26 = .ok (.ireturn, 1) := by decide +kernel
theorem dX10_ringAt_27 : decode cX10_ringAt 27 = .ok (.aload_n 0, 1) := by decide +kernel
theorem dX10_ringAt_28 : decode cX10_ringAt 28 = .ok (.getfield 56, 3) := by decide +kernel
theorem dX10_ringAt_31 : decode cX10_ringAt 31 = .ok (.iload_n 1, 1) := by decide +kernel
theorem dX10_ringAt_32 : decode cX10_ringAt 32 = .ok (.iconst 0, 1) := by decide +kernel
theorem dX10_ringAt_33 : decode cX10_ringAt 33 = .ok (.iload_n 2, 1) := by decide +kernel
theorem dX10_ringAt_34 : decode cX10_ringAt 34 = .ok (.invokevirtual 432, 3) := by decide +kernel
theorem dX10_ringAt_37 : decode cX10_ringAt 37 = .ok (.iload_n 2, 1) := by decide +kernel
theorem dX10_ringAt_38 : decode cX10_ringAt 38 = .ok (.if_icmp .gt 6, 3) := by decide +kernel
theorem dX10_ringAt_41 : decode cX10_ringAt 41 = .ok (.ldc 140, 2) := by decide +kernel
theorem dX10_ringAt_43 : decode cX10_ringAt 43 = .ok (.ireturn, 1) := by decide +kernel
theorem dX10_ringAt_44 : decode cX10_ringAt 44 = .ok (.iload_n 3, 1) := by decide +kernel
theorem dX10_ringAt_45 : decode cX10_ringAt 45 = .ok (.ifCond .ne 13, 3) := by decide +kernel
theorem dX10_ringAt_48 : decode cX10_ringAt 48 = .ok (.aload_n 0, 1) := by decide +kernel
theorem dX10_ringAt_49 : decode cX10_ringAt 49 = .ok (.getfield 56, 3) := by decide +kernel
theorem dX10_ringAt_52 : decode cX10_ringAt 52 = .ok (.getfield 444, 3) := by decide +kernel
theorem dX10_ringAt_55 : decode cX10_ringAt 55 = .ok (.goto 10, 3) := by decide +kernel
theorem dX10_ringAt_58 : decode cX10_ringAt 58 = .ok (.aload_n 0, 1) := by decide +kernel
theorem dX10_ringAt_59 : decode cX10_ringAt 59 = .ok (.getfield 56, 3) := by decide +kernel
theorem dX10_ringAt_62 : decode cX10_ringAt 62 = .ok (.getfield 447, 3) := by decide +kernel
theorem dX10_ringAt_65 : decode cX10_ringAt 65 = .ok (.ireturn, 1) := by decide +kernel
theorem dX10_root_0 : decode cX10_root 0 = .ok (.iload_n 3, 1) := by decide +kernel
theorem dX10_root_1 : decode cX10_root 1 = .ok (.iconst (-1), 1) := by decide +kernel
theorem dX10_root_2 : decode cX10_root 2 = .ok (.if_icmp .lt 12, 3) := by decide +kernel
theorem dX10_root_5 : decode cX10_root 5 = .ok (.iload_n 3, 1) := by decide +kernel
theorem dX10_root_6 : decode cX10_root 6 = .ok (.iload 4, 2) := by decide +kernel
theorem dX10_root_8 : decode cX10_root 8 = .ok (.invokestatic 298, 3) := by decide +kernel
theorem dX10_root_11 : decode cX10_root 11 = .ok (.ifCond .ne 5, 3) := by decide +kernel
theorem dX10_root_14 : decode cX10_root 14 = .ok (.iconst (-1), 1) := by decide +kernel
theorem dX10_root_15 : decode cX10_root 15 = .ok (.ireturn, 1) := by decide +kernel
theorem dX10_root_16 : decode cX10_root 16 = .ok (.aload_n 0, 1) := by decide +kernel
theorem dX10_root_17 : decode cX10_root 17 = .ok (.iload_n 1, 1) := by decide +kernel
theorem dX10_root_18 : decode cX10_root 18 = .ok (.iload_n 2, 1) := by decide +kernel
theorem dX10_root_19 : decode cX10_root 19 = .ok (.invokevirtual 176, 3) := by decide +kernel
theorem dX10_root_22 : decode cX10_root 22 = .ok (.istore 5, 2) := by decide +kernel
theorem dX10_root_24 : decode cX10_root 24 = .ok (.iload 5, 2) := by decide +kernel
theorem dX10_root_26 : decode cX10_root 26 = .ok (.ifCond .eq 6, 3) := by decide +kernel
theorem dX10_root_29 : decode cX10_root 29 = .ok (.iload 5, 2) := by decide +kernel
theorem dX10_root_31 : decode cX10_root 31 = .ok (.ireturn, 1) := by decide +kernel
theorem dX10_root_32 : decode cX10_root 32 = .ok (.aload_n 0, 1) := by decide +kernel
theorem dX10_root_33 : decode cX10_root 33 = .ok (.getfield 35, 3) := by decide +kernel
theorem dX10_root_36 : decode cX10_root 36 = .ok (.aload_n 0, 1) := by decide +kernel
theorem dX10_root_37 : decode cX10_root 37 = .ok (.getfield 74, 3) := by decide +kernel
theorem dX10_root_40 : decode cX10_root 40 = .ok (.sipush 2000, 3) := by decide +kernel
theorem dX10_root_43 : decode cX10_root 43 = .ok (.invokevirtual 287, 3) := by decide +kernel
theorem dX10_root_46 : decode cX10_root 46 = .ok (.ifCond .ne 6, 3) := by decide +kernel
theorem dX10_root_49 : decode cX10_root 49 = .ok (.bipush (-3), 2) := by decide +kernel
theorem dX10_root_51 : decode cX10_root 51 = .ok (.ireturn, 1) := by decide +kernel
theorem dX10_root_52 : decode cX10_root 52 = .ok (.aload_n 0, 1) := by decide +kernel
theorem dX10_root_53 : decode cX10_root 53 = .ok (.getfield 35, 3) := by decide +kernel
theorem dX10_root_56 : decode cX10_root 56 = .ok (.aload_n 0, 1) := by decide +kernel
theorem dX10_root_57 : decode cX10_root 57 = .ok (.getfield 70, 3) := by decide +kernel
theorem dX10_root_60 : decode cX10_root 60 = .ok (.invokevirtual 270, 3) := by decide +kernel
theorem dX10_root_63 : decode cX10_root 63 = .ok (.aload_n 0, 1) := by decide +kernel
theorem dX10_root_64 : decode cX10_root 64 = .ok (.aload_n 0, 1) := by decide +kernel
theorem dX10_root_65 : decode cX10_root 65 = .ok (.iconst 1, 1) := by decide +kernel
theorem dX10_root_66 : decode cX10_root 66 = .ok (.aload_n 0, 1) := by decide +kernel
theorem dX10_root_67 : decode cX10_root 67 = .ok (.getfield 70, 3) := by decide +kernel
theorem dX10_root_70 : decode cX10_root 70 = .ok (.iload_n 3, 1) := by decide +kernel
theorem dX10_root_71 : decode cX10_root 71 = .ok (.invokevirtual 294, 3) := by decide +kernel
theorem dX10_root_74 : decode cX10_root 74 = .ok (.iload_n 3, 1) := by decide +kernel
theorem dX10_root_75 : decode cX10_root 75 = .ok (.iload 4, 2) := by decide +kernel
theorem dX10_root_77 : decode cX10_root 77 = .ok (.invokevirtual 302, 3) := by decide +kernel
theorem dX10_root_80 : decode cX10_root 80 = .ok (.ireturn, 1) := by decide +kernel
theorem dX10_seekResidue_0 : decode cX10_seekResidue 0 = .ok (.iconst 0, 1) := by decide +kernel
theorem dX10_seekResidue_1 : decode cX10_seekResidue 1 = .ok (.istore 4, 2) := by decide +kernel
theorem dX10_seekResidue_3 : decode cX10_seekResidue 3 = .ok (.lconst 0, 1) := by decide +kernel
theorem dX10_seekResidue_4 : decode cX10_seekResidue 4 = .ok (.lstore 5, 2) := by decide +kernel
theorem dX10_seekResidue_6 : decode cX10_seekResidue 6 = .ok (.lload 5, 2) := by decide +kernel
theorem dX10_seekResidue_8 : decode cX10_seekResidue 8 = .ok (.aload_n 0, 1) := by decide +kernel
theorem dX10_seekResidue_9 : decode cX10_seekResidue 9 = .ok (.getfield 35, 3) := by decide +kernel
theorem dX10_seekResidue_12 : decode cX10_seekResidue 12 = .ok (.getfield 305, 3) := by decide +kernel
theorem dX10_seekResidue_15 : decode cX10_seekResidue 15 = .ok (.lcmp, 1) := by decide +kernel
theorem dX10_seekResidue_16 : decode cX10_seekResidue 16 = .ok (.ifCond .ge 120, 3) := by decide +kernel
theorem dX10_seekResidue_19 : decode cX10_seekResidue 19 = .ok (.lconst 0, 1) := by decide +kernel
theorem dX10_seekResidue_20 : decode cX10_seekResidue 20 = .ok (.lstore 7, 2) := by decide +kernel
theorem dX10_seekResidue_22 : decode cX10_seekResidue 22 = .ok (.lload 7, 2) := by decide +kernel
theorem dX10_seekResidue_24 : decode cX10_seekResidue 24 = .ok (.aload_n 0, 1) := by decide +kernel
theorem dX10_seekResidue_25 : decode cX10_seekResidue 25 = .ok (.getfield 35, 3) := by decide +kernel
theorem dX10_seekResidue_28 : decode cX10_seekResidue 28 = .ok (.getfield 308, 3) := by decide +kernel
theorem dX10_seekResidue_31 : decode cX10_seekResidue 31 = .ok (.lcmp, 1) := by decide +kernel
theorem dX10_seekResidue_32 : decode cX10_seekResidue 32 = .ok (.ifCond .ge 95, 3) := by decide +kernel
theorem dX10_seekResidue_35 : decode cX10_seekResidue 35 = .ok (.aload_n 0, 1) := by decide +kernel
theorem dX10_seekResidue_36 : decode cX10_seekResidue 36 = .ok (.getfield 83, 3) := by decide +kernel
theorem dX10_seekResidue_39 : decode cX10_seekResidue 39 = .ok (.lload 7, 2) := by decide +kernel
theorem dX10_seekResidue_41 : decode cX10_seekResidue 41 = .ok (.lload 5, 2) := by decide +kernel
theorem dX10_seekResidue_43 : decode cX10_seekResidue 43 = .ok (.invokevirtual 122, 3) := by decide +kernel
theorem dX10_seekResidue_46 : decode cX10_seekResidue 46 = .ok (.iload_n 1, 1) := by decide +kernel
theorem dX10_seekResidue_47 : decode cX10_seekResidue 47 = .ok (.ifCond .eq 13, 3) := by decide +kernel
theorem dX10_seekResidue_50 : decode cX10_seekResidue 50 = .ok (.aload_n 0, 1) := by decide +kernel
theorem dX10_seekResidue_51 : decode cX10_seekResidue 51 = .ok (.getfield 83, 3) := by decide +kernel
theorem dX10_seekResidue_54 : decode cX10_seekResidue 54 = .ok (.invokevirtual 311, 3) := by decide +kernel
theorem dX10_seekResidue_57 : decode cX10_seekResidue 57 = .ok (.goto 14, 3) := by decide +kernel
theorem dX10_seekResidue_60 : decode cX10_seekResidue 60 = .ok (.aload_n 0, 1) := by decide +kernel
theorem dX10_seekResidue_61 : decode cX10_seekResidue 61 = .ok (.getfield 83, 3) := by decide +kernel
theorem dX10_seekResidue_64 : decode cX10_seekResidue 64 = .ok (.aload_n 0, 1) := by decide +kernel
theorem dX10_seekResidue_65 : decode cX10_seekResidue 65 = .ok (.getfield 70, 3) := by decide +kernel
theorem dX10_seekResidue_68 : decode cX10_seekResidue 68 = .ok (.invokevirtual 196, 3) := by decide +kernel
theorem dX10_seekResidue_71 : decode cX10_seekResidue 71 = .ok (.aload_n 0, 1) := by decide +kernel
theorem dX10_seekResidue_72 : decode cX10_seekResidue 72 = .ok (.getfield 35, 3) := by decide +kernel
theorem dX10_seekResidue_75 : decode cX10_seekResidue 75 = .ok (.aload_n 0, 1) := by decide +kernel
theorem dX10_seekResidue_76 : decode cX10_seekResidue 76 = .ok (.getfield 83, 3) := by decide +kernel
theorem dX10_seekResidue_79 : decode cX10_seekResidue 79 = .ok (.invokevirtual 270, 3) := by decide +kernel
theorem dX10_seekResidue_82 : decode cX10_seekResidue 82 = .ok (.aload_n 0, 1) := by decide +kernel
theorem dX10_seekResidue_83 : decode cX10_seekResidue 83 = .ok (.getfield 83, 3) := by decide +kernel
theorem dX10_seekResidue_86 : decode cX10_seekResidue 86 = .ok (.aload_n 2, 1) := by decide +kernel
theorem dX10_seekResidue_87 : decode cX10_seekResidue 87 = .ok (.invokevirtual 314, 3) := by decide +kernel
theorem dX10_seekResidue_90 : decode cX10_seekResidue 90 = .ok (.ifCond .eq 28, 3) := by decide +kernel
theorem dX10_seekResidue_93 : decode cX10_seekResidue 93 = .ok (.iinc 4 1, 3) := by decide +kernel
theorem dX10_seekResidue_96 : decode cX10_seekResidue 96 = .ok (.iload 4, 2) := by decide +kernel
theorem dX10_seekResidue_98 : decode cX10_seekResidue 98 = .ok (.iconst 1, 1) := by decide +kernel
theorem dX10_seekResidue_99 : decode cX10_seekResidue 99 = .ok (.isub, 1) := by decide +kernel
theorem dX10_seekResidue_100 : decode cX10_seekResidue 100 = .ok (.iload_n 3, 1) := by decide +kernel
theorem dX10_seekResidue_101 : decode cX10_seekResidue 101 = .ok (.if_icmp .ne 17, 3) := by decide +kernel
theorem dX10_seekResidue_104 : decode cX10_seekResidue 104 = .ok (.aload_n 0, 1) := by decide +kernel
theorem dX10_seekResidue_105 : decode cX10_seekResidue 105 = .ok (.getfield 83, 3) := by decide +kernel
theorem dX10_seekResidue_108 : decode cX10_seekResidue 108 = .ok (.lload 7, 2) := by decide +kernel
theorem dX10_seekResidue_110 : decode cX10_seekResidue 110 = .ok (.lload 5, 2) := by decide +kernel
theorem dX10_seekResidue_112 : decode cX10_seekResidue 112 = .ok (.invokevirtual 122, 3) := by decide +kernel
theorem dX10_seekResidue_115 : decode cX10_seekResidue 115 = .ok (.iload 4, 2) := by decide +kernel
theorem dX10_seekResidue_117 : decode cX10_seekResidue 117 = .ok (.ireturn, 1) := by decide +kernel
theorem dX10_seekResidue_118 : decode cX10_seekResidue 118 = .ok (.lload 7, 2) := by decide +kernel
theorem dX10_seekResidue_120 : decode cX10_seekResidue 120 = .ok (.lconst 1, 1) := by decide +kernel
theorem dX10_seekResidue_121 : decode cX10_seekResidue 121 = .ok (.ladd, 1) := by decide +kernel
theorem dX10_seekResidue_122 : decode cX10_seekResidue 122 = .ok (.lstore 7, 2) := by decide +kernel
theorem dX10_seekResidue_124 : decode cX10_seekResidue 124 = .ok (.goto (-102), 3) := by decide +kernel
theorem dX10_seekResidue_127 : decode cX10_seekResidue 127 = .ok (.lload 5, 2) := by decide +kernel
theorem dX10_seekResidue_129 : decode cX10_seekResidue 129 = .ok (.lconst 1, 1) := by decide +kernel
theorem dX10_seekResidue_130 : decode cX10_seekResidue 130 = .ok (.ladd, 1) := by decide +kernel
theorem dX10_seekResidue_131 : decode cX10_seekResidue 131 = .ok (.lstore 5, 2) := by decide +kernel
theorem dX10_seekResidue_133 : decode cX10_seekResidue 133 = .ok (.goto (-127), 3) := by decide +kernel
theorem dX10_seekResidue_136 : decode cX10_seekResidue 136 = .ok (.iload 4, 2) := by decide +kernel
theorem dX10_seekResidue_138 : decode cX10_seekResidue 138 = .ok (.ireturn, 1) := by decide +kernel
theorem dX10_sign_0 : decode cX10_sign 0 = .ok (.aload_n 0, 1) := by decide +kernel
theorem dX10_sign_1 : decode cX10_sign 1 = .ok (.iload_n 1, 1) := by decide +kernel
theorem dX10_sign_2 : decode cX10_sign 2 = .ok (.iload_n 2, 1) := by decide +kernel
theorem dX10_sign_3 : decode cX10_sign 3 = .ok (.invokevirtual 176, 3) := by decide +kernel
theorem dX10_sign_6 : decode cX10_sign 6 = .ok (.istore_n 3, 1) := by decide +kernel
theorem dX10_sign_7 : decode cX10_sign 7 = .ok (.iload_n 3, 1) := by decide +kernel
theorem dX10_sign_8 : decode cX10_sign 8 = .ok (.ifCond .eq 5, 3) := by decide +kernel
theorem dX10_sign_11 : decode cX10_sign 11 = .ok (.iload_n 3, 1) := by decide +kernel
theorem dX10_sign_12 : decode cX10_sign 12 = .ok (.ireturn, 1) := by decide +kernel
theorem dX10_sign_13 : decode cX10_sign 13 = .ok (.aload_n 0, 1) := by decide +kernel
theorem dX10_sign_14 : decode cX10_sign 14 = .ok (.getfield 74, 3) := by decide +kernel
theorem dX10_sign_17 : decode cX10_sign 17 = .ok (.invokestatic 259, 3) := by decide +kernel
theorem dX10_sign_20 : decode cX10_sign 20 = .ok (.ifCond .eq 18, 3) := by decide +kernel
theorem dX10_sign_23 : decode cX10_sign 23 = .ok (.aload_n 0, 1) := by decide +kernel
theorem dX10_sign_24 : decode cX10_sign 24 = .ok (.aload_n 0, 1) := by decide +kernel
theorem dX10_sign_25 : decode cX10_sign 25 = .ok (.getfield 70, 3) := by decide +kernel
theorem dX10_sign_28 : decode cX10_sign 28 = .ok (.aload_n 0, 1) := by decide +kernel
theorem dX10_sign_29 : decode cX10_sign 29 = .ok (.getfield 74, 3) := by decide +kernel
theorem dX10_sign_32 : decode cX10_sign 32 = .ok (.invokevirtual 379, 3) := by decide +kernel
theorem dX10_sign_35 : decode cX10_sign 35 = .ok (.goto 5, 3) := by decide +kernel
theorem dX10_sign_38 : decode cX10_sign 38 = .ok (.bipush (-3), 2) := by decide +kernel
theorem dX10_sign_40 : decode cX10_sign 40 = .ok (.ireturn, 1) := by decide +kernel
theorem dX10_signBy_0 : decode cX10_signBy 0 = .ok (.iload_n 3, 1) := by decide +kernel
theorem dX10_signBy_1 : decode cX10_signBy 1 = .ok (.ifCond .ge 5, 3) := by decide +kernel
theorem dX10_signBy_4 : decode cX10_signBy 4 = .ok (.iconst (-1), 1) := by decide +kernel
theorem dX10_signBy_5 : decode cX10_signBy 5 = .ok (.ireturn, 1) := by decide +kernel
theorem dX10_signBy_6 : decode cX10_signBy 6 = .ok (.aload_n 0, 1) := by decide +kernel
theorem dX10_signBy_7 : decode cX10_signBy 7 = .ok (.iload_n 1, 1) := by decide +kernel
theorem dX10_signBy_8 : decode cX10_signBy 8 = .ok (.iload_n 2, 1) := by decide +kernel
theorem dX10_signBy_9 : decode cX10_signBy 9 = .ok (.invokevirtual 176, 3) := by decide +kernel
theorem dX10_signBy_12 : decode cX10_signBy 12 = .ok (.istore 4, 2) := by decide +kernel
theorem dX10_signBy_14 : decode cX10_signBy 14 = .ok (.iload 4, 2) := by decide +kernel
theorem dX10_signBy_16 : decode cX10_signBy 16 = .ok (.ifCond .eq 6, 3) := by decide +kernel
theorem dX10_signBy_19 : decode cX10_signBy 19 = .ok (.iload 4, 2) := by decide +kernel
theorem dX10_signBy_21 : decode cX10_signBy 21 = .ok (.ireturn, 1) := by decide +kernel
theorem dX10_signBy_22 : decode cX10_signBy 22 = .ok (.aload_n 0, 1) := by decide +kernel
theorem dX10_signBy_23 : decode cX10_signBy 23 = .ok (.getfield 74, 3) := by decide +kernel
theorem dX10_signBy_26 : decode cX10_signBy 26 = .ok (.invokestatic 259, 3) := by decide +kernel
theorem dX10_signBy_29 : decode cX10_signBy 29 = .ok (.ifCond .ne 6, 3) := by decide +kernel
theorem dX10_signBy_32 : decode cX10_signBy 32 = .ok (.bipush (-3), 2) := by decide +kernel
theorem dX10_signBy_34 : decode cX10_signBy 34 = .ok (.ireturn, 1) := by decide +kernel
theorem dX10_signBy_35 : decode cX10_signBy 35 = .ok (.aload_n 0, 1) := by decide +kernel
theorem dX10_signBy_36 : decode cX10_signBy 36 = .ok (.getfield 42, 3) := by decide +kernel
theorem dX10_signBy_39 : decode cX10_signBy 39 = .ok (.aload_n 0, 1) := by decide +kernel
theorem dX10_signBy_40 : decode cX10_signBy 40 = .ok (.getfield 74, 3) := by decide +kernel
theorem dX10_signBy_43 : decode cX10_signBy 43 = .ok (.invokevirtual 228, 3) := by decide +kernel
theorem dX10_signBy_46 : decode cX10_signBy 46 = .ok (.iload_n 3, 1) := by decide +kernel
theorem dX10_signBy_47 : decode cX10_signBy 47 = .ok (.aload_n 0, 1) := by decide +kernel
theorem dX10_signBy_48 : decode cX10_signBy 48 = .ok (.getfield 42, 3) := by decide +kernel
theorem dX10_signBy_51 : decode cX10_signBy 51 = .ok (.getfield 231, 3) := by decide +kernel
theorem dX10_signBy_54 : decode cX10_signBy 54 = .ok (.if_icmp .lt 6, 3) := by decide +kernel
theorem dX10_signBy_57 : decode cX10_signBy 57 = .ok (.bipush (-4), 2) := by decide +kernel
theorem dX10_signBy_59 : decode cX10_signBy 59 = .ok (.ireturn, 1) := by decide +kernel
theorem dX10_signBy_60 : decode cX10_signBy 60 = .ok (.aload_n 0, 1) := by decide +kernel
theorem dX10_signBy_61 : decode cX10_signBy 61 = .ok (.getfield 42, 3) := by decide +kernel
theorem dX10_signBy_64 : decode cX10_signBy 64 = .ok (.iload_n 3, 1) := by decide +kernel
theorem dX10_signBy_65 : decode cX10_signBy 65 = .ok (.aload_n 0, 1) := by decide +kernel
theorem dX10_signBy_66 : decode cX10_signBy 66 = .ok (.getfield 86, 3) := by decide +kernel
theorem dX10_signBy_69 : decode cX10_signBy 69 = .ok (.invokevirtual 240, 3) := by decide +kernel
theorem dX10_signBy_72 : decode cX10_signBy 72 = .ok (.aload_n 0, 1) := by decide +kernel
theorem dX10_signBy_73 : decode cX10_signBy 73 = .ok (.aload_n 0, 1) := by decide +kernel
theorem dX10_signBy_74 : decode cX10_signBy 74 = .ok (.getfield 70, 3) := by decide +kernel
theorem dX10_signBy_77 : decode cX10_signBy 77 = .ok (.aload_n 0, 1) := by decide +kernel
theorem dX10_signBy_78 : decode cX10_signBy 78 = .ok (.getfield 86, 3) := by decide +kernel
theorem dX10_signBy_81 : decode cX10_signBy 81 = .ok (.invokevirtual 262, 3) := by decide +kernel
theorem dX10_signBy_84 : decode cX10_signBy 84 = .ok (.ireturn, 1) := by decide +kernel
theorem dX10_signByPrime_0 : decode cX10_signByPrime 0 = .ok (.aload_n 0, 1) := by decide +kernel
theorem dX10_signByPrime_1 : decode cX10_signByPrime 1 = .ok (.getfield 35, 3) := by decide +kernel
theorem dX10_signByPrime_4 : decode cX10_signByPrime 4 = .ok (.aload_n 2, 1) := by decide +kernel
theorem dX10_signByPrime_5 : decode cX10_signByPrime 5 = .ok (.invokevirtual 284, 3) := by decide +kernel
theorem dX10_signByPrime_8 : decode cX10_signByPrime 8 = .ok (.pop, 1) := by decide +kernel
theorem dX10_signByPrime_9 : decode cX10_signByPrime 9 = .ok (.aload_n 0, 1) := by decide +kernel
theorem dX10_signByPrime_10 : decode cX10_signByPrime 10 = .ok (.getfield 35, 3) := by decide +kernel
theorem dX10_signByPrime_13 : decode cX10_signByPrime 13 = .ok (.aload_n 1, 1) := by decide +kernel
theorem dX10_signByPrime_14 : decode cX10_signByPrime 14 = .ok (.aload_n 2, 1) := by decide +kernel
theorem dX10_signByPrime_15 : decode cX10_signByPrime 15 = .ok (.invokevirtual 152, 3) := by decide +kernel
theorem dX10_signByPrime_18 : decode cX10_signByPrime 18 = .ok (.lconst 1, 1) := by decide +kernel
theorem dX10_signByPrime_19 : decode cX10_signByPrime 19 = .ok (.lsub, 1) := by decide +kernel
theorem dX10_signByPrime_20 : decode cX10_signByPrime 20 = .ok (.ldc2_w 377, 3) := by decide +kernel
theorem dX10_signByPrime_23 : decode cX10_signByPrime 23 = .ok (.ldiv, 1) := by decide +kernel
theorem dX10_signByPrime_24 : decode cX10_signByPrime 24 = .ok (.aload_n 0, 1) := by decide +kernel
theorem dX10_signByPrime_25 : decode cX10_signByPrime 25 = .ok (.getfield 83, 3) := by decide +kernel
theorem dX10_signByPrime_28 : decode cX10_signByPrime 28 = .ok (.invokevirtual 276, 3) := by decide +kernel
theorem dX10_signByPrime_31 : decode cX10_signByPrime 31 = .ok (.aload_n 0, 1) := by decide +kernel
theorem dX10_signByPrime_32 : decode cX10_signByPrime 32 = .ok (.getfield 83, 3) := by decide +kernel
theorem dX10_signByPrime_35 : decode cX10_signByPrime 35 = .ok (.invokevirtual 170, 3) := by decide +kernel
theorem dX10_signByPrime_38 : decode cX10_signByPrime 38 = .ok (.ifCond .eq 5, 3) := by decide +kernel
theorem dX10_signByPrime_41 : decode cX10_signByPrime 41 = .ok (.iconst 3, 1) := by decide +kernel
theorem dX10_signByPrime_42 : decode cX10_signByPrime 42 = .ok (.ireturn, 1) := by decide +kernel
theorem dX10_signByPrime_43 : decode cX10_signByPrime 43 = .ok (.aload_n 0, 1) := by decide +kernel
theorem dX10_signByPrime_44 : decode cX10_signByPrime 44 = .ok (.getfield 83, 3) := by decide +kernel
theorem dX10_signByPrime_47 : decode cX10_signByPrime 47 = .ok (.lconst 1, 1) := by decide +kernel
theorem dX10_signByPrime_48 : decode cX10_signByPrime 48 = .ok (.lconst 0, 1) := by decide +kernel
theorem dX10_signByPrime_49 : decode cX10_signByPrime 49 = .ok (.invokevirtual 389, 3) := by decide +kernel
theorem dX10_signByPrime_52 : decode cX10_signByPrime 52 = .ok (.ifCond .eq 5, 3) := by decide +kernel
theorem dX10_signByPrime_55 : decode cX10_signByPrime 55 = .ok (.iconst 0, 1) := by decide +kernel
theorem dX10_signByPrime_56 : decode cX10_signByPrime 56 = .ok (.ireturn, 1) := by decide +kernel
theorem dX10_signByPrime_57 : decode cX10_signByPrime 57 = .ok (.aload_n 0, 1) := by decide +kernel
theorem dX10_signByPrime_58 : decode cX10_signByPrime 58 = .ok (.getfield 80, 3) := by decide +kernel
theorem dX10_signByPrime_61 : decode cX10_signByPrime 61 = .ok (.lconst 0, 1) := by decide +kernel
theorem dX10_signByPrime_62 : decode cX10_signByPrime 62 = .ok (.lconst 1, 1) := by decide +kernel
theorem dX10_signByPrime_63 : decode cX10_signByPrime 63 = .ok (.invokevirtual 122, 3) := by decide +kernel
theorem dX10_signByPrime_66 : decode cX10_signByPrime 66 = .ok (.aload_n 0, 1) := by decide +kernel
theorem dX10_signByPrime_67 : decode cX10_signByPrime 67 = .ok (.getfield 35, 3) := by decide +kernel
theorem dX10_signByPrime_70 : decode cX10_signByPrime 70 = .ok (.aload_n 0, 1) := by decide +kernel
theorem dX10_signByPrime_71 : decode cX10_signByPrime 71 = .ok (.getfield 80, 3) := by decide +kernel
theorem dX10_signByPrime_74 : decode cX10_signByPrime 74 = .ok (.invokevirtual 270, 3) := by decide +kernel
theorem dX10_signByPrime_77 : decode cX10_signByPrime 77 = .ok (.aload_n 0, 1) := by decide +kernel
theorem dX10_signByPrime_78 : decode cX10_signByPrime 78 = .ok (.getfield 83, 3) := by decide +kernel
theorem dX10_signByPrime_81 : decode cX10_signByPrime 81 = .ok (.aload_n 0, 1) := by decide +kernel
theorem dX10_signByPrime_82 : decode cX10_signByPrime 82 = .ok (.getfield 80, 3) := by decide +kernel
theorem dX10_signByPrime_85 : decode cX10_signByPrime 85 = .ok (.invokevirtual 314, 3) := by decide +kernel
theorem dX10_signByPrime_88 : decode cX10_signByPrime 88 = .ok (.ifCond .eq 7, 3) := by decide +kernel
theorem dX10_signByPrime_91 : decode cX10_signByPrime 91 = .ok (.iconst 1, 1) := by decide +kernel
theorem dX10_signByPrime_92 : decode cX10_signByPrime 92 = .ok (.goto 4, 3) := by decide +kernel
theorem dX10_signByPrime_95 : decode cX10_signByPrime 95 = .ok (.iconst 2, 1) := by decide +kernel
theorem dX10_signByPrime_96 : decode cX10_signByPrime 96 = .ok (.ireturn, 1) := by decide +kernel
theorem dX10_signOf_0 : decode cX10_signOf 0 = .ok (.aload_n 0, 1) := by decide +kernel
theorem dX10_signOf_1 : decode cX10_signOf 1 = .ok (.getfield 42, 3) := by decide +kernel
theorem dX10_signOf_4 : decode cX10_signOf 4 = .ok (.aload_n 2, 1) := by decide +kernel
theorem dX10_signOf_5 : decode cX10_signOf 5 = .ok (.invokevirtual 228, 3) := by decide +kernel
theorem dX10_signOf_8 : decode cX10_signOf 8 = .ok (.iconst 0, 1) := by decide +kernel
theorem dX10_signOf_9 : decode cX10_signOf 9 = .ok (.istore_n 3, 1) := by decide +kernel
theorem dX10_signOf_10 : decode cX10_signOf 10 = .ok (.iconst 0, 1) := by decide +kernel
theorem dX10_signOf_11 : decode cX10_signOf 11 = .ok (.istore 4, 2) := by decide +kernel
theorem dX10_signOf_13 : decode cX10_signOf 13 = .ok (.iload 4, 2) := by decide +kernel
theorem dX10_signOf_15 : decode cX10_signOf 15 = .ok (.aload_n 0, 1) := by decide +kernel
theorem dX10_signOf_16 : decode cX10_signOf 16 = .ok (.getfield 42, 3) := by decide +kernel
theorem dX10_signOf_19 : decode cX10_signOf 19 = .ok (.getfield 231, 3) := by decide +kernel
theorem dX10_signOf_22 : decode cX10_signOf 22 = .ok (.if_icmp .ge 46, 3) := by decide +kernel
theorem dX10_signOf_25 : decode cX10_signOf 25 = .ok (.aload_n 0, 1) := by decide +kernel
theorem dX10_signOf_26 : decode cX10_signOf 26 = .ok (.getfield 42, 3) := by decide +kernel
theorem dX10_signOf_29 : decode cX10_signOf 29 = .ok (.iload 4, 2) := by decide +kernel
theorem dX10_signOf_31 : decode cX10_signOf 31 = .ok (.aload_n 0, 1) := by decide +kernel
theorem dX10_signOf_32 : decode cX10_signOf 32 = .ok (.getfield 86, 3) := by decide +kernel
theorem dX10_signOf_35 : decode cX10_signOf 35 = .ok (.invokevirtual 240, 3) := by decide +kernel
theorem dX10_signOf_38 : decode cX10_signOf 38 = .ok (.aload_n 0, 1) := by decide +kernel
theorem dX10_signOf_39 : decode cX10_signOf 39 = .ok (.aload_n 1, 1) := by decide +kernel
theorem dX10_signOf_40 : decode cX10_signOf 40 = .ok (.aload_n 0, 1) := by decide +kernel
theorem dX10_signOf_41 : decode cX10_signOf 41 = .ok (.getfield 86, 3) := by decide +kernel
theorem dX10_signOf_44 : decode cX10_signOf 44 = .ok (.invokevirtual 262, 3) := by decide +kernel
theorem dX10_signOf_47 : decode cX10_signOf 47 = .ok (.istore 5, 2) := by decide +kernel
theorem dX10_signOf_49 : decode cX10_signOf 49 = .ok (.iload 5, 2) := by decide +kernel
theorem dX10_signOf_51 : decode cX10_signOf 51 = .ok (.iconst 3, 1) := by decide +kernel
theorem dX10_signOf_52 : decode cX10_signOf 52 = .ok (.if_icmp .ne 5, 3) := by decide +kernel
theorem dX10_signOf_55 : decode cX10_signOf 55 = .ok (.iconst 3, 1) := by decide +kernel
theorem dX10_signOf_56 : decode cX10_signOf 56 = .ok (.ireturn, 1) := by decide +kernel
theorem dX10_signOf_57 : decode cX10_signOf 57 = .ok (.iload_n 3, 1) := by decide +kernel
theorem dX10_signOf_58 : decode cX10_signOf 58 = .ok (.iload 5, 2) := by decide +kernel
theorem dX10_signOf_60 : decode cX10_signOf 60 = .ok (.iadd, 1) := by decide +kernel
theorem dX10_signOf_61 : decode cX10_signOf 61 = .ok (.istore_n 3, 1) := by decide +kernel
theorem dX10_signOf_62 : decode cX10_signOf 62 = .ok (.iinc 4 1, 3) := by decide +kernel
theorem dX10_signOf_65 : decode cX10_signOf 65 = .ok (.goto (-52), 3) := by decide +kernel
theorem dX10_signOf_68 : decode cX10_signOf 68 = .ok (.iload_n 3, 1) := by decide +kernel
theorem dX10_signOf_69 : decode cX10_signOf 69 = .ok (.iconst 3, 1) := by decide +kernel
theorem dX10_signOf_70 : decode cX10_signOf 70 = .ok (.irem, 1) := by decide +kernel
theorem dX10_signOf_71 : decode cX10_signOf 71 = .ok (.ireturn, 1) := by decide +kernel
theorem dX10_split_0 : decode cX10_split 0 = .ok (.iload_n 1, 1) := by decide +kernel
theorem dX10_split_1 : decode cX10_split 1 = .ok (.invokestatic 392, 3) := by decide +kernel
theorem dX10_split_4 : decode cX10_split 4 = .ok (.ifCond .eq 10, 3) := by decide +kernel
theorem dX10_split_7 : decode cX10_split 7 = .ok (.iload_n 2, 1) := by decide +kernel
theorem dX10_split_8 : decode cX10_split 8 = .ok (.invokestatic 105, 3) := by decide +kernel
theorem dX10_split_11 : decode cX10_split 11 = .ok (.ifCond .ne 5, 3) := by decide +kernel
theorem dX10_split_14 : decode cX10_split 14 = .ok (.iconst (-1), 1) := by decide +kernel
theorem dX10_split_15 : decode cX10_split 15 = .ok (.ireturn, 1) := by decide +kernel
theorem dX10_split_16 : decode cX10_split 16 = .ok (.iload_n 1, 1) := by decide +kernel
theorem dX10_split_17 : decode cX10_split 17 = .ok (.aload_n 0, 1) := by decide +kernel
theorem dX10_split_18 : decode cX10_split 18 = .ok (.getfield 83, 3) := by decide +kernel
theorem dX10_split_21 : decode cX10_split 21 = .ok (.invokestatic 395, 3) := by decide +kernel
theorem dX10_split_24 : decode cX10_split 24 = .ok (.aload_n 0, 1) := by decide +kernel
theorem dX10_split_25 : decode cX10_split 25 = .ok (.getfield 12, 3) := by decide +kernel
theorem dX10_split_28 : decode cX10_split 28 = .ok (.iload_n 2, 1) := by decide +kernel
theorem dX10_split_29 : decode cX10_split 29 = .ok (.aload_n 0, 1) := by decide +kernel
theorem dX10_split_30 : decode cX10_split 30 = .ok (.getfield 83, 3) := by decide +kernel
theorem dX10_split_33 : decode cX10_split 33 = .ok (.getfield 145, 3) := by decide +kernel
theorem dX10_split_36 : decode cX10_split 36 = .ok (.l2i, 1) := by decide +kernel
theorem dX10_split_37 : decode cX10_split 37 = .ok (.aload_n 0, 1) := by decide +kernel
theorem dX10_split_38 : decode cX10_split 38 = .ok (.getfield 83, 3) := by decide +kernel
theorem dX10_split_41 : decode cX10_split 41 = .ok (.getfield 149, 3) := by decide +kernel
theorem dX10_split_44 : decode cX10_split 44 = .ok (.l2i, 1) := by decide +kernel
theorem dX10_split_45 : decode cX10_split 45 = .ok (.invokevirtual 118, 3) := by decide +kernel
theorem dX10_split_48 : decode cX10_split 48 = .ok (.aload_n 0, 1) := by decide +kernel
theorem dX10_split_49 : decode cX10_split 49 = .ok (.getfield 83, 3) := by decide +kernel
theorem dX10_split_52 : decode cX10_split 52 = .ok (.getfield 149, 3) := by decide +kernel
theorem dX10_split_55 : decode cX10_split 55 = .ok (.l2i, 1) := by decide +kernel
theorem dX10_split_56 : decode cX10_split 56 = .ok (.ireturn, 1) := by decide +kernel
theorem dX10_spread_0 : decode cX10_spread 0 = .ok (.iload_n 1, 1) := by decide +kernel
theorem dX10_spread_1 : decode cX10_spread 1 = .ok (.invokestatic 105, 3) := by decide +kernel
theorem dX10_spread_4 : decode cX10_spread 4 = .ok (.ifCond .eq 14, 3) := by decide +kernel
theorem dX10_spread_7 : decode cX10_spread 7 = .ok (.iload_n 2, 1) := by decide +kernel
theorem dX10_spread_8 : decode cX10_spread 8 = .ok (.ifCond .lt 10, 3) := by decide +kernel
theorem dX10_spread_11 : decode cX10_spread 11 = .ok (.iload_n 2, 1) := by decide +kernel
theorem dX10_spread_12 : decode cX10_spread 12 = .ok (.sipush 2000, 3) := by decide +kernel
theorem dX10_spread_15 : decode cX10_spread 15 = .ok (.if_icmp .le 5, 3) := by decide +kernel
theorem dX10_spread_18 : decode cX10_spread 18 = .ok (.iconst (-1), 1) := by decide +kernel
theorem dX10_spread_19 : decode cX10_spread 19 = .ok (.ireturn, 1) := by decide +kernel
theorem dX10_spread_20 : decode cX10_spread 20 = .ok (.aload_n 0, 1) := by decide +kernel
theorem dX10_spread_21 : decode cX10_spread 21 = .ok (.getfield 12, 3) := by decide +kernel
theorem dX10_spread_24 : decode cX10_spread 24 = .ok (.iload_n 1, 1) := by decide +kernel
theorem dX10_spread_25 : decode cX10_spread 25 = .ok (.invokevirtual 130, 3) := by decide +kernel
theorem dX10_spread_28 : decode cX10_spread 28 = .ok (.ifCond .ne 6, 3) := by decide +kernel
theorem dX10_spread_31 : decode cX10_spread 31 = .ok (.bipush (-2), 2) := by decide +kernel
theorem dX10_spread_33 : decode cX10_spread 33 = .ok (.ireturn, 1) := by decide +kernel
theorem dX10_spread_34 : decode cX10_spread 34 = .ok (.aload_n 0, 1) := by decide +kernel
theorem dX10_spread_35 : decode cX10_spread 35 = .ok (.getfield 12, 3) := by decide +kernel
theorem dX10_spread_38 : decode cX10_spread 38 = .ok (.iload_n 1, 1) := by decide +kernel
theorem dX10_spread_39 : decode cX10_spread 39 = .ok (.aload_n 0, 1) := by decide +kernel
theorem dX10_spread_40 : decode cX10_spread 40 = .ok (.getfield 74, 3) := by decide +kernel
theorem dX10_spread_43 : decode cX10_spread 43 = .ok (.invokevirtual 141, 3) := by decide +kernel
theorem dX10_spread_46 : decode cX10_spread 46 = .ok (.aload_n 0, 1) := by decide +kernel
theorem dX10_spread_47 : decode cX10_spread 47 = .ok (.getfield 35, 3) := by decide +kernel
theorem dX10_spread_50 : decode cX10_spread 50 = .ok (.aload_n 0, 1) := by decide +kernel
theorem dX10_spread_51 : decode cX10_spread 51 = .ok (.getfield 74, 3) := by decide +kernel
theorem dX10_spread_54 : decode cX10_spread 54 = .ok (.sipush 2000, 3) := by decide +kernel
theorem dX10_spread_57 : decode cX10_spread 57 = .ok (.invokevirtual 287, 3) := by decide +kernel
theorem dX10_spread_60 : decode cX10_spread 60 = .ok (.ifCond .ne 6, 3) := by decide +kernel
theorem dX10_spread_63 : decode cX10_spread 63 = .ok (.bipush (-3), 2) := by decide +kernel
theorem dX10_spread_65 : decode cX10_spread 65 = .ok (.ireturn, 1) := by decide +kernel
theorem dX10_spread_66 : decode cX10_spread 66 = .ok (.aload_n 0, 1) := by decide +kernel
theorem dX10_spread_67 : decode cX10_spread 67 = .ok (.iconst 0, 1) := by decide +kernel
theorem dX10_spread_68 : decode cX10_spread 68 = .ok (.invokevirtual 317, 3) := by decide +kernel
theorem dX10_spread_71 : decode cX10_spread 71 = .ok (.lconst 0, 1) := by decide +kernel
theorem dX10_spread_72 : decode cX10_spread 72 = .ok (.lstore_n 3, 1) := by decide +kernel
theorem dX10_spread_73 : decode cX10_spread 73 = .ok (.lload_n 3, 1) := by decide +kernel
theorem dX10_spread_74 : decode cX10_spread 74 = .ok (.aload_n 0, 1) := by decide +kernel
theorem dX10_spread_75 : decode cX10_spread 75 = .ok (.getfield 35, 3) := by decide +kernel
theorem dX10_spread_78 : decode cX10_spread 78 = .ok (.getfield 305, 3) := by decide +kernel
theorem dX10_spread_81 : decode cX10_spread 81 = .ok (.lcmp, 1) := by decide +kernel
theorem dX10_spread_82 : decode cX10_spread 82 = .ok (.ifCond .ge 90, 3) := by decide +kernel
theorem dX10_spread_85 : decode cX10_spread 85 = .ok (.lconst 0, 1) := by decide +kernel
theorem dX10_spread_86 : decode cX10_spread 86 = .ok (.lstore 5, 2) := by decide +kernel
theorem dX10_spread_88 : decode cX10_spread 88 = .ok (.lload 5, 2) := by decide +kernel
theorem dX10_spread_90 : decode cX10_spread 90 = .ok (.aload_n 0, 1) := by decide +kernel
theorem dX10_spread_91 : decode cX10_spread 91 = .ok (.getfield 35, 3) := by decide +kernel
theorem dX10_spread_94 : decode cX10_spread 94 = .ok (.getfield 308, 3) := by decide +kernel
theorem dX10_spread_97 : decode cX10_spread 97 = .ok (.lcmp, 1) := by decide +kernel
theorem dX10_spread_98 : decode cX10_spread 98 = .ok (.ifCond .ge 67, 3) := by decide +kernel
theorem dX10_spread_101 : decode cX10_spread 101 = .ok (.aload_n 0, 1) := by decide +kernel
theorem dX10_spread_102 : decode cX10_spread 102 = .ok (.getfield 83, 3) := by decide +kernel
theorem dX10_spread_105 : decode cX10_spread 105 = .ok (.lload 5, 2) := by decide +kernel
theorem dX10_spread_107 : decode cX10_spread 107 = .ok (.lload_n 3, 1) := by decide +kernel
theorem dX10_spread_108 : decode cX10_spread 108 = .ok (.invokevirtual 122, 3) := by decide +kernel
theorem dX10_spread_111 : decode cX10_spread 111 = .ok (.aload_n 0, 1) := by decide +kernel
theorem dX10_spread_112 : decode cX10_spread 112 = .ok (.getfield 83, 3) := by decide +kernel
theorem dX10_spread_115 : decode cX10_spread 115 = .ok (.invokevirtual 311, 3) := by decide +kernel
theorem dX10_spread_118 : decode cX10_spread 118 = .ok (.aload_n 0, 1) := by decide +kernel
theorem dX10_spread_119 : decode cX10_spread 119 = .ok (.getfield 35, 3) := by decide +kernel
theorem dX10_spread_122 : decode cX10_spread 122 = .ok (.aload_n 0, 1) := by decide +kernel
theorem dX10_spread_123 : decode cX10_spread 123 = .ok (.getfield 83, 3) := by decide +kernel
theorem dX10_spread_126 : decode cX10_spread 126 = .ok (.invokevirtual 270, 3) := by decide +kernel
theorem dX10_spread_129 : decode cX10_spread 129 = .ok (.aload_n 0, 1) := by decide +kernel
theorem dX10_spread_130 : decode cX10_spread 130 = .ok (.getfield 35, 3) := by decide +kernel
theorem dX10_spread_133 : decode cX10_spread 133 = .ok (.aload_n 0, 1) := by decide +kernel
theorem dX10_spread_134 : decode cX10_spread 134 = .ok (.getfield 83, 3) := by decide +kernel
theorem dX10_spread_137 : decode cX10_spread 137 = .ok (.invokevirtual 320, 3) := by decide +kernel
theorem dX10_spread_140 : decode cX10_spread 140 = .ok (.istore 7, 2) := by decide +kernel
theorem dX10_spread_142 : decode cX10_spread 142 = .ok (.aload_n 0, 1) := by decide +kernel
theorem dX10_spread_143 : decode cX10_spread 143 = .ok (.iload 7, 2) := by decide +kernel
theorem dX10_spread_145 : decode cX10_spread 145 = .ok (.aload_n 0, 1) := by decide +kernel
theorem dX10_spread_146 : decode cX10_spread 146 = .ok (.iload 7, 2) := by decide +kernel
theorem dX10_spread_148 : decode cX10_spread 148 = .ok (.invokevirtual 324, 3) := by decide +kernel
theorem dX10_spread_151 : decode cX10_spread 151 = .ok (.iconst 1, 1) := by decide +kernel
theorem dX10_spread_152 : decode cX10_spread 152 = .ok (.iadd, 1) := by decide +kernel
theorem dX10_spread_153 : decode cX10_spread 153 = .ok (.invokevirtual 327, 3) := by decide +kernel
theorem dX10_spread_156 : decode cX10_spread 156 = .ok (.lload 5, 2) := by decide +kernel
theorem dX10_spread_158 : decode cX10_spread 158 = .ok (.lconst 1, 1) := by decide +kernel
theorem dX10_spread_159 : decode cX10_spread 159 = .ok (.ladd, 1) := by decide +kernel
theorem dX10_spread_160 : decode cX10_spread 160 = .ok (.lstore 5, 2) := by decide +kernel
theorem dX10_spread_162 : decode cX10_spread 162 = .ok (.goto (-74), 3) := by decide +kernel
theorem dX10_spread_165 : decode cX10_spread 165 = .ok (.lload_n 3, 1) := by decide +kernel
theorem dX10_spread_166 : decode cX10_spread 166 = .ok (.lconst 1, 1) := by decide +kernel
theorem dX10_spread_167 : decode cX10_spread 167 = .ok (.ladd, 1) := by decide +kernel
theorem dX10_spread_168 : decode cX10_spread 168 = .ok (.lstore_n 3, 1) := by decide +kernel
theorem dX10_spread_169 : decode cX10_spread 169 = .ok (.goto (-96), 3) := by decide +kernel
theorem dX10_spread_172 : decode cX10_spread 172 = .ok (.iconst 0, 1) := by decide +kernel
theorem dX10_spread_173 : decode cX10_spread 173 = .ok (.istore_n 3, 1) := by decide +kernel
theorem dX10_spread_174 : decode cX10_spread 174 = .ok (.iconst 0, 1) := by decide +kernel
theorem dX10_spread_175 : decode cX10_spread 175 = .ok (.istore 4, 2) := by decide +kernel
theorem dX10_spread_177 : decode cX10_spread 177 = .ok (.iload 4, 2) := by decide +kernel
theorem dX10_spread_179 : decode cX10_spread 179 = .ok (.aload_n 0, 1) := by decide +kernel
theorem dX10_spread_180 : decode cX10_spread 180 = .ok (.getfield 35, 3) := by decide +kernel
theorem dX10_spread_183 : decode cX10_spread 183 = .ok (.invokevirtual 331, 3) := by decide +kernel
theorem dX10_spread_186 : decode cX10_spread 186 = .ok (.if_icmp .ge 22, 3) := by decide +kernel
theorem dX10_spread_189 : decode cX10_spread 189 = .ok (.aload_n 0, 1) := by decide +kernel
theorem dX10_spread_190 : decode cX10_spread 190 = .ok (.iload 4, 2) := by decide +kernel
theorem dX10_spread_192 : decode cX10_spread 192 = .ok (.invokevirtual 324, 3) := by decide +kernel
theorem dX10_spread_195 : decode cX10_spread 195 = .ok (.iload_n 2, 1) := by decide +kernel
theorem dX10_spread_196 : decode cX10_spread 196 = .ok (.if_icmp .ne 6, 3) := by decide +kernel
theorem dX10_spread_199 : decode cX10_spread 199 = .ok (.iinc 3 1, 3) := by decide +kernel
theorem dX10_spread_202 : decode cX10_spread 202 = .ok (.iinc 4 1, 3) := by decide +kernel
theorem dX10_spread_205 : decode cX10_spread 205 = .ok (.goto (-28), 3) := by decide +kernel
theorem dX10_spread_208 : decode cX10_spread 208 = .ok (.iload_n 3, 1) := by decide +kernel
theorem dX10_spread_209 : decode cX10_spread 209 = .ok (.ireturn, 1) := by decide +kernel
theorem dX10_steps_0 : decode cX10_steps 0 = .ok (.aload_n 0, 1) := by decide +kernel
theorem dX10_steps_1 : decode cX10_steps 1 = .ok (.iload_n 1, 1) := by decide +kernel
theorem dX10_steps_2 : decode cX10_steps 2 = .ok (.iload_n 2, 1) := by decide +kernel
theorem dX10_steps_3 : decode cX10_steps 3 = .ok (.invokevirtual 176, 3) := by decide +kernel
theorem dX10_steps_6 : decode cX10_steps 6 = .ok (.istore_n 3, 1) := by decide +kernel
theorem dX10_steps_7 : decode cX10_steps 7 = .ok (.iload_n 3, 1) := by decide +kernel
theorem dX10_steps_8 : decode cX10_steps 8 = .ok (.ifCond .eq 5, 3) := by decide +kernel
theorem dX10_steps_11 : decode cX10_steps 11 = .ok (.iload_n 3, 1) := by decide +kernel
theorem dX10_steps_12 : decode cX10_steps 12 = .ok (.ireturn, 1) := by decide +kernel
theorem dX10_steps_13 : decode cX10_steps 13 = .ok (.aload_n 0, 1) := by decide +kernel
theorem dX10_steps_14 : decode cX10_steps 14 = .ok (.getfield 74, 3) := by decide +kernel
theorem dX10_steps_17 : decode cX10_steps 17 = .ok (.aload_n 0, 1) := by decide +kernel
theorem dX10_steps_18 : decode cX10_steps 18 = .ok (.getfield 70, 3) := by decide +kernel
theorem dX10_steps_21 : decode cX10_steps 21 = .ok (.invokevirtual 193, 3) := by decide +kernel
theorem dX10_steps_24 : decode cX10_steps 24 = .ok (.aload_n 0, 1) := by decide +kernel
theorem dX10_steps_25 : decode cX10_steps 25 = .ok (.getfield 74, 3) := by decide +kernel
theorem dX10_steps_28 : decode cX10_steps 28 = .ok (.getfield 145, 3) := by decide +kernel
theorem dX10_steps_31 : decode cX10_steps 31 = .ok (.invokestatic 368, 3) := by decide +kernel
theorem dX10_steps_34 : decode cX10_steps 34 = .ok (.aload_n 0, 1) := by decide +kernel
theorem dX10_steps_35 : decode cX10_steps 35 = .ok (.getfield 74, 3) := by decide +kernel
theorem dX10_steps_38 : decode cX10_steps 38 = .ok (.getfield 149, 3) := by decide +kernel
theorem dX10_steps_41 : decode cX10_steps 41 = .ok (.invokestatic 368, 3) := by decide +kernel
theorem dX10_steps_44 : decode cX10_steps 44 = .ok (.invokestatic 374, 3) := by decide +kernel
theorem dX10_steps_47 : decode cX10_steps 47 = .ok (.lstore 4, 2) := by decide +kernel
theorem dX10_steps_49 : decode cX10_steps 49 = .ok (.lload 4, 2) := by decide +kernel
theorem dX10_steps_51 : decode cX10_steps 51 = .ok (.aload_n 0, 1) := by decide +kernel
theorem dX10_steps_52 : decode cX10_steps 52 = .ok (.getfield 74, 3) := by decide +kernel
theorem dX10_steps_55 : decode cX10_steps 55 = .ok (.getfield 145, 3) := by decide +kernel
theorem dX10_steps_58 : decode cX10_steps 58 = .ok (.aload_n 0, 1) := by decide +kernel
theorem dX10_steps_59 : decode cX10_steps 59 = .ok (.getfield 74, 3) := by decide +kernel
theorem dX10_steps_62 : decode cX10_steps 62 = .ok (.getfield 149, 3) := by decide +kernel
theorem dX10_steps_65 : decode cX10_steps 65 = .ok (.lsub, 1) := by decide +kernel
theorem dX10_steps_66 : decode cX10_steps 66 = .ok (.invokestatic 368, 3) := by decide +kernel
theorem dX10_steps_69 : decode cX10_steps 69 = .ok (.invokestatic 374, 3) := by decide +kernel
theorem dX10_steps_72 : decode cX10_steps 72 = .ok (.l2i, 1) := by decide +kernel
theorem dX10_steps_73 : decode cX10_steps 73 = .ok (.ireturn, 1) := by decide +kernel
theorem dX10_storeOut_0 : decode cX10_storeOut 0 = .ok (.aload_n 0, 1) := by decide +kernel
theorem dX10_storeOut_1 : decode cX10_storeOut 1 = .ok (.getfield 83, 3) := by decide +kernel
theorem dX10_storeOut_4 : decode cX10_storeOut 4 = .ok (.invokevirtual 126, 3) := by decide +kernel
theorem dX10_storeOut_7 : decode cX10_storeOut 7 = .ok (.ifCond .ne 6, 3) := by decide +kernel
theorem dX10_storeOut_10 : decode cX10_storeOut 10 = .ok (.bipush (-4), 2) := by decide +kernel
theorem dX10_storeOut_12 : decode cX10_storeOut 12 = .ok (.ireturn, 1) := by decide +kernel
theorem dX10_storeOut_13 : decode cX10_storeOut 13 = .ok (.aload_n 0, 1) := by decide +kernel
theorem dX10_storeOut_14 : decode cX10_storeOut 14 = .ok (.getfield 12, 3) := by decide +kernel
theorem dX10_storeOut_17 : decode cX10_storeOut 17 = .ok (.iload_n 1, 1) := by decide +kernel
theorem dX10_storeOut_18 : decode cX10_storeOut 18 = .ok (.aload_n 0, 1) := by decide +kernel
theorem dX10_storeOut_19 : decode cX10_storeOut 19 = .ok (.getfield 83, 3) := by decide +kernel
theorem dX10_storeOut_22 : decode cX10_storeOut 22 = .ok (.getfield 145, 3) := by decide +kernel
theorem dX10_storeOut_25 : decode cX10_storeOut 25 = .ok (.l2i, 1) := by decide +kernel
theorem dX10_storeOut_26 : decode cX10_storeOut 26 = .ok (.aload_n 0, 1) := by decide +kernel
theorem dX10_storeOut_27 : decode cX10_storeOut 27 = .ok (.getfield 83, 3) := by decide +kernel
theorem dX10_storeOut_30 : decode cX10_storeOut 30 = .ok (.getfield 149, 3) := by decide +kernel
theorem dX10_storeOut_33 : decode cX10_storeOut 33 = .ok (.l2i, 1) := by decide +kernel
theorem dX10_storeOut_34 : decode cX10_storeOut 34 = .ok (.invokevirtual 118, 3) := by decide +kernel
theorem dX10_storeOut_37 : decode cX10_storeOut 37 = .ok (.aload_n 0, 1) := by decide +kernel
theorem dX10_storeOut_38 : decode cX10_storeOut 38 = .ok (.getfield 83, 3) := by decide +kernel
theorem dX10_storeOut_41 : decode cX10_storeOut 41 = .ok (.invokevirtual 152, 3) := by decide +kernel
theorem dX10_storeOut_44 : decode cX10_storeOut 44 = .ok (.l2i, 1) := by decide +kernel
theorem dX10_storeOut_45 : decode cX10_storeOut 45 = .ok (.ireturn, 1) := by decide +kernel
theorem dX10_sum_0 : decode cX10_sum 0 = .ok (.iload_n 1, 1) := by decide +kernel
theorem dX10_sum_1 : decode cX10_sum 1 = .ok (.invokestatic 392, 3) := by decide +kernel
theorem dX10_sum_4 : decode cX10_sum 4 = .ok (.ifCond .eq 12, 3) := by decide +kernel
theorem dX10_sum_7 : decode cX10_sum 7 = .ok (.iload_n 2, 1) := by decide +kernel
theorem dX10_sum_8 : decode cX10_sum 8 = .ok (.ifCond .lt 8, 3) := by decide +kernel
theorem dX10_sum_11 : decode cX10_sum 11 = .ok (.iload_n 2, 1) := by decide +kernel
theorem dX10_sum_12 : decode cX10_sum 12 = .ok (.iconst 3, 1) := by decide +kernel
theorem dX10_sum_13 : decode cX10_sum 13 = .ok (.if_icmp .le 6, 3) := by decide +kernel
theorem dX10_sum_16 : decode cX10_sum 16 = .ok (.ldc 140, 2) := by decide +kernel
theorem dX10_sum_18 : decode cX10_sum 18 = .ok (.ireturn, 1) := by decide +kernel
theorem dX10_sum_19 : decode cX10_sum 19 = .ok (.iload_n 2, 1) := by decide +kernel
theorem dX10_sum_20 : decode cX10_sum 20 = .ok (.iconst 3, 1) := by decide +kernel
theorem dX10_sum_21 : decode cX10_sum 21 = .ok (.if_icmp .ne 14, 3) := by decide +kernel
theorem dX10_sum_24 : decode cX10_sum 24 = .ok (.aload_n 0, 1) := by decide +kernel
theorem dX10_sum_25 : decode cX10_sum 25 = .ok (.iload_n 1, 1) := by decide +kernel
theorem dX10_sum_26 : decode cX10_sum 26 = .ok (.invokevirtual 398, 3) := by decide +kernel
theorem dX10_sum_29 : decode cX10_sum 29 = .ok (.aload_n 0, 1) := by decide +kernel
theorem dX10_sum_30 : decode cX10_sum 30 = .ok (.iload_n 1, 1) := by decide +kernel
theorem dX10_sum_31 : decode cX10_sum 31 = .ok (.invokevirtual 408, 3) := by decide +kernel
theorem dX10_sum_34 : decode cX10_sum 34 = .ok (.ireturn, 1) := by decide +kernel
theorem dX10_sum_35 : decode cX10_sum 35 = .ok (.aload_n 0, 1) := by decide +kernel
theorem dX10_sum_36 : decode cX10_sum 36 = .ok (.iload_n 1, 1) := by decide +kernel
theorem dX10_sum_37 : decode cX10_sum 37 = .ok (.invokevirtual 411, 3) := by decide +kernel
theorem dX10_sum_40 : decode cX10_sum 40 = .ok (.aload_n 0, 1) := by decide +kernel
theorem dX10_sum_41 : decode cX10_sum 41 = .ok (.getfield 83, 3) := by decide +kernel
theorem dX10_sum_44 : decode cX10_sum 44 = .ok (.lconst 0, 1) := by decide +kernel
theorem dX10_sum_45 : decode cX10_sum 45 = .ok (.lconst 0, 1) := by decide +kernel
theorem dX10_sum_46 : decode cX10_sum 46 = .ok (.invokevirtual 122, 3) := by decide +kernel
theorem dX10_sum_49 : decode cX10_sum 49 = .ok (.iconst 2, 1) := by decide +kernel
theorem dX10_sum_50 : decode cX10_sum 50 = .ok (.istore_n 3, 1) := by decide +kernel
theorem dX10_sum_51 : decode cX10_sum 51 = .ok (.iload_n 3, 1) := by decide +kernel
theorem dX10_sum_52 : decode cX10_sum 52 = .ok (.iload_n 1, 1) := by decide +kernel
theorem dX10_sum_53 : decode cX10_sum 53 = .ok (.if_icmp .ge 59, 3) := by decide +kernel
theorem dX10_sum_56 : decode cX10_sum 56 = .ok (.aload_n 0, 1) := by decide +kernel
theorem dX10_sum_57 : decode cX10_sum 57 = .ok (.iload_n 3, 1) := by decide +kernel
theorem dX10_sum_58 : decode cX10_sum 58 = .ok (.invokevirtual 324, 3) := by decide +kernel
theorem dX10_sum_61 : decode cX10_sum 61 = .ok (.aload_n 0, 1) := by decide +kernel
theorem dX10_sum_62 : decode cX10_sum 62 = .ok (.iload_n 1, 1) := by decide +kernel
theorem dX10_sum_63 : decode cX10_sum 63 = .ok (.iconst 1, 1) := by decide +kernel
theorem dX10_sum_64 : decode cX10_sum 64 = .ok (.iadd, 1) := by decide +kernel
theorem dX10_sum_65 : decode cX10_sum 65 = .ok (.iload_n 3, 1) := by decide +kernel
theorem dX10_sum_66 : decode cX10_sum 66 = .ok (.isub, 1) := by decide +kernel
theorem dX10_sum_67 : decode cX10_sum 67 = .ok (.invokevirtual 324, 3) := by decide +kernel
theorem dX10_sum_70 : decode cX10_sum 70 = .ok (.iadd, 1) := by decide +kernel
theorem dX10_sum_71 : decode cX10_sum 71 = .ok (.iconst 3, 1) := by decide +kernel
theorem dX10_sum_72 : decode cX10_sum 72 = .ok (.irem, 1) := by decide +kernel
theorem dX10_sum_73 : decode cX10_sum 73 = .ok (.istore 4, 2) := by decide +kernel
theorem dX10_sum_75 : decode cX10_sum 75 = .ok (.aload_n 0, 1) := by decide +kernel
theorem dX10_sum_76 : decode cX10_sum 76 = .ok (.getfield 86, 3) := by decide +kernel
theorem dX10_sum_79 : decode cX10_sum 79 = .ok (.lconst 1, 1) := by decide +kernel
theorem dX10_sum_80 : decode cX10_sum 80 = .ok (.lconst 0, 1) := by decide +kernel
theorem dX10_sum_81 : decode cX10_sum 81 = .ok (.invokevirtual 122, 3) := by decide +kernel
theorem dX10_sum_84 : decode cX10_sum 84 = .ok (.aload_n 0, 1) := by decide +kernel
theorem dX10_sum_85 : decode cX10_sum 85 = .ok (.getfield 86, 3) := by decide +kernel
theorem dX10_sum_88 : decode cX10_sum 88 = .ok (.iconst 2, 1) := by decide +kernel
theorem dX10_sum_89 : decode cX10_sum 89 = .ok (.iload 4, 2) := by decide +kernel
theorem dX10_sum_91 : decode cX10_sum 91 = .ok (.imul, 1) := by decide +kernel
theorem dX10_sum_92 : decode cX10_sum 92 = .ok (.invokevirtual 215, 3) := by decide +kernel
theorem dX10_sum_95 : decode cX10_sum 95 = .ok (.aload_n 0, 1) := by decide +kernel
theorem dX10_sum_96 : decode cX10_sum 96 = .ok (.getfield 83, 3) := by decide +kernel
theorem dX10_sum_99 : decode cX10_sum 99 = .ok (.aload_n 0, 1) := by decide +kernel
theorem dX10_sum_100 : decode cX10_sum 100 = .ok (.getfield 86, 3) := by decide +kernel
theorem dX10_sum_103 : decode cX10_sum 103 = .ok (.invokevirtual 190, 3) := by decide +kernel
theorem dX10_sum_106 : decode cX10_sum 106 = .ok (.iinc 3 1, 3) := by decide +kernel
theorem dX10_sum_109 : decode cX10_sum 109 = .ok (.goto (-58), 3) := by decide +kernel
theorem dX10_sum_112 : decode cX10_sum 112 = .ok (.aload_n 0, 1) := by decide +kernel
theorem dX10_sum_113 : decode cX10_sum 113 = .ok (.getfield 83, 3) := by decide +kernel
theorem dX10_sum_116 : decode cX10_sum 116 = .ok (.iload_n 2, 1) := by decide +kernel
theorem dX10_sum_117 : decode cX10_sum 117 = .ok (.invokestatic 241, 3) := by decide +kernel
theorem dX10_sum_120 : decode cX10_sum 120 = .ok (.ireturn, 1) := by decide +kernel
theorem dX10_supplement_0 : decode cX10_supplement 0 = .ok (.iload_n 1, 1) := by decide +kernel
theorem dX10_supplement_1 : decode cX10_supplement 1 = .ok (.invokestatic 105, 3) := by decide +kernel
theorem dX10_supplement_4 : decode cX10_supplement 4 = .ok (.ifCond .eq 12, 3) := by decide +kernel
theorem dX10_supplement_7 : decode cX10_supplement 7 = .ok (.iload_n 2, 1) := by decide +kernel
theorem dX10_supplement_8 : decode cX10_supplement 8 = .ok (.ifCond .lt 8, 3) := by decide +kernel
theorem dX10_supplement_11 : decode cX10_supplement 11 = .ok (.iload_n 2, 1) := by decide +kernel
theorem dX10_supplement_12 : decode cX10_supplement 12 = .ok (.iconst 3, 1) := by decide +kernel
theorem dX10_supplement_13 : decode cX10_supplement 13 = .ok (.if_icmp .le 5, 3) := by decide +kernel
theorem dX10_supplement_16 : decode cX10_supplement 16 = .ok (.iconst (-1), 1) := by decide +kernel
theorem dX10_supplement_17 : decode cX10_supplement 17 = .ok (.ireturn, 1) := by decide +kernel
theorem dX10_supplement_18 : decode cX10_supplement 18 = .ok (.aload_n 0, 1) := by decide +kernel
theorem dX10_supplement_19 : decode cX10_supplement 19 = .ok (.getfield 12, 3) := by decide +kernel
theorem dX10_supplement_22 : decode cX10_supplement 22 = .ok (.iload_n 1, 1) := by decide +kernel
theorem dX10_supplement_23 : decode cX10_supplement 23 = .ok (.invokevirtual 130, 3) := by decide +kernel
theorem dX10_supplement_26 : decode cX10_supplement 26 = .ok (.ifCond .ne 6, 3) := by decide +kernel
theorem dX10_supplement_29 : decode cX10_supplement 29 = .ok (.bipush (-2), 2) := by decide +kernel
theorem dX10_supplement_31 : decode cX10_supplement 31 = .ok (.ireturn, 1) := by decide +kernel
theorem dX10_supplement_32 : decode cX10_supplement 32 = .ok (.aload_n 0, 1) := by decide +kernel
theorem dX10_supplement_33 : decode cX10_supplement 33 = .ok (.getfield 12, 3) := by decide +kernel
theorem dX10_supplement_36 : decode cX10_supplement 36 = .ok (.iload_n 1, 1) := by decide +kernel
theorem dX10_supplement_37 : decode cX10_supplement 37 = .ok (.aload_n 0, 1) := by decide +kernel
theorem dX10_supplement_38 : decode cX10_supplement 38 = .ok (.getfield 74, 3) := by decide +kernel
theorem dX10_supplement_41 : decode cX10_supplement 41 = .ok (.invokevirtual 141, 3) := by decide +kernel
theorem dX10_supplement_44 : decode cX10_supplement 44 = .ok (.aload_n 0, 1) := by decide +kernel
theorem dX10_supplement_45 : decode cX10_supplement 45 = .ok (.getfield 74, 3) := by decide +kernel
theorem dX10_supplement_48 : decode cX10_supplement 48 = .ok (.invokestatic 259, 3) := by decide +kernel
theorem dX10_supplement_51 : decode cX10_supplement 51 = .ok (.ifCond .ne 6, 3) := by decide +kernel
theorem dX10_supplement_54 : decode cX10_supplement 54 = .ok (.bipush (-3), 2) := by decide +kernel
theorem dX10_supplement_56 : decode cX10_supplement 56 = .ok (.ireturn, 1) := by decide +kernel
theorem dX10_supplement_57 : decode cX10_supplement 57 = .ok (.iload_n 2, 1) := by decide +kernel
theorem dX10_supplement_58 : decode cX10_supplement 58 = .ok (.tableswitch 66 0 2 #[26, 38, 52], 26) := by decide +kernel
theorem dX10_supplement_84 : decode cX10_supplement 84 = .ok (.aload_n 0, 1) := by decide +kernel
theorem dX10_supplement_85 : decode cX10_supplement 85 = .ok (.getfield 70, 3) := by decide +kernel
theorem dX10_supplement_88 : decode cX10_supplement 88 = .ok (.lconst 0, 1) := by decide +kernel
theorem dX10_supplement_89 : decode cX10_supplement 89 = .ok (.lconst 1, 1) := by decide +kernel
theorem dX10_supplement_90 : decode cX10_supplement 90 = .ok (.invokevirtual 122, 3) := by decide +kernel
theorem dX10_supplement_93 : decode cX10_supplement 93 = .ok (.goto 42, 3) := by decide +kernel
theorem dX10_supplement_96 : decode cX10_supplement 96 = .ok (.aload_n 0, 1) := by decide +kernel
theorem dX10_supplement_97 : decode cX10_supplement 97 = .ok (.getfield 70, 3) := by decide +kernel
theorem dX10_supplement_100 : decode cX10_supplement 100 = .ok (.lconst 1, 1) := by decide +kernel
theorem dX10_supplement_101 : decode cX10_supplement 101 = .ok (.ldc2_w 385, 3) := by decide +kernel
theorem dX10_supplement_104 : decode cX10_supplement 104 = .ok (.invokevirtual 122, 3) := by decide +kernel
theorem dX10_supplement_107 : decode cX10_supplement 107 = .ok (.goto 28, 3) := by decide +kernel
theorem dX10_supplement_110 : decode cX10_supplement 110 = .ok (.aload_n 0, 1) := by decide +kernel
theorem dX10_supplement_111 : decode cX10_supplement 111 = .ok (.getfield 70, 3) := by decide +kernel
theorem dX10_supplement_114 : decode cX10_supplement 114 = .ok (.ldc2_w 377, 3) := by decide +kernel
theorem dX10_supplement_117 : decode cX10_supplement 117 = .ok (.lconst 0, 1) := by decide +kernel
theorem dX10_supplement_118 : decode cX10_supplement 118 = .ok (.invokevirtual 122, 3) := by decide +kernel
theorem dX10_supplement_121 : decode cX10_supplement 121 = .ok (.goto 14, 3) := by decide +kernel
theorem dX10_supplement_124 : decode cX10_supplement 124 = .ok (.aload_n 0, 1) := by decide +kernel
theorem dX10_supplement_125 : decode cX10_supplement 125 = .ok (.getfield 70, 3) := by decide +kernel
theorem dX10_supplement_128 : decode cX10_supplement 128 = .ok (.ldc2_w 387, 3) := by decide +kernel
theorem dX10_supplement_131 : decode cX10_supplement 131 = .ok (.lconst 0, 1) := by decide +kernel
theorem dX10_supplement_132 : decode cX10_supplement 132 = .ok (.invokevirtual 122, 3) := by decide +kernel
theorem dX10_supplement_135 : decode cX10_supplement 135 = .ok (.aload_n 0, 1) := by decide +kernel
theorem dX10_supplement_136 : decode cX10_supplement 136 = .ok (.aload_n 0, 1) := by decide +kernel
theorem dX10_supplement_137 : decode cX10_supplement 137 = .ok (.getfield 70, 3) := by decide +kernel
theorem dX10_supplement_140 : decode cX10_supplement 140 = .ok (.aload_n 0, 1) := by decide +kernel
theorem dX10_supplement_141 : decode cX10_supplement 141 = .ok (.getfield 74, 3) := by decide +kernel
theorem dX10_supplement_144 : decode cX10_supplement 144 = .ok (.invokevirtual 379, 3) := by decide +kernel
theorem dX10_supplement_147 : decode cX10_supplement 147 = .ok (.ireturn, 1) := by decide +kernel
theorem dX10_take_0 : decode cX10_take 0 = .ok (.iload_n 1, 1) := by decide +kernel
theorem dX10_take_1 : decode cX10_take 1 = .ok (.invokestatic 105, 3) := by decide +kernel
theorem dX10_take_4 : decode cX10_take 4 = .ok (.ifCond .ne 5, 3) := by decide +kernel
theorem dX10_take_7 : decode cX10_take 7 = .ok (.iconst (-1), 1) := by decide +kernel
theorem dX10_take_8 : decode cX10_take 8 = .ok (.ireturn, 1) := by decide +kernel
theorem dX10_take_9 : decode cX10_take 9 = .ok (.aload_n 0, 1) := by decide +kernel
theorem dX10_take_10 : decode cX10_take 10 = .ok (.getfield 12, 3) := by decide +kernel
theorem dX10_take_13 : decode cX10_take 13 = .ok (.iload_n 1, 1) := by decide +kernel
theorem dX10_take_14 : decode cX10_take 14 = .ok (.invokevirtual 130, 3) := by decide +kernel
theorem dX10_take_17 : decode cX10_take 17 = .ok (.invokestatic 133, 3) := by decide +kernel
theorem dX10_take_20 : decode cX10_take 20 = .ok (.istore_n 2, 1) := by decide +kernel
theorem dX10_take_21 : decode cX10_take 21 = .ok (.aload_n 0, 1) := by decide +kernel
theorem dX10_take_22 : decode cX10_take 22 = .ok (.getfield 12, 3) := by decide +kernel
theorem dX10_take_25 : decode cX10_take 25 = .ok (.iload_n 1, 1) := by decide +kernel
theorem dX10_take_26 : decode cX10_take 26 = .ok (.invokevirtual 137, 3) := by decide +kernel
theorem dX10_take_29 : decode cX10_take 29 = .ok (.iload_n 2, 1) := by decide +kernel
theorem dX10_take_30 : decode cX10_take 30 = .ok (.ireturn, 1) := by decide +kernel
theorem dX10_thirdRoots_0 : decode cX10_thirdRoots 0 = .ok (.iload_n 1, 1) := by decide +kernel
theorem dX10_thirdRoots_1 : decode cX10_thirdRoots 1 = .ok (.ifCond .ne 5, 3) := by decide +kernel
theorem dX10_thirdRoots_4 : decode cX10_thirdRoots 4 = .ok (.iconst 1, 1) := by decide +kernel
theorem dX10_thirdRoots_5 : decode cX10_thirdRoots 5 = .ok (.ireturn, 1) := by decide +kernel
theorem dX10_thirdRoots_6 : decode cX10_thirdRoots 6 = .ok (.aload_n 0, 1) := by decide +kernel
theorem dX10_thirdRoots_7 : decode cX10_thirdRoots 7 = .ok (.iload_n 1, 1) := by decide +kernel
theorem dX10_thirdRoots_8 : decode cX10_thirdRoots 8 = .ok (.invokevirtual 324, 3) := by decide +kernel
theorem dX10_thirdRoots_11 : decode cX10_thirdRoots 11 = .ok (.ifCond .ne 7, 3) := by decide +kernel
theorem dX10_thirdRoots_14 : decode cX10_thirdRoots 14 = .ok (.iconst 3, 1) := by decide +kernel
theorem dX10_thirdRoots_15 : decode cX10_thirdRoots 15 = .ok (.goto 4, 3) := by decide +kernel
theorem dX10_thirdRoots_18 : decode cX10_thirdRoots 18 = .ok (.iconst 0, 1) := by decide +kernel
theorem dX10_thirdRoots_19 : decode cX10_thirdRoots 19 = .ok (.ireturn, 1) := by decide +kernel
theorem dX10_thirds_0 : decode cX10_thirds 0 = .ok (.iload_n 1, 1) := by decide +kernel
theorem dX10_thirds_1 : decode cX10_thirds 1 = .ok (.iconst (-1), 1) := by decide +kernel
theorem dX10_thirds_2 : decode cX10_thirds 2 = .ok (.if_icmp .ge 6, 3) := by decide +kernel
theorem dX10_thirds_5 : decode cX10_thirds 5 = .ok (.bipush (-3), 2) := by decide +kernel
theorem dX10_thirds_7 : decode cX10_thirds 7 = .ok (.ireturn, 1) := by decide +kernel
theorem dX10_thirds_8 : decode cX10_thirds 8 = .ok (.iconst 0, 1) := by decide +kernel
theorem dX10_thirds_9 : decode cX10_thirds 9 = .ok (.istore_n 2, 1) := by decide +kernel
theorem dX10_thirds_10 : decode cX10_thirds 10 = .ok (.bipush 7, 2) := by decide +kernel
theorem dX10_thirds_12 : decode cX10_thirds 12 = .ok (.istore_n 3, 1) := by decide +kernel
theorem dX10_thirds_13 : decode cX10_thirds 13 = .ok (.iload_n 3, 1) := by decide +kernel
theorem dX10_thirds_14 : decode cX10_thirds 14 = .ok (.sipush 997, 3) := by decide +kernel
theorem dX10_thirds_17 : decode cX10_thirds 17 = .ok (.if_icmp .gt 26, 3) := by decide +kernel
theorem dX10_thirds_20 : decode cX10_thirds 20 = .ok (.iload_n 3, 1) := by decide +kernel
theorem dX10_thirds_21 : decode cX10_thirds 21 = .ok (.invokestatic 392, 3) := by decide +kernel
theorem dX10_thirds_24 : decode cX10_thirds 24 = .ok (.ifCond .eq 13, 3) := by decide +kernel
theorem dX10_thirds_27 : decode cX10_thirds 27 = .ok (.iload_n 2, 1) := by decide +kernel
theorem dX10_thirds_28 : decode cX10_thirds 28 = .ok (.iload_n 1, 1) := by decide +kernel
theorem dX10_thirds_29 : decode cX10_thirds 29 = .ok (.if_icmp .ne 5, 3) := by decide +kernel
theorem dX10_thirds_32 : decode cX10_thirds 32 = .ok (.iload_n 3, 1) := by decide +kernel
theorem dX10_thirds_33 : decode cX10_thirds 33 = .ok (.ireturn, 1) := by decide +kernel
theorem dX10_thirds_34 : decode cX10_thirds 34 = .ok (.iinc 2 1, 3) := by decide +kernel
theorem dX10_thirds_37 : decode cX10_thirds 37 = .ok (.iinc 3 1, 3) := by decide +kernel
theorem dX10_thirds_40 : decode cX10_thirds 40 = .ok (.goto (-27), 3) := by decide +kernel
theorem dX10_thirds_43 : decode cX10_thirds 43 = .ok (.iload_n 1, 1) := by decide +kernel
theorem dX10_thirds_44 : decode cX10_thirds 44 = .ok (.iconst (-1), 1) := by decide +kernel
theorem dX10_thirds_45 : decode cX10_thirds 45 = .ok (.if_icmp .ne 7, 3) := by decide +kernel
theorem dX10_thirds_48 : decode cX10_thirds 48 = .ok (.iload_n 2, 1) := by decide +kernel
theorem dX10_thirds_49 : decode cX10_thirds 49 = .ok (.goto 5, 3) := by decide +kernel
theorem dX10_thirds_52 : decode cX10_thirds 52 = .ok (.bipush (-2), 2) := by decide +kernel
theorem dX10_thirds_54 : decode cX10_thirds 54 = .ok (.ireturn, 1) := by decide +kernel
theorem dX10_told_0 : decode cX10_told 0 = .ok (.aload_n 0, 1) := by decide +kernel
theorem dX10_told_1 : decode cX10_told 1 = .ok (.getfield 12, 3) := by decide +kernel
theorem dX10_told_4 : decode cX10_told 4 = .ok (.iload_n 1, 1) := by decide +kernel
theorem dX10_told_5 : decode cX10_told 5 = .ok (.invokevirtual 130, 3) := by decide +kernel
theorem dX10_told_8 : decode cX10_told 8 = .ok (.ifCond .eq 13, 3) := by decide +kernel
theorem dX10_told_11 : decode cX10_told 11 = .ok (.iload_n 2, 1) := by decide +kernel
theorem dX10_told_12 : decode cX10_told 12 = .ok (.ifCond .lt 9, 3) := by decide +kernel
theorem dX10_told_15 : decode cX10_told 15 = .ok (.iload_n 2, 1) := by decide +kernel
theorem dX10_told_16 : decode cX10_told 16 = .ok (.bipush 7, 2) := by decide +kernel
theorem dX10_told_18 : decode cX10_told 18 = .ok (.if_icmp .le 6, 3) := by decide +kernel
theorem dX10_told_21 : decode cX10_told 21 = .ok (.ldc 140, 2) := by decide +kernel
theorem dX10_told_23 : decode cX10_told 23 = .ok (.ireturn, 1) := by decide +kernel
theorem dX10_told_24 : decode cX10_told 24 = .ok (.aload_n 0, 1) := by decide +kernel
theorem dX10_told_25 : decode cX10_told 25 = .ok (.getfield 12, 3) := by decide +kernel
theorem dX10_told_28 : decode cX10_told 28 = .ok (.iload_n 1, 1) := by decide +kernel
theorem dX10_told_29 : decode cX10_told 29 = .ok (.aload_n 0, 1) := by decide +kernel
theorem dX10_told_30 : decode cX10_told 30 = .ok (.getfield 70, 3) := by decide +kernel
theorem dX10_told_33 : decode cX10_told 33 = .ok (.invokevirtual 141, 3) := by decide +kernel
theorem dX10_told_36 : decode cX10_told 36 = .ok (.iload_n 2, 1) := by decide +kernel
theorem dX10_told_37 : decode cX10_told 37 = .ok (.tableswitch 112 0 6 #[43, 52, 61, 70, 81, 92, 104], 43) := by decide +kernel
theorem dX10_told_80 : decode cX10_told 80 = .ok (.aload_n 0, 1) := by decide +kernel
theorem dX10_told_81 : decode cX10_told 81 = .ok (.getfield 70, 3) := by decide +kernel
theorem dX10_told_84 : decode cX10_told 84 = .ok (.getfield 145, 3) := by decide +kernel
theorem dX10_told_87 : decode cX10_told 87 = .ok (.l2i, 1) := by decide +kernel
theorem dX10_told_88 : decode cX10_told 88 = .ok (.ireturn, 1) := by decide +kernel
theorem dX10_told_89 : decode cX10_told 89 = .ok (.aload_n 0, 1) := by decide +kernel
theorem dX10_told_90 : decode cX10_told 90 = .ok (.getfield 70, 3) := by decide +kernel
theorem dX10_told_93 : decode cX10_told 93 = .ok (.getfield 149, 3) := by decide +kernel
theorem dX10_told_96 : decode cX10_told 96 = .ok (.l2i, 1) := by decide +kernel
theorem dX10_told_97 : decode cX10_told 97 = .ok (.ireturn, 1) := by decide +kernel
theorem dX10_told_98 : decode cX10_told 98 = .ok (.aload_n 0, 1) := by decide +kernel
theorem dX10_told_99 : decode cX10_told 99 = .ok (.getfield 70, 3) := by decide +kernel
theorem dX10_told_102 : decode cX10_told 102 = .ok (.invokevirtual 152, 3) := by decide +kernel
theorem dX10_told_105 : decode cX10_told 105 = .ok (.l2i, 1) := by decide +kernel
theorem dX10_told_106 : decode cX10_told 106 = .ok (.ireturn, 1) := by decide +kernel
theorem dX10_told_107 : decode cX10_told 107 = .ok (.aload_n 0, 1) := by decide +kernel
theorem dX10_told_108 : decode cX10_told 108 = .ok (.getfield 70, 3) := by decide +kernel
theorem dX10_told_111 : decode cX10_told 111 = .ok (.invokevirtual 156, 3) := by decide +kernel
theorem dX10_told_114 : decode cX10_told 114 = .ok (.invokestatic 133, 3) := by decide +kernel
theorem dX10_told_117 : decode cX10_told 117 = .ok (.ireturn, 1) := by decide +kernel
theorem dX10_told_118 : decode cX10_told 118 = .ok (.aload_n 0, 1) := by decide +kernel
theorem dX10_told_119 : decode cX10_told 119 = .ok (.getfield 70, 3) := by decide +kernel
theorem dX10_told_122 : decode cX10_told 122 = .ok (.invokevirtual 159, 3) := by decide +kernel
theorem dX10_told_125 : decode cX10_told 125 = .ok (.invokestatic 133, 3) := by decide +kernel
theorem dX10_told_128 : decode cX10_told 128 = .ok (.ireturn, 1) := by decide +kernel
theorem dX10_told_129 : decode cX10_told 129 = .ok (.aload_n 0, 1) := by decide +kernel
theorem dX10_told_130 : decode cX10_told 130 = .ok (.aload_n 0, 1) := by decide +kernel
theorem dX10_told_131 : decode cX10_told 131 = .ok (.getfield 70, 3) := by decide +kernel
theorem dX10_told_134 : decode cX10_told 134 = .ok (.invokevirtual 162, 3) := by decide +kernel
theorem dX10_told_137 : decode cX10_told 137 = .ok (.invokestatic 133, 3) := by decide +kernel
theorem dX10_told_140 : decode cX10_told 140 = .ok (.ireturn, 1) := by decide +kernel
theorem dX10_told_141 : decode cX10_told 141 = .ok (.aload_n 0, 1) := by decide +kernel
theorem dX10_told_142 : decode cX10_told 142 = .ok (.getfield 70, 3) := by decide +kernel
theorem dX10_told_145 : decode cX10_told 145 = .ok (.invokevirtual 166, 3) := by decide +kernel
theorem dX10_told_148 : decode cX10_told 148 = .ok (.ireturn, 1) := by decide +kernel
theorem dX10_told_149 : decode cX10_told 149 = .ok (.aload_n 0, 1) := by decide +kernel
theorem dX10_told_150 : decode cX10_told 150 = .ok (.getfield 70, 3) := by decide +kernel
