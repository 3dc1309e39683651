theorem dJ9_floorMod_f86c9_0 : decode cJ9_floorMod_f86c9 0 = .ok (.lload_n 0, 1) := by decide +kernel
theorem dJ9_floorMod_f86c9_1 : decode cJ9_floorMod_f86c9 1 = .ok (.lload_n 2, 1) := by decide +kernel
theorem dJ9_floorMod_f86c9_2 : decode cJ9_floorMod_f86c9 2 = .ok (.lrem, 1) := by decide +kernel
theorem dJ9_floorMod_f86c9_3 : decode cJ9_floorMod_f86c9 3 = .ok (.lstore 4, 2) := by decide +kernel
theorem dJ9_floorMod_f86c9_5 : decode cJ9_floorMod_f86c9 5 = .ok (.lload_n 0, 1) := by decide +kernel
theorem dJ9_floorMod_f86c9_6 : decode cJ9_floorMod_f86c9 6 = .ok (.lload_n 2, 1) := by decide +kernel
theorem dJ9_floorMod_f86c9_7 : decode cJ9_floorMod_f86c9 7 = .ok (.lxor, 1) := by decide +kernel
theorem dJ9_floorMod_f86c9_8 : decode cJ9_floorMod_f86c9 8 = .ok (.lconst 0, 1) := by decide +kernel
theorem dJ9_floorMod_f86c9_9 : decode cJ9_floorMod_f86c9 9 = .ok (.lcmp, 1) := by decide +kernel
theorem dJ9_floorMod_f86c9_10 : decode cJ9_floorMod_f86c9 10 = .ok (.ifCond .ge 15, 3) := by decide +kernel
theorem dJ9_floorMod_f86c9_13 : decode cJ9_floorMod_f86c9 13 = .ok (.lload 4, 2) := by decide +kernel
theorem dJ9_floorMod_f86c9_15 : decode cJ9_floorMod_f86c9 15 = .ok (.lconst 0, 1) := by decide +kernel
theorem dJ9_floorMod_f86c9_16 : decode cJ9_floorMod_f86c9 16 = .ok (.lcmp, 1) := by decide +kernel
theorem dJ9_floorMod_f86c9_17 : decode cJ9_floorMod_f86c9 17 = .ok (.ifCond .eq 8, 3) := by decide +kernel
theorem dJ9_floorMod_f86c9_20 : decode cJ9_floorMod_f86c9 20 = .ok (.lload 4, 2) := by decide +kernel
theorem dJ9_floorMod_f86c9_22 : decode cJ9_floorMod_f86c9 22 = .ok (.lload_n 2, 1) := by decide +kernel
theorem dJ9_floorMod_f86c9_23 : decode cJ9_floorMod_f86c9 23 = .ok (.ladd, 1) := by decide +kernel
theorem dJ9_floorMod_f86c9_24 : decode cJ9_floorMod_f86c9 24 = .ok (.lreturn, 1) := by decide +kernel
theorem dJ9_floorMod_f86c9_25 : decode cJ9_floorMod_f86c9 25 = .ok (.lload 4, 2) := by decide +kernel
theorem dJ9_floorMod_f86c9_27 : decode cJ9_floorMod_f86c9 27 = .ok (.lreturn, 1) := by decide +kernel
theorem dX5_isNought_0 : decode cX5_isNought 0 = .ok (.aload_n 0, 1) := by decide +kernel
theorem dX5_isNought_1 : decode cX5_isNought 1 = .ok (.getfield 9, 3) := by decide +kernel
theorem dX5_isNought_4 : decode cX5_isNought 4 = .ok (.lconst 0, 1) := by decide +kernel
theorem dX5_isNought_5 : decode cX5_isNought 5 = .ok (.lcmp, 1) := by decide +kernel
theorem dX5_isNought_6 : decode cX5_isNought 6 = .ok (.ifCond .ne 16, 3) := by decide +kernel
theorem dX5_isNought_9 : decode cX5_isNought 9 = .ok (.aload_n 0, 1) := by decide +kernel
theorem dX5_isNought_10 : decode cX5_isNought 10 = .ok (.getfield 15, 3) := by decide +kernel
theorem dX5_isNought_13 : decode cX5_isNought 13 = .ok (.lconst 0, 1) := by decide +kernel
theorem dX5_isNought_14 : decode cX5_isNought 14 = .ok (.lcmp, 1) := by decide +kernel
theorem dX5_isNought_15 : decode cX5_isNought 15 = .ok (.ifCond .ne 7, 3) := by decide +kernel
theorem dX5_isNought_18 : decode cX5_isNought 18 = .ok (.iconst 1, 1) := by decide +kernel
theorem dX5_isNought_19 : decode cX5_isNought 19 = .ok (.goto 4, 3) := by decide +kernel
theorem dX5_isNought_22 : decode cX5_isNought 22 = .ok (.iconst 0, 1) := by decide +kernel
theorem dX5_isNought_23 : decode cX5_isNought 23 = .ok (.ireturn, 1) := by decide +kernel
theorem dX5_isOfThree_0 : decode cX5_isOfThree 0 = .ok (.aload_n 0, 1) := by decide +kernel
theorem dX5_isOfThree_1 : decode cX5_isOfThree 1 = .ok (.getfield 9, 3) := by decide +kernel
theorem dX5_isOfThree_4 : decode cX5_isOfThree 4 = .ok (.aload_n 0, 1) := by decide +kernel
theorem dX5_isOfThree_5 : decode cX5_isOfThree 5 = .ok (.getfield 15, 3) := by decide +kernel
theorem dX5_isOfThree_8 : decode cX5_isOfThree 8 = .ok (.ladd, 1) := by decide +kernel
theorem dX5_isOfThree_9 : decode cX5_isOfThree 9 = .ok (.ldc2_w 26, 3) := by decide +kernel
theorem dX5_isOfThree_12 : decode cX5_isOfThree 12 = .ok (.lrem, 1) := by decide +kernel
theorem dX5_isOfThree_13 : decode cX5_isOfThree 13 = .ok (.lconst 0, 1) := by decide +kernel
theorem dX5_isOfThree_14 : decode cX5_isOfThree 14 = .ok (.lcmp, 1) := by decide +kernel
theorem dX5_isOfThree_15 : decode cX5_isOfThree 15 = .ok (.ifCond .ne 7, 3) := by decide +kernel
theorem dX5_isOfThree_18 : decode cX5_isOfThree 18 = .ok (.iconst 1, 1) := by decide +kernel
theorem dX5_isOfThree_19 : decode cX5_isOfThree 19 = .ok (.goto 4, 3) := by decide +kernel
theorem dX5_isOfThree_22 : decode cX5_isOfThree 22 = .ok (.iconst 0, 1) := by decide +kernel
theorem dX5_isOfThree_23 : decode cX5_isOfThree 23 = .ok (.ireturn, 1) := by decide +kernel
theorem dX5_isPrimary_0 : decode cX5_isPrimary 0 = .ok (.aload_n 0, 1) := by decide +kernel
theorem dX5_isPrimary_1 : decode cX5_isPrimary 1 = .ok (.getfield 9, 3) := by decide +kernel
theorem dX5_isPrimary_4 : decode cX5_isPrimary 4 = .ok (.ldc2_w 26, 3) := by decide +kernel
theorem dX5_isPrimary_7 : decode cX5_isPrimary 7 = .ok (.invokestatic 28, 3) := by decide +kernel
theorem dX5_isPrimary_10 : decode cX5_isPrimary 10 = .ok (.ldc2_w 34, 3) := by decide +kernel
theorem dX5_isPrimary_13 : decode cX5_isPrimary 13 = .ok (.lcmp, 1) := by decide +kernel
theorem dX5_isPrimary_14 : decode cX5_isPrimary 14 = .ok (.ifCond .ne 20, 3) := by decide +kernel
theorem dX5_isPrimary_17 : decode cX5_isPrimary 17 = .ok (.aload_n 0, 1) := by decide +kernel
theorem dX5_isPrimary_18 : decode cX5_isPrimary 18 = .ok (.getfield 15, 3) := by decide +kernel
theorem dX5_isPrimary_21 : decode cX5_isPrimary 21 = .ok (.ldc2_w 26, 3) := by decide +kernel
theorem dX5_isPrimary_24 : decode cX5_isPrimary 24 = .ok (.lrem, 1) := by decide +kernel
theorem dX5_isPrimary_25 : decode cX5_isPrimary 25 = .ok (.lconst 0, 1) := by decide +kernel
theorem dX5_isPrimary_26 : decode cX5_isPrimary 26 = .ok (.lcmp, 1) := by decide +kernel
theorem dX5_isPrimary_27 : decode cX5_isPrimary 27 = .ok (.ifCond .ne 7, 3) := by decide +kernel
theorem dX5_isPrimary_30 : decode cX5_isPrimary 30 = .ok (.iconst 1, 1) := by decide +kernel
theorem dX5_isPrimary_31 : decode cX5_isPrimary 31 = .ok (.goto 4, 3) := by decide +kernel
theorem dX5_isPrimary_34 : decode cX5_isPrimary 34 = .ok (.iconst 0, 1) := by decide +kernel
theorem dX5_isPrimary_35 : decode cX5_isPrimary 35 = .ok (.ireturn, 1) := by decide +kernel
theorem dX5_multiply_0 : decode cX5_multiply 0 = .ok (.aload_n 0, 1) := by decide +kernel
theorem dX5_multiply_1 : decode cX5_multiply 1 = .ok (.getfield 15, 3) := by decide +kernel
theorem dX5_multiply_4 : decode cX5_multiply 4 = .ok (.aload_n 1, 1) := by decide +kernel
theorem dX5_multiply_5 : decode cX5_multiply 5 = .ok (.getfield 15, 3) := by decide +kernel
theorem dX5_multiply_8 : decode cX5_multiply 8 = .ok (.lmul, 1) := by decide +kernel
theorem dX5_multiply_9 : decode cX5_multiply 9 = .ok (.lstore_n 2, 1) := by decide +kernel
theorem dX5_multiply_10 : decode cX5_multiply 10 = .ok (.aload_n 0, 1) := by decide +kernel
theorem dX5_multiply_11 : decode cX5_multiply 11 = .ok (.getfield 9, 3) := by decide +kernel
theorem dX5_multiply_14 : decode cX5_multiply 14 = .ok (.aload_n 1, 1) := by decide +kernel
theorem dX5_multiply_15 : decode cX5_multiply 15 = .ok (.getfield 15, 3) := by decide +kernel
theorem dX5_multiply_18 : decode cX5_multiply 18 = .ok (.lmul, 1) := by decide +kernel
theorem dX5_multiply_19 : decode cX5_multiply 19 = .ok (.aload_n 0, 1) := by decide +kernel
theorem dX5_multiply_20 : decode cX5_multiply 20 = .ok (.getfield 15, 3) := by decide +kernel
theorem dX5_multiply_23 : decode cX5_multiply 23 = .ok (.aload_n 1, 1) := by decide +kernel
theorem dX5_multiply_24 : decode cX5_multiply 24 = .ok (.getfield 9, 3) := by decide +kernel
theorem dX5_multiply_27 : decode cX5_multiply 27 = .ok (.lmul, 1) := by decide +kernel
theorem dX5_multiply_28 : decode cX5_multiply 28 = .ok (.ladd, 1) := by decide +kernel
theorem dX5_multiply_29 : decode cX5_multiply 29 = .ok (.lload_n 2, 1) := by decide +kernel
theorem dX5_multiply_30 : decode cX5_multiply 30 = .ok (.lsub, 1) := by decide +kernel
theorem dX5_multiply_31 : decode cX5_multiply 31 = .ok (.lstore 4, 2) := by decide +kernel
theorem dX5_multiply_33 : decode cX5_multiply 33 = .ok (.aload_n 0, 1) := by decide +kernel
theorem dX5_multiply_34 : decode cX5_multiply 34 = .ok (.aload_n 0, 1) := by decide +kernel
theorem dX5_multiply_35 : decode cX5_multiply 35 = .ok (.getfield 9, 3) := by decide +kernel
theorem dX5_multiply_38 : decode cX5_multiply 38 = .ok (.aload_n 1, 1) := by decide +kernel
theorem dX5_multiply_39 : decode cX5_multiply 39 = .ok (.getfield 9, 3) := by decide +kernel
theorem dX5_multiply_42 : decode cX5_multiply 42 = .ok (.lmul, 1) := by decide +kernel
theorem dX5_multiply_43 : decode cX5_multiply 43 = .ok (.lload_n 2, 1) := by decide +kernel
theorem dX5_multiply_44 : decode cX5_multiply 44 = .ok (.lsub, 1) := by decide +kernel
theorem dX5_multiply_45 : decode cX5_multiply 45 = .ok (.putfield 9, 3) := by decide +kernel
theorem dX5_multiply_48 : decode cX5_multiply 48 = .ok (.aload_n 0, 1) := by decide +kernel
theorem dX5_multiply_49 : decode cX5_multiply 49 = .ok (.lload 4, 2) := by decide +kernel
theorem dX5_multiply_51 : decode cX5_multiply 51 = .ok (.putfield 15, 3) := by decide +kernel
theorem dX5_multiply_54 : decode cX5_multiply 54 = .ok (.return_, 1) := by decide +kernel
theorem dX5_norm_0 : decode cX5_norm 0 = .ok (.aload_n 0, 1) := by decide +kernel
theorem dX5_norm_1 : decode cX5_norm 1 = .ok (.getfield 9, 3) := by decide +kernel
theorem dX5_norm_4 : decode cX5_norm 4 = .ok (.aload_n 0, 1) := by decide +kernel
theorem dX5_norm_5 : decode cX5_norm 5 = .ok (.getfield 9, 3) := by decide +kernel
theorem dX5_norm_8 : decode cX5_norm 8 = .ok (.lmul, 1) := by decide +kernel
theorem dX5_norm_9 : decode cX5_norm 9 = .ok (.aload_n 0, 1) := by decide +kernel
theorem dX5_norm_10 : decode cX5_norm 10 = .ok (.getfield 9, 3) := by decide +kernel
theorem dX5_norm_13 : decode cX5_norm 13 = .ok (.aload_n 0, 1) := by decide +kernel
theorem dX5_norm_14 : decode cX5_norm 14 = .ok (.getfield 15, 3) := by decide +kernel
theorem dX5_norm_17 : decode cX5_norm 17 = .ok (.lmul, 1) := by decide +kernel
theorem dX5_norm_18 : decode cX5_norm 18 = .ok (.lsub, 1) := by decide +kernel
theorem dX5_norm_19 : decode cX5_norm 19 = .ok (.aload_n 0, 1) := by decide +kernel
theorem dX5_norm_20 : decode cX5_norm 20 = .ok (.getfield 15, 3) := by decide +kernel
theorem dX5_norm_23 : decode cX5_norm 23 = .ok (.aload_n 0, 1) := by decide +kernel
theorem dX5_norm_24 : decode cX5_norm 24 = .ok (.getfield 15, 3) := by decide +kernel
theorem dX5_norm_27 : decode cX5_norm 27 = .ok (.lmul, 1) := by decide +kernel
theorem dX5_norm_28 : decode cX5_norm 28 = .ok (.ladd, 1) := by decide +kernel
theorem dX5_norm_29 : decode cX5_norm 29 = .ok (.lreturn, 1) := by decide +kernel
theorem dX5_set_0 : decode cX5_set 0 = .ok (.aload_n 0, 1) := by decide +kernel
theorem dX5_set_1 : decode cX5_set 1 = .ok (.lload_n 1, 1) := by decide +kernel
theorem dX5_set_2 : decode cX5_set 2 = .ok (.putfield 9, 3) := by decide +kernel
theorem dX5_set_5 : decode cX5_set 5 = .ok (.aload_n 0, 1) := by decide +kernel
theorem dX5_set_6 : decode cX5_set 6 = .ok (.lload_n 3, 1) := by decide +kernel
theorem dX5_set_7 : decode cX5_set 7 = .ok (.putfield 15, 3) := by decide +kernel
theorem dX5_set_10 : decode cX5_set 10 = .ok (.return_, 1) := by decide +kernel
theorem dX5_takeOutThrees_0 : decode cX5_takeOutThrees 0 = .ok (.iconst 0, 1) := by decide +kernel
theorem dX5_takeOutThrees_1 : decode cX5_takeOutThrees 1 = .ok (.istore_n 1, 1) := by decide +kernel
theorem dX5_takeOutThrees_2 : decode cX5_takeOutThrees 2 = .ok (.iload_n 1, 1) := by decide +kernel
theorem dX5_takeOutThrees_3 : decode cX5_takeOutThrees 3 = .ok (.bipush 60, 2) := by decide +kernel
theorem dX5_takeOutThrees_5 : decode cX5_takeOutThrees 5 = .ok (.if_icmp .ge 57, 3) := by decide +kernel
theorem dX5_takeOutThrees_8 : decode cX5_takeOutThrees 8 = .ok (.aload_n 0, 1) := by decide +kernel
theorem dX5_takeOutThrees_9 : decode cX5_takeOutThrees 9 = .ok (.invokevirtual 58, 3) := by decide +kernel
theorem dX5_takeOutThrees_12 : decode cX5_takeOutThrees 12 = .ok (.ifCond .eq 50, 3) := by decide +kernel
theorem dX5_takeOutThrees_15 : decode cX5_takeOutThrees 15 = .ok (.aload_n 0, 1) := by decide +kernel
theorem dX5_takeOutThrees_16 : decode cX5_takeOutThrees 16 = .ok (.invokevirtual 40, 3) := by decide +kernel
theorem dX5_takeOutThrees_19 : decode cX5_takeOutThrees 19 = .ok (.ifCond .ne 43, 3) := by decide +kernel
theorem dX5_takeOutThrees_22 : decode cX5_takeOutThrees 22 = .ok (.aload_n 0, 1) := by decide +kernel
theorem dX5_takeOutThrees_23 : decode cX5_takeOutThrees 23 = .ok (.ldc2_w 34, 3) := by decide +kernel
theorem dX5_takeOutThrees_26 : decode cX5_takeOutThrees 26 = .ok (.aload_n 0, 1) := by decide +kernel
theorem dX5_takeOutThrees_27 : decode cX5_takeOutThrees 27 = .ok (.getfield 9, 3) := by decide +kernel
theorem dX5_takeOutThrees_30 : decode cX5_takeOutThrees 30 = .ok (.lmul, 1) := by decide +kernel
theorem dX5_takeOutThrees_31 : decode cX5_takeOutThrees 31 = .ok (.aload_n 0, 1) := by decide +kernel
theorem dX5_takeOutThrees_32 : decode cX5_takeOutThrees 32 = .ok (.getfield 15, 3) := by decide +kernel
theorem dX5_takeOutThrees_35 : decode cX5_takeOutThrees 35 = .ok (.lsub, 1) := by decide +kernel
theorem dX5_takeOutThrees_36 : decode cX5_takeOutThrees 36 = .ok (.ldc2_w 26, 3) := by decide +kernel
theorem dX5_takeOutThrees_39 : decode cX5_takeOutThrees 39 = .ok (.ldiv, 1) := by decide +kernel
theorem dX5_takeOutThrees_40 : decode cX5_takeOutThrees 40 = .ok (.aload_n 0, 1) := by decide +kernel
theorem dX5_takeOutThrees_41 : decode cX5_takeOutThrees 41 = .ok (.getfield 9, 3) := by decide +kernel
theorem dX5_takeOutThrees_44 : decode cX5_takeOutThrees 44 = .ok (.aload_n 0, 1) := by decide +kernel
theorem dX5_takeOutThrees_45 : decode cX5_takeOutThrees 45 = .ok (.getfield 15, 3) := by decide +kernel
theorem dX5_takeOutThrees_48 : decode cX5_takeOutThrees 48 = .ok (.ladd, 1) := by decide +kernel
theorem dX5_takeOutThrees_49 : decode cX5_takeOutThrees 49 = .ok (.ldc2_w 26, 3) := by decide +kernel
theorem dX5_takeOutThrees_52 : decode cX5_takeOutThrees 52 = .ok (.ldiv, 1) := by decide +kernel
theorem dX5_takeOutThrees_53 : decode cX5_takeOutThrees 53 = .ok (.invokevirtual 44, 3) := by decide +kernel
theorem dX5_takeOutThrees_56 : decode cX5_takeOutThrees 56 = .ok (.iinc 1 1, 3) := by decide +kernel
theorem dX5_takeOutThrees_59 : decode cX5_takeOutThrees 59 = .ok (.goto (-57), 3) := by decide +kernel
theorem dX5_takeOutThrees_62 : decode cX5_takeOutThrees 62 = .ok (.iload_n 1, 1) := by decide +kernel
theorem dX5_takeOutThrees_63 : decode cX5_takeOutThrees 63 = .ok (.ireturn, 1) := by decide +kernel
