theorem dX10_slips_50 : decode cX10_slips 50 = .ok (.ireturn, 1) := by decide +kernel
theorem dX10_slips_51 : decode cX10_slips 51 = .ok (.iload_n 1, 1) := by decide +kernel
theorem dX10_slips_52 : decode cX10_slips 52 = .ok (.ifCond .ne 10, 3) := by decide +kernel
theorem dX10_slips_55 : decode cX10_slips 55 = .ok (.aload_n 0, 1) := by decide +kernel
theorem dX10_slips_56 : decode cX10_slips 56 = .ok (.getfield 401, 3) := by decide +kernel
theorem dX10_slips_59 : decode cX10_slips 59 = .ok (.goto 38, 3) := by decide +kernel
theorem dX10_slips_62 : decode cX10_slips 62 = .ok (.iload_n 1, 1) := by decide +kernel
theorem dX10_slips_63 : decode cX10_slips 63 = .ok (.iconst 1, 1) := by decide +kernel
theorem dX10_slips_64 : decode cX10_slips 64 = .ok (.if_icmp .ne 10, 3) := by decide +kernel
theorem dX10_slips_67 : decode cX10_slips 67 = .ok (.aload_n 0, 1) := by decide +kernel
theorem dX10_slips_68 : decode cX10_slips 68 = .ok (.getfield 410, 3) := by decide +kernel
theorem dX10_slips_71 : decode cX10_slips 71 = .ok (.goto 26, 3) := by decide +kernel
theorem dX10_slips_74 : decode cX10_slips 74 = .ok (.iload_n 1, 1) := by decide +kernel
theorem dX10_slips_75 : decode cX10_slips 75 = .ok (.iconst 2, 1) := by decide +kernel
theorem dX10_slips_76 : decode cX10_slips 76 = .ok (.if_icmp .ne 10, 3) := by decide +kernel
theorem dX10_slips_79 : decode cX10_slips 79 = .ok (.aload_n 0, 1) := by decide +kernel
theorem dX10_slips_80 : decode cX10_slips 80 = .ok (.getfield 413, 3) := by decide +kernel
theorem dX10_slips_83 : decode cX10_slips 83 = .ok (.goto 14, 3) := by decide +kernel
theorem dX10_slips_86 : decode cX10_slips 86 = .ok (.aload_n 0, 1) := by decide +kernel
theorem dX10_slips_87 : decode cX10_slips 87 = .ok (.getfield 55, 3) := by decide +kernel
theorem dX10_slips_90 : decode cX10_slips 90 = .ok (.iload_n 1, 1) := by decide +kernel
theorem dX10_slips_91 : decode cX10_slips 91 = .ok (.iconst 3, 1) := by decide +kernel
theorem dX10_slips_92 : decode cX10_slips 92 = .ok (.isub, 1) := by decide +kernel
theorem dX10_slips_93 : decode cX10_slips 93 = .ok (.iaload, 1) := by decide +kernel
theorem dX10_slips_94 : decode cX10_slips 94 = .ok (.bipush 100, 2) := by decide +kernel
theorem dX10_slips_96 : decode cX10_slips 96 = .ok (.iadd, 1) := by decide +kernel
theorem dX10_slips_97 : decode cX10_slips 97 = .ok (.ireturn, 1) := by decide +kernel
theorem dX10_freeOnes_0 : decode cX10_freeOnes 0 = .ok (.aload_n 0, 1) := by decide +kernel
theorem dX10_freeOnes_1 : decode cX10_freeOnes 1 = .ok (.invokevirtual 431, 3) := by decide +kernel
theorem dX10_freeOnes_4 : decode cX10_freeOnes 4 = .ok (.istore_n 1, 1) := by decide +kernel
theorem dX10_freeOnes_5 : decode cX10_freeOnes 5 = .ok (.iload_n 1, 1) := by decide +kernel
theorem dX10_freeOnes_6 : decode cX10_freeOnes 6 = .ok (.ldc_w 400, 3) := by decide +kernel
theorem dX10_freeOnes_9 : decode cX10_freeOnes 9 = .ok (.if_icmp .ne 5, 3) := by decide +kernel
theorem dX10_freeOnes_12 : decode cX10_freeOnes 12 = .ok (.iconst (-1), 1) := by decide +kernel
theorem dX10_freeOnes_13 : decode cX10_freeOnes 13 = .ok (.ireturn, 1) := by decide +kernel
theorem dX10_freeOnes_14 : decode cX10_freeOnes 14 = .ok (.aload_n 0, 1) := by decide +kernel
theorem dX10_freeOnes_15 : decode cX10_freeOnes 15 = .ok (.invokevirtual 422, 3) := by decide +kernel
theorem dX10_freeOnes_18 : decode cX10_freeOnes 18 = .ok (.istore_n 2, 1) := by decide +kernel
theorem dX10_freeOnes_19 : decode cX10_freeOnes 19 = .ok (.iload_n 2, 1) := by decide +kernel
theorem dX10_freeOnes_20 : decode cX10_freeOnes 20 = .ok (.istore_n 3, 1) := by decide +kernel
theorem dX10_freeOnes_21 : decode cX10_freeOnes 21 = .ok (.iconst 0, 1) := by decide +kernel
theorem dX10_freeOnes_22 : decode cX10_freeOnes 22 = .ok (.istore 4, 2) := by decide +kernel
theorem dX10_freeOnes_24 : decode cX10_freeOnes 24 = .ok (.iload 4, 2) := by decide +kernel
theorem dX10_freeOnes_26 : decode cX10_freeOnes 26 = .ok (.aload_n 0, 1) := by decide +kernel
theorem dX10_freeOnes_27 : decode cX10_freeOnes 27 = .ok (.getfield 39, 3) := by decide +kernel
theorem dX10_freeOnes_30 : decode cX10_freeOnes 30 = .ok (.iconst 2, 1) := by decide +kernel
theorem dX10_freeOnes_31 : decode cX10_freeOnes 31 = .ok (.iaload, 1) := by decide +kernel
theorem dX10_freeOnes_32 : decode cX10_freeOnes 32 = .ok (.if_icmp .ge 39, 3) := by decide +kernel
theorem dX10_freeOnes_35 : decode cX10_freeOnes 35 = .ok (.iload_n 2, 1) := by decide +kernel
theorem dX10_freeOnes_36 : decode cX10_freeOnes 36 = .ok (.iload 4, 2) := by decide +kernel
theorem dX10_freeOnes_38 : decode cX10_freeOnes 38 = .ok (.invokestatic 391, 3) := by decide +kernel
theorem dX10_freeOnes_41 : decode cX10_freeOnes 41 = .ok (.ifCond .ne 24, 3) := by decide +kernel
theorem dX10_freeOnes_44 : decode cX10_freeOnes 44 = .ok (.aload_n 0, 1) := by decide +kernel
theorem dX10_freeOnes_45 : decode cX10_freeOnes 45 = .ok (.iload_n 2, 1) := by decide +kernel
theorem dX10_freeOnes_46 : decode cX10_freeOnes 46 = .ok (.iconst 1, 1) := by decide +kernel
theorem dX10_freeOnes_47 : decode cX10_freeOnes 47 = .ok (.iload 4, 2) := by decide +kernel
theorem dX10_freeOnes_49 : decode cX10_freeOnes 49 = .ok (.ishl, 1) := by decide +kernel
theorem dX10_freeOnes_50 : decode cX10_freeOnes 50 = .ok (.ior, 1) := by decide +kernel
theorem dX10_freeOnes_51 : decode cX10_freeOnes 51 = .ok (.invokevirtual 425, 3) := by decide +kernel
theorem dX10_freeOnes_54 : decode cX10_freeOnes 54 = .ok (.iload_n 1, 1) := by decide +kernel
theorem dX10_freeOnes_55 : decode cX10_freeOnes 55 = .ok (.if_icmp .ne 10, 3) := by decide +kernel
theorem dX10_freeOnes_58 : decode cX10_freeOnes 58 = .ok (.iload_n 3, 1) := by decide +kernel
theorem dX10_freeOnes_59 : decode cX10_freeOnes 59 = .ok (.iconst 1, 1) := by decide +kernel
theorem dX10_freeOnes_60 : decode cX10_freeOnes 60 = .ok (.iload 4, 2) := by decide +kernel
theorem dX10_freeOnes_62 : decode cX10_freeOnes 62 = .ok (.ishl, 1) := by decide +kernel
theorem dX10_freeOnes_63 : decode cX10_freeOnes 63 = .ok (.ior, 1) := by decide +kernel
theorem dX10_freeOnes_64 : decode cX10_freeOnes 64 = .ok (.istore_n 3, 1) := by decide +kernel
theorem dX10_freeOnes_65 : decode cX10_freeOnes 65 = .ok (.iinc 4 1, 3) := by decide +kernel
theorem dX10_freeOnes_68 : decode cX10_freeOnes 68 = .ok (.goto (-44), 3) := by decide +kernel
theorem dX10_freeOnes_71 : decode cX10_freeOnes 71 = .ok (.iload_n 3, 1) := by decide +kernel
theorem dX10_freeOnes_72 : decode cX10_freeOnes 72 = .ok (.ireturn, 1) := by decide +kernel
theorem dX10_must_0 : decode cX10_must 0 = .ok (.aload_n 0, 1) := by decide +kernel
theorem dX10_must_1 : decode cX10_must 1 = .ok (.getfield 39, 3) := by decide +kernel
theorem dX10_must_4 : decode cX10_must 4 = .ok (.iconst 2, 1) := by decide +kernel
theorem dX10_must_5 : decode cX10_must 5 = .ok (.iaload, 1) := by decide +kernel
theorem dX10_must_6 : decode cX10_must 6 = .ok (.ifCond .ne 6, 3) := by decide +kernel
theorem dX10_must_9 : decode cX10_must 9 = .ok (.bipush (-3), 2) := by decide +kernel
theorem dX10_must_11 : decode cX10_must 11 = .ok (.ireturn, 1) := by decide +kernel
theorem dX10_must_12 : decode cX10_must 12 = .ok (.aload_n 0, 1) := by decide +kernel
theorem dX10_must_13 : decode cX10_must 13 = .ok (.iconst (-1), 1) := by decide +kernel
theorem dX10_must_14 : decode cX10_must 14 = .ok (.invokevirtual 428, 3) := by decide +kernel
theorem dX10_must_17 : decode cX10_must 17 = .ok (.ifCond .eq 10, 3) := by decide +kernel
theorem dX10_must_20 : decode cX10_must 20 = .ok (.aload_n 0, 1) := by decide +kernel
theorem dX10_must_21 : decode cX10_must 21 = .ok (.invokevirtual 434, 3) := by decide +kernel
theorem dX10_must_24 : decode cX10_must 24 = .ok (.goto 4, 3) := by decide +kernel
theorem dX10_must_27 : decode cX10_must 27 = .ok (.iconst (-1), 1) := by decide +kernel
theorem dX10_must_28 : decode cX10_must 28 = .ok (.istore_n 1, 1) := by decide +kernel
theorem dX10_must_29 : decode cX10_must 29 = .ok (.iload_n 1, 1) := by decide +kernel
theorem dX10_must_30 : decode cX10_must 30 = .ok (.ifCond .ge 8, 3) := by decide +kernel
theorem dX10_must_33 : decode cX10_must 33 = .ok (.bipush (-2), 2) := by decide +kernel
theorem dX10_must_35 : decode cX10_must 35 = .ok (.goto 17, 3) := by decide +kernel
theorem dX10_must_38 : decode cX10_must 38 = .ok (.iconst 1, 1) := by decide +kernel
theorem dX10_must_39 : decode cX10_must 39 = .ok (.aload_n 0, 1) := by decide +kernel
theorem dX10_must_40 : decode cX10_must 40 = .ok (.getfield 39, 3) := by decide +kernel
theorem dX10_must_43 : decode cX10_must 43 = .ok (.iconst 2, 1) := by decide +kernel
theorem dX10_must_44 : decode cX10_must 44 = .ok (.iaload, 1) := by decide +kernel
theorem dX10_must_45 : decode cX10_must 45 = .ok (.ishl, 1) := by decide +kernel
theorem dX10_must_46 : decode cX10_must 46 = .ok (.iconst 1, 1) := by decide +kernel
theorem dX10_must_47 : decode cX10_must 47 = .ok (.isub, 1) := by decide +kernel
theorem dX10_must_48 : decode cX10_must 48 = .ok (.iload_n 1, 1) := by decide +kernel
theorem dX10_must_49 : decode cX10_must 49 = .ok (.iconst (-1), 1) := by decide +kernel
theorem dX10_must_50 : decode cX10_must 50 = .ok (.ixor, 1) := by decide +kernel
theorem dX10_must_51 : decode cX10_must 51 = .ok (.iand, 1) := by decide +kernel
theorem dX10_must_52 : decode cX10_must 52 = .ok (.ireturn, 1) := by decide +kernel
theorem dX10_free_0 : decode cX10_free 0 = .ok (.aload_n 0, 1) := by decide +kernel
theorem dX10_free_1 : decode cX10_free 1 = .ok (.getfield 39, 3) := by decide +kernel
theorem dX10_free_4 : decode cX10_free 4 = .ok (.iconst 2, 1) := by decide +kernel
theorem dX10_free_5 : decode cX10_free 5 = .ok (.iaload, 1) := by decide +kernel
theorem dX10_free_6 : decode cX10_free 6 = .ok (.ifCond .ne 6, 3) := by decide +kernel
theorem dX10_free_9 : decode cX10_free 9 = .ok (.bipush (-3), 2) := by decide +kernel
theorem dX10_free_11 : decode cX10_free 11 = .ok (.ireturn, 1) := by decide +kernel
theorem dX10_free_12 : decode cX10_free 12 = .ok (.aload_n 0, 1) := by decide +kernel
theorem dX10_free_13 : decode cX10_free 13 = .ok (.iconst (-1), 1) := by decide +kernel
theorem dX10_free_14 : decode cX10_free 14 = .ok (.invokevirtual 428, 3) := by decide +kernel
theorem dX10_free_17 : decode cX10_free 17 = .ok (.ifCond .eq 10, 3) := by decide +kernel
theorem dX10_free_20 : decode cX10_free 20 = .ok (.aload_n 0, 1) := by decide +kernel
theorem dX10_free_21 : decode cX10_free 21 = .ok (.invokevirtual 434, 3) := by decide +kernel
theorem dX10_free_24 : decode cX10_free 24 = .ok (.goto 4, 3) := by decide +kernel
theorem dX10_free_27 : decode cX10_free 27 = .ok (.iconst (-1), 1) := by decide +kernel
theorem dX10_free_28 : decode cX10_free 28 = .ok (.istore_n 1, 1) := by decide +kernel
theorem dX10_free_29 : decode cX10_free 29 = .ok (.iload_n 1, 1) := by decide +kernel
theorem dX10_free_30 : decode cX10_free 30 = .ok (.ifCond .ge 8, 3) := by decide +kernel
theorem dX10_free_33 : decode cX10_free 33 = .ok (.bipush (-2), 2) := by decide +kernel
theorem dX10_free_35 : decode cX10_free 35 = .ok (.goto 4, 3) := by decide +kernel
theorem dX10_free_38 : decode cX10_free 38 = .ok (.iload_n 1, 1) := by decide +kernel
theorem dX10_free_39 : decode cX10_free 39 = .ok (.ireturn, 1) := by decide +kernel
theorem dX10_keeps_0 : decode cX10_keeps 0 = .ok (.iconst 0, 1) := by decide +kernel
theorem dX10_keeps_1 : decode cX10_keeps 1 = .ok (.istore_n 1, 1) := by decide +kernel
theorem dX10_keeps_2 : decode cX10_keeps 2 = .ok (.iload_n 1, 1) := by decide +kernel
theorem dX10_keeps_3 : decode cX10_keeps 3 = .ok (.sipush 1012, 3) := by decide +kernel
theorem dX10_keeps_6 : decode cX10_keeps 6 = .ok (.if_icmp .ge 25, 3) := by decide +kernel
theorem dX10_keeps_9 : decode cX10_keeps 9 = .ok (.aload_n 0, 1) := by decide +kernel
theorem dX10_keeps_10 : decode cX10_keeps 10 = .ok (.getfield 58, 3) := by decide +kernel
theorem dX10_keeps_13 : decode cX10_keeps 13 = .ok (.iload_n 1, 1) := by decide +kernel
theorem dX10_keeps_14 : decode cX10_keeps 14 = .ok (.aload_n 0, 1) := by decide +kernel
theorem dX10_keeps_15 : decode cX10_keeps 15 = .ok (.getfield 39, 3) := by decide +kernel
theorem dX10_keeps_18 : decode cX10_keeps 18 = .ok (.sipush 128, 3) := by decide +kernel
theorem dX10_keeps_21 : decode cX10_keeps 21 = .ok (.iload_n 1, 1) := by decide +kernel
theorem dX10_keeps_22 : decode cX10_keeps 22 = .ok (.iadd, 1) := by decide +kernel
theorem dX10_keeps_23 : decode cX10_keeps 23 = .ok (.iaload, 1) := by decide +kernel
theorem dX10_keeps_24 : decode cX10_keeps 24 = .ok (.iastore, 1) := by decide +kernel
theorem dX10_keeps_25 : decode cX10_keeps 25 = .ok (.iinc 1 1, 3) := by decide +kernel
theorem dX10_keeps_28 : decode cX10_keeps 28 = .ok (.goto (-26), 3) := by decide +kernel
theorem dX10_keeps_31 : decode cX10_keeps 31 = .ok (.return_, 1) := by decide +kernel
theorem dX10_laysBack_0 : decode cX10_laysBack 0 = .ok (.iconst 0, 1) := by decide +kernel
theorem dX10_laysBack_1 : decode cX10_laysBack 1 = .ok (.istore_n 1, 1) := by decide +kernel
theorem dX10_laysBack_2 : decode cX10_laysBack 2 = .ok (.iload_n 1, 1) := by decide +kernel
theorem dX10_laysBack_3 : decode cX10_laysBack 3 = .ok (.sipush 1012, 3) := by decide +kernel
theorem dX10_laysBack_6 : decode cX10_laysBack 6 = .ok (.if_icmp .ge 25, 3) := by decide +kernel
theorem dX10_laysBack_9 : decode cX10_laysBack 9 = .ok (.aload_n 0, 1) := by decide +kernel
theorem dX10_laysBack_10 : decode cX10_laysBack 10 = .ok (.getfield 39, 3) := by decide +kernel
theorem dX10_laysBack_13 : decode cX10_laysBack 13 = .ok (.sipush 128, 3) := by decide +kernel
theorem dX10_laysBack_16 : decode cX10_laysBack 16 = .ok (.iload_n 1, 1) := by decide +kernel
theorem dX10_laysBack_17 : decode cX10_laysBack 17 = .ok (.iadd, 1) := by decide +kernel
theorem dX10_laysBack_18 : decode cX10_laysBack 18 = .ok (.aload_n 0, 1) := by decide +kernel
theorem dX10_laysBack_19 : decode cX10_laysBack 19 = .ok (.getfield 58, 3) := by decide +kernel
theorem dX10_laysBack_22 : decode cX10_laysBack 22 = .ok (.iload_n 1, 1) := by decide +kernel
theorem dX10_laysBack_23 : decode cX10_laysBack 23 = .ok (.iaload, 1) := by decide +kernel
theorem dX10_laysBack_24 : decode cX10_laysBack 24 = .ok (.iastore, 1) := by decide +kernel
theorem dX10_laysBack_25 : decode cX10_laysBack 25 = .ok (.iinc 1 1, 3) := by decide +kernel
theorem dX10_laysBack_28 : decode cX10_laysBack 28 = .ok (.goto (-26), 3) := by decide +kernel
theorem dX10_laysBack_31 : decode cX10_laysBack 31 = .ok (.return_, 1) := by decide +kernel
theorem dX10_leaves_0 : decode cX10_leaves 0 = .ok (.aload_n 0, 1) := by decide +kernel
theorem dX10_leaves_1 : decode cX10_leaves 1 = .ok (.iload_n 1, 1) := by decide +kernel
theorem dX10_leaves_2 : decode cX10_leaves 2 = .ok (.invokevirtual 307, 3) := by decide +kernel
theorem dX10_leaves_5 : decode cX10_leaves 5 = .ok (.ifCond .eq 17, 3) := by decide +kernel
theorem dX10_leaves_8 : decode cX10_leaves 8 = .ok (.aload_n 0, 1) := by decide +kernel
theorem dX10_leaves_9 : decode cX10_leaves 9 = .ok (.getfield 39, 3) := by decide +kernel
theorem dX10_leaves_12 : decode cX10_leaves 12 = .ok (.sipush 1110, 3) := by decide +kernel
theorem dX10_leaves_15 : decode cX10_leaves 15 = .ok (.iload_n 1, 1) := by decide +kernel
theorem dX10_leaves_16 : decode cX10_leaves 16 = .ok (.iadd, 1) := by decide +kernel
theorem dX10_leaves_17 : decode cX10_leaves 17 = .ok (.iaload, 1) := by decide +kernel
theorem dX10_leaves_18 : decode cX10_leaves 18 = .ok (.iconst 1, 1) := by decide +kernel
theorem dX10_leaves_19 : decode cX10_leaves 19 = .ok (.if_icmp .ne 5, 3) := by decide +kernel
theorem dX10_leaves_22 : decode cX10_leaves 22 = .ok (.iconst (-1), 1) := by decide +kernel
theorem dX10_leaves_23 : decode cX10_leaves 23 = .ok (.ireturn, 1) := by decide +kernel
theorem dX10_leaves_24 : decode cX10_leaves 24 = .ok (.aload_n 0, 1) := by decide +kernel
theorem dX10_leaves_25 : decode cX10_leaves 25 = .ok (.iload_n 1, 1) := by decide +kernel
theorem dX10_leaves_26 : decode cX10_leaves 26 = .ok (.invokevirtual 428, 3) := by decide +kernel
theorem dX10_leaves_29 : decode cX10_leaves 29 = .ok (.ifCond .ne 6, 3) := by decide +kernel
theorem dX10_leaves_32 : decode cX10_leaves 32 = .ok (.bipush (-2), 2) := by decide +kernel
theorem dX10_leaves_34 : decode cX10_leaves 34 = .ok (.ireturn, 1) := by decide +kernel
theorem dX10_leaves_35 : decode cX10_leaves 35 = .ok (.aload_n 0, 1) := by decide +kernel
theorem dX10_leaves_36 : decode cX10_leaves 36 = .ok (.invokevirtual 437, 3) := by decide +kernel
theorem dX10_leaves_39 : decode cX10_leaves 39 = .ok (.aload_n 0, 1) := by decide +kernel
theorem dX10_leaves_40 : decode cX10_leaves 40 = .ok (.iload_n 1, 1) := by decide +kernel
theorem dX10_leaves_41 : decode cX10_leaves 41 = .ok (.invokevirtual 379, 3) := by decide +kernel
theorem dX10_leaves_44 : decode cX10_leaves 44 = .ok (.aload_n 0, 1) := by decide +kernel
theorem dX10_leaves_45 : decode cX10_leaves 45 = .ok (.invokevirtual 431, 3) := by decide +kernel
theorem dX10_leaves_48 : decode cX10_leaves 48 = .ok (.istore_n 2, 1) := by decide +kernel
theorem dX10_leaves_49 : decode cX10_leaves 49 = .ok (.aload_n 0, 1) := by decide +kernel
theorem dX10_leaves_50 : decode cX10_leaves 50 = .ok (.invokevirtual 440, 3) := by decide +kernel
theorem dX10_leaves_53 : decode cX10_leaves 53 = .ok (.iload_n 2, 1) := by decide +kernel
theorem dX10_leaves_54 : decode cX10_leaves 54 = .ok (.ldc_w 400, 3) := by decide +kernel
theorem dX10_leaves_57 : decode cX10_leaves 57 = .ok (.if_icmp .ne 8, 3) := by decide +kernel
theorem dX10_leaves_60 : decode cX10_leaves 60 = .ok (.bipush (-2), 2) := by decide +kernel
theorem dX10_leaves_62 : decode cX10_leaves 62 = .ok (.goto 4, 3) := by decide +kernel
theorem dX10_leaves_65 : decode cX10_leaves 65 = .ok (.iload_n 2, 1) := by decide +kernel
theorem dX10_leaves_66 : decode cX10_leaves 66 = .ok (.ireturn, 1) := by decide +kernel
theorem dX10_ahead_0 : decode cX10_ahead 0 = .ok (.aload_n 0, 1) := by decide +kernel
theorem dX10_ahead_1 : decode cX10_ahead 1 = .ok (.iload_n 1, 1) := by decide +kernel
theorem dX10_ahead_2 : decode cX10_ahead 2 = .ok (.invokevirtual 307, 3) := by decide +kernel
theorem dX10_ahead_5 : decode cX10_ahead 5 = .ok (.ifCond .eq 27, 3) := by decide +kernel
theorem dX10_ahead_8 : decode cX10_ahead 8 = .ok (.iload_n 2, 1) := by decide +kernel
theorem dX10_ahead_9 : decode cX10_ahead 9 = .ok (.i2l, 1) := by decide +kernel
theorem dX10_ahead_10 : decode cX10_ahead 10 = .ok (.lconst 0, 1) := by decide +kernel
theorem dX10_ahead_11 : decode cX10_ahead 11 = .ok (.ldc2_w 443, 3) := by decide +kernel
theorem dX10_ahead_14 : decode cX10_ahead 14 = .ok (.invokestatic 121, 3) := by decide +kernel
theorem dX10_ahead_17 : decode cX10_ahead 17 = .ok (.ifCond .eq 15, 3) := by decide +kernel
theorem dX10_ahead_20 : decode cX10_ahead 20 = .ok (.iload_n 3, 1) := by decide +kernel
theorem dX10_ahead_21 : decode cX10_ahead 21 = .ok (.i2l, 1) := by decide +kernel
theorem dX10_ahead_22 : decode cX10_ahead 22 = .ok (.lconst 0, 1) := by decide +kernel
theorem dX10_ahead_23 : decode cX10_ahead 23 = .ok (.ldc2_w 445, 3) := by decide +kernel
theorem dX10_ahead_26 : decode cX10_ahead 26 = .ok (.invokestatic 121, 3) := by decide +kernel
theorem dX10_ahead_29 : decode cX10_ahead 29 = .ok (.ifCond .ne 5, 3) := by decide +kernel
theorem dX10_ahead_32 : decode cX10_ahead 32 = .ok (.iconst (-1), 1) := by decide +kernel
theorem dX10_ahead_33 : decode cX10_ahead 33 = .ok (.ireturn, 1) := by decide +kernel
theorem dX10_ahead_34 : decode cX10_ahead 34 = .ok (.aload_n 0, 1) := by decide +kernel
theorem dX10_ahead_35 : decode cX10_ahead 35 = .ok (.invokevirtual 437, 3) := by decide +kernel
theorem dX10_ahead_38 : decode cX10_ahead 38 = .ok (.aload_n 0, 1) := by decide +kernel
theorem dX10_ahead_39 : decode cX10_ahead 39 = .ok (.iload_n 2, 1) := by decide +kernel
theorem dX10_ahead_40 : decode cX10_ahead 40 = .ok (.invokevirtual 447, 3) := by decide +kernel
theorem dX10_ahead_43 : decode cX10_ahead 43 = .ok (.iload_n 3, 1) := by decide +kernel
theorem dX10_ahead_44 : decode cX10_ahead 44 = .ok (.iconst 3, 1) := by decide +kernel
theorem dX10_ahead_45 : decode cX10_ahead 45 = .ok (.if_icmp .ge 12, 3) := by decide +kernel
theorem dX10_ahead_48 : decode cX10_ahead 48 = .ok (.aload_n 0, 1) := by decide +kernel
theorem dX10_ahead_49 : decode cX10_ahead 49 = .ok (.iload_n 1, 1) := by decide +kernel
theorem dX10_ahead_50 : decode cX10_ahead 50 = .ok (.iload_n 3, 1) := by decide +kernel
theorem dX10_ahead_51 : decode cX10_ahead 51 = .ok (.invokevirtual 290, 3) := by decide +kernel
theorem dX10_ahead_54 : decode cX10_ahead 54 = .ok (.goto 13, 3) := by decide +kernel
theorem dX10_ahead_57 : decode cX10_ahead 57 = .ok (.aload_n 0, 1) := by decide +kernel
theorem dX10_ahead_58 : decode cX10_ahead 58 = .ok (.getfield 39, 3) := by decide +kernel
theorem dX10_ahead_61 : decode cX10_ahead 61 = .ok (.sipush 1090, 3) := by decide +kernel
theorem dX10_ahead_64 : decode cX10_ahead 64 = .ok (.iload_n 1, 1) := by decide +kernel
theorem dX10_ahead_65 : decode cX10_ahead 65 = .ok (.iadd, 1) := by decide +kernel
theorem dX10_ahead_66 : decode cX10_ahead 66 = .ok (.iaload, 1) := by decide +kernel
theorem dX10_ahead_67 : decode cX10_ahead 67 = .ok (.istore 4, 2) := by decide +kernel
theorem dX10_ahead_69 : decode cX10_ahead 69 = .ok (.aload_n 0, 1) := by decide +kernel
theorem dX10_ahead_70 : decode cX10_ahead 70 = .ok (.invokevirtual 440, 3) := by decide +kernel
theorem dX10_ahead_73 : decode cX10_ahead 73 = .ok (.iload 4, 2) := by decide +kernel
theorem dX10_ahead_75 : decode cX10_ahead 75 = .ok (.ireturn, 1) := by decide +kernel
theorem dX10_dry_0 : decode cX10_dry 0 = .ok (.aload_n 0, 1) := by decide +kernel
theorem dX10_dry_1 : decode cX10_dry 1 = .ok (.iload_n 1, 1) := by decide +kernel
theorem dX10_dry_2 : decode cX10_dry 2 = .ok (.invokevirtual 307, 3) := by decide +kernel
theorem dX10_dry_5 : decode cX10_dry 5 = .ok (.ifCond .ne 5, 3) := by decide +kernel
theorem dX10_dry_8 : decode cX10_dry 8 = .ok (.iconst (-1), 1) := by decide +kernel
theorem dX10_dry_9 : decode cX10_dry 9 = .ok (.ireturn, 1) := by decide +kernel
theorem dX10_dry_10 : decode cX10_dry 10 = .ok (.bipush (-2), 2) := by decide +kernel
theorem dX10_dry_12 : decode cX10_dry 12 = .ok (.istore_n 2, 1) := by decide +kernel
theorem dX10_dry_13 : decode cX10_dry 13 = .ok (.aload_n 0, 1) := by decide +kernel
theorem dX10_dry_14 : decode cX10_dry 14 = .ok (.invokevirtual 437, 3) := by decide +kernel
theorem dX10_dry_17 : decode cX10_dry 17 = .ok (.iconst 0, 1) := by decide +kernel
theorem dX10_dry_18 : decode cX10_dry 18 = .ok (.istore_n 3, 1) := by decide +kernel
theorem dX10_dry_19 : decode cX10_dry 19 = .ok (.iload_n 3, 1) := by decide +kernel
theorem dX10_dry_20 : decode cX10_dry 20 = .ok (.sipush 200, 3) := by decide +kernel
theorem dX10_dry_23 : decode cX10_dry 23 = .ok (.if_icmp .ge 50, 3) := by decide +kernel
theorem dX10_dry_26 : decode cX10_dry 26 = .ok (.iload_n 2, 1) := by decide +kernel
theorem dX10_dry_27 : decode cX10_dry 27 = .ok (.ifCond .ge 46, 3) := by decide +kernel
theorem dX10_dry_30 : decode cX10_dry 30 = .ok (.aload_n 0, 1) := by decide +kernel
theorem dX10_dry_31 : decode cX10_dry 31 = .ok (.invokevirtual 351, 3) := by decide +kernel
theorem dX10_dry_34 : decode cX10_dry 34 = .ok (.pop, 1) := by decide +kernel
theorem dX10_dry_35 : decode cX10_dry 35 = .ok (.aload_n 0, 1) := by decide +kernel
theorem dX10_dry_36 : decode cX10_dry 36 = .ok (.getfield 39, 3) := by decide +kernel
theorem dX10_dry_39 : decode cX10_dry 39 = .ok (.sipush 1090, 3) := by decide +kernel
theorem dX10_dry_42 : decode cX10_dry 42 = .ok (.iload_n 1, 1) := by decide +kernel
theorem dX10_dry_43 : decode cX10_dry 43 = .ok (.iadd, 1) := by decide +kernel
theorem dX10_dry_44 : decode cX10_dry 44 = .ok (.iaload, 1) := by decide +kernel
theorem dX10_dry_45 : decode cX10_dry 45 = .ok (.ifCond .le 22, 3) := by decide +kernel
theorem dX10_dry_48 : decode cX10_dry 48 = .ok (.aload_n 0, 1) := by decide +kernel
theorem dX10_dry_49 : decode cX10_dry 49 = .ok (.iload_n 1, 1) := by decide +kernel
theorem dX10_dry_50 : decode cX10_dry 50 = .ok (.invokevirtual 322, 3) := by decide +kernel
theorem dX10_dry_53 : decode cX10_dry 53 = .ok (.ifCond .ge 14, 3) := by decide +kernel
theorem dX10_dry_56 : decode cX10_dry 56 = .ok (.aload_n 0, 1) := by decide +kernel
theorem dX10_dry_57 : decode cX10_dry 57 = .ok (.getfield 39, 3) := by decide +kernel
theorem dX10_dry_60 : decode cX10_dry 60 = .ok (.sipush 128, 3) := by decide +kernel
theorem dX10_dry_63 : decode cX10_dry 63 = .ok (.iaload, 1) := by decide +kernel
theorem dX10_dry_64 : decode cX10_dry 64 = .ok (.iconst 1, 1) := by decide +kernel
theorem dX10_dry_65 : decode cX10_dry 65 = .ok (.isub, 1) := by decide +kernel
theorem dX10_dry_66 : decode cX10_dry 66 = .ok (.istore_n 2, 1) := by decide +kernel
theorem dX10_dry_67 : decode cX10_dry 67 = .ok (.iinc 3 1, 3) := by decide +kernel
theorem dX10_dry_70 : decode cX10_dry 70 = .ok (.goto (-51), 3) := by decide +kernel
theorem dX10_dry_73 : decode cX10_dry 73 = .ok (.aload_n 0, 1) := by decide +kernel
theorem dX10_dry_74 : decode cX10_dry 74 = .ok (.invokevirtual 440, 3) := by decide +kernel
theorem dX10_dry_77 : decode cX10_dry 77 = .ok (.iload_n 2, 1) := by decide +kernel
theorem dX10_dry_78 : decode cX10_dry 78 = .ok (.ireturn, 1) := by decide +kernel
theorem dX10_served_0 : decode cX10_served 0 = .ok (.aload_n 0, 1) := by decide +kernel
theorem dX10_served_1 : decode cX10_served 1 = .ok (.invokevirtual 354, 3) := by decide +kernel
theorem dX10_served_4 : decode cX10_served 4 = .ok (.ifCond .ne 5, 3) := by decide +kernel
theorem dX10_served_7 : decode cX10_served 7 = .ok (.iconst (-1), 1) := by decide +kernel
theorem dX10_served_8 : decode cX10_served 8 = .ok (.ireturn, 1) := by decide +kernel
theorem dX10_served_9 : decode cX10_served 9 = .ok (.bipush (-2), 2) := by decide +kernel
theorem dX10_served_11 : decode cX10_served 11 = .ok (.istore_n 1, 1) := by decide +kernel
theorem dX10_served_12 : decode cX10_served 12 = .ok (.aload_n 0, 1) := by decide +kernel
theorem dX10_served_13 : decode cX10_served 13 = .ok (.invokevirtual 437, 3) := by decide +kernel
theorem dX10_served_16 : decode cX10_served 16 = .ok (.iconst 0, 1) := by decide +kernel
theorem dX10_served_17 : decode cX10_served 17 = .ok (.istore_n 2, 1) := by decide +kernel
theorem dX10_served_18 : decode cX10_served 18 = .ok (.iload_n 2, 1) := by decide +kernel
theorem dX10_served_19 : decode cX10_served 19 = .ok (.sipush 200, 3) := by decide +kernel
theorem dX10_served_22 : decode cX10_served 22 = .ok (.if_icmp .ge 36, 3) := by decide +kernel
theorem dX10_served_25 : decode cX10_served 25 = .ok (.iload_n 1, 1) := by decide +kernel
theorem dX10_served_26 : decode cX10_served 26 = .ok (.ifCond .ge 32, 3) := by decide +kernel
theorem dX10_served_29 : decode cX10_served 29 = .ok (.aload_n 0, 1) := by decide +kernel
theorem dX10_served_30 : decode cX10_served 30 = .ok (.invokevirtual 351, 3) := by decide +kernel
theorem dX10_served_33 : decode cX10_served 33 = .ok (.pop, 1) := by decide +kernel
theorem dX10_served_34 : decode cX10_served 34 = .ok (.aload_n 0, 1) := by decide +kernel
theorem dX10_served_35 : decode cX10_served 35 = .ok (.invokevirtual 329, 3) := by decide +kernel
theorem dX10_served_38 : decode cX10_served 38 = .ok (.ifCond .ne 14, 3) := by decide +kernel
theorem dX10_served_41 : decode cX10_served 41 = .ok (.aload_n 0, 1) := by decide +kernel
theorem dX10_served_42 : decode cX10_served 42 = .ok (.getfield 39, 3) := by decide +kernel
theorem dX10_served_45 : decode cX10_served 45 = .ok (.sipush 128, 3) := by decide +kernel
theorem dX10_served_48 : decode cX10_served 48 = .ok (.iaload, 1) := by decide +kernel
theorem dX10_served_49 : decode cX10_served 49 = .ok (.iconst 1, 1) := by decide +kernel
theorem dX10_served_50 : decode cX10_served 50 = .ok (.isub, 1) := by decide +kernel
theorem dX10_served_51 : decode cX10_served 51 = .ok (.istore_n 1, 1) := by decide +kernel
theorem dX10_served_52 : decode cX10_served 52 = .ok (.iinc 2 1, 3) := by decide +kernel
theorem dX10_served_55 : decode cX10_served 55 = .ok (.goto (-37), 3) := by decide +kernel
theorem dX10_served_58 : decode cX10_served 58 = .ok (.aload_n 0, 1) := by decide +kernel
theorem dX10_served_59 : decode cX10_served 59 = .ok (.invokevirtual 440, 3) := by decide +kernel
theorem dX10_served_62 : decode cX10_served 62 = .ok (.iload_n 1, 1) := by decide +kernel
theorem dX10_served_63 : decode cX10_served 63 = .ok (.ireturn, 1) := by decide +kernel
theorem dX10_waitIn_0 : decode cX10_waitIn 0 = .ok (.aload_n 0, 1) := by decide +kernel
theorem dX10_waitIn_1 : decode cX10_waitIn 1 = .ok (.iload_n 1, 1) := by decide +kernel
theorem dX10_waitIn_2 : decode cX10_waitIn 2 = .ok (.invokevirtual 447, 3) := by decide +kernel
theorem dX10_waitIn_5 : decode cX10_waitIn 5 = .ok (.aload_n 0, 1) := by decide +kernel
theorem dX10_waitIn_6 : decode cX10_waitIn 6 = .ok (.invokevirtual 329, 3) := by decide +kernel
theorem dX10_waitIn_9 : decode cX10_waitIn 9 = .ok (.istore_n 2, 1) := by decide +kernel
theorem dX10_waitIn_10 : decode cX10_waitIn 10 = .ok (.aload_n 0, 1) := by decide +kernel
theorem dX10_waitIn_11 : decode cX10_waitIn 11 = .ok (.invokevirtual 440, 3) := by decide +kernel
theorem dX10_waitIn_14 : decode cX10_waitIn 14 = .ok (.iload_n 2, 1) := by decide +kernel
theorem dX10_waitIn_15 : decode cX10_waitIn 15 = .ok (.ireturn, 1) := by decide +kernel
theorem dX10_more_0 : decode cX10_more 0 = .ok (.aload_n 0, 1) := by decide +kernel
theorem dX10_more_1 : decode cX10_more 1 = .ok (.iload_n 1, 1) := by decide +kernel
theorem dX10_more_2 : decode cX10_more 2 = .ok (.invokevirtual 307, 3) := by decide +kernel
theorem dX10_more_5 : decode cX10_more 5 = .ok (.ifCond .eq 25, 3) := by decide +kernel
theorem dX10_more_8 : decode cX10_more 8 = .ok (.iload_n 2, 1) := by decide +kernel
theorem dX10_more_9 : decode cX10_more 9 = .ok (.i2l, 1) := by decide +kernel
theorem dX10_more_10 : decode cX10_more 10 = .ok (.lconst 1, 1) := by decide +kernel
theorem dX10_more_11 : decode cX10_more 11 = .ok (.ldc2_w 374, 3) := by decide +kernel
theorem dX10_more_14 : decode cX10_more 14 = .ok (.invokestatic 121, 3) := by decide +kernel
theorem dX10_more_17 : decode cX10_more 17 = .ok (.ifCond .eq 13, 3) := by decide +kernel
theorem dX10_more_20 : decode cX10_more 20 = .ok (.iload_n 3, 1) := by decide +kernel
theorem dX10_more_21 : decode cX10_more 21 = .ok (.i2l, 1) := by decide +kernel
theorem dX10_more_22 : decode cX10_more 22 = .ok (.lconst 0, 1) := by decide +kernel
theorem dX10_more_23 : decode cX10_more 23 = .ok (.lconst 1, 1) := by decide +kernel
theorem dX10_more_24 : decode cX10_more 24 = .ok (.invokestatic 121, 3) := by decide +kernel
theorem dX10_more_27 : decode cX10_more 27 = .ok (.ifCond .ne 6, 3) := by decide +kernel
theorem dX10_more_30 : decode cX10_more 30 = .ok (.bipush (-2), 2) := by decide +kernel
theorem dX10_more_32 : decode cX10_more 32 = .ok (.ireturn, 1) := by decide +kernel
theorem dX10_more_33 : decode cX10_more 33 = .ok (.aload_n 0, 1) := by decide +kernel
theorem dX10_more_34 : decode cX10_more 34 = .ok (.invokevirtual 437, 3) := by decide +kernel
theorem dX10_more_37 : decode cX10_more 37 = .ok (.iconst (-1), 1) := by decide +kernel
theorem dX10_more_38 : decode cX10_more 38 = .ok (.istore 4, 2) := by decide +kernel
theorem dX10_more_40 : decode cX10_more 40 = .ok (.aload_n 0, 1) := by decide +kernel
theorem dX10_more_41 : decode cX10_more 41 = .ok (.iload_n 2, 1) := by decide +kernel
theorem dX10_more_42 : decode cX10_more 42 = .ok (.invokevirtual 450, 3) := by decide +kernel
theorem dX10_more_45 : decode cX10_more 45 = .ok (.istore 5, 2) := by decide +kernel
theorem dX10_more_47 : decode cX10_more 47 = .ok (.iconst 0, 1) := by decide +kernel
theorem dX10_more_48 : decode cX10_more 48 = .ok (.istore 6, 2) := by decide +kernel
theorem dX10_more_50 : decode cX10_more 50 = .ok (.iload 6, 2) := by decide +kernel
theorem dX10_more_52 : decode cX10_more 52 = .ok (.aload_n 0, 1) := by decide +kernel
theorem dX10_more_53 : decode cX10_more 53 = .ok (.getfield 39, 3) := by decide +kernel
theorem dX10_more_56 : decode cX10_more 56 = .ok (.iconst 2, 1) := by decide +kernel
theorem dX10_more_57 : decode cX10_more 57 = .ok (.iaload, 1) := by decide +kernel
theorem dX10_more_58 : decode cX10_more 58 = .ok (.if_icmp .ge 52, 3) := by decide +kernel
theorem dX10_more_61 : decode cX10_more 61 = .ok (.iload 6, 2) := by decide +kernel
theorem dX10_more_63 : decode cX10_more 63 = .ok (.iload_n 1, 1) := by decide +kernel
theorem dX10_more_64 : decode cX10_more 64 = .ok (.if_icmp .ne 6, 3) := by decide +kernel
theorem dX10_more_67 : decode cX10_more 67 = .ok (.goto 37, 3) := by decide +kernel
theorem dX10_more_70 : decode cX10_more 70 = .ok (.aload_n 0, 1) := by decide +kernel
theorem dX10_more_71 : decode cX10_more 71 = .ok (.iload_n 1, 1) := by decide +kernel
theorem dX10_more_72 : decode cX10_more 72 = .ok (.iload 6, 2) := by decide +kernel
theorem dX10_more_74 : decode cX10_more 74 = .ok (.iconst 5, 1) := by decide +kernel
theorem dX10_more_75 : decode cX10_more 75 = .ok (.invokevirtual 371, 3) := by decide +kernel
theorem dX10_more_78 : decode cX10_more 78 = .ok (.pop, 1) := by decide +kernel
theorem dX10_more_79 : decode cX10_more 79 = .ok (.aload_n 0, 1) := by decide +kernel
theorem dX10_more_80 : decode cX10_more 80 = .ok (.iload_n 2, 1) := by decide +kernel
theorem dX10_more_81 : decode cX10_more 81 = .ok (.invokevirtual 450, 3) := by decide +kernel
theorem dX10_more_84 : decode cX10_more 84 = .ok (.istore 7, 2) := by decide +kernel
theorem dX10_more_86 : decode cX10_more 86 = .ok (.iload 7, 2) := by decide +kernel
theorem dX10_more_88 : decode cX10_more 88 = .ok (.iload 5, 2) := by decide +kernel
theorem dX10_more_90 : decode cX10_more 90 = .ok (.if_icmp .lt 6, 3) := by decide +kernel
theorem dX10_more_93 : decode cX10_more 93 = .ok (.goto 11, 3) := by decide +kernel
theorem dX10_more_96 : decode cX10_more 96 = .ok (.iload 6, 2) := by decide +kernel
theorem dX10_more_98 : decode cX10_more 98 = .ok (.istore 4, 2) := by decide +kernel
theorem dX10_more_100 : decode cX10_more 100 = .ok (.iload 7, 2) := by decide +kernel
theorem dX10_more_102 : decode cX10_more 102 = .ok (.istore 5, 2) := by decide +kernel
theorem dX10_more_104 : decode cX10_more 104 = .ok (.iinc 6 1, 3) := by decide +kernel
theorem dX10_more_107 : decode cX10_more 107 = .ok (.goto (-57), 3) := by decide +kernel
theorem dX10_more_110 : decode cX10_more 110 = .ok (.iload_n 3, 1) := by decide +kernel
theorem dX10_more_111 : decode cX10_more 111 = .ok (.ifCond .ne 8, 3) := by decide +kernel
theorem dX10_more_114 : decode cX10_more 114 = .ok (.iload 4, 2) := by decide +kernel
theorem dX10_more_116 : decode cX10_more 116 = .ok (.goto 5, 3) := by decide +kernel
theorem dX10_more_119 : decode cX10_more 119 = .ok (.iload 5, 2) := by decide +kernel
theorem dX10_more_121 : decode cX10_more 121 = .ok (.ireturn, 1) := by decide +kernel
theorem dX10_isRest_0 : decode cX10_isRest 0 = .ok (.iconst 0, 1) := by decide +kernel
theorem dX10_isRest_1 : decode cX10_isRest 1 = .ok (.istore_n 3, 1) := by decide +kernel
theorem dX10_isRest_2 : decode cX10_isRest 2 = .ok (.iload_n 3, 1) := by decide +kernel
theorem dX10_isRest_3 : decode cX10_isRest 3 = .ok (.iconst 4, 1) := by decide +kernel
theorem dX10_isRest_4 : decode cX10_isRest 4 = .ok (.if_icmp .ge 69, 3) := by decide +kernel
theorem dX10_isRest_7 : decode cX10_isRest 7 = .ok (.aload_n 0, 1) := by decide +kernel
theorem dX10_isRest_8 : decode cX10_isRest 8 = .ok (.getfield 61, 3) := by decide +kernel
theorem dX10_isRest_11 : decode cX10_isRest 11 = .ok (.iconst 2, 1) := by decide +kernel
theorem dX10_isRest_12 : decode cX10_isRest 12 = .ok (.iconst 4, 1) := by decide +kernel
theorem dX10_isRest_13 : decode cX10_isRest 13 = .ok (.iload_n 3, 1) := by decide +kernel
theorem dX10_isRest_14 : decode cX10_isRest 14 = .ok (.imul, 1) := by decide +kernel
theorem dX10_isRest_15 : decode cX10_isRest 15 = .ok (.iload_n 2, 1) := by decide +kernel
theorem dX10_isRest_16 : decode cX10_isRest 16 = .ok (.iadd, 1) := by decide +kernel
theorem dX10_isRest_17 : decode cX10_isRest 17 = .ok (.imul, 1) := by decide +kernel
theorem dX10_isRest_18 : decode cX10_isRest 18 = .ok (.iaload, 1) := by decide +kernel
theorem dX10_isRest_19 : decode cX10_isRest 19 = .ok (.aload_n 0, 1) := by decide +kernel
theorem dX10_isRest_20 : decode cX10_isRest 20 = .ok (.getfield 61, 3) := by decide +kernel
theorem dX10_isRest_23 : decode cX10_isRest 23 = .ok (.iconst 2, 1) := by decide +kernel
theorem dX10_isRest_24 : decode cX10_isRest 24 = .ok (.iconst 4, 1) := by decide +kernel
theorem dX10_isRest_25 : decode cX10_isRest 25 = .ok (.iload_n 1, 1) := by decide +kernel
theorem dX10_isRest_26 : decode cX10_isRest 26 = .ok (.imul, 1) := by decide +kernel
theorem dX10_isRest_27 : decode cX10_isRest 27 = .ok (.iload_n 2, 1) := by decide +kernel
theorem dX10_isRest_28 : decode cX10_isRest 28 = .ok (.iadd, 1) := by decide +kernel
theorem dX10_isRest_29 : decode cX10_isRest 29 = .ok (.imul, 1) := by decide +kernel
theorem dX10_isRest_30 : decode cX10_isRest 30 = .ok (.iaload, 1) := by decide +kernel
theorem dX10_isRest_31 : decode cX10_isRest 31 = .ok (.if_icmp .gt 34, 3) := by decide +kernel
theorem dX10_isRest_34 : decode cX10_isRest 34 = .ok (.aload_n 0, 1) := by decide +kernel
theorem dX10_isRest_35 : decode cX10_isRest 35 = .ok (.getfield 61, 3) := by decide +kernel
theorem dX10_isRest_38 : decode cX10_isRest 38 = .ok (.iconst 2, 1) := by decide +kernel
theorem dX10_isRest_39 : decode cX10_isRest 39 = .ok (.iconst 4, 1) := by decide +kernel
theorem dX10_isRest_40 : decode cX10_isRest 40 = .ok (.iload_n 1, 1) := by decide +kernel
theorem dX10_isRest_41 : decode cX10_isRest 41 = .ok (.imul, 1) := by decide +kernel
theorem dX10_isRest_42 : decode cX10_isRest 42 = .ok (.iload_n 3, 1) := by decide +kernel
theorem dX10_isRest_43 : decode cX10_isRest 43 = .ok (.iadd, 1) := by decide +kernel
theorem dX10_isRest_44 : decode cX10_isRest 44 = .ok (.imul, 1) := by decide +kernel
theorem dX10_isRest_45 : decode cX10_isRest 45 = .ok (.iconst 1, 1) := by decide +kernel
theorem dX10_isRest_46 : decode cX10_isRest 46 = .ok (.iadd, 1) := by decide +kernel
theorem dX10_isRest_47 : decode cX10_isRest 47 = .ok (.iaload, 1) := by decide +kernel
theorem dX10_isRest_48 : decode cX10_isRest 48 = .ok (.aload_n 0, 1) := by decide +kernel
theorem dX10_isRest_49 : decode cX10_isRest 49 = .ok (.getfield 61, 3) := by decide +kernel
theorem dX10_isRest_52 : decode cX10_isRest 52 = .ok (.iconst 2, 1) := by decide +kernel
theorem dX10_isRest_53 : decode cX10_isRest 53 = .ok (.iconst 4, 1) := by decide +kernel
theorem dX10_isRest_54 : decode cX10_isRest 54 = .ok (.iload_n 1, 1) := by decide +kernel
theorem dX10_isRest_55 : decode cX10_isRest 55 = .ok (.imul, 1) := by decide +kernel
theorem dX10_isRest_56 : decode cX10_isRest 56 = .ok (.iload_n 2, 1) := by decide +kernel
theorem dX10_isRest_57 : decode cX10_isRest 57 = .ok (.iadd, 1) := by decide +kernel
theorem dX10_isRest_58 : decode cX10_isRest 58 = .ok (.imul, 1) := by decide +kernel
theorem dX10_isRest_59 : decode cX10_isRest 59 = .ok (.iconst 1, 1) := by decide +kernel
theorem dX10_isRest_60 : decode cX10_isRest 60 = .ok (.iadd, 1) := by decide +kernel
theorem dX10_isRest_61 : decode cX10_isRest 61 = .ok (.iaload, 1) := by decide +kernel
theorem dX10_isRest_62 : decode cX10_isRest 62 = .ok (.if_icmp .le 5, 3) := by decide +kernel
theorem dX10_isRest_65 : decode cX10_isRest 65 = .ok (.iconst 0, 1) := by decide +kernel
theorem dX10_isRest_66 : decode cX10_isRest 66 = .ok (.ireturn, 1) := by decide +kernel
theorem dX10_isRest_67 : decode cX10_isRest 67 = .ok (.iinc 3 1, 3) := by decide +kernel
theorem dX10_isRest_70 : decode cX10_isRest 70 = .ok (.goto (-68), 3) := by decide +kernel
theorem dX10_isRest_73 : decode cX10_isRest 73 = .ok (.iconst 1, 1) := by decide +kernel
theorem dX10_isRest_74 : decode cX10_isRest 74 = .ok (.ireturn, 1) := by decide +kernel
theorem dX10_lesser_0 : decode cX10_lesser 0 = .ok (.iload_n 0, 1) := by decide +kernel
theorem dX10_lesser_1 : decode cX10_lesser 1 = .ok (.iload_n 1, 1) := by decide +kernel
theorem dX10_lesser_2 : decode cX10_lesser 2 = .ok (.if_icmp .ge 7, 3) := by decide +kernel
theorem dX10_lesser_5 : decode cX10_lesser 5 = .ok (.iload_n 0, 1) := by decide +kernel
theorem dX10_lesser_6 : decode cX10_lesser 6 = .ok (.goto 4, 3) := by decide +kernel
theorem dX10_lesser_9 : decode cX10_lesser 9 = .ok (.iload_n 1, 1) := by decide +kernel
theorem dX10_lesser_10 : decode cX10_lesser 10 = .ok (.ireturn, 1) := by decide +kernel
theorem dX10_fillsRest_0 : decode cX10_fillsRest 0 = .ok (.iload_n 3, 1) := by decide +kernel
theorem dX10_fillsRest_1 : decode cX10_fillsRest 1 = .ok (.iconst 4, 1) := by decide +kernel
theorem dX10_fillsRest_2 : decode cX10_fillsRest 2 = .ok (.idiv, 1) := by decide +kernel
theorem dX10_fillsRest_3 : decode cX10_fillsRest 3 = .ok (.aload_n 0, 1) := by decide +kernel
theorem dX10_fillsRest_4 : decode cX10_fillsRest 4 = .ok (.getfield 39, 3) := by decide +kernel
theorem dX10_fillsRest_7 : decode cX10_fillsRest 7 = .ok (.sipush 1090, 3) := by decide +kernel
theorem dX10_fillsRest_10 : decode cX10_fillsRest 10 = .ok (.iload_n 1, 1) := by decide +kernel
theorem dX10_fillsRest_11 : decode cX10_fillsRest 11 = .ok (.iadd, 1) := by decide +kernel
theorem dX10_fillsRest_12 : decode cX10_fillsRest 12 = .ok (.iaload, 1) := by decide +kernel
theorem dX10_fillsRest_13 : decode cX10_fillsRest 13 = .ok (.invokestatic 453, 3) := by decide +kernel
theorem dX10_fillsRest_16 : decode cX10_fillsRest 16 = .ok (.istore 5, 2) := by decide +kernel
theorem dX10_fillsRest_18 : decode cX10_fillsRest 18 = .ok (.iload_n 3, 1) := by decide +kernel
theorem dX10_fillsRest_19 : decode cX10_fillsRest 19 = .ok (.iconst 4, 1) := by decide +kernel
theorem dX10_fillsRest_20 : decode cX10_fillsRest 20 = .ok (.irem, 1) := by decide +kernel
theorem dX10_fillsRest_21 : decode cX10_fillsRest 21 = .ok (.aload_n 0, 1) := by decide +kernel
theorem dX10_fillsRest_22 : decode cX10_fillsRest 22 = .ok (.getfield 39, 3) := by decide +kernel
theorem dX10_fillsRest_25 : decode cX10_fillsRest 25 = .ok (.sipush 1090, 3) := by decide +kernel
theorem dX10_fillsRest_28 : decode cX10_fillsRest 28 = .ok (.iload_n 2, 1) := by decide +kernel
theorem dX10_fillsRest_29 : decode cX10_fillsRest 29 = .ok (.iadd, 1) := by decide +kernel
theorem dX10_fillsRest_30 : decode cX10_fillsRest 30 = .ok (.iaload, 1) := by decide +kernel
theorem dX10_fillsRest_31 : decode cX10_fillsRest 31 = .ok (.invokestatic 453, 3) := by decide +kernel
theorem dX10_fillsRest_34 : decode cX10_fillsRest 34 = .ok (.istore 6, 2) := by decide +kernel
theorem dX10_fillsRest_36 : decode cX10_fillsRest 36 = .ok (.iconst 2, 1) := by decide +kernel
theorem dX10_fillsRest_37 : decode cX10_fillsRest 37 = .ok (.iload_n 3, 1) := by decide +kernel
theorem dX10_fillsRest_38 : decode cX10_fillsRest 38 = .ok (.imul, 1) := by decide +kernel
theorem dX10_fillsRest_39 : decode cX10_fillsRest 39 = .ok (.istore 7, 2) := by decide +kernel
theorem dX10_fillsRest_41 : decode cX10_fillsRest 41 = .ok (.aload_n 0, 1) := by decide +kernel
theorem dX10_fillsRest_42 : decode cX10_fillsRest 42 = .ok (.getfield 61, 3) := by decide +kernel
theorem dX10_fillsRest_45 : decode cX10_fillsRest 45 = .ok (.iload 7, 2) := by decide +kernel
theorem dX10_fillsRest_47 : decode cX10_fillsRest 47 = .ok (.bipush (-2), 2) := by decide +kernel
theorem dX10_fillsRest_49 : decode cX10_fillsRest 49 = .ok (.aload_n 0, 1) := by decide +kernel
theorem dX10_fillsRest_50 : decode cX10_fillsRest 50 = .ok (.iload_n 1, 1) := by decide +kernel
theorem dX10_fillsRest_51 : decode cX10_fillsRest 51 = .ok (.iconst 1, 1) := by decide +kernel
theorem dX10_fillsRest_52 : decode cX10_fillsRest 52 = .ok (.invokevirtual 290, 3) := by decide +kernel
theorem dX10_fillsRest_55 : decode cX10_fillsRest 55 = .ok (.imul, 1) := by decide +kernel
theorem dX10_fillsRest_56 : decode cX10_fillsRest 56 = .ok (.iastore, 1) := by decide +kernel
theorem dX10_fillsRest_57 : decode cX10_fillsRest 57 = .ok (.aload_n 0, 1) := by decide +kernel
theorem dX10_fillsRest_58 : decode cX10_fillsRest 58 = .ok (.getfield 61, 3) := by decide +kernel
theorem dX10_fillsRest_61 : decode cX10_fillsRest 61 = .ok (.iload 7, 2) := by decide +kernel
theorem dX10_fillsRest_63 : decode cX10_fillsRest 63 = .ok (.iconst 1, 1) := by decide +kernel
theorem dX10_fillsRest_64 : decode cX10_fillsRest 64 = .ok (.iadd, 1) := by decide +kernel
theorem dX10_fillsRest_65 : decode cX10_fillsRest 65 = .ok (.bipush (-2), 2) := by decide +kernel
theorem dX10_fillsRest_67 : decode cX10_fillsRest 67 = .ok (.aload_n 0, 1) := by decide +kernel
theorem dX10_fillsRest_68 : decode cX10_fillsRest 68 = .ok (.iload_n 2, 1) := by decide +kernel
theorem dX10_fillsRest_69 : decode cX10_fillsRest 69 = .ok (.iconst 1, 1) := by decide +kernel
theorem dX10_fillsRest_70 : decode cX10_fillsRest 70 = .ok (.invokevirtual 290, 3) := by decide +kernel
theorem dX10_fillsRest_73 : decode cX10_fillsRest 73 = .ok (.imul, 1) := by decide +kernel
theorem dX10_fillsRest_74 : decode cX10_fillsRest 74 = .ok (.iastore, 1) := by decide +kernel
theorem dX10_fillsRest_75 : decode cX10_fillsRest 75 = .ok (.aload_n 0, 1) := by decide +kernel
theorem dX10_fillsRest_76 : decode cX10_fillsRest 76 = .ok (.getfield 39, 3) := by decide +kernel
theorem dX10_fillsRest_79 : decode cX10_fillsRest 79 = .ok (.sipush 1090, 3) := by decide +kernel
theorem dX10_fillsRest_82 : decode cX10_fillsRest 82 = .ok (.iload_n 1, 1) := by decide +kernel
theorem dX10_fillsRest_83 : decode cX10_fillsRest 83 = .ok (.iadd, 1) := by decide +kernel
theorem dX10_fillsRest_84 : decode cX10_fillsRest 84 = .ok (.dup2, 1) := by decide +kernel
theorem dX10_fillsRest_85 : decode cX10_fillsRest 85 = .ok (.iaload, 1) := by decide +kernel
theorem dX10_fillsRest_86 : decode cX10_fillsRest 86 = .ok (.iload 6, 2) := by decide +kernel
theorem dX10_fillsRest_88 : decode cX10_fillsRest 88 = .ok (.iload 5, 2) := by decide +kernel
theorem dX10_fillsRest_90 : decode cX10_fillsRest 90 = .ok (.isub, 1) := by decide +kernel
theorem dX10_fillsRest_91 : decode cX10_fillsRest 91 = .ok (.iadd, 1) := by decide +kernel
theorem dX10_fillsRest_92 : decode cX10_fillsRest 92 = .ok (.iastore, 1) := by decide +kernel
theorem dX10_fillsRest_93 : decode cX10_fillsRest 93 = .ok (.aload_n 0, 1) := by decide +kernel
theorem dX10_fillsRest_94 : decode cX10_fillsRest 94 = .ok (.getfield 39, 3) := by decide +kernel
theorem dX10_fillsRest_97 : decode cX10_fillsRest 97 = .ok (.sipush 1090, 3) := by decide +kernel
theorem dX10_fillsRest_100 : decode cX10_fillsRest 100 = .ok (.iload_n 2, 1) := by decide +kernel
theorem dX10_fillsRest_101 : decode cX10_fillsRest 101 = .ok (.iadd, 1) := by decide +kernel
theorem dX10_fillsRest_102 : decode cX10_fillsRest 102 = .ok (.dup2, 1) := by decide +kernel
theorem dX10_fillsRest_103 : decode cX10_fillsRest 103 = .ok (.iaload, 1) := by decide +kernel
theorem dX10_fillsRest_104 : decode cX10_fillsRest 104 = .ok (.iload 5, 2) := by decide +kernel
theorem dX10_fillsRest_106 : decode cX10_fillsRest 106 = .ok (.iload 6, 2) := by decide +kernel
theorem dX10_fillsRest_108 : decode cX10_fillsRest 108 = .ok (.isub, 1) := by decide +kernel
theorem dX10_fillsRest_109 : decode cX10_fillsRest 109 = .ok (.iadd, 1) := by decide +kernel
theorem dX10_fillsRest_110 : decode cX10_fillsRest 110 = .ok (.iastore, 1) := by decide +kernel
theorem dX10_fillsRest_111 : decode cX10_fillsRest 111 = .ok (.aload_n 0, 1) := by decide +kernel
theorem dX10_fillsRest_112 : decode cX10_fillsRest 112 = .ok (.iload 4, 2) := by decide +kernel
theorem dX10_fillsRest_114 : decode cX10_fillsRest 114 = .ok (.invokevirtual 447, 3) := by decide +kernel
theorem dX10_fillsRest_117 : decode cX10_fillsRest 117 = .ok (.aload_n 0, 1) := by decide +kernel
theorem dX10_fillsRest_118 : decode cX10_fillsRest 118 = .ok (.getfield 61, 3) := by decide +kernel
theorem dX10_fillsRest_121 : decode cX10_fillsRest 121 = .ok (.iload 7, 2) := by decide +kernel
theorem dX10_fillsRest_123 : decode cX10_fillsRest 123 = .ok (.dup2, 1) := by decide +kernel
theorem dX10_fillsRest_124 : decode cX10_fillsRest 124 = .ok (.iaload, 1) := by decide +kernel
theorem dX10_fillsRest_125 : decode cX10_fillsRest 125 = .ok (.iconst 2, 1) := by decide +kernel
theorem dX10_fillsRest_126 : decode cX10_fillsRest 126 = .ok (.aload_n 0, 1) := by decide +kernel
theorem dX10_fillsRest_127 : decode cX10_fillsRest 127 = .ok (.iload_n 1, 1) := by decide +kernel
theorem dX10_fillsRest_128 : decode cX10_fillsRest 128 = .ok (.iconst 1, 1) := by decide +kernel
theorem dX10_fillsRest_129 : decode cX10_fillsRest 129 = .ok (.invokevirtual 290, 3) := by decide +kernel
theorem dX10_fillsRest_132 : decode cX10_fillsRest 132 = .ok (.imul, 1) := by decide +kernel
theorem dX10_fillsRest_133 : decode cX10_fillsRest 133 = .ok (.aload_n 0, 1) := by decide +kernel
theorem dX10_fillsRest_134 : decode cX10_fillsRest 134 = .ok (.getfield 39, 3) := by decide +kernel
theorem dX10_fillsRest_137 : decode cX10_fillsRest 137 = .ok (.sipush 1090, 3) := by decide +kernel
theorem dX10_fillsRest_140 : decode cX10_fillsRest 140 = .ok (.iload_n 1, 1) := by decide +kernel
theorem dX10_fillsRest_141 : decode cX10_fillsRest 141 = .ok (.iadd, 1) := by decide +kernel
theorem dX10_fillsRest_142 : decode cX10_fillsRest 142 = .ok (.iaload, 1) := by decide +kernel
theorem dX10_fillsRest_143 : decode cX10_fillsRest 143 = .ok (.isub, 1) := by decide +kernel
theorem dX10_fillsRest_144 : decode cX10_fillsRest 144 = .ok (.iadd, 1) := by decide +kernel
theorem dX10_fillsRest_145 : decode cX10_fillsRest 145 = .ok (.iastore, 1) := by decide +kernel
theorem dX10_fillsRest_146 : decode cX10_fillsRest 146 = .ok (.aload_n 0, 1) := by decide +kernel
theorem dX10_fillsRest_147 : decode cX10_fillsRest 147 = .ok (.getfield 61, 3) := by decide +kernel
theorem dX10_fillsRest_150 : decode cX10_fillsRest 150 = .ok (.iload 7, 2) := by decide +kernel
theorem dX10_fillsRest_152 : decode cX10_fillsRest 152 = .ok (.iconst 1, 1) := by decide +kernel
theorem dX10_fillsRest_153 : decode cX10_fillsRest 153 = .ok (.iadd, 1) := by decide +kernel
theorem dX10_fillsRest_154 : decode cX10_fillsRest 154 = .ok (.dup2, 1) := by decide +kernel
theorem dX10_fillsRest_155 : decode cX10_fillsRest 155 = .ok (.iaload, 1) := by decide +kernel
theorem dX10_fillsRest_156 : decode cX10_fillsRest 156 = .ok (.iconst 2, 1) := by decide +kernel
theorem dX10_fillsRest_157 : decode cX10_fillsRest 157 = .ok (.aload_n 0, 1) := by decide +kernel
theorem dX10_fillsRest_158 : decode cX10_fillsRest 158 = .ok (.iload_n 2, 1) := by decide +kernel
theorem dX10_fillsRest_159 : decode cX10_fillsRest 159 = .ok (.iconst 1, 1) := by decide +kernel
theorem dX10_fillsRest_160 : decode cX10_fillsRest 160 = .ok (.invokevirtual 290, 3) := by decide +kernel
theorem dX10_fillsRest_163 : decode cX10_fillsRest 163 = .ok (.imul, 1) := by decide +kernel
theorem dX10_fillsRest_164 : decode cX10_fillsRest 164 = .ok (.aload_n 0, 1) := by decide +kernel
theorem dX10_fillsRest_165 : decode cX10_fillsRest 165 = .ok (.getfield 39, 3) := by decide +kernel
theorem dX10_fillsRest_168 : decode cX10_fillsRest 168 = .ok (.sipush 1090, 3) := by decide +kernel
theorem dX10_fillsRest_171 : decode cX10_fillsRest 171 = .ok (.iload_n 2, 1) := by decide +kernel
theorem dX10_fillsRest_172 : decode cX10_fillsRest 172 = .ok (.iadd, 1) := by decide +kernel
theorem dX10_fillsRest_173 : decode cX10_fillsRest 173 = .ok (.iaload, 1) := by decide +kernel
theorem dX10_fillsRest_174 : decode cX10_fillsRest 174 = .ok (.isub, 1) := by decide +kernel
theorem dX10_fillsRest_175 : decode cX10_fillsRest 175 = .ok (.iadd, 1) := by decide +kernel
theorem dX10_fillsRest_176 : decode cX10_fillsRest 176 = .ok (.iastore, 1) := by decide +kernel
theorem dX10_fillsRest_177 : decode cX10_fillsRest 177 = .ok (.aload_n 0, 1) := by decide +kernel
theorem dX10_fillsRest_178 : decode cX10_fillsRest 178 = .ok (.invokevirtual 440, 3) := by decide +kernel
theorem dX10_fillsRest_181 : decode cX10_fillsRest 181 = .ok (.return_, 1) := by decide +kernel
theorem dX10_rests_0 : decode cX10_rests 0 = .ok (.aload_n 0, 1) := by decide +kernel
theorem dX10_rests_1 : decode cX10_rests 1 = .ok (.iload_n 1, 1) := by decide +kernel
theorem dX10_rests_2 : decode cX10_rests 2 = .ok (.invokevirtual 307, 3) := by decide +kernel
theorem dX10_rests_5 : decode cX10_rests 5 = .ok (.ifCond .eq 41, 3) := by decide +kernel
theorem dX10_rests_8 : decode cX10_rests 8 = .ok (.aload_n 0, 1) := by decide +kernel
theorem dX10_rests_9 : decode cX10_rests 9 = .ok (.iload_n 2, 1) := by decide +kernel
theorem dX10_rests_10 : decode cX10_rests 10 = .ok (.invokevirtual 307, 3) := by decide +kernel
theorem dX10_rests_13 : decode cX10_rests 13 = .ok (.ifCond .eq 33, 3) := by decide +kernel
theorem dX10_rests_16 : decode cX10_rests 16 = .ok (.iload_n 1, 1) := by decide +kernel
theorem dX10_rests_17 : decode cX10_rests 17 = .ok (.iload_n 2, 1) := by decide +kernel
theorem dX10_rests_18 : decode cX10_rests 18 = .ok (.if_icmp .eq 28, 3) := by decide +kernel
theorem dX10_rests_21 : decode cX10_rests 21 = .ok (.iload_n 3, 1) := by decide +kernel
theorem dX10_rests_22 : decode cX10_rests 22 = .ok (.i2l, 1) := by decide +kernel
theorem dX10_rests_23 : decode cX10_rests 23 = .ok (.lconst 1, 1) := by decide +kernel
theorem dX10_rests_24 : decode cX10_rests 24 = .ok (.ldc2_w 456, 3) := by decide +kernel
theorem dX10_rests_27 : decode cX10_rests 27 = .ok (.invokestatic 121, 3) := by decide +kernel
theorem dX10_rests_30 : decode cX10_rests 30 = .ok (.ifCond .eq 16, 3) := by decide +kernel
theorem dX10_rests_33 : decode cX10_rests 33 = .ok (.iload 4, 2) := by decide +kernel
theorem dX10_rests_35 : decode cX10_rests 35 = .ok (.i2l, 1) := by decide +kernel
theorem dX10_rests_36 : decode cX10_rests 36 = .ok (.lconst 0, 1) := by decide +kernel
theorem dX10_rests_37 : decode cX10_rests 37 = .ok (.ldc2_w 313, 3) := by decide +kernel
theorem dX10_rests_40 : decode cX10_rests 40 = .ok (.invokestatic 121, 3) := by decide +kernel
theorem dX10_rests_43 : decode cX10_rests 43 = .ok (.ifCond .ne 5, 3) := by decide +kernel
theorem dX10_rests_46 : decode cX10_rests 46 = .ok (.iconst (-1), 1) := by decide +kernel
theorem dX10_rests_47 : decode cX10_rests 47 = .ok (.ireturn, 1) := by decide +kernel
theorem dX10_rests_48 : decode cX10_rests 48 = .ok (.aload_n 0, 1) := by decide +kernel
theorem dX10_rests_49 : decode cX10_rests 49 = .ok (.invokevirtual 437, 3) := by decide +kernel
theorem dX10_rests_52 : decode cX10_rests 52 = .ok (.iconst 0, 1) := by decide +kernel
theorem dX10_rests_53 : decode cX10_rests 53 = .ok (.istore 5, 2) := by decide +kernel
theorem dX10_rests_55 : decode cX10_rests 55 = .ok (.iload 5, 2) := by decide +kernel
theorem dX10_rests_57 : decode cX10_rests 57 = .ok (.bipush 16, 2) := by decide +kernel
theorem dX10_rests_59 : decode cX10_rests 59 = .ok (.if_icmp .ge 18, 3) := by decide +kernel
theorem dX10_rests_62 : decode cX10_rests 62 = .ok (.aload_n 0, 1) := by decide +kernel
theorem dX10_rests_63 : decode cX10_rests 63 = .ok (.iload_n 1, 1) := by decide +kernel
theorem dX10_rests_64 : decode cX10_rests 64 = .ok (.iload_n 2, 1) := by decide +kernel
theorem dX10_rests_65 : decode cX10_rests 65 = .ok (.iload 5, 2) := by decide +kernel
theorem dX10_rests_67 : decode cX10_rests 67 = .ok (.iload_n 3, 1) := by decide +kernel
theorem dX10_rests_68 : decode cX10_rests 68 = .ok (.invokevirtual 458, 3) := by decide +kernel
theorem dX10_rests_71 : decode cX10_rests 71 = .ok (.iinc 5 1, 3) := by decide +kernel
theorem dX10_rests_74 : decode cX10_rests 74 = .ok (.goto (-19), 3) := by decide +kernel
theorem dX10_rests_77 : decode cX10_rests 77 = .ok (.iconst 0, 1) := by decide +kernel
theorem dX10_rests_78 : decode cX10_rests 78 = .ok (.istore 5, 2) := by decide +kernel
theorem dX10_rests_80 : decode cX10_rests 80 = .ok (.iconst (-1), 1) := by decide +kernel
theorem dX10_rests_81 : decode cX10_rests 81 = .ok (.istore 6, 2) := by decide +kernel
theorem dX10_rests_83 : decode cX10_rests 83 = .ok (.bipush 15, 2) := by decide +kernel
theorem dX10_rests_85 : decode cX10_rests 85 = .ok (.istore 7, 2) := by decide +kernel
theorem dX10_rests_87 : decode cX10_rests 87 = .ok (.iload 7, 2) := by decide +kernel
theorem dX10_rests_89 : decode cX10_rests 89 = .ok (.ifCond .lt 34, 3) := by decide +kernel
theorem dX10_rests_92 : decode cX10_rests 92 = .ok (.aload_n 0, 1) := by decide +kernel
theorem dX10_rests_93 : decode cX10_rests 93 = .ok (.iload 7, 2) := by decide +kernel
theorem dX10_rests_95 : decode cX10_rests 95 = .ok (.iconst 4, 1) := by decide +kernel
theorem dX10_rests_96 : decode cX10_rests 96 = .ok (.idiv, 1) := by decide +kernel
theorem dX10_rests_97 : decode cX10_rests 97 = .ok (.iload 7, 2) := by decide +kernel
theorem dX10_rests_99 : decode cX10_rests 99 = .ok (.iconst 4, 1) := by decide +kernel
theorem dX10_rests_100 : decode cX10_rests 100 = .ok (.irem, 1) := by decide +kernel
theorem dX10_rests_101 : decode cX10_rests 101 = .ok (.invokevirtual 462, 3) := by decide +kernel
theorem dX10_rests_104 : decode cX10_rests 104 = .ok (.ifCond .ne 6, 3) := by decide +kernel
theorem dX10_rests_107 : decode cX10_rests 107 = .ok (.goto 10, 3) := by decide +kernel
theorem dX10_rests_110 : decode cX10_rests 110 = .ok (.iload 7, 2) := by decide +kernel
theorem dX10_rests_112 : decode cX10_rests 112 = .ok (.istore 6, 2) := by decide +kernel
theorem dX10_rests_114 : decode cX10_rests 114 = .ok (.iinc 5 1, 3) := by decide +kernel
theorem dX10_rests_117 : decode cX10_rests 117 = .ok (.iinc 7 (-1), 3) := by decide +kernel
theorem dX10_rests_120 : decode cX10_rests 120 = .ok (.goto (-33), 3) := by decide +kernel
theorem dX10_rests_123 : decode cX10_rests 123 = .ok (.iload 4, 2) := by decide +kernel
theorem dX10_rests_125 : decode cX10_rests 125 = .ok (.ifCond .ne 6, 3) := by decide +kernel
theorem dX10_rests_128 : decode cX10_rests 128 = .ok (.iload 5, 2) := by decide +kernel
theorem dX10_rests_130 : decode cX10_rests 130 = .ok (.ireturn, 1) := by decide +kernel
theorem dX10_rests_131 : decode cX10_rests 131 = .ok (.iload 6, 2) := by decide +kernel
theorem dX10_rests_133 : decode cX10_rests 133 = .ok (.ifCond .ge 8, 3) := by decide +kernel
theorem dX10_rests_136 : decode cX10_rests 136 = .ok (.bipush (-2), 2) := by decide +kernel
theorem dX10_rests_138 : decode cX10_rests 138 = .ok (.goto 20, 3) := by decide +kernel
theorem dX10_rests_141 : decode cX10_rests 141 = .ok (.iload 4, 2) := by decide +kernel
theorem dX10_rests_143 : decode cX10_rests 143 = .ok (.iconst 1, 1) := by decide +kernel
theorem dX10_rests_144 : decode cX10_rests 144 = .ok (.if_icmp .ne 10, 3) := by decide +kernel
theorem dX10_rests_147 : decode cX10_rests 147 = .ok (.iload 6, 2) := by decide +kernel
theorem dX10_rests_149 : decode cX10_rests 149 = .ok (.iconst 4, 1) := by decide +kernel
theorem dX10_rests_150 : decode cX10_rests 150 = .ok (.idiv, 1) := by decide +kernel
theorem dX10_rests_151 : decode cX10_rests 151 = .ok (.goto 7, 3) := by decide +kernel
theorem dX10_rests_154 : decode cX10_rests 154 = .ok (.iload 6, 2) := by decide +kernel
theorem dX10_rests_156 : decode cX10_rests 156 = .ok (.iconst 4, 1) := by decide +kernel
theorem dX10_rests_157 : decode cX10_rests 157 = .ok (.irem, 1) := by decide +kernel
theorem dX10_rests_158 : decode cX10_rests 158 = .ok (.ireturn, 1) := by decide +kernel
theorem dX10_pence_0 : decode cX10_pence 0 = .ok (.aload_n 0, 1) := by decide +kernel
theorem dX10_pence_1 : decode cX10_pence 1 = .ok (.iload_n 2, 1) := by decide +kernel
theorem dX10_pence_2 : decode cX10_pence 2 = .ok (.invokevirtual 307, 3) := by decide +kernel
theorem dX10_pence_5 : decode cX10_pence 5 = .ok (.ifCond .eq 15, 3) := by decide +kernel
theorem dX10_pence_8 : decode cX10_pence 8 = .ok (.iload_n 1, 1) := by decide +kernel
theorem dX10_pence_9 : decode cX10_pence 9 = .ok (.i2l, 1) := by decide +kernel
theorem dX10_pence_10 : decode cX10_pence 10 = .ok (.lconst 0, 1) := by decide +kernel
theorem dX10_pence_11 : decode cX10_pence 11 = .ok (.ldc2_w 465, 3) := by decide +kernel
theorem dX10_pence_14 : decode cX10_pence 14 = .ok (.invokestatic 121, 3) := by decide +kernel
theorem dX10_pence_17 : decode cX10_pence 17 = .ok (.ifCond .ne 5, 3) := by decide +kernel
theorem dX10_pence_20 : decode cX10_pence 20 = .ok (.iconst (-1), 1) := by decide +kernel
theorem dX10_pence_21 : decode cX10_pence 21 = .ok (.ireturn, 1) := by decide +kernel
theorem dX10_pence_22 : decode cX10_pence 22 = .ok (.aload_n 0, 1) := by decide +kernel
theorem dX10_pence_23 : decode cX10_pence 23 = .ok (.iconst 1, 1) := by decide +kernel
theorem dX10_pence_24 : decode cX10_pence 24 = .ok (.invokevirtual 332, 3) := by decide +kernel
theorem dX10_pence_27 : decode cX10_pence 27 = .ok (.istore_n 3, 1) := by decide +kernel
theorem dX10_pence_28 : decode cX10_pence 28 = .ok (.iload_n 3, 1) := by decide +kernel
theorem dX10_pence_29 : decode cX10_pence 29 = .ok (.ifCond .ne 5, 3) := by decide +kernel
theorem dX10_pence_32 : decode cX10_pence 32 = .ok (.iconst 0, 1) := by decide +kernel
theorem dX10_pence_33 : decode cX10_pence 33 = .ok (.ireturn, 1) := by decide +kernel
theorem dX10_pence_34 : decode cX10_pence 34 = .ok (.iload_n 1, 1) := by decide +kernel
theorem dX10_pence_35 : decode cX10_pence 35 = .ok (.aload_n 0, 1) := by decide +kernel
theorem dX10_pence_36 : decode cX10_pence 36 = .ok (.iload_n 2, 1) := by decide +kernel
theorem dX10_pence_37 : decode cX10_pence 37 = .ok (.iconst 1, 1) := by decide +kernel
theorem dX10_pence_38 : decode cX10_pence 38 = .ok (.invokevirtual 290, 3) := by decide +kernel
theorem dX10_pence_41 : decode cX10_pence 41 = .ok (.imul, 1) := by decide +kernel
theorem dX10_pence_42 : decode cX10_pence 42 = .ok (.istore 4, 2) := by decide +kernel
theorem dX10_pence_44 : decode cX10_pence 44 = .ok (.iload_n 1, 1) := by decide +kernel
theorem dX10_pence_45 : decode cX10_pence 45 = .ok (.istore 5, 2) := by decide +kernel
theorem dX10_pence_47 : decode cX10_pence 47 = .ok (.iconst 0, 1) := by decide +kernel
theorem dX10_pence_48 : decode cX10_pence 48 = .ok (.istore 6, 2) := by decide +kernel
theorem dX10_pence_50 : decode cX10_pence 50 = .ok (.iconst 0, 1) := by decide +kernel
theorem dX10_pence_51 : decode cX10_pence 51 = .ok (.istore 7, 2) := by decide +kernel
theorem dX10_pence_53 : decode cX10_pence 53 = .ok (.iload 7, 2) := by decide +kernel
theorem dX10_pence_55 : decode cX10_pence 55 = .ok (.aload_n 0, 1) := by decide +kernel
theorem dX10_pence_56 : decode cX10_pence 56 = .ok (.getfield 39, 3) := by decide +kernel
theorem dX10_pence_59 : decode cX10_pence 59 = .ok (.iconst 2, 1) := by decide +kernel
theorem dX10_pence_60 : decode cX10_pence 60 = .ok (.iaload, 1) := by decide +kernel
theorem dX10_pence_61 : decode cX10_pence 61 = .ok (.if_icmp .ge 67, 3) := by decide +kernel
theorem dX10_pence_64 : decode cX10_pence 64 = .ok (.iload_n 1, 1) := by decide +kernel
theorem dX10_pence_65 : decode cX10_pence 65 = .ok (.aload_n 0, 1) := by decide +kernel
theorem dX10_pence_66 : decode cX10_pence 66 = .ok (.iload 7, 2) := by decide +kernel
theorem dX10_pence_68 : decode cX10_pence 68 = .ok (.iconst 1, 1) := by decide +kernel
theorem dX10_pence_69 : decode cX10_pence 69 = .ok (.invokevirtual 290, 3) := by decide +kernel
theorem dX10_pence_72 : decode cX10_pence 72 = .ok (.imul, 1) := by decide +kernel
theorem dX10_pence_73 : decode cX10_pence 73 = .ok (.istore 8, 2) := by decide +kernel
theorem dX10_pence_75 : decode cX10_pence 75 = .ok (.iload 5, 2) := by decide +kernel
theorem dX10_pence_77 : decode cX10_pence 77 = .ok (.iload 8, 2) := by decide +kernel
theorem dX10_pence_79 : decode cX10_pence 79 = .ok (.iload_n 3, 1) := by decide +kernel
theorem dX10_pence_80 : decode cX10_pence 80 = .ok (.idiv, 1) := by decide +kernel
theorem dX10_pence_81 : decode cX10_pence 81 = .ok (.isub, 1) := by decide +kernel
theorem dX10_pence_82 : decode cX10_pence 82 = .ok (.istore 5, 2) := by decide +kernel
theorem dX10_pence_84 : decode cX10_pence 84 = .ok (.iload 6, 2) := by decide +kernel
theorem dX10_pence_86 : decode cX10_pence 86 = .ok (.iload 8, 2) := by decide +kernel
theorem dX10_pence_88 : decode cX10_pence 88 = .ok (.iload_n 3, 1) := by decide +kernel
theorem dX10_pence_89 : decode cX10_pence 89 = .ok (.irem, 1) := by decide +kernel
theorem dX10_pence_90 : decode cX10_pence 90 = .ok (.iload 4, 2) := by decide +kernel
theorem dX10_pence_92 : decode cX10_pence 92 = .ok (.iload_n 3, 1) := by decide +kernel
theorem dX10_pence_93 : decode cX10_pence 93 = .ok (.irem, 1) := by decide +kernel
theorem dX10_pence_94 : decode cX10_pence 94 = .ok (.if_icmp .gt 20, 3) := by decide +kernel
theorem dX10_pence_97 : decode cX10_pence 97 = .ok (.iload 8, 2) := by decide +kernel
theorem dX10_pence_99 : decode cX10_pence 99 = .ok (.iload_n 3, 1) := by decide +kernel
theorem dX10_pence_100 : decode cX10_pence 100 = .ok (.irem, 1) := by decide +kernel
theorem dX10_pence_101 : decode cX10_pence 101 = .ok (.iload 4, 2) := by decide +kernel
theorem dX10_pence_103 : decode cX10_pence 103 = .ok (.iload_n 3, 1) := by decide +kernel
theorem dX10_pence_104 : decode cX10_pence 104 = .ok (.irem, 1) := by decide +kernel
theorem dX10_pence_105 : decode cX10_pence 105 = .ok (.if_icmp .ne 13, 3) := by decide +kernel
theorem dX10_pence_108 : decode cX10_pence 108 = .ok (.iload 7, 2) := by decide +kernel
theorem dX10_pence_110 : decode cX10_pence 110 = .ok (.iload_n 2, 1) := by decide +kernel
theorem dX10_pence_111 : decode cX10_pence 111 = .ok (.if_icmp .ge 7, 3) := by decide +kernel
theorem dX10_pence_114 : decode cX10_pence 114 = .ok (.iconst 1, 1) := by decide +kernel
theorem dX10_pence_115 : decode cX10_pence 115 = .ok (.goto 4, 3) := by decide +kernel
theorem dX10_pence_118 : decode cX10_pence 118 = .ok (.iconst 0, 1) := by decide +kernel
theorem dX10_pence_119 : decode cX10_pence 119 = .ok (.iadd, 1) := by decide +kernel
theorem dX10_pence_120 : decode cX10_pence 120 = .ok (.istore 6, 2) := by decide +kernel
theorem dX10_pence_122 : decode cX10_pence 122 = .ok (.iinc 7 1, 3) := by decide +kernel
theorem dX10_pence_125 : decode cX10_pence 125 = .ok (.goto (-72), 3) := by decide +kernel
theorem dX10_pence_128 : decode cX10_pence 128 = .ok (.iload 4, 2) := by decide +kernel
theorem dX10_pence_130 : decode cX10_pence 130 = .ok (.iload_n 3, 1) := by decide +kernel
theorem dX10_pence_131 : decode cX10_pence 131 = .ok (.idiv, 1) := by decide +kernel
theorem dX10_pence_132 : decode cX10_pence 132 = .ok (.iload 6, 2) := by decide +kernel
theorem dX10_pence_134 : decode cX10_pence 134 = .ok (.iload 5, 2) := by decide +kernel
theorem dX10_pence_136 : decode cX10_pence 136 = .ok (.if_icmp .ge 7, 3) := by decide +kernel
theorem dX10_pence_139 : decode cX10_pence 139 = .ok (.iconst 1, 1) := by decide +kernel
theorem dX10_pence_140 : decode cX10_pence 140 = .ok (.goto 4, 3) := by decide +kernel
theorem dX10_pence_143 : decode cX10_pence 143 = .ok (.iconst 0, 1) := by decide +kernel
theorem dX10_pence_144 : decode cX10_pence 144 = .ok (.iadd, 1) := by decide +kernel
theorem dX10_pence_145 : decode cX10_pence 145 = .ok (.ireturn, 1) := by decide +kernel
theorem dX10_note_0 : decode cX10_note 0 = .ok (.iload_n 1, 1) := by decide +kernel
theorem dX10_note_1 : decode cX10_note 1 = .ok (.iconst (-1), 1) := by decide +kernel
theorem dX10_note_2 : decode cX10_note 2 = .ok (.if_icmp .ne 14, 3) := by decide +kernel
theorem dX10_note_5 : decode cX10_note 5 = .ok (.aload_n 0, 1) := by decide +kernel
theorem dX10_note_6 : decode cX10_note 6 = .ok (.getfield 39, 3) := by decide +kernel
theorem dX10_note_9 : decode cX10_note 9 = .ok (.sipush 1170, 3) := by decide +kernel
theorem dX10_note_12 : decode cX10_note 12 = .ok (.iconst 0, 1) := by decide +kernel
theorem dX10_note_13 : decode cX10_note 13 = .ok (.iastore, 1) := by decide +kernel
theorem dX10_note_14 : decode cX10_note 14 = .ok (.iconst 0, 1) := by decide +kernel
theorem dX10_note_15 : decode cX10_note 15 = .ok (.ireturn, 1) := by decide +kernel
theorem dX10_note_16 : decode cX10_note 16 = .ok (.iload_n 1, 1) := by decide +kernel
theorem dX10_note_17 : decode cX10_note 17 = .ok (.i2l, 1) := by decide +kernel
theorem dX10_note_18 : decode cX10_note 18 = .ok (.lconst 0, 1) := by decide +kernel
theorem dX10_note_19 : decode cX10_note 19 = .ok (.ldc2_w 374, 3) := by decide +kernel
theorem dX10_note_22 : decode cX10_note 22 = .ok (.invokestatic 121, 3) := by decide +kernel
theorem dX10_note_25 : decode cX10_note 25 = .ok (.ifCond .eq 36, 3) := by decide +kernel
theorem dX10_note_28 : decode cX10_note 28 = .ok (.aload_n 0, 1) := by decide +kernel
theorem dX10_note_29 : decode cX10_note 29 = .ok (.iload_n 2, 1) := by decide +kernel
theorem dX10_note_30 : decode cX10_note 30 = .ok (.invokevirtual 307, 3) := by decide +kernel
theorem dX10_note_33 : decode cX10_note 33 = .ok (.ifCond .eq 28, 3) := by decide +kernel
theorem dX10_note_36 : decode cX10_note 36 = .ok (.iload_n 3, 1) := by decide +kernel
theorem dX10_note_37 : decode cX10_note 37 = .ok (.i2l, 1) := by decide +kernel
theorem dX10_note_38 : decode cX10_note 38 = .ok (.lconst 0, 1) := by decide +kernel
theorem dX10_note_39 : decode cX10_note 39 = .ok (.ldc2_w 374, 3) := by decide +kernel
theorem dX10_note_42 : decode cX10_note 42 = .ok (.invokestatic 121, 3) := by decide +kernel
theorem dX10_note_45 : decode cX10_note 45 = .ok (.ifCond .eq 16, 3) := by decide +kernel
theorem dX10_note_48 : decode cX10_note 48 = .ok (.aload_n 0, 1) := by decide +kernel
theorem dX10_note_49 : decode cX10_note 49 = .ok (.getfield 39, 3) := by decide +kernel
theorem dX10_note_52 : decode cX10_note 52 = .ok (.sipush 1170, 3) := by decide +kernel
theorem dX10_note_55 : decode cX10_note 55 = .ok (.iaload, 1) := by decide +kernel
theorem dX10_note_56 : decode cX10_note 56 = .ok (.bipush 10, 2) := by decide +kernel
theorem dX10_note_58 : decode cX10_note 58 = .ok (.if_icmp .ne 6, 3) := by decide +kernel
theorem dX10_note_61 : decode cX10_note 61 = .ok (.bipush (-2), 2) := by decide +kernel
theorem dX10_note_63 : decode cX10_note 63 = .ok (.ireturn, 1) := by decide +kernel
theorem dX10_note_64 : decode cX10_note 64 = .ok (.sipush 1140, 3) := by decide +kernel
theorem dX10_note_67 : decode cX10_note 67 = .ok (.iconst 3, 1) := by decide +kernel
theorem dX10_note_68 : decode cX10_note 68 = .ok (.aload_n 0, 1) := by decide +kernel
theorem dX10_note_69 : decode cX10_note 69 = .ok (.getfield 39, 3) := by decide +kernel
theorem dX10_note_72 : decode cX10_note 72 = .ok (.sipush 1170, 3) := by decide +kernel
theorem dX10_note_75 : decode cX10_note 75 = .ok (.iaload, 1) := by decide +kernel
theorem dX10_note_76 : decode cX10_note 76 = .ok (.imul, 1) := by decide +kernel
theorem dX10_note_77 : decode cX10_note 77 = .ok (.iadd, 1) := by decide +kernel
theorem dX10_note_78 : decode cX10_note 78 = .ok (.istore 4, 2) := by decide +kernel
theorem dX10_note_80 : decode cX10_note 80 = .ok (.aload_n 0, 1) := by decide +kernel
theorem dX10_note_81 : decode cX10_note 81 = .ok (.getfield 39, 3) := by decide +kernel
theorem dX10_note_84 : decode cX10_note 84 = .ok (.iload 4, 2) := by decide +kernel
theorem dX10_note_86 : decode cX10_note 86 = .ok (.iload_n 1, 1) := by decide +kernel
theorem dX10_note_87 : decode cX10_note 87 = .ok (.iastore, 1) := by decide +kernel
theorem dX10_note_88 : decode cX10_note 88 = .ok (.aload_n 0, 1) := by decide +kernel
theorem dX10_note_89 : decode cX10_note 89 = .ok (.getfield 39, 3) := by decide +kernel
theorem dX10_note_92 : decode cX10_note 92 = .ok (.iload 4, 2) := by decide +kernel
theorem dX10_note_94 : decode cX10_note 94 = .ok (.iconst 1, 1) := by decide +kernel
theorem dX10_note_95 : decode cX10_note 95 = .ok (.iadd, 1) := by decide +kernel
theorem dX10_note_96 : decode cX10_note 96 = .ok (.iload_n 2, 1) := by decide +kernel
theorem dX10_note_97 : decode cX10_note 97 = .ok (.iastore, 1) := by decide +kernel
theorem dX10_note_98 : decode cX10_note 98 = .ok (.aload_n 0, 1) := by decide +kernel
theorem dX10_note_99 : decode cX10_note 99 = .ok (.getfield 39, 3) := by decide +kernel
theorem dX10_note_102 : decode cX10_note 102 = .ok (.iload 4, 2) := by decide +kernel
theorem dX10_note_104 : decode cX10_note 104 = .ok (.iconst 2, 1) := by decide +kernel
theorem dX10_note_105 : decode cX10_note 105 = .ok (.iadd, 1) := by decide +kernel
theorem dX10_note_106 : decode cX10_note 106 = .ok (.iload_n 3, 1) := by decide +kernel
theorem dX10_note_107 : decode cX10_note 107 = .ok (.iastore, 1) := by decide +kernel
theorem dX10_note_108 : decode cX10_note 108 = .ok (.aload_n 0, 1) := by decide +kernel
theorem dX10_note_109 : decode cX10_note 109 = .ok (.getfield 39, 3) := by decide +kernel
theorem dX10_note_112 : decode cX10_note 112 = .ok (.sipush 1170, 3) := by decide +kernel
theorem dX10_note_115 : decode cX10_note 115 = .ok (.dup2, 1) := by decide +kernel
theorem dX10_note_116 : decode cX10_note 116 = .ok (.iaload, 1) := by decide +kernel
theorem dX10_note_117 : decode cX10_note 117 = .ok (.iconst 1, 1) := by decide +kernel
theorem dX10_note_118 : decode cX10_note 118 = .ok (.iadd, 1) := by decide +kernel
theorem dX10_note_119 : decode cX10_note 119 = .ok (.iastore, 1) := by decide +kernel
theorem dX10_note_120 : decode cX10_note 120 = .ok (.aload_n 0, 1) := by decide +kernel
theorem dX10_note_121 : decode cX10_note 121 = .ok (.getfield 39, 3) := by decide +kernel
theorem dX10_note_124 : decode cX10_note 124 = .ok (.sipush 1170, 3) := by decide +kernel
theorem dX10_note_127 : decode cX10_note 127 = .ok (.iaload, 1) := by decide +kernel
theorem dX10_note_128 : decode cX10_note 128 = .ok (.ireturn, 1) := by decide +kernel
theorem dX10_areNotesSo_0 : decode cX10_areNotesSo 0 = .ok (.iconst 0, 1) := by decide +kernel
theorem dX10_areNotesSo_1 : decode cX10_areNotesSo 1 = .ok (.istore_n 2, 1) := by decide +kernel
theorem dX10_areNotesSo_2 : decode cX10_areNotesSo 2 = .ok (.iload_n 2, 1) := by decide +kernel
theorem dX10_areNotesSo_3 : decode cX10_areNotesSo 3 = .ok (.iconst 3, 1) := by decide +kernel
theorem dX10_areNotesSo_4 : decode cX10_areNotesSo 4 = .ok (.aload_n 0, 1) := by decide +kernel
theorem dX10_areNotesSo_5 : decode cX10_areNotesSo 5 = .ok (.getfield 39, 3) := by decide +kernel
theorem dX10_areNotesSo_8 : decode cX10_areNotesSo 8 = .ok (.sipush 1170, 3) := by decide +kernel
theorem dX10_areNotesSo_11 : decode cX10_areNotesSo 11 = .ok (.iaload, 1) := by decide +kernel
theorem dX10_areNotesSo_12 : decode cX10_areNotesSo 12 = .ok (.imul, 1) := by decide +kernel
theorem dX10_areNotesSo_13 : decode cX10_areNotesSo 13 = .ok (.if_icmp .ge 57, 3) := by decide +kernel
theorem dX10_areNotesSo_16 : decode cX10_areNotesSo 16 = .ok (.aload_n 0, 1) := by decide +kernel
theorem dX10_areNotesSo_17 : decode cX10_areNotesSo 17 = .ok (.getfield 39, 3) := by decide +kernel
theorem dX10_areNotesSo_20 : decode cX10_areNotesSo 20 = .ok (.sipush 1140, 3) := by decide +kernel
theorem dX10_areNotesSo_23 : decode cX10_areNotesSo 23 = .ok (.iload_n 2, 1) := by decide +kernel
theorem dX10_areNotesSo_24 : decode cX10_areNotesSo 24 = .ok (.iadd, 1) := by decide +kernel
theorem dX10_areNotesSo_25 : decode cX10_areNotesSo 25 = .ok (.iaload, 1) := by decide +kernel
theorem dX10_areNotesSo_26 : decode cX10_areNotesSo 26 = .ok (.iload_n 1, 1) := by decide +kernel
theorem dX10_areNotesSo_27 : decode cX10_areNotesSo 27 = .ok (.if_icmp .ne 37, 3) := by decide +kernel
theorem dX10_areNotesSo_30 : decode cX10_areNotesSo 30 = .ok (.aload_n 0, 1) := by decide +kernel
theorem dX10_areNotesSo_31 : decode cX10_areNotesSo 31 = .ok (.aload_n 0, 1) := by decide +kernel
theorem dX10_areNotesSo_32 : decode cX10_areNotesSo 32 = .ok (.getfield 39, 3) := by decide +kernel
theorem dX10_areNotesSo_35 : decode cX10_areNotesSo 35 = .ok (.sipush 1140, 3) := by decide +kernel
theorem dX10_areNotesSo_38 : decode cX10_areNotesSo 38 = .ok (.iload_n 2, 1) := by decide +kernel
theorem dX10_areNotesSo_39 : decode cX10_areNotesSo 39 = .ok (.iadd, 1) := by decide +kernel
theorem dX10_areNotesSo_40 : decode cX10_areNotesSo 40 = .ok (.iconst 1, 1) := by decide +kernel
theorem dX10_areNotesSo_41 : decode cX10_areNotesSo 41 = .ok (.iadd, 1) := by decide +kernel
theorem dX10_areNotesSo_42 : decode cX10_areNotesSo 42 = .ok (.iaload, 1) := by decide +kernel
theorem dX10_areNotesSo_43 : decode cX10_areNotesSo 43 = .ok (.iconst 1, 1) := by decide +kernel
theorem dX10_areNotesSo_44 : decode cX10_areNotesSo 44 = .ok (.invokevirtual 290, 3) := by decide +kernel
theorem dX10_areNotesSo_47 : decode cX10_areNotesSo 47 = .ok (.aload_n 0, 1) := by decide +kernel
theorem dX10_areNotesSo_48 : decode cX10_areNotesSo 48 = .ok (.getfield 39, 3) := by decide +kernel
theorem dX10_areNotesSo_51 : decode cX10_areNotesSo 51 = .ok (.sipush 1140, 3) := by decide +kernel
theorem dX10_areNotesSo_54 : decode cX10_areNotesSo 54 = .ok (.iload_n 2, 1) := by decide +kernel
theorem dX10_areNotesSo_55 : decode cX10_areNotesSo 55 = .ok (.iadd, 1) := by decide +kernel
theorem dX10_areNotesSo_56 : decode cX10_areNotesSo 56 = .ok (.iconst 2, 1) := by decide +kernel
theorem dX10_areNotesSo_57 : decode cX10_areNotesSo 57 = .ok (.iadd, 1) := by decide +kernel
theorem dX10_areNotesSo_58 : decode cX10_areNotesSo 58 = .ok (.iaload, 1) := by decide +kernel
theorem dX10_areNotesSo_59 : decode cX10_areNotesSo 59 = .ok (.if_icmp .eq 5, 3) := by decide +kernel
theorem dX10_areNotesSo_62 : decode cX10_areNotesSo 62 = .ok (.iconst 0, 1) := by decide +kernel
theorem dX10_areNotesSo_63 : decode cX10_areNotesSo 63 = .ok (.ireturn, 1) := by decide +kernel
theorem dX10_areNotesSo_64 : decode cX10_areNotesSo 64 = .ok (.iinc 2 3, 3) := by decide +kernel
theorem dX10_areNotesSo_67 : decode cX10_areNotesSo 67 = .ok (.goto (-65), 3) := by decide +kernel
theorem dX10_areNotesSo_70 : decode cX10_areNotesSo 70 = .ok (.iconst 1, 1) := by decide +kernel
theorem dX10_areNotesSo_71 : decode cX10_areNotesSo 71 = .ok (.ireturn, 1) := by decide +kernel
theorem dX10_areAllSo_0 : decode cX10_areAllSo 0 = .ok (.iconst 1, 1) := by decide +kernel
theorem dX10_areAllSo_1 : decode cX10_areAllSo 1 = .ok (.istore_n 3, 1) := by decide +kernel
theorem dX10_areAllSo_2 : decode cX10_areAllSo 2 = .ok (.aload_n 0, 1) := by decide +kernel
theorem dX10_areAllSo_3 : decode cX10_areAllSo 3 = .ok (.invokevirtual 263, 3) := by decide +kernel
theorem dX10_areAllSo_6 : decode cX10_areAllSo 6 = .ok (.iconst 0, 1) := by decide +kernel
theorem dX10_areAllSo_7 : decode cX10_areAllSo 7 = .ok (.istore 4, 2) := by decide +kernel
theorem dX10_areAllSo_9 : decode cX10_areAllSo 9 = .ok (.iload 4, 2) := by decide +kernel
theorem dX10_areAllSo_11 : decode cX10_areAllSo 11 = .ok (.bipush 60, 2) := by decide +kernel
theorem dX10_areAllSo_13 : decode cX10_areAllSo 13 = .ok (.if_icmp .gt 77, 3) := by decide +kernel
theorem dX10_areAllSo_16 : decode cX10_areAllSo 16 = .ok (.aload_n 0, 1) := by decide +kernel
theorem dX10_areAllSo_17 : decode cX10_areAllSo 17 = .ok (.invokevirtual 351, 3) := by decide +kernel
theorem dX10_areAllSo_20 : decode cX10_areAllSo 20 = .ok (.pop, 1) := by decide +kernel
theorem dX10_areAllSo_21 : decode cX10_areAllSo 21 = .ok (.iload_n 3, 1) := by decide +kernel
theorem dX10_areAllSo_22 : decode cX10_areAllSo 22 = .ok (.ifCond .eq 16, 3) := by decide +kernel
theorem dX10_areAllSo_25 : decode cX10_areAllSo 25 = .ok (.aload_n 0, 1) := by decide +kernel
theorem dX10_areAllSo_26 : decode cX10_areAllSo 26 = .ok (.iload 4, 2) := by decide +kernel
theorem dX10_areAllSo_28 : decode cX10_areAllSo 28 = .ok (.invokevirtual 467, 3) := by decide +kernel
theorem dX10_areAllSo_31 : decode cX10_areAllSo 31 = .ok (.ifCond .eq 7, 3) := by decide +kernel
theorem dX10_areAllSo_34 : decode cX10_areAllSo 34 = .ok (.iconst 1, 1) := by decide +kernel
theorem dX10_areAllSo_35 : decode cX10_areAllSo 35 = .ok (.goto 4, 3) := by decide +kernel
theorem dX10_areAllSo_38 : decode cX10_areAllSo 38 = .ok (.iconst 0, 1) := by decide +kernel
theorem dX10_areAllSo_39 : decode cX10_areAllSo 39 = .ok (.istore_n 3, 1) := by decide +kernel
theorem dX10_areAllSo_40 : decode cX10_areAllSo 40 = .ok (.iconst 0, 1) := by decide +kernel
theorem dX10_areAllSo_41 : decode cX10_areAllSo 41 = .ok (.istore 5, 2) := by decide +kernel
theorem dX10_areAllSo_43 : decode cX10_areAllSo 43 = .ok (.iload 5, 2) := by decide +kernel
theorem dX10_areAllSo_45 : decode cX10_areAllSo 45 = .ok (.aload_n 0, 1) := by decide +kernel
theorem dX10_areAllSo_46 : decode cX10_areAllSo 46 = .ok (.getfield 39, 3) := by decide +kernel
theorem dX10_areAllSo_49 : decode cX10_areAllSo 49 = .ok (.iconst 2, 1) := by decide +kernel
theorem dX10_areAllSo_50 : decode cX10_areAllSo 50 = .ok (.iaload, 1) := by decide +kernel
theorem dX10_areAllSo_51 : decode cX10_areAllSo 51 = .ok (.if_icmp .ge 33, 3) := by decide +kernel
theorem dX10_areAllSo_54 : decode cX10_areAllSo 54 = .ok (.iload 4, 2) := by decide +kernel
theorem dX10_areAllSo_56 : decode cX10_areAllSo 56 = .ok (.iload_n 2, 1) := by decide +kernel
theorem dX10_areAllSo_57 : decode cX10_areAllSo 57 = .ok (.if_icmp .ne 27, 3) := by decide +kernel
theorem dX10_areAllSo_60 : decode cX10_areAllSo 60 = .ok (.aload_n 0, 1) := by decide +kernel
theorem dX10_areAllSo_61 : decode cX10_areAllSo 61 = .ok (.getfield 68, 3) := by decide +kernel
theorem dX10_areAllSo_64 : decode cX10_areAllSo 64 = .ok (.iconst 5, 1) := by decide +kernel
theorem dX10_areAllSo_65 : decode cX10_areAllSo 65 = .ok (.iload_n 1, 1) := by decide +kernel
theorem dX10_areAllSo_66 : decode cX10_areAllSo 66 = .ok (.imul, 1) := by decide +kernel
theorem dX10_areAllSo_67 : decode cX10_areAllSo 67 = .ok (.iload 5, 2) := by decide +kernel
theorem dX10_areAllSo_69 : decode cX10_areAllSo 69 = .ok (.iadd, 1) := by decide +kernel
theorem dX10_areAllSo_70 : decode cX10_areAllSo 70 = .ok (.aload_n 0, 1) := by decide +kernel
theorem dX10_areAllSo_71 : decode cX10_areAllSo 71 = .ok (.iload 5, 2) := by decide +kernel
theorem dX10_areAllSo_73 : decode cX10_areAllSo 73 = .ok (.iconst 1, 1) := by decide +kernel
theorem dX10_areAllSo_74 : decode cX10_areAllSo 74 = .ok (.invokevirtual 290, 3) := by decide +kernel
theorem dX10_areAllSo_77 : decode cX10_areAllSo 77 = .ok (.iastore, 1) := by decide +kernel
theorem dX10_areAllSo_78 : decode cX10_areAllSo 78 = .ok (.iinc 5 1, 3) := by decide +kernel
theorem dX10_areAllSo_81 : decode cX10_areAllSo 81 = .ok (.goto (-38), 3) := by decide +kernel
theorem dX10_areAllSo_84 : decode cX10_areAllSo 84 = .ok (.iinc 4 1, 3) := by decide +kernel
theorem dX10_areAllSo_87 : decode cX10_areAllSo 87 = .ok (.goto (-78), 3) := by decide +kernel
theorem dX10_areAllSo_90 : decode cX10_areAllSo 90 = .ok (.iload_n 3, 1) := by decide +kernel
theorem dX10_areAllSo_91 : decode cX10_areAllSo 91 = .ok (.ireturn, 1) := by decide +kernel
theorem dX10_fillsFits_0 : decode cX10_fillsFits 0 = .ok (.aload_n 0, 1) := by decide +kernel
theorem dX10_fillsFits_1 : decode cX10_fillsFits 1 = .ok (.getfield 42, 3) := by decide +kernel
theorem dX10_fillsFits_4 : decode cX10_fillsFits 4 = .ok (.istore_n 2, 1) := by decide +kernel
theorem dX10_fillsFits_5 : decode cX10_fillsFits 5 = .ok (.aload_n 0, 1) := by decide +kernel
theorem dX10_fillsFits_6 : decode cX10_fillsFits 6 = .ok (.invokevirtual 437, 3) := by decide +kernel
theorem dX10_fillsFits_9 : decode cX10_fillsFits 9 = .ok (.iconst 0, 1) := by decide +kernel
theorem dX10_fillsFits_10 : decode cX10_fillsFits 10 = .ok (.istore_n 3, 1) := by decide +kernel
theorem dX10_fillsFits_11 : decode cX10_fillsFits 11 = .ok (.iload_n 3, 1) := by decide +kernel
theorem dX10_fillsFits_12 : decode cX10_fillsFits 12 = .ok (.aload_n 0, 1) := by decide +kernel
theorem dX10_fillsFits_13 : decode cX10_fillsFits 13 = .ok (.getfield 257, 3) := by decide +kernel
theorem dX10_fillsFits_16 : decode cX10_fillsFits 16 = .ok (.if_icmp .gt 28, 3) := by decide +kernel
theorem dX10_fillsFits_19 : decode cX10_fillsFits 19 = .ok (.aload_n 0, 1) := by decide +kernel
theorem dX10_fillsFits_20 : decode cX10_fillsFits 20 = .ok (.iload_n 3, 1) := by decide +kernel
theorem dX10_fillsFits_21 : decode cX10_fillsFits 21 = .ok (.iconst 1, 1) := by decide +kernel
theorem dX10_fillsFits_22 : decode cX10_fillsFits 22 = .ok (.isub, 1) := by decide +kernel
theorem dX10_fillsFits_23 : decode cX10_fillsFits 23 = .ok (.putfield 42, 3) := by decide +kernel
theorem dX10_fillsFits_26 : decode cX10_fillsFits 26 = .ok (.aload_n 0, 1) := by decide +kernel
theorem dX10_fillsFits_27 : decode cX10_fillsFits 27 = .ok (.getfield 64, 3) := by decide +kernel
theorem dX10_fillsFits_30 : decode cX10_fillsFits 30 = .ok (.iload_n 3, 1) := by decide +kernel
theorem dX10_fillsFits_31 : decode cX10_fillsFits 31 = .ok (.aload_n 0, 1) := by decide +kernel
theorem dX10_fillsFits_32 : decode cX10_fillsFits 32 = .ok (.iload_n 3, 1) := by decide +kernel
theorem dX10_fillsFits_33 : decode cX10_fillsFits 33 = .ok (.iload_n 1, 1) := by decide +kernel
theorem dX10_fillsFits_34 : decode cX10_fillsFits 34 = .ok (.invokevirtual 470, 3) := by decide +kernel
theorem dX10_fillsFits_37 : decode cX10_fillsFits 37 = .ok (.bastore, 1) := by decide +kernel
theorem dX10_fillsFits_38 : decode cX10_fillsFits 38 = .ok (.iinc 3 1, 3) := by decide +kernel
theorem dX10_fillsFits_41 : decode cX10_fillsFits 41 = .ok (.goto (-30), 3) := by decide +kernel
theorem dX10_fillsFits_44 : decode cX10_fillsFits 44 = .ok (.aload_n 0, 1) := by decide +kernel
theorem dX10_fillsFits_45 : decode cX10_fillsFits 45 = .ok (.iload_n 2, 1) := by decide +kernel
theorem dX10_fillsFits_46 : decode cX10_fillsFits 46 = .ok (.putfield 42, 3) := by decide +kernel
theorem dX10_fillsFits_49 : decode cX10_fillsFits 49 = .ok (.aload_n 0, 1) := by decide +kernel
theorem dX10_fillsFits_50 : decode cX10_fillsFits 50 = .ok (.invokevirtual 440, 3) := by decide +kernel
theorem dX10_fillsFits_53 : decode cX10_fillsFits 53 = .ok (.return_, 1) := by decide +kernel
theorem dX10_ruled_0 : decode cX10_ruled 0 = .ok (.aload_n 0, 1) := by decide +kernel
theorem dX10_ruled_1 : decode cX10_ruled 1 = .ok (.invokevirtual 354, 3) := by decide +kernel
theorem dX10_ruled_4 : decode cX10_ruled 4 = .ok (.ifCond .eq 13, 3) := by decide +kernel
theorem dX10_ruled_7 : decode cX10_ruled 7 = .ok (.iload_n 1, 1) := by decide +kernel
theorem dX10_ruled_8 : decode cX10_ruled 8 = .ok (.i2l, 1) := by decide +kernel
theorem dX10_ruled_9 : decode cX10_ruled 9 = .ok (.lconst 0, 1) := by decide +kernel
theorem dX10_ruled_10 : decode cX10_ruled 10 = .ok (.lconst 1, 1) := by decide +kernel
theorem dX10_ruled_11 : decode cX10_ruled 11 = .ok (.invokestatic 121, 3) := by decide +kernel
theorem dX10_ruled_14 : decode cX10_ruled 14 = .ok (.ifCond .ne 6, 3) := by decide +kernel
theorem dX10_ruled_17 : decode cX10_ruled 17 = .ok (.bipush (-3), 2) := by decide +kernel
theorem dX10_ruled_19 : decode cX10_ruled 19 = .ok (.ireturn, 1) := by decide +kernel
theorem dX10_ruled_20 : decode cX10_ruled 20 = .ok (.aload_n 0, 1) := by decide +kernel
theorem dX10_ruled_21 : decode cX10_ruled 21 = .ok (.iconst 0, 1) := by decide +kernel
theorem dX10_ruled_22 : decode cX10_ruled 22 = .ok (.invokevirtual 473, 3) := by decide +kernel
theorem dX10_ruled_25 : decode cX10_ruled 25 = .ok (.iconst 0, 1) := by decide +kernel
theorem dX10_ruled_26 : decode cX10_ruled 26 = .ok (.istore_n 2, 1) := by decide +kernel
theorem dX10_ruled_27 : decode cX10_ruled 27 = .ok (.bipush (-2), 2) := by decide +kernel
theorem dX10_ruled_29 : decode cX10_ruled 29 = .ok (.istore_n 3, 1) := by decide +kernel
theorem dX10_ruled_30 : decode cX10_ruled 30 = .ok (.aload_n 0, 1) := by decide +kernel
theorem dX10_ruled_31 : decode cX10_ruled 31 = .ok (.getfield 257, 3) := by decide +kernel
theorem dX10_ruled_34 : decode cX10_ruled 34 = .ok (.istore 4, 2) := by decide +kernel
theorem dX10_ruled_36 : decode cX10_ruled 36 = .ok (.iload 4, 2) := by decide +kernel
theorem dX10_ruled_38 : decode cX10_ruled 38 = .ok (.ifCond .lt 30, 3) := by decide +kernel
theorem dX10_ruled_41 : decode cX10_ruled 41 = .ok (.aload_n 0, 1) := by decide +kernel
theorem dX10_ruled_42 : decode cX10_ruled 42 = .ok (.getfield 64, 3) := by decide +kernel
theorem dX10_ruled_45 : decode cX10_ruled 45 = .ok (.iload 4, 2) := by decide +kernel
theorem dX10_ruled_47 : decode cX10_ruled 47 = .ok (.baload, 1) := by decide +kernel
theorem dX10_ruled_48 : decode cX10_ruled 48 = .ok (.ifCond .ne 6, 3) := by decide +kernel
theorem dX10_ruled_51 : decode cX10_ruled 51 = .ok (.goto 11, 3) := by decide +kernel
theorem dX10_ruled_54 : decode cX10_ruled 54 = .ok (.iload 4, 2) := by decide +kernel
theorem dX10_ruled_56 : decode cX10_ruled 56 = .ok (.iconst 1, 1) := by decide +kernel
theorem dX10_ruled_57 : decode cX10_ruled 57 = .ok (.isub, 1) := by decide +kernel
theorem dX10_ruled_58 : decode cX10_ruled 58 = .ok (.istore_n 3, 1) := by decide +kernel
theorem dX10_ruled_59 : decode cX10_ruled 59 = .ok (.iinc 2 1, 3) := by decide +kernel
theorem dX10_ruled_62 : decode cX10_ruled 62 = .ok (.iinc 4 (-1), 3) := by decide +kernel
theorem dX10_ruled_65 : decode cX10_ruled 65 = .ok (.goto (-29), 3) := by decide +kernel
theorem dX10_ruled_68 : decode cX10_ruled 68 = .ok (.iload_n 1, 1) := by decide +kernel
theorem dX10_ruled_69 : decode cX10_ruled 69 = .ok (.ifCond .ne 7, 3) := by decide +kernel
theorem dX10_ruled_72 : decode cX10_ruled 72 = .ok (.iload_n 2, 1) := by decide +kernel
theorem dX10_ruled_73 : decode cX10_ruled 73 = .ok (.goto 4, 3) := by decide +kernel
theorem dX10_ruled_76 : decode cX10_ruled 76 = .ok (.iload_n 3, 1) := by decide +kernel
theorem dX10_ruled_77 : decode cX10_ruled 77 = .ok (.ireturn, 1) := by decide +kernel
theorem dX10_alikeAt_0 : decode cX10_alikeAt 0 = .ok (.iconst 0, 1) := by decide +kernel
theorem dX10_alikeAt_1 : decode cX10_alikeAt 1 = .ok (.istore_n 2, 1) := by decide +kernel
theorem dX10_alikeAt_2 : decode cX10_alikeAt 2 = .ok (.iconst 0, 1) := by decide +kernel
theorem dX10_alikeAt_3 : decode cX10_alikeAt 3 = .ok (.istore_n 3, 1) := by decide +kernel
theorem dX10_alikeAt_4 : decode cX10_alikeAt 4 = .ok (.iload_n 3, 1) := by decide +kernel
theorem dX10_alikeAt_5 : decode cX10_alikeAt 5 = .ok (.aload_n 0, 1) := by decide +kernel
theorem dX10_alikeAt_6 : decode cX10_alikeAt 6 = .ok (.getfield 257, 3) := by decide +kernel
theorem dX10_alikeAt_9 : decode cX10_alikeAt 9 = .ok (.if_icmp .gt 96, 3) := by decide +kernel
theorem dX10_alikeAt_12 : decode cX10_alikeAt 12 = .ok (.iconst 0, 1) := by decide +kernel
theorem dX10_alikeAt_13 : decode cX10_alikeAt 13 = .ok (.istore 4, 2) := by decide +kernel
theorem dX10_alikeAt_15 : decode cX10_alikeAt 15 = .ok (.iconst 0, 1) := by decide +kernel
theorem dX10_alikeAt_16 : decode cX10_alikeAt 16 = .ok (.istore 5, 2) := by decide +kernel
theorem dX10_alikeAt_18 : decode cX10_alikeAt 18 = .ok (.iload 5, 2) := by decide +kernel
theorem dX10_alikeAt_20 : decode cX10_alikeAt 20 = .ok (.aload_n 0, 1) := by decide +kernel
theorem dX10_alikeAt_21 : decode cX10_alikeAt 21 = .ok (.getfield 257, 3) := by decide +kernel
theorem dX10_alikeAt_24 : decode cX10_alikeAt 24 = .ok (.if_icmp .gt 62, 3) := by decide +kernel
theorem dX10_alikeAt_27 : decode cX10_alikeAt 27 = .ok (.aload_n 0, 1) := by decide +kernel
theorem dX10_alikeAt_28 : decode cX10_alikeAt 28 = .ok (.getfield 64, 3) := by decide +kernel
theorem dX10_alikeAt_31 : decode cX10_alikeAt 31 = .ok (.iload_n 3, 1) := by decide +kernel
theorem dX10_alikeAt_32 : decode cX10_alikeAt 32 = .ok (.baload, 1) := by decide +kernel
theorem dX10_alikeAt_33 : decode cX10_alikeAt 33 = .ok (.ifCond .eq 53, 3) := by decide +kernel
theorem dX10_alikeAt_36 : decode cX10_alikeAt 36 = .ok (.iload 4, 2) := by decide +kernel
theorem dX10_alikeAt_38 : decode cX10_alikeAt 38 = .ok (.aload_n 0, 1) := by decide +kernel
theorem dX10_alikeAt_39 : decode cX10_alikeAt 39 = .ok (.getfield 64, 3) := by decide +kernel
theorem dX10_alikeAt_42 : decode cX10_alikeAt 42 = .ok (.iload 5, 2) := by decide +kernel
theorem dX10_alikeAt_44 : decode cX10_alikeAt 44 = .ok (.baload, 1) := by decide +kernel
theorem dX10_alikeAt_45 : decode cX10_alikeAt 45 = .ok (.ifCond .eq 31, 3) := by decide +kernel
theorem dX10_alikeAt_48 : decode cX10_alikeAt 48 = .ok (.aload_n 0, 1) := by decide +kernel
theorem dX10_alikeAt_49 : decode cX10_alikeAt 49 = .ok (.getfield 68, 3) := by decide +kernel
theorem dX10_alikeAt_52 : decode cX10_alikeAt 52 = .ok (.iconst 5, 1) := by decide +kernel
theorem dX10_alikeAt_53 : decode cX10_alikeAt 53 = .ok (.iload_n 3, 1) := by decide +kernel
theorem dX10_alikeAt_54 : decode cX10_alikeAt 54 = .ok (.imul, 1) := by decide +kernel
theorem dX10_alikeAt_55 : decode cX10_alikeAt 55 = .ok (.iload_n 1, 1) := by decide +kernel
theorem dX10_alikeAt_56 : decode cX10_alikeAt 56 = .ok (.iadd, 1) := by decide +kernel
theorem dX10_alikeAt_57 : decode cX10_alikeAt 57 = .ok (.iaload, 1) := by decide +kernel
theorem dX10_alikeAt_58 : decode cX10_alikeAt 58 = .ok (.aload_n 0, 1) := by decide +kernel
theorem dX10_alikeAt_59 : decode cX10_alikeAt 59 = .ok (.getfield 68, 3) := by decide +kernel
theorem dX10_alikeAt_62 : decode cX10_alikeAt 62 = .ok (.iconst 5, 1) := by decide +kernel
theorem dX10_alikeAt_63 : decode cX10_alikeAt 63 = .ok (.iload 5, 2) := by decide +kernel
theorem dX10_alikeAt_65 : decode cX10_alikeAt 65 = .ok (.imul, 1) := by decide +kernel
theorem dX10_alikeAt_66 : decode cX10_alikeAt 66 = .ok (.iload_n 1, 1) := by decide +kernel
theorem dX10_alikeAt_67 : decode cX10_alikeAt 67 = .ok (.iadd, 1) := by decide +kernel
theorem dX10_alikeAt_68 : decode cX10_alikeAt 68 = .ok (.iaload, 1) := by decide +kernel
theorem dX10_alikeAt_69 : decode cX10_alikeAt 69 = .ok (.if_icmp .ne 7, 3) := by decide +kernel
theorem dX10_alikeAt_72 : decode cX10_alikeAt 72 = .ok (.iconst 1, 1) := by decide +kernel
theorem dX10_alikeAt_73 : decode cX10_alikeAt 73 = .ok (.goto 4, 3) := by decide +kernel
theorem dX10_alikeAt_76 : decode cX10_alikeAt 76 = .ok (.iconst 0, 1) := by decide +kernel
theorem dX10_alikeAt_77 : decode cX10_alikeAt 77 = .ok (.iadd, 1) := by decide +kernel
theorem dX10_alikeAt_78 : decode cX10_alikeAt 78 = .ok (.istore 4, 2) := by decide +kernel
theorem dX10_alikeAt_80 : decode cX10_alikeAt 80 = .ok (.iinc 5 1, 3) := by decide +kernel
theorem dX10_alikeAt_83 : decode cX10_alikeAt 83 = .ok (.goto (-65), 3) := by decide +kernel
theorem dX10_alikeAt_86 : decode cX10_alikeAt 86 = .ok (.iload 4, 2) := by decide +kernel
theorem dX10_alikeAt_88 : decode cX10_alikeAt 88 = .ok (.iload_n 2, 1) := by decide +kernel
theorem dX10_alikeAt_89 : decode cX10_alikeAt 89 = .ok (.if_icmp .le 8, 3) := by decide +kernel
theorem dX10_alikeAt_92 : decode cX10_alikeAt 92 = .ok (.iload 4, 2) := by decide +kernel
theorem dX10_alikeAt_94 : decode cX10_alikeAt 94 = .ok (.goto 4, 3) := by decide +kernel
theorem dX10_alikeAt_97 : decode cX10_alikeAt 97 = .ok (.iload_n 2, 1) := by decide +kernel
theorem dX10_alikeAt_98 : decode cX10_alikeAt 98 = .ok (.istore_n 2, 1) := by decide +kernel
theorem dX10_alikeAt_99 : decode cX10_alikeAt 99 = .ok (.iinc 3 1, 3) := by decide +kernel
theorem dX10_alikeAt_102 : decode cX10_alikeAt 102 = .ok (.goto (-98), 3) := by decide +kernel
theorem dX10_alikeAt_105 : decode cX10_alikeAt 105 = .ok (.iload_n 2, 1) := by decide +kernel
theorem dX10_alikeAt_106 : decode cX10_alikeAt 106 = .ok (.ireturn, 1) := by decide +kernel
theorem dX10_look_0 : decode cX10_look 0 = .ok (.aload_n 0, 1) := by decide +kernel
theorem dX10_look_1 : decode cX10_look 1 = .ok (.invokevirtual 354, 3) := by decide +kernel
theorem dX10_look_4 : decode cX10_look 4 = .ok (.ifCond .eq 25, 3) := by decide +kernel
theorem dX10_look_7 : decode cX10_look 7 = .ok (.iload_n 1, 1) := by decide +kernel
theorem dX10_look_8 : decode cX10_look 8 = .ok (.i2l, 1) := by decide +kernel
theorem dX10_look_9 : decode cX10_look 9 = .ok (.lconst 0, 1) := by decide +kernel
theorem dX10_look_10 : decode cX10_look 10 = .ok (.ldc2_w 374, 3) := by decide +kernel
theorem dX10_look_13 : decode cX10_look 13 = .ok (.invokestatic 121, 3) := by decide +kernel
theorem dX10_look_16 : decode cX10_look 16 = .ok (.ifCond .eq 13, 3) := by decide +kernel
theorem dX10_look_19 : decode cX10_look 19 = .ok (.iload_n 2, 1) := by decide +kernel
theorem dX10_look_20 : decode cX10_look 20 = .ok (.i2l, 1) := by decide +kernel
theorem dX10_look_21 : decode cX10_look 21 = .ok (.lconst 0, 1) := by decide +kernel
theorem dX10_look_22 : decode cX10_look 22 = .ok (.lconst 1, 1) := by decide +kernel
theorem dX10_look_23 : decode cX10_look 23 = .ok (.invokestatic 121, 3) := by decide +kernel
theorem dX10_look_26 : decode cX10_look 26 = .ok (.ifCond .ne 5, 3) := by decide +kernel
theorem dX10_look_29 : decode cX10_look 29 = .ok (.iconst (-1), 1) := by decide +kernel
theorem dX10_look_30 : decode cX10_look 30 = .ok (.ireturn, 1) := by decide +kernel
theorem dX10_look_31 : decode cX10_look 31 = .ok (.aload_n 0, 1) := by decide +kernel
theorem dX10_look_32 : decode cX10_look 32 = .ok (.iload_n 1, 1) := by decide +kernel
theorem dX10_look_33 : decode cX10_look 33 = .ok (.invokevirtual 473, 3) := by decide +kernel
theorem dX10_look_36 : decode cX10_look 36 = .ok (.bipush (-2), 2) := by decide +kernel
theorem dX10_look_38 : decode cX10_look 38 = .ok (.istore_n 3, 1) := by decide +kernel
theorem dX10_look_39 : decode cX10_look 39 = .ok (.bipush (-2), 2) := by decide +kernel
theorem dX10_look_41 : decode cX10_look 41 = .ok (.istore 4, 2) := by decide +kernel
theorem dX10_look_43 : decode cX10_look 43 = .ok (.iconst 0, 1) := by decide +kernel
theorem dX10_look_44 : decode cX10_look 44 = .ok (.istore 5, 2) := by decide +kernel
theorem dX10_look_46 : decode cX10_look 46 = .ok (.iload 5, 2) := by decide +kernel
theorem dX10_look_48 : decode cX10_look 48 = .ok (.aload_n 0, 1) := by decide +kernel
theorem dX10_look_49 : decode cX10_look 49 = .ok (.getfield 39, 3) := by decide +kernel
theorem dX10_look_52 : decode cX10_look 52 = .ok (.iconst 2, 1) := by decide +kernel
theorem dX10_look_53 : decode cX10_look 53 = .ok (.iaload, 1) := by decide +kernel
theorem dX10_look_54 : decode cX10_look 54 = .ok (.if_icmp .ge 43, 3) := by decide +kernel
theorem dX10_look_57 : decode cX10_look 57 = .ok (.aload_n 0, 1) := by decide +kernel
theorem dX10_look_58 : decode cX10_look 58 = .ok (.iload 5, 2) := by decide +kernel
theorem dX10_look_60 : decode cX10_look 60 = .ok (.invokevirtual 476, 3) := by decide +kernel
theorem dX10_look_63 : decode cX10_look 63 = .ok (.istore 6, 2) := by decide +kernel
theorem dX10_look_65 : decode cX10_look 65 = .ok (.iload 6, 2) := by decide +kernel
theorem dX10_look_67 : decode cX10_look 67 = .ok (.ifCond .eq 24, 3) := by decide +kernel
theorem dX10_look_70 : decode cX10_look 70 = .ok (.iload_n 3, 1) := by decide +kernel
theorem dX10_look_71 : decode cX10_look 71 = .ok (.ifCond .lt 13, 3) := by decide +kernel
theorem dX10_look_74 : decode cX10_look 74 = .ok (.iload 6, 2) := by decide +kernel
theorem dX10_look_76 : decode cX10_look 76 = .ok (.iload 4, 2) := by decide +kernel
theorem dX10_look_78 : decode cX10_look 78 = .ok (.if_icmp .lt 6, 3) := by decide +kernel
theorem dX10_look_81 : decode cX10_look 81 = .ok (.goto 10, 3) := by decide +kernel
theorem dX10_look_84 : decode cX10_look 84 = .ok (.iload 5, 2) := by decide +kernel
theorem dX10_look_86 : decode cX10_look 86 = .ok (.istore_n 3, 1) := by decide +kernel
theorem dX10_look_87 : decode cX10_look 87 = .ok (.iload 6, 2) := by decide +kernel
theorem dX10_look_89 : decode cX10_look 89 = .ok (.istore 4, 2) := by decide +kernel
theorem dX10_look_91 : decode cX10_look 91 = .ok (.iinc 5 1, 3) := by decide +kernel
theorem dX10_look_94 : decode cX10_look 94 = .ok (.goto (-48), 3) := by decide +kernel
theorem dX10_look_97 : decode cX10_look 97 = .ok (.iload_n 2, 1) := by decide +kernel
theorem dX10_look_98 : decode cX10_look 98 = .ok (.ifCond .ne 7, 3) := by decide +kernel
theorem dX10_look_101 : decode cX10_look 101 = .ok (.iload_n 3, 1) := by decide +kernel
theorem dX10_look_102 : decode cX10_look 102 = .ok (.goto 5, 3) := by decide +kernel
theorem dX10_look_105 : decode cX10_look 105 = .ok (.iload 4, 2) := by decide +kernel
theorem dX10_look_107 : decode cX10_look 107 = .ok (.ireturn, 1) := by decide +kernel
theorem dX10_crowds_0 : decode cX10_crowds 0 = .ok (.aload_n 0, 1) := by decide +kernel
theorem dX10_crowds_1 : decode cX10_crowds 1 = .ok (.iload_n 1, 1) := by decide +kernel
theorem dX10_crowds_2 : decode cX10_crowds 2 = .ok (.invokevirtual 307, 3) := by decide +kernel
theorem dX10_crowds_5 : decode cX10_crowds 5 = .ok (.ifCond .eq 13, 3) := by decide +kernel
theorem dX10_crowds_8 : decode cX10_crowds 8 = .ok (.iload_n 2, 1) := by decide +kernel
theorem dX10_crowds_9 : decode cX10_crowds 9 = .ok (.i2l, 1) := by decide +kernel
theorem dX10_crowds_10 : decode cX10_crowds 10 = .ok (.lconst 0, 1) := by decide +kernel
theorem dX10_crowds_11 : decode cX10_crowds 11 = .ok (.lconst 1, 1) := by decide +kernel
theorem dX10_crowds_12 : decode cX10_crowds 12 = .ok (.invokestatic 121, 3) := by decide +kernel
theorem dX10_crowds_15 : decode cX10_crowds 15 = .ok (.ifCond .ne 5, 3) := by decide +kernel
theorem dX10_crowds_18 : decode cX10_crowds 18 = .ok (.iconst (-1), 1) := by decide +kernel
theorem dX10_crowds_19 : decode cX10_crowds 19 = .ok (.ireturn, 1) := by decide +kernel
theorem dX10_crowds_20 : decode cX10_crowds 20 = .ok (.aload_n 0, 1) := by decide +kernel
theorem dX10_crowds_21 : decode cX10_crowds 21 = .ok (.getfield 39, 3) := by decide +kernel
theorem dX10_crowds_24 : decode cX10_crowds 24 = .ok (.bipush 123, 2) := by decide +kernel
theorem dX10_crowds_26 : decode cX10_crowds 26 = .ok (.iload_n 1, 1) := by decide +kernel
theorem dX10_crowds_27 : decode cX10_crowds 27 = .ok (.iadd, 1) := by decide +kernel
theorem dX10_crowds_28 : decode cX10_crowds 28 = .ok (.iaload, 1) := by decide +kernel
theorem dX10_crowds_29 : decode cX10_crowds 29 = .ok (.istore_n 3, 1) := by decide +kernel
theorem dX10_crowds_30 : decode cX10_crowds 30 = .ok (.iconst 0, 1) := by decide +kernel
theorem dX10_crowds_31 : decode cX10_crowds 31 = .ok (.istore 4, 2) := by decide +kernel
theorem dX10_crowds_33 : decode cX10_crowds 33 = .ok (.bipush (-2), 2) := by decide +kernel
theorem dX10_crowds_35 : decode cX10_crowds 35 = .ok (.istore 5, 2) := by decide +kernel
theorem dX10_crowds_37 : decode cX10_crowds 37 = .ok (.aload_n 0, 1) := by decide +kernel
theorem dX10_crowds_38 : decode cX10_crowds 38 = .ok (.invokevirtual 437, 3) := by decide +kernel
theorem dX10_crowds_41 : decode cX10_crowds 41 = .ok (.bipush 60, 2) := by decide +kernel
theorem dX10_crowds_43 : decode cX10_crowds 43 = .ok (.istore 6, 2) := by decide +kernel
theorem dX10_crowds_45 : decode cX10_crowds 45 = .ok (.iload 6, 2) := by decide +kernel
theorem dX10_crowds_47 : decode cX10_crowds 47 = .ok (.ifCond .lt 39, 3) := by decide +kernel
theorem dX10_crowds_50 : decode cX10_crowds 50 = .ok (.aload_n 0, 1) := by decide +kernel
theorem dX10_crowds_51 : decode cX10_crowds 51 = .ok (.getfield 39, 3) := by decide +kernel
theorem dX10_crowds_54 : decode cX10_crowds 54 = .ok (.bipush 123, 2) := by decide +kernel
theorem dX10_crowds_56 : decode cX10_crowds 56 = .ok (.iload_n 1, 1) := by decide +kernel
theorem dX10_crowds_57 : decode cX10_crowds 57 = .ok (.iadd, 1) := by decide +kernel
theorem dX10_crowds_58 : decode cX10_crowds 58 = .ok (.iload 6, 2) := by decide +kernel
theorem dX10_crowds_60 : decode cX10_crowds 60 = .ok (.iastore, 1) := by decide +kernel
theorem dX10_crowds_61 : decode cX10_crowds 61 = .ok (.aload_n 0, 1) := by decide +kernel
theorem dX10_crowds_62 : decode cX10_crowds 62 = .ok (.iconst 0, 1) := by decide +kernel
theorem dX10_crowds_63 : decode cX10_crowds 63 = .ok (.iconst (-1), 1) := by decide +kernel
theorem dX10_crowds_64 : decode cX10_crowds 64 = .ok (.invokevirtual 470, 3) := by decide +kernel
theorem dX10_crowds_67 : decode cX10_crowds 67 = .ok (.ifCond .ne 6, 3) := by decide +kernel
theorem dX10_crowds_70 : decode cX10_crowds 70 = .ok (.goto 10, 3) := by decide +kernel
theorem dX10_crowds_73 : decode cX10_crowds 73 = .ok (.iload 6, 2) := by decide +kernel
theorem dX10_crowds_75 : decode cX10_crowds 75 = .ok (.istore 5, 2) := by decide +kernel
theorem dX10_crowds_77 : decode cX10_crowds 77 = .ok (.iinc 4 1, 3) := by decide +kernel
theorem dX10_crowds_80 : decode cX10_crowds 80 = .ok (.iinc 6 (-1), 3) := by decide +kernel
theorem dX10_crowds_83 : decode cX10_crowds 83 = .ok (.goto (-38), 3) := by decide +kernel
theorem dX10_crowds_86 : decode cX10_crowds 86 = .ok (.aload_n 0, 1) := by decide +kernel
theorem dX10_crowds_87 : decode cX10_crowds 87 = .ok (.getfield 39, 3) := by decide +kernel
theorem dX10_crowds_90 : decode cX10_crowds 90 = .ok (.bipush 123, 2) := by decide +kernel
theorem dX10_crowds_92 : decode cX10_crowds 92 = .ok (.iload_n 1, 1) := by decide +kernel
theorem dX10_crowds_93 : decode cX10_crowds 93 = .ok (.iadd, 1) := by decide +kernel
theorem dX10_crowds_94 : decode cX10_crowds 94 = .ok (.iload_n 3, 1) := by decide +kernel
theorem dX10_crowds_95 : decode cX10_crowds 95 = .ok (.iastore, 1) := by decide +kernel
theorem dX10_crowds_96 : decode cX10_crowds 96 = .ok (.aload_n 0, 1) := by decide +kernel
theorem dX10_crowds_97 : decode cX10_crowds 97 = .ok (.invokevirtual 440, 3) := by decide +kernel
theorem dX10_crowds_100 : decode cX10_crowds 100 = .ok (.iload_n 2, 1) := by decide +kernel
theorem dX10_crowds_101 : decode cX10_crowds 101 = .ok (.ifCond .ne 8, 3) := by decide +kernel
theorem dX10_crowds_104 : decode cX10_crowds 104 = .ok (.iload 4, 2) := by decide +kernel
theorem dX10_crowds_106 : decode cX10_crowds 106 = .ok (.goto 5, 3) := by decide +kernel
theorem dX10_crowds_109 : decode cX10_crowds 109 = .ok (.iload 5, 2) := by decide +kernel
theorem dX10_crowds_111 : decode cX10_crowds 111 = .ok (.ireturn, 1) := by decide +kernel
theorem dX10_seed_0 : decode cX10_seed 0 = .ok (.iload_n 1, 1) := by decide +kernel
theorem dX10_seed_1 : decode cX10_seed 1 = .ok (.ifCond .ge 5, 3) := by decide +kernel
theorem dX10_seed_4 : decode cX10_seed 4 = .ok (.iconst (-1), 1) := by decide +kernel
theorem dX10_seed_5 : decode cX10_seed 5 = .ok (.ireturn, 1) := by decide +kernel
theorem dX10_seed_6 : decode cX10_seed 6 = .ok (.aload_n 0, 1) := by decide +kernel
theorem dX10_seed_7 : decode cX10_seed 7 = .ok (.getfield 479, 3) := by decide +kernel
theorem dX10_seed_10 : decode cX10_seed 10 = .ok (.istore_n 2, 1) := by decide +kernel
theorem dX10_seed_11 : decode cX10_seed 11 = .ok (.aload_n 0, 1) := by decide +kernel
theorem dX10_seed_12 : decode cX10_seed 12 = .ok (.iload_n 1, 1) := by decide +kernel
theorem dX10_seed_13 : decode cX10_seed 13 = .ok (.putfield 479, 3) := by decide +kernel
theorem dX10_seed_16 : decode cX10_seed 16 = .ok (.iload_n 2, 1) := by decide +kernel
theorem dX10_seed_17 : decode cX10_seed 17 = .ok (.ireturn, 1) := by decide +kernel
theorem dX10_draw_0 : decode cX10_draw 0 = .ok (.aload_n 0, 1) := by decide +kernel
theorem dX10_draw_1 : decode cX10_draw 1 = .ok (.aload_n 0, 1) := by decide +kernel
theorem dX10_draw_2 : decode cX10_draw 2 = .ok (.getfield 482, 3) := by decide +kernel
theorem dX10_draw_5 : decode cX10_draw 5 = .ok (.ldc2_w 486, 3) := by decide +kernel
theorem dX10_draw_8 : decode cX10_draw 8 = .ok (.lmul, 1) := by decide +kernel
theorem dX10_draw_9 : decode cX10_draw 9 = .ok (.ldc2_w 488, 3) := by decide +kernel
theorem dX10_draw_12 : decode cX10_draw 12 = .ok (.ladd, 1) := by decide +kernel
theorem dX10_draw_13 : decode cX10_draw 13 = .ok (.ldc2_w 490, 3) := by decide +kernel
theorem dX10_draw_16 : decode cX10_draw 16 = .ok (.lrem, 1) := by decide +kernel
theorem dX10_draw_17 : decode cX10_draw 17 = .ok (.putfield 482, 3) := by decide +kernel
theorem dX10_draw_20 : decode cX10_draw 20 = .ok (.aload_n 0, 1) := by decide +kernel
theorem dX10_draw_21 : decode cX10_draw 21 = .ok (.getfield 482, 3) := by decide +kernel
theorem dX10_draw_24 : decode cX10_draw 24 = .ok (.ldc2_w 492, 3) := by decide +kernel
theorem dX10_draw_27 : decode cX10_draw 27 = .ok (.ldiv, 1) := by decide +kernel
theorem dX10_draw_28 : decode cX10_draw 28 = .ok (.iload_n 1, 1) := by decide +kernel
theorem dX10_draw_29 : decode cX10_draw 29 = .ok (.i2l, 1) := by decide +kernel
theorem dX10_draw_30 : decode cX10_draw 30 = .ok (.lrem, 1) := by decide +kernel
theorem dX10_draw_31 : decode cX10_draw 31 = .ok (.l2i, 1) := by decide +kernel
theorem dX10_draw_32 : decode cX10_draw 32 = .ok (.ireturn, 1) := by decide +kernel
theorem dX10_crowdsOn_0 : decode cX10_crowdsOn 0 = .ok (.aload_n 0, 1) := by decide +kernel
theorem dX10_crowdsOn_1 : decode cX10_crowdsOn 1 = .ok (.getfield 39, 3) := by decide +kernel
theorem dX10_crowdsOn_4 : decode cX10_crowdsOn 4 = .ok (.sipush 1090, 3) := by decide +kernel
theorem dX10_crowdsOn_7 : decode cX10_crowdsOn 7 = .ok (.iload_n 1, 1) := by decide +kernel
theorem dX10_crowdsOn_8 : decode cX10_crowdsOn 8 = .ok (.iadd, 1) := by decide +kernel
theorem dX10_crowdsOn_9 : decode cX10_crowdsOn 9 = .ok (.iaload, 1) := by decide +kernel
theorem dX10_crowdsOn_10 : decode cX10_crowdsOn 10 = .ok (.bipush 99, 2) := by decide +kernel
theorem dX10_crowdsOn_12 : decode cX10_crowdsOn 12 = .ok (.if_icmp .ge 17, 3) := by decide +kernel
theorem dX10_crowdsOn_15 : decode cX10_crowdsOn 15 = .ok (.aload_n 0, 1) := by decide +kernel
theorem dX10_crowdsOn_16 : decode cX10_crowdsOn 16 = .ok (.getfield 39, 3) := by decide +kernel
theorem dX10_crowdsOn_19 : decode cX10_crowdsOn 19 = .ok (.sipush 1090, 3) := by decide +kernel
theorem dX10_crowdsOn_22 : decode cX10_crowdsOn 22 = .ok (.iload_n 1, 1) := by decide +kernel
theorem dX10_crowdsOn_23 : decode cX10_crowdsOn 23 = .ok (.iadd, 1) := by decide +kernel
theorem dX10_crowdsOn_24 : decode cX10_crowdsOn 24 = .ok (.dup2, 1) := by decide +kernel
theorem dX10_crowdsOn_25 : decode cX10_crowdsOn 25 = .ok (.iaload, 1) := by decide +kernel
theorem dX10_crowdsOn_26 : decode cX10_crowdsOn 26 = .ok (.iconst 1, 1) := by decide +kernel
theorem dX10_crowdsOn_27 : decode cX10_crowdsOn 27 = .ok (.iadd, 1) := by decide +kernel
theorem dX10_crowdsOn_28 : decode cX10_crowdsOn 28 = .ok (.iastore, 1) := by decide +kernel
theorem dX10_crowdsOn_29 : decode cX10_crowdsOn 29 = .ok (.return_, 1) := by decide +kernel
theorem dX10_crowded_0 : decode cX10_crowded 0 = .ok (.aload_n 0, 1) := by decide +kernel
theorem dX10_crowded_1 : decode cX10_crowded 1 = .ok (.invokevirtual 354, 3) := by decide +kernel
theorem dX10_crowded_4 : decode cX10_crowded 4 = .ok (.ifCond .eq 50, 3) := by decide +kernel
theorem dX10_crowded_7 : decode cX10_crowded 7 = .ok (.iload_n 1, 1) := by decide +kernel
theorem dX10_crowded_8 : decode cX10_crowded 8 = .ok (.i2l, 1) := by decide +kernel
theorem dX10_crowded_9 : decode cX10_crowded 9 = .ok (.lconst 1, 1) := by decide +kernel
theorem dX10_crowded_10 : decode cX10_crowded 10 = .ok (.ldc2_w 494, 3) := by decide +kernel
theorem dX10_crowded_13 : decode cX10_crowded 13 = .ok (.invokestatic 121, 3) := by decide +kernel
theorem dX10_crowded_16 : decode cX10_crowded 16 = .ok (.ifCond .eq 38, 3) := by decide +kernel
theorem dX10_crowded_19 : decode cX10_crowded 19 = .ok (.iload_n 2, 1) := by decide +kernel
theorem dX10_crowded_20 : decode cX10_crowded 20 = .ok (.i2l, 1) := by decide +kernel
theorem dX10_crowded_21 : decode cX10_crowded 21 = .ok (.lconst 1, 1) := by decide +kernel
theorem dX10_crowded_22 : decode cX10_crowded 22 = .ok (.ldc2_w 374, 3) := by decide +kernel
theorem dX10_crowded_25 : decode cX10_crowded 25 = .ok (.invokestatic 121, 3) := by decide +kernel
theorem dX10_crowded_28 : decode cX10_crowded 28 = .ok (.ifCond .eq 26, 3) := by decide +kernel
theorem dX10_crowded_31 : decode cX10_crowded 31 = .ok (.iload_n 3, 1) := by decide +kernel
theorem dX10_crowded_32 : decode cX10_crowded 32 = .ok (.i2l, 1) := by decide +kernel
theorem dX10_crowded_33 : decode cX10_crowded 33 = .ok (.lconst 0, 1) := by decide +kernel
theorem dX10_crowded_34 : decode cX10_crowded 34 = .ok (.ldc2_w 443, 3) := by decide +kernel
theorem dX10_crowded_37 : decode cX10_crowded 37 = .ok (.invokestatic 121, 3) := by decide +kernel
theorem dX10_crowded_40 : decode cX10_crowded 40 = .ok (.ifCond .eq 14, 3) := by decide +kernel
theorem dX10_crowded_43 : decode cX10_crowded 43 = .ok (.iload 4, 2) := by decide +kernel
theorem dX10_crowded_45 : decode cX10_crowded 45 = .ok (.i2l, 1) := by decide +kernel
theorem dX10_crowded_46 : decode cX10_crowded 46 = .ok (.lconst 0, 1) := by decide +kernel
theorem dX10_crowded_47 : decode cX10_crowded 47 = .ok (.lconst 1, 1) := by decide +kernel
theorem dX10_crowded_48 : decode cX10_crowded 48 = .ok (.invokestatic 121, 3) := by decide +kernel
theorem dX10_crowded_51 : decode cX10_crowded 51 = .ok (.ifCond .ne 5, 3) := by decide +kernel
theorem dX10_crowded_54 : decode cX10_crowded 54 = .ok (.iconst (-1), 1) := by decide +kernel
theorem dX10_crowded_55 : decode cX10_crowded 55 = .ok (.ireturn, 1) := by decide +kernel
theorem dX10_crowded_56 : decode cX10_crowded 56 = .ok (.aload_n 0, 1) := by decide +kernel
theorem dX10_crowded_57 : decode cX10_crowded 57 = .ok (.aload_n 0, 1) := by decide +kernel
theorem dX10_crowded_58 : decode cX10_crowded 58 = .ok (.getfield 479, 3) := by decide +kernel
theorem dX10_crowded_61 : decode cX10_crowded 61 = .ok (.i2l, 1) := by decide +kernel
theorem dX10_crowded_62 : decode cX10_crowded 62 = .ok (.putfield 482, 3) := by decide +kernel
theorem dX10_crowded_65 : decode cX10_crowded 65 = .ok (.iconst 0, 1) := by decide +kernel
theorem dX10_crowded_66 : decode cX10_crowded 66 = .ok (.istore 5, 2) := by decide +kernel
theorem dX10_crowded_68 : decode cX10_crowded 68 = .ok (.iconst 0, 1) := by decide +kernel
theorem dX10_crowded_69 : decode cX10_crowded 69 = .ok (.istore 6, 2) := by decide +kernel
theorem dX10_crowded_71 : decode cX10_crowded 71 = .ok (.aload_n 0, 1) := by decide +kernel
theorem dX10_crowded_72 : decode cX10_crowded 72 = .ok (.invokevirtual 437, 3) := by decide +kernel
theorem dX10_crowded_75 : decode cX10_crowded 75 = .ok (.iconst 0, 1) := by decide +kernel
theorem dX10_crowded_76 : decode cX10_crowded 76 = .ok (.istore 7, 2) := by decide +kernel
theorem dX10_crowded_78 : decode cX10_crowded 78 = .ok (.iload 7, 2) := by decide +kernel
theorem dX10_crowded_80 : decode cX10_crowded 80 = .ok (.iload_n 1, 1) := by decide +kernel
theorem dX10_crowded_81 : decode cX10_crowded 81 = .ok (.if_icmp .ge 85, 3) := by decide +kernel
theorem dX10_crowded_84 : decode cX10_crowded 84 = .ok (.iconst 0, 1) := by decide +kernel
theorem dX10_crowded_85 : decode cX10_crowded 85 = .ok (.istore 8, 2) := by decide +kernel
theorem dX10_crowded_87 : decode cX10_crowded 87 = .ok (.iload 8, 2) := by decide +kernel
theorem dX10_crowded_89 : decode cX10_crowded 89 = .ok (.iload_n 2, 1) := by decide +kernel
theorem dX10_crowded_90 : decode cX10_crowded 90 = .ok (.if_icmp .ge 47, 3) := by decide +kernel
theorem dX10_crowded_93 : decode cX10_crowded 93 = .ok (.aload_n 0, 1) := by decide +kernel
theorem dX10_crowded_94 : decode cX10_crowded 94 = .ok (.bipush 100, 2) := by decide +kernel
theorem dX10_crowded_96 : decode cX10_crowded 96 = .ok (.invokevirtual 496, 3) := by decide +kernel
theorem dX10_crowded_99 : decode cX10_crowded 99 = .ok (.iload_n 3, 1) := by decide +kernel
theorem dX10_crowded_100 : decode cX10_crowded 100 = .ok (.if_icmp .ge 26, 3) := by decide +kernel
theorem dX10_crowded_103 : decode cX10_crowded 103 = .ok (.aload_n 0, 1) := by decide +kernel
theorem dX10_crowded_104 : decode cX10_crowded 104 = .ok (.getfield 39, 3) := by decide +kernel
theorem dX10_crowded_107 : decode cX10_crowded 107 = .ok (.iconst 2, 1) := by decide +kernel
theorem dX10_crowded_108 : decode cX10_crowded 108 = .ok (.iaload, 1) := by decide +kernel
theorem dX10_crowded_109 : decode cX10_crowded 109 = .ok (.ifCond .le 17, 3) := by decide +kernel
theorem dX10_crowded_112 : decode cX10_crowded 112 = .ok (.aload_n 0, 1) := by decide +kernel
theorem dX10_crowded_113 : decode cX10_crowded 113 = .ok (.aload_n 0, 1) := by decide +kernel
theorem dX10_crowded_114 : decode cX10_crowded 114 = .ok (.aload_n 0, 1) := by decide +kernel
theorem dX10_crowded_115 : decode cX10_crowded 115 = .ok (.getfield 39, 3) := by decide +kernel
theorem dX10_crowded_118 : decode cX10_crowded 118 = .ok (.iconst 2, 1) := by decide +kernel
theorem dX10_crowded_119 : decode cX10_crowded 119 = .ok (.iaload, 1) := by decide +kernel
theorem dX10_crowded_120 : decode cX10_crowded 120 = .ok (.invokevirtual 496, 3) := by decide +kernel
theorem dX10_crowded_123 : decode cX10_crowded 123 = .ok (.invokevirtual 499, 3) := by decide +kernel
theorem dX10_crowded_126 : decode cX10_crowded 126 = .ok (.aload_n 0, 1) := by decide +kernel
theorem dX10_crowded_127 : decode cX10_crowded 127 = .ok (.invokevirtual 351, 3) := by decide +kernel
theorem dX10_crowded_130 : decode cX10_crowded 130 = .ok (.pop, 1) := by decide +kernel
theorem dX10_crowded_131 : decode cX10_crowded 131 = .ok (.iinc 8 1, 3) := by decide +kernel
theorem dX10_crowded_134 : decode cX10_crowded 134 = .ok (.goto (-47), 3) := by decide +kernel
theorem dX10_crowded_137 : decode cX10_crowded 137 = .ok (.iload 5, 2) := by decide +kernel
theorem dX10_crowded_139 : decode cX10_crowded 139 = .ok (.aload_n 0, 1) := by decide +kernel
theorem dX10_crowded_140 : decode cX10_crowded 140 = .ok (.iconst 1, 1) := by decide +kernel
theorem dX10_crowded_141 : decode cX10_crowded 141 = .ok (.invokevirtual 332, 3) := by decide +kernel
theorem dX10_crowded_144 : decode cX10_crowded 144 = .ok (.iadd, 1) := by decide +kernel
theorem dX10_crowded_145 : decode cX10_crowded 145 = .ok (.istore 5, 2) := by decide +kernel
theorem dX10_crowded_147 : decode cX10_crowded 147 = .ok (.iload 6, 2) := by decide +kernel
theorem dX10_crowded_149 : decode cX10_crowded 149 = .ok (.aload_n 0, 1) := by decide +kernel
theorem dX10_crowded_150 : decode cX10_crowded 150 = .ok (.invokevirtual 329, 3) := by decide +kernel
theorem dX10_crowded_153 : decode cX10_crowded 153 = .ok (.iadd, 1) := by decide +kernel
theorem dX10_crowded_154 : decode cX10_crowded 154 = .ok (.istore 6, 2) := by decide +kernel
theorem dX10_crowded_156 : decode cX10_crowded 156 = .ok (.aload_n 0, 1) := by decide +kernel
theorem dX10_crowded_157 : decode cX10_crowded 157 = .ok (.invokevirtual 440, 3) := by decide +kernel
theorem dX10_crowded_160 : decode cX10_crowded 160 = .ok (.iinc 7 1, 3) := by decide +kernel
theorem dX10_crowded_163 : decode cX10_crowded 163 = .ok (.goto (-85), 3) := by decide +kernel
theorem dX10_crowded_166 : decode cX10_crowded 166 = .ok (.iload 4, 2) := by decide +kernel
theorem dX10_crowded_168 : decode cX10_crowded 168 = .ok (.ifCond .ne 8, 3) := by decide +kernel
theorem dX10_crowded_171 : decode cX10_crowded 171 = .ok (.iload 5, 2) := by decide +kernel
theorem dX10_crowded_173 : decode cX10_crowded 173 = .ok (.goto 5, 3) := by decide +kernel
theorem dX10_crowded_176 : decode cX10_crowded 176 = .ok (.iload 6, 2) := by decide +kernel
theorem dX10_crowded_178 : decode cX10_crowded 178 = .ok (.ireturn, 1) := by decide +kernel
theorem dX10_servers_0 : decode cX10_servers 0 = .ok (.iconst 0, 1) := by decide +kernel
theorem dX10_servers_1 : decode cX10_servers 1 = .ok (.istore_n 1, 1) := by decide +kernel
theorem dX10_servers_2 : decode cX10_servers 2 = .ok (.iconst 0, 1) := by decide +kernel
theorem dX10_servers_3 : decode cX10_servers 3 = .ok (.istore_n 2, 1) := by decide +kernel
theorem dX10_servers_4 : decode cX10_servers 4 = .ok (.iload_n 2, 1) := by decide +kernel
theorem dX10_servers_5 : decode cX10_servers 5 = .ok (.aload_n 0, 1) := by decide +kernel
theorem dX10_servers_6 : decode cX10_servers 6 = .ok (.getfield 39, 3) := by decide +kernel
theorem dX10_servers_9 : decode cX10_servers 9 = .ok (.iconst 2, 1) := by decide +kernel
theorem dX10_servers_10 : decode cX10_servers 10 = .ok (.iaload, 1) := by decide +kernel
theorem dX10_servers_11 : decode cX10_servers 11 = .ok (.if_icmp .ge 27, 3) := by decide +kernel
theorem dX10_servers_14 : decode cX10_servers 14 = .ok (.iload_n 1, 1) := by decide +kernel
theorem dX10_servers_15 : decode cX10_servers 15 = .ok (.aload_n 0, 1) := by decide +kernel
theorem dX10_servers_16 : decode cX10_servers 16 = .ok (.iload_n 2, 1) := by decide +kernel
theorem dX10_servers_17 : decode cX10_servers 17 = .ok (.invokevirtual 339, 3) := by decide +kernel
theorem dX10_servers_20 : decode cX10_servers 20 = .ok (.ifCond .eq 9, 3) := by decide +kernel
theorem dX10_servers_23 : decode cX10_servers 23 = .ok (.iconst 1, 1) := by decide +kernel
theorem dX10_servers_24 : decode cX10_servers 24 = .ok (.iload_n 2, 1) := by decide +kernel
theorem dX10_servers_25 : decode cX10_servers 25 = .ok (.ishl, 1) := by decide +kernel
theorem dX10_servers_26 : decode cX10_servers 26 = .ok (.goto 4, 3) := by decide +kernel
theorem dX10_servers_29 : decode cX10_servers 29 = .ok (.iconst 0, 1) := by decide +kernel
theorem dX10_servers_30 : decode cX10_servers 30 = .ok (.ior, 1) := by decide +kernel
theorem dX10_servers_31 : decode cX10_servers 31 = .ok (.istore_n 1, 1) := by decide +kernel
theorem dX10_servers_32 : decode cX10_servers 32 = .ok (.iinc 2 1, 3) := by decide +kernel
theorem dX10_servers_35 : decode cX10_servers 35 = .ok (.goto (-31), 3) := by decide +kernel
theorem dX10_servers_38 : decode cX10_servers 38 = .ok (.iload_n 1, 1) := by decide +kernel
theorem dX10_servers_39 : decode cX10_servers 39 = .ok (.ireturn, 1) := by decide +kernel
theorem dX10_count_0 : decode cX10_count 0 = .ok (.iload_n 1, 1) := by decide +kernel
theorem dX10_count_1 : decode cX10_count 1 = .ok (.tableswitch 141 0 13 #[71, 71, 80, 85, 90, 99, 99, 99, 107, 112, 117, 126, 131, 136], 71) := by decide +kernel
theorem dX10_count_72 : decode cX10_count 72 = .ok (.aload_n 0, 1) := by decide +kernel
theorem dX10_count_73 : decode cX10_count 73 = .ok (.getfield 39, 3) := by decide +kernel
theorem dX10_count_76 : decode cX10_count 76 = .ok (.iload_n 1, 1) := by decide +kernel
theorem dX10_count_77 : decode cX10_count 77 = .ok (.iconst 1, 1) := by decide +kernel
theorem dX10_count_78 : decode cX10_count 78 = .ok (.iadd, 1) := by decide +kernel
theorem dX10_count_79 : decode cX10_count 79 = .ok (.iaload, 1) := by decide +kernel
theorem dX10_count_80 : decode cX10_count 80 = .ok (.ireturn, 1) := by decide +kernel
theorem dX10_count_81 : decode cX10_count 81 = .ok (.aload_n 0, 1) := by decide +kernel
theorem dX10_count_82 : decode cX10_count 82 = .ok (.getfield 257, 3) := by decide +kernel
theorem dX10_count_85 : decode cX10_count 85 = .ok (.ireturn, 1) := by decide +kernel
theorem dX10_count_86 : decode cX10_count 86 = .ok (.aload_n 0, 1) := by decide +kernel
theorem dX10_count_87 : decode cX10_count 87 = .ok (.getfield 42, 3) := by decide +kernel
theorem dX10_count_90 : decode cX10_count 90 = .ok (.ireturn, 1) := by decide +kernel
theorem dX10_count_91 : decode cX10_count 91 = .ok (.aload_n 0, 1) := by decide +kernel
theorem dX10_count_92 : decode cX10_count 92 = .ok (.getfield 39, 3) := by decide +kernel
theorem dX10_count_95 : decode cX10_count 95 = .ok (.sipush 128, 3) := by decide +kernel
theorem dX10_count_98 : decode cX10_count 98 = .ok (.iaload, 1) := by decide +kernel
theorem dX10_count_99 : decode cX10_count 99 = .ok (.ireturn, 1) := by decide +kernel
theorem dX10_count_100 : decode cX10_count 100 = .ok (.aload_n 0, 1) := by decide +kernel
theorem dX10_count_101 : decode cX10_count 101 = .ok (.iload_n 1, 1) := by decide +kernel
theorem dX10_count_102 : decode cX10_count 102 = .ok (.iconst 5, 1) := by decide +kernel
theorem dX10_count_103 : decode cX10_count 103 = .ok (.isub, 1) := by decide +kernel
theorem dX10_count_104 : decode cX10_count 104 = .ok (.invokevirtual 332, 3) := by decide +kernel
theorem dX10_count_107 : decode cX10_count 107 = .ok (.ireturn, 1) := by decide +kernel
theorem dX10_count_108 : decode cX10_count 108 = .ok (.aload_n 0, 1) := by decide +kernel
theorem dX10_count_109 : decode cX10_count 109 = .ok (.invokevirtual 329, 3) := by decide +kernel
theorem dX10_count_112 : decode cX10_count 112 = .ok (.ireturn, 1) := by decide +kernel
theorem dX10_count_113 : decode cX10_count 113 = .ok (.aload_n 0, 1) := by decide +kernel
theorem dX10_count_114 : decode cX10_count 114 = .ok (.invokevirtual 502, 3) := by decide +kernel
theorem dX10_count_117 : decode cX10_count 117 = .ok (.ireturn, 1) := by decide +kernel
theorem dX10_count_118 : decode cX10_count 118 = .ok (.aload_n 0, 1) := by decide +kernel
theorem dX10_count_119 : decode cX10_count 119 = .ok (.getfield 39, 3) := by decide +kernel
theorem dX10_count_122 : decode cX10_count 122 = .ok (.sipush 1170, 3) := by decide +kernel
theorem dX10_count_125 : decode cX10_count 125 = .ok (.iaload, 1) := by decide +kernel
theorem dX10_count_126 : decode cX10_count 126 = .ok (.ireturn, 1) := by decide +kernel
theorem dX10_count_127 : decode cX10_count 127 = .ok (.aload_n 0, 1) := by decide +kernel
theorem dX10_count_128 : decode cX10_count 128 = .ok (.getfield 266, 3) := by decide +kernel
theorem dX10_count_131 : decode cX10_count 131 = .ok (.ireturn, 1) := by decide +kernel
theorem dX10_count_132 : decode cX10_count 132 = .ok (.aload_n 0, 1) := by decide +kernel
theorem dX10_count_133 : decode cX10_count 133 = .ok (.getfield 479, 3) := by decide +kernel
theorem dX10_count_136 : decode cX10_count 136 = .ok (.ireturn, 1) := by decide +kernel
theorem dX10_count_137 : decode cX10_count 137 = .ok (.aload_n 0, 1) := by decide +kernel
theorem dX10_count_138 : decode cX10_count 138 = .ok (.getfield 83, 3) := by decide +kernel
theorem dX10_count_141 : decode cX10_count 141 = .ok (.ireturn, 1) := by decide +kernel
theorem dX10_count_142 : decode cX10_count 142 = .ok (.iconst (-1), 1) := by decide +kernel
theorem dX10_count_143 : decode cX10_count 143 = .ok (.ireturn, 1) := by decide +kernel
theorem dX10_image_0 : decode cX10_image 0 = .ok (.iload_n 1, 1) := by decide +kernel
theorem dX10_image_1 : decode cX10_image 1 = .ok (.i2l, 1) := by decide +kernel
theorem dX10_image_2 : decode cX10_image 2 = .ok (.lconst 0, 1) := by decide +kernel
theorem dX10_image_3 : decode cX10_image 3 = .ok (.ldc2_w 445, 3) := by decide +kernel
theorem dX10_image_6 : decode cX10_image 6 = .ok (.invokestatic 121, 3) := by decide +kernel
theorem dX10_image_9 : decode cX10_image 9 = .ok (.ifCond .ne 5, 3) := by decide +kernel
theorem dX10_image_12 : decode cX10_image 12 = .ok (.iconst (-1), 1) := by decide +kernel
theorem dX10_image_13 : decode cX10_image 13 = .ok (.ireturn, 1) := by decide +kernel
theorem dX10_image_14 : decode cX10_image 14 = .ok (.aload_n 0, 1) := by decide +kernel
theorem dX10_image_15 : decode cX10_image 15 = .ok (.getfield 80, 3) := by decide +kernel
theorem dX10_image_18 : decode cX10_image 18 = .ok (.iload_n 1, 1) := by decide +kernel
theorem dX10_image_19 : decode cX10_image 19 = .ok (.iconst 1, 1) := by decide +kernel
theorem dX10_image_20 : decode cX10_image 20 = .ok (.bastore, 1) := by decide +kernel
theorem dX10_image_21 : decode cX10_image 21 = .ok (.aload_n 0, 1) := by decide +kernel
theorem dX10_image_22 : decode cX10_image 22 = .ok (.getfield 74, 3) := by decide +kernel
theorem dX10_image_25 : decode cX10_image 25 = .ok (.iload_n 1, 1) := by decide +kernel
theorem dX10_image_26 : decode cX10_image 26 = .ok (.aload_n 0, 1) := by decide +kernel
theorem dX10_image_27 : decode cX10_image 27 = .ok (.getfield 42, 3) := by decide +kernel
theorem dX10_image_30 : decode cX10_image 30 = .ok (.iastore, 1) := by decide +kernel
theorem dX10_image_31 : decode cX10_image 31 = .ok (.aload_n 0, 1) := by decide +kernel
theorem dX10_image_32 : decode cX10_image 32 = .ok (.getfield 77, 3) := by decide +kernel
theorem dX10_image_35 : decode cX10_image 35 = .ok (.iload_n 1, 1) := by decide +kernel
theorem dX10_image_36 : decode cX10_image 36 = .ok (.aload_n 0, 1) := by decide +kernel
theorem dX10_image_37 : decode cX10_image 37 = .ok (.getfield 479, 3) := by decide +kernel
theorem dX10_image_40 : decode cX10_image 40 = .ok (.iastore, 1) := by decide +kernel
theorem dX10_image_41 : decode cX10_image 41 = .ok (.iconst 0, 1) := by decide +kernel
theorem dX10_image_42 : decode cX10_image 42 = .ok (.istore_n 2, 1) := by decide +kernel
theorem dX10_image_43 : decode cX10_image 43 = .ok (.iload_n 2, 1) := by decide +kernel
theorem dX10_image_44 : decode cX10_image 44 = .ok (.sipush 1171, 3) := by decide +kernel
theorem dX10_image_47 : decode cX10_image 47 = .ok (.if_icmp .ge 27, 3) := by decide +kernel
theorem dX10_image_50 : decode cX10_image 50 = .ok (.aload_n 0, 1) := by decide +kernel
theorem dX10_image_51 : decode cX10_image 51 = .ok (.getfield 71, 3) := by decide +kernel
theorem dX10_image_54 : decode cX10_image 54 = .ok (.sipush 1171, 3) := by decide +kernel
theorem dX10_image_57 : decode cX10_image 57 = .ok (.iload_n 1, 1) := by decide +kernel
theorem dX10_image_58 : decode cX10_image 58 = .ok (.imul, 1) := by decide +kernel
theorem dX10_image_59 : decode cX10_image 59 = .ok (.iload_n 2, 1) := by decide +kernel
theorem dX10_image_60 : decode cX10_image 60 = .ok (.iadd, 1) := by decide +kernel
theorem dX10_image_61 : decode cX10_image 61 = .ok (.aload_n 0, 1) := by decide +kernel
theorem dX10_image_62 : decode cX10_image 62 = .ok (.getfield 39, 3) := by decide +kernel
theorem dX10_image_65 : decode cX10_image 65 = .ok (.iload_n 2, 1) := by decide +kernel
theorem dX10_image_66 : decode cX10_image 66 = .ok (.iaload, 1) := by decide +kernel
theorem dX10_image_67 : decode cX10_image 67 = .ok (.iastore, 1) := by decide +kernel
theorem dX10_image_68 : decode cX10_image 68 = .ok (.iinc 2 1, 3) := by decide +kernel
theorem dX10_image_71 : decode cX10_image 71 = .ok (.goto (-28), 3) := by decide +kernel
theorem dX10_image_74 : decode cX10_image 74 = .ok (.aload_n 0, 1) := by decide +kernel
theorem dX10_image_75 : decode cX10_image 75 = .ok (.getfield 39, 3) := by decide +kernel
theorem dX10_image_78 : decode cX10_image 78 = .ok (.sipush 128, 3) := by decide +kernel
theorem dX10_image_81 : decode cX10_image 81 = .ok (.iaload, 1) := by decide +kernel
theorem dX10_image_82 : decode cX10_image 82 = .ok (.ireturn, 1) := by decide +kernel
theorem dX10_back_0 : decode cX10_back 0 = .ok (.iload_n 1, 1) := by decide +kernel
theorem dX10_back_1 : decode cX10_back 1 = .ok (.i2l, 1) := by decide +kernel
theorem dX10_back_2 : decode cX10_back 2 = .ok (.lconst 0, 1) := by decide +kernel
theorem dX10_back_3 : decode cX10_back 3 = .ok (.ldc2_w 445, 3) := by decide +kernel
theorem dX10_back_6 : decode cX10_back 6 = .ok (.invokestatic 121, 3) := by decide +kernel
theorem dX10_back_9 : decode cX10_back 9 = .ok (.ifCond .eq 12, 3) := by decide +kernel
theorem dX10_back_12 : decode cX10_back 12 = .ok (.aload_n 0, 1) := by decide +kernel
theorem dX10_back_13 : decode cX10_back 13 = .ok (.getfield 80, 3) := by decide +kernel
theorem dX10_back_16 : decode cX10_back 16 = .ok (.iload_n 1, 1) := by decide +kernel
theorem dX10_back_17 : decode cX10_back 17 = .ok (.baload, 1) := by decide +kernel
theorem dX10_back_18 : decode cX10_back 18 = .ok (.ifCond .ne 5, 3) := by decide +kernel
theorem dX10_back_21 : decode cX10_back 21 = .ok (.iconst (-1), 1) := by decide +kernel
theorem dX10_back_22 : decode cX10_back 22 = .ok (.ireturn, 1) := by decide +kernel
theorem dX10_back_23 : decode cX10_back 23 = .ok (.aload_n 0, 1) := by decide +kernel
theorem dX10_back_24 : decode cX10_back 24 = .ok (.aload_n 0, 1) := by decide +kernel
theorem dX10_back_25 : decode cX10_back 25 = .ok (.getfield 74, 3) := by decide +kernel
theorem dX10_back_28 : decode cX10_back 28 = .ok (.iload_n 1, 1) := by decide +kernel
theorem dX10_back_29 : decode cX10_back 29 = .ok (.iaload, 1) := by decide +kernel
theorem dX10_back_30 : decode cX10_back 30 = .ok (.putfield 42, 3) := by decide +kernel
theorem dX10_back_33 : decode cX10_back 33 = .ok (.aload_n 0, 1) := by decide +kernel
theorem dX10_back_34 : decode cX10_back 34 = .ok (.aload_n 0, 1) := by decide +kernel
theorem dX10_back_35 : decode cX10_back 35 = .ok (.getfield 77, 3) := by decide +kernel
theorem dX10_back_38 : decode cX10_back 38 = .ok (.iload_n 1, 1) := by decide +kernel
theorem dX10_back_39 : decode cX10_back 39 = .ok (.iaload, 1) := by decide +kernel
theorem dX10_back_40 : decode cX10_back 40 = .ok (.putfield 479, 3) := by decide +kernel
theorem dX10_back_43 : decode cX10_back 43 = .ok (.aload_n 0, 1) := by decide +kernel
theorem dX10_back_44 : decode cX10_back 44 = .ok (.iconst 0, 1) := by decide +kernel
theorem dX10_back_45 : decode cX10_back 45 = .ok (.putfield 266, 3) := by decide +kernel
theorem dX10_back_48 : decode cX10_back 48 = .ok (.iconst 0, 1) := by decide +kernel
theorem dX10_back_49 : decode cX10_back 49 = .ok (.istore_n 2, 1) := by decide +kernel
theorem dX10_back_50 : decode cX10_back 50 = .ok (.iload_n 2, 1) := by decide +kernel
theorem dX10_back_51 : decode cX10_back 51 = .ok (.sipush 1171, 3) := by decide +kernel
theorem dX10_back_54 : decode cX10_back 54 = .ok (.if_icmp .ge 27, 3) := by decide +kernel
theorem dX10_back_57 : decode cX10_back 57 = .ok (.aload_n 0, 1) := by decide +kernel
theorem dX10_back_58 : decode cX10_back 58 = .ok (.getfield 39, 3) := by decide +kernel
theorem dX10_back_61 : decode cX10_back 61 = .ok (.iload_n 2, 1) := by decide +kernel
theorem dX10_back_62 : decode cX10_back 62 = .ok (.aload_n 0, 1) := by decide +kernel
theorem dX10_back_63 : decode cX10_back 63 = .ok (.getfield 71, 3) := by decide +kernel
theorem dX10_back_66 : decode cX10_back 66 = .ok (.sipush 1171, 3) := by decide +kernel
theorem dX10_back_69 : decode cX10_back 69 = .ok (.iload_n 1, 1) := by decide +kernel
theorem dX10_back_70 : decode cX10_back 70 = .ok (.imul, 1) := by decide +kernel
theorem dX10_back_71 : decode cX10_back 71 = .ok (.iload_n 2, 1) := by decide +kernel
theorem dX10_back_72 : decode cX10_back 72 = .ok (.iadd, 1) := by decide +kernel
theorem dX10_back_73 : decode cX10_back 73 = .ok (.iaload, 1) := by decide +kernel
theorem dX10_back_74 : decode cX10_back 74 = .ok (.iastore, 1) := by decide +kernel
theorem dX10_back_75 : decode cX10_back 75 = .ok (.iinc 2 1, 3) := by decide +kernel
theorem dX10_back_78 : decode cX10_back 78 = .ok (.goto (-28), 3) := by decide +kernel
theorem dX10_back_81 : decode cX10_back 81 = .ok (.aload_n 0, 1) := by decide +kernel
theorem dX10_back_82 : decode cX10_back 82 = .ok (.getfield 39, 3) := by decide +kernel
theorem dX10_back_85 : decode cX10_back 85 = .ok (.sipush 128, 3) := by decide +kernel
theorem dX10_back_88 : decode cX10_back 88 = .ok (.iaload, 1) := by decide +kernel
theorem dX10_back_89 : decode cX10_back 89 = .ok (.ireturn, 1) := by decide +kernel
theorem dJ6_numberOfLeadingZeros_0f7a4_0 : decode cJ6_numberOfLeadingZeros_0f7a4 0 = .ok (.iload_n 0, 1) := by decide +kernel
theorem dJ6_numberOfLeadingZeros_0f7a4_1 : decode cJ6_numberOfLeadingZeros_0f7a4 1 = .ok (.ifCond .gt 14, 3) := by decide +kernel
theorem dJ6_numberOfLeadingZeros_0f7a4_4 : decode cJ6_numberOfLeadingZeros_0f7a4 4 = .ok (.iload_n 0, 1) := by decide +kernel
theorem dJ6_numberOfLeadingZeros_0f7a4_5 : decode cJ6_numberOfLeadingZeros_0f7a4 5 = .ok (.ifCond .ne 8, 3) := by decide +kernel
theorem dJ6_numberOfLeadingZeros_0f7a4_8 : decode cJ6_numberOfLeadingZeros_0f7a4 8 = .ok (.bipush 32, 2) := by decide +kernel
theorem dJ6_numberOfLeadingZeros_0f7a4_10 : decode cJ6_numberOfLeadingZeros_0f7a4 10 = .ok (.goto 4, 3) := by decide +kernel
theorem dJ6_numberOfLeadingZeros_0f7a4_13 : decode cJ6_numberOfLeadingZeros_0f7a4 13 = .ok (.iconst 0, 1) := by decide +kernel
theorem dJ6_numberOfLeadingZeros_0f7a4_14 : decode cJ6_numberOfLeadingZeros_0f7a4 14 = .ok (.ireturn, 1) := by decide +kernel
theorem dJ6_numberOfLeadingZeros_0f7a4_15 : decode cJ6_numberOfLeadingZeros_0f7a4 15 = .ok (.bipush 31, 2) := by decide +kernel
