theorem dX10_paper_26 : decode cX10_paper 26 = .ok (.aload_n 0, 1) := by decide +kernel
theorem dX10_paper_27 : decode cX10_paper 27 = .ok (.getfield 39, 3) := by decide +kernel
theorem dX10_paper_30 : decode cX10_paper 30 = .ok (.sipush 130, 3) := by decide +kernel
theorem dX10_paper_33 : decode cX10_paper 33 = .ok (.iload_n 1, 1) := by decide +kernel
theorem dX10_paper_34 : decode cX10_paper 34 = .ok (.iadd, 1) := by decide +kernel
theorem dX10_paper_35 : decode cX10_paper 35 = .ok (.iaload, 1) := by decide +kernel
theorem dX10_paper_36 : decode cX10_paper 36 = .ok (.goto 26, 3) := by decide +kernel
theorem dX10_paper_39 : decode cX10_paper 39 = .ok (.iload_n 2, 1) := by decide +kernel
theorem dX10_paper_40 : decode cX10_paper 40 = .ok (.iconst 1, 1) := by decide +kernel
theorem dX10_paper_41 : decode cX10_paper 41 = .ok (.if_icmp .ne 16, 3) := by decide +kernel
theorem dX10_paper_44 : decode cX10_paper 44 = .ok (.aload_n 0, 1) := by decide +kernel
theorem dX10_paper_45 : decode cX10_paper 45 = .ok (.getfield 39, 3) := by decide +kernel
theorem dX10_paper_48 : decode cX10_paper 48 = .ok (.sipush 190, 3) := by decide +kernel
theorem dX10_paper_51 : decode cX10_paper 51 = .ok (.iload_n 1, 1) := by decide +kernel
theorem dX10_paper_52 : decode cX10_paper 52 = .ok (.iadd, 1) := by decide +kernel
theorem dX10_paper_53 : decode cX10_paper 53 = .ok (.iaload, 1) := by decide +kernel
theorem dX10_paper_54 : decode cX10_paper 54 = .ok (.goto 8, 3) := by decide +kernel
theorem dX10_paper_57 : decode cX10_paper 57 = .ok (.aload_n 0, 1) := by decide +kernel
theorem dX10_paper_58 : decode cX10_paper 58 = .ok (.iload_n 1, 1) := by decide +kernel
theorem dX10_paper_59 : decode cX10_paper 59 = .ok (.invokevirtual 294, 3) := by decide +kernel
theorem dX10_paper_62 : decode cX10_paper 62 = .ok (.ireturn, 1) := by decide +kernel
theorem dX10_row_0 : decode cX10_row 0 = .ok (.aload_n 0, 1) := by decide +kernel
theorem dX10_row_1 : decode cX10_row 1 = .ok (.iload_n 1, 1) := by decide +kernel
theorem dX10_row_2 : decode cX10_row 2 = .ok (.invokevirtual 307, 3) := by decide +kernel
theorem dX10_row_5 : decode cX10_row 5 = .ok (.ifCond .eq 25, 3) := by decide +kernel
theorem dX10_row_8 : decode cX10_row 8 = .ok (.iload_n 2, 1) := by decide +kernel
theorem dX10_row_9 : decode cX10_row 9 = .ok (.i2l, 1) := by decide +kernel
theorem dX10_row_10 : decode cX10_row 10 = .ok (.lconst 1, 1) := by decide +kernel
theorem dX10_row_11 : decode cX10_row 11 = .ok (.ldc2_w 313, 3) := by decide +kernel
theorem dX10_row_14 : decode cX10_row 14 = .ok (.invokestatic 121, 3) := by decide +kernel
theorem dX10_row_17 : decode cX10_row 17 = .ok (.ifCond .eq 13, 3) := by decide +kernel
theorem dX10_row_20 : decode cX10_row 20 = .ok (.aload_n 0, 1) := by decide +kernel
theorem dX10_row_21 : decode cX10_row 21 = .ok (.iload_n 1, 1) := by decide +kernel
theorem dX10_row_22 : decode cX10_row 22 = .ok (.iload_n 2, 1) := by decide +kernel
theorem dX10_row_23 : decode cX10_row 23 = .ok (.iload_n 3, 1) := by decide +kernel
theorem dX10_row_24 : decode cX10_row 24 = .ok (.invokevirtual 315, 3) := by decide +kernel
theorem dX10_row_27 : decode cX10_row 27 = .ok (.goto 4, 3) := by decide +kernel
theorem dX10_row_30 : decode cX10_row 30 = .ok (.iconst (-1), 1) := by decide +kernel
theorem dX10_row_31 : decode cX10_row 31 = .ok (.ireturn, 1) := by decide +kernel
theorem dX10_runs_0 : decode cX10_runs 0 = .ok (.aload_n 0, 1) := by decide +kernel
theorem dX10_runs_1 : decode cX10_runs 1 = .ok (.iload_n 1, 1) := by decide +kernel
theorem dX10_runs_2 : decode cX10_runs 2 = .ok (.invokevirtual 307, 3) := by decide +kernel
theorem dX10_runs_5 : decode cX10_runs 5 = .ok (.ifCond .eq 8, 3) := by decide +kernel
theorem dX10_runs_8 : decode cX10_runs 8 = .ok (.iload_n 2, 1) := by decide +kernel
theorem dX10_runs_9 : decode cX10_runs 9 = .ok (.iconst (-1), 1) := by decide +kernel
theorem dX10_runs_10 : decode cX10_runs 10 = .ok (.if_icmp .ge 6, 3) := by decide +kernel
theorem dX10_runs_13 : decode cX10_runs 13 = .ok (.bipush (-2), 2) := by decide +kernel
theorem dX10_runs_15 : decode cX10_runs 15 = .ok (.ireturn, 1) := by decide +kernel
theorem dX10_runs_16 : decode cX10_runs 16 = .ok (.iload_n 2, 1) := by decide +kernel
theorem dX10_runs_17 : decode cX10_runs 17 = .ok (.iconst (-1), 1) := by decide +kernel
theorem dX10_runs_18 : decode cX10_runs 18 = .ok (.if_icmp .ne 9, 3) := by decide +kernel
theorem dX10_runs_21 : decode cX10_runs 21 = .ok (.aload_n 0, 1) := by decide +kernel
theorem dX10_runs_22 : decode cX10_runs 22 = .ok (.iload_n 1, 1) := by decide +kernel
theorem dX10_runs_23 : decode cX10_runs 23 = .ok (.invokevirtual 319, 3) := by decide +kernel
theorem dX10_runs_26 : decode cX10_runs 26 = .ok (.ireturn, 1) := by decide +kernel
theorem dX10_runs_27 : decode cX10_runs 27 = .ok (.iload_n 3, 1) := by decide +kernel
theorem dX10_runs_28 : decode cX10_runs 28 = .ok (.i2l, 1) := by decide +kernel
theorem dX10_runs_29 : decode cX10_runs 29 = .ok (.lconst 0, 1) := by decide +kernel
theorem dX10_runs_30 : decode cX10_runs 30 = .ok (.lconst 1, 1) := by decide +kernel
theorem dX10_runs_31 : decode cX10_runs 31 = .ok (.invokestatic 121, 3) := by decide +kernel
theorem dX10_runs_34 : decode cX10_runs 34 = .ok (.ifCond .ne 6, 3) := by decide +kernel
theorem dX10_runs_37 : decode cX10_runs 37 = .ok (.bipush (-2), 2) := by decide +kernel
theorem dX10_runs_39 : decode cX10_runs 39 = .ok (.ireturn, 1) := by decide +kernel
theorem dX10_runs_40 : decode cX10_runs 40 = .ok (.iconst (-1), 1) := by decide +kernel
theorem dX10_runs_41 : decode cX10_runs 41 = .ok (.istore 4, 2) := by decide +kernel
theorem dX10_runs_43 : decode cX10_runs 43 = .ok (.iconst 0, 1) := by decide +kernel
theorem dX10_runs_44 : decode cX10_runs 44 = .ok (.istore 5, 2) := by decide +kernel
theorem dX10_runs_46 : decode cX10_runs 46 = .ok (.iload 5, 2) := by decide +kernel
theorem dX10_runs_48 : decode cX10_runs 48 = .ok (.aload_n 0, 1) := by decide +kernel
theorem dX10_runs_49 : decode cX10_runs 49 = .ok (.getfield 39, 3) := by decide +kernel
theorem dX10_runs_52 : decode cX10_runs 52 = .ok (.iconst 1, 1) := by decide +kernel
theorem dX10_runs_53 : decode cX10_runs 53 = .ok (.iaload, 1) := by decide +kernel
theorem dX10_runs_54 : decode cX10_runs 54 = .ok (.if_icmp .ge 84, 3) := by decide +kernel
theorem dX10_runs_57 : decode cX10_runs 57 = .ok (.iload 4, 2) := by decide +kernel
theorem dX10_runs_59 : decode cX10_runs 59 = .ok (.aload_n 0, 1) := by decide +kernel
theorem dX10_runs_60 : decode cX10_runs 60 = .ok (.iload 5, 2) := by decide +kernel
theorem dX10_runs_62 : decode cX10_runs 62 = .ok (.iload_n 1, 1) := by decide +kernel
theorem dX10_runs_63 : decode cX10_runs 63 = .ok (.invokevirtual 297, 3) := by decide +kernel
theorem dX10_runs_66 : decode cX10_runs 66 = .ok (.ifCond .eq 7, 3) := by decide +kernel
theorem dX10_runs_69 : decode cX10_runs 69 = .ok (.iconst 1, 1) := by decide +kernel
theorem dX10_runs_70 : decode cX10_runs 70 = .ok (.goto 4, 3) := by decide +kernel
theorem dX10_runs_73 : decode cX10_runs 73 = .ok (.iconst 0, 1) := by decide +kernel
theorem dX10_runs_74 : decode cX10_runs 74 = .ok (.iadd, 1) := by decide +kernel
theorem dX10_runs_75 : decode cX10_runs 75 = .ok (.istore 4, 2) := by decide +kernel
theorem dX10_runs_77 : decode cX10_runs 77 = .ok (.iload 4, 2) := by decide +kernel
theorem dX10_runs_79 : decode cX10_runs 79 = .ok (.iload_n 2, 1) := by decide +kernel
theorem dX10_runs_80 : decode cX10_runs 80 = .ok (.if_icmp .lt 52, 3) := by decide +kernel
theorem dX10_runs_83 : decode cX10_runs 83 = .ok (.aload_n 0, 1) := by decide +kernel
theorem dX10_runs_84 : decode cX10_runs 84 = .ok (.iload 5, 2) := by decide +kernel
theorem dX10_runs_86 : decode cX10_runs 86 = .ok (.iload_n 1, 1) := by decide +kernel
theorem dX10_runs_87 : decode cX10_runs 87 = .ok (.iconst 0, 1) := by decide +kernel
theorem dX10_runs_88 : decode cX10_runs 88 = .ok (.invokevirtual 287, 3) := by decide +kernel
theorem dX10_runs_91 : decode cX10_runs 91 = .ok (.ifCond .ne 6, 3) := by decide +kernel
theorem dX10_runs_94 : decode cX10_runs 94 = .ok (.goto 38, 3) := by decide +kernel
theorem dX10_runs_97 : decode cX10_runs 97 = .ok (.iload 5, 2) := by decide +kernel
theorem dX10_runs_99 : decode cX10_runs 99 = .ok (.istore 6, 2) := by decide +kernel
theorem dX10_runs_101 : decode cX10_runs 101 = .ok (.aload_n 0, 1) := by decide +kernel
theorem dX10_runs_102 : decode cX10_runs 102 = .ok (.iload 6, 2) := by decide +kernel
theorem dX10_runs_104 : decode cX10_runs 104 = .ok (.iconst 1, 1) := by decide +kernel
theorem dX10_runs_105 : decode cX10_runs 105 = .ok (.iadd, 1) := by decide +kernel
theorem dX10_runs_106 : decode cX10_runs 106 = .ok (.iload_n 1, 1) := by decide +kernel
theorem dX10_runs_107 : decode cX10_runs 107 = .ok (.iconst 0, 1) := by decide +kernel
theorem dX10_runs_108 : decode cX10_runs 108 = .ok (.invokevirtual 287, 3) := by decide +kernel
theorem dX10_runs_111 : decode cX10_runs 111 = .ok (.ifCond .eq 9, 3) := by decide +kernel
theorem dX10_runs_114 : decode cX10_runs 114 = .ok (.iinc 6 1, 3) := by decide +kernel
theorem dX10_runs_117 : decode cX10_runs 117 = .ok (.goto (-16), 3) := by decide +kernel
theorem dX10_runs_120 : decode cX10_runs 120 = .ok (.iload_n 3, 1) := by decide +kernel
theorem dX10_runs_121 : decode cX10_runs 121 = .ok (.ifCond .ne 8, 3) := by decide +kernel
theorem dX10_runs_124 : decode cX10_runs 124 = .ok (.iload 5, 2) := by decide +kernel
theorem dX10_runs_126 : decode cX10_runs 126 = .ok (.goto 5, 3) := by decide +kernel
theorem dX10_runs_129 : decode cX10_runs 129 = .ok (.iload 6, 2) := by decide +kernel
theorem dX10_runs_131 : decode cX10_runs 131 = .ok (.ireturn, 1) := by decide +kernel
theorem dX10_runs_132 : decode cX10_runs 132 = .ok (.iinc 5 1, 3) := by decide +kernel
theorem dX10_runs_135 : decode cX10_runs 135 = .ok (.goto (-89), 3) := by decide +kernel
theorem dX10_runs_138 : decode cX10_runs 138 = .ok (.bipush (-2), 2) := by decide +kernel
theorem dX10_runs_140 : decode cX10_runs 140 = .ok (.ireturn, 1) := by decide +kernel
theorem dX10_moved_0 : decode cX10_moved 0 = .ok (.aload_n 0, 1) := by decide +kernel
theorem dX10_moved_1 : decode cX10_moved 1 = .ok (.iload_n 1, 1) := by decide +kernel
theorem dX10_moved_2 : decode cX10_moved 2 = .ok (.invokevirtual 307, 3) := by decide +kernel
theorem dX10_moved_5 : decode cX10_moved 5 = .ok (.ifCond .eq 33, 3) := by decide +kernel
theorem dX10_moved_8 : decode cX10_moved 8 = .ok (.aload_n 0, 1) := by decide +kernel
theorem dX10_moved_9 : decode cX10_moved 9 = .ok (.iload_n 2, 1) := by decide +kernel
theorem dX10_moved_10 : decode cX10_moved 10 = .ok (.invokevirtual 307, 3) := by decide +kernel
theorem dX10_moved_13 : decode cX10_moved 13 = .ok (.ifCond .eq 25, 3) := by decide +kernel
theorem dX10_moved_16 : decode cX10_moved 16 = .ok (.iload_n 1, 1) := by decide +kernel
theorem dX10_moved_17 : decode cX10_moved 17 = .ok (.iload_n 2, 1) := by decide +kernel
theorem dX10_moved_18 : decode cX10_moved 18 = .ok (.if_icmp .eq 20, 3) := by decide +kernel
theorem dX10_moved_21 : decode cX10_moved 21 = .ok (.aload_n 0, 1) := by decide +kernel
theorem dX10_moved_22 : decode cX10_moved 22 = .ok (.getfield 39, 3) := by decide +kernel
theorem dX10_moved_25 : decode cX10_moved 25 = .ok (.sipush 1115, 3) := by decide +kernel
theorem dX10_moved_28 : decode cX10_moved 28 = .ok (.iconst 5, 1) := by decide +kernel
theorem dX10_moved_29 : decode cX10_moved 29 = .ok (.iload_n 1, 1) := by decide +kernel
theorem dX10_moved_30 : decode cX10_moved 30 = .ok (.imul, 1) := by decide +kernel
theorem dX10_moved_31 : decode cX10_moved 31 = .ok (.iadd, 1) := by decide +kernel
theorem dX10_moved_32 : decode cX10_moved 32 = .ok (.iload_n 2, 1) := by decide +kernel
theorem dX10_moved_33 : decode cX10_moved 33 = .ok (.iadd, 1) := by decide +kernel
theorem dX10_moved_34 : decode cX10_moved 34 = .ok (.iaload, 1) := by decide +kernel
theorem dX10_moved_35 : decode cX10_moved 35 = .ok (.goto 4, 3) := by decide +kernel
theorem dX10_moved_38 : decode cX10_moved 38 = .ok (.iconst (-1), 1) := by decide +kernel
theorem dX10_moved_39 : decode cX10_moved 39 = .ok (.ireturn, 1) := by decide +kernel
theorem dX10_told_0 : decode cX10_told 0 = .ok (.aload_n 0, 1) := by decide +kernel
theorem dX10_told_1 : decode cX10_told 1 = .ok (.iload_n 1, 1) := by decide +kernel
theorem dX10_told_2 : decode cX10_told 2 = .ok (.invokevirtual 307, 3) := by decide +kernel
theorem dX10_told_5 : decode cX10_told 5 = .ok (.ifCond .eq 32, 3) := by decide +kernel
theorem dX10_told_8 : decode cX10_told 8 = .ok (.iload_n 2, 1) := by decide +kernel
theorem dX10_told_9 : decode cX10_told 9 = .ok (.i2l, 1) := by decide +kernel
theorem dX10_told_10 : decode cX10_told 10 = .ok (.lconst 0, 1) := by decide +kernel
theorem dX10_told_11 : decode cX10_told 11 = .ok (.ldc2_w 313, 3) := by decide +kernel
theorem dX10_told_14 : decode cX10_told 14 = .ok (.invokestatic 121, 3) := by decide +kernel
theorem dX10_told_17 : decode cX10_told 17 = .ok (.ifCond .eq 20, 3) := by decide +kernel
theorem dX10_told_20 : decode cX10_told 20 = .ok (.aload_n 0, 1) := by decide +kernel
theorem dX10_told_21 : decode cX10_told 21 = .ok (.getfield 39, 3) := by decide +kernel
theorem dX10_told_24 : decode cX10_told 24 = .ok (.sipush 1095, 3) := by decide +kernel
theorem dX10_told_27 : decode cX10_told 27 = .ok (.iconst 3, 1) := by decide +kernel
theorem dX10_told_28 : decode cX10_told 28 = .ok (.iload_n 1, 1) := by decide +kernel
theorem dX10_told_29 : decode cX10_told 29 = .ok (.imul, 1) := by decide +kernel
theorem dX10_told_30 : decode cX10_told 30 = .ok (.iadd, 1) := by decide +kernel
theorem dX10_told_31 : decode cX10_told 31 = .ok (.iload_n 2, 1) := by decide +kernel
theorem dX10_told_32 : decode cX10_told 32 = .ok (.iadd, 1) := by decide +kernel
theorem dX10_told_33 : decode cX10_told 33 = .ok (.iaload, 1) := by decide +kernel
theorem dX10_told_34 : decode cX10_told 34 = .ok (.goto 4, 3) := by decide +kernel
theorem dX10_told_37 : decode cX10_told 37 = .ok (.iconst (-1), 1) := by decide +kernel
theorem dX10_told_38 : decode cX10_told 38 = .ok (.ireturn, 1) := by decide +kernel
theorem dX10_canServe_0 : decode cX10_canServe 0 = .ok (.aload_n 0, 1) := by decide +kernel
theorem dX10_canServe_1 : decode cX10_canServe 1 = .ok (.getfield 39, 3) := by decide +kernel
theorem dX10_canServe_4 : decode cX10_canServe 4 = .ok (.sipush 1090, 3) := by decide +kernel
theorem dX10_canServe_7 : decode cX10_canServe 7 = .ok (.iload_n 1, 1) := by decide +kernel
theorem dX10_canServe_8 : decode cX10_canServe 8 = .ok (.iadd, 1) := by decide +kernel
theorem dX10_canServe_9 : decode cX10_canServe 9 = .ok (.iaload, 1) := by decide +kernel
theorem dX10_canServe_10 : decode cX10_canServe 10 = .ok (.ifCond .le 15, 3) := by decide +kernel
theorem dX10_canServe_13 : decode cX10_canServe 13 = .ok (.aload_n 0, 1) := by decide +kernel
theorem dX10_canServe_14 : decode cX10_canServe 14 = .ok (.iload_n 1, 1) := by decide +kernel
theorem dX10_canServe_15 : decode cX10_canServe 15 = .ok (.invokevirtual 322, 3) := by decide +kernel
theorem dX10_canServe_18 : decode cX10_canServe 18 = .ok (.ifCond .lt 7, 3) := by decide +kernel
theorem dX10_canServe_21 : decode cX10_canServe 21 = .ok (.iconst 1, 1) := by decide +kernel
theorem dX10_canServe_22 : decode cX10_canServe 22 = .ok (.goto 4, 3) := by decide +kernel
theorem dX10_canServe_25 : decode cX10_canServe 25 = .ok (.iconst 0, 1) := by decide +kernel
theorem dX10_canServe_26 : decode cX10_canServe 26 = .ok (.ireturn, 1) := by decide +kernel
theorem dX10_summedBy_0 : decode cX10_summedBy 0 = .ok (.iconst 0, 1) := by decide +kernel
theorem dX10_summedBy_1 : decode cX10_summedBy 1 = .ok (.istore_n 2, 1) := by decide +kernel
theorem dX10_summedBy_2 : decode cX10_summedBy 2 = .ok (.iload_n 2, 1) := by decide +kernel
theorem dX10_summedBy_3 : decode cX10_summedBy 3 = .ok (.aload_n 0, 1) := by decide +kernel
theorem dX10_summedBy_4 : decode cX10_summedBy 4 = .ok (.getfield 23, 3) := by decide +kernel
theorem dX10_summedBy_7 : decode cX10_summedBy 7 = .ok (.iload_n 1, 1) := by decide +kernel
theorem dX10_summedBy_8 : decode cX10_summedBy 8 = .ok (.iaload, 1) := by decide +kernel
theorem dX10_summedBy_9 : decode cX10_summedBy 9 = .ok (.if_icmp .ge 75, 3) := by decide +kernel
theorem dX10_summedBy_12 : decode cX10_summedBy 12 = .ok (.bipush 48, 2) := by decide +kernel
theorem dX10_summedBy_14 : decode cX10_summedBy 14 = .ok (.iload_n 1, 1) := by decide +kernel
theorem dX10_summedBy_15 : decode cX10_summedBy 15 = .ok (.imul, 1) := by decide +kernel
theorem dX10_summedBy_16 : decode cX10_summedBy 16 = .ok (.iconst 4, 1) := by decide +kernel
theorem dX10_summedBy_17 : decode cX10_summedBy 17 = .ok (.iload_n 2, 1) := by decide +kernel
theorem dX10_summedBy_18 : decode cX10_summedBy 18 = .ok (.imul, 1) := by decide +kernel
theorem dX10_summedBy_19 : decode cX10_summedBy 19 = .ok (.iadd, 1) := by decide +kernel
theorem dX10_summedBy_20 : decode cX10_summedBy 20 = .ok (.istore_n 3, 1) := by decide +kernel
theorem dX10_summedBy_21 : decode cX10_summedBy 21 = .ok (.aload_n 0, 1) := by decide +kernel
theorem dX10_summedBy_22 : decode cX10_summedBy 22 = .ok (.getfield 20, 3) := by decide +kernel
theorem dX10_summedBy_25 : decode cX10_summedBy 25 = .ok (.iload_n 3, 1) := by decide +kernel
theorem dX10_summedBy_26 : decode cX10_summedBy 26 = .ok (.iconst 2, 1) := by decide +kernel
theorem dX10_summedBy_27 : decode cX10_summedBy 27 = .ok (.iadd, 1) := by decide +kernel
theorem dX10_summedBy_28 : decode cX10_summedBy 28 = .ok (.iaload, 1) := by decide +kernel
theorem dX10_summedBy_29 : decode cX10_summedBy 29 = .ok (.ifCond .lt 29, 3) := by decide +kernel
theorem dX10_summedBy_32 : decode cX10_summedBy 32 = .ok (.aload_n 0, 1) := by decide +kernel
theorem dX10_summedBy_33 : decode cX10_summedBy 33 = .ok (.iload_n 1, 1) := by decide +kernel
theorem dX10_summedBy_34 : decode cX10_summedBy 34 = .ok (.aload_n 0, 1) := by decide +kernel
theorem dX10_summedBy_35 : decode cX10_summedBy 35 = .ok (.getfield 20, 3) := by decide +kernel
theorem dX10_summedBy_38 : decode cX10_summedBy 38 = .ok (.iload_n 3, 1) := by decide +kernel
theorem dX10_summedBy_39 : decode cX10_summedBy 39 = .ok (.iconst 2, 1) := by decide +kernel
theorem dX10_summedBy_40 : decode cX10_summedBy 40 = .ok (.iadd, 1) := by decide +kernel
theorem dX10_summedBy_41 : decode cX10_summedBy 41 = .ok (.iaload, 1) := by decide +kernel
theorem dX10_summedBy_42 : decode cX10_summedBy 42 = .ok (.aload_n 0, 1) := by decide +kernel
theorem dX10_summedBy_43 : decode cX10_summedBy 43 = .ok (.getfield 20, 3) := by decide +kernel
theorem dX10_summedBy_46 : decode cX10_summedBy 46 = .ok (.iload_n 3, 1) := by decide +kernel
theorem dX10_summedBy_47 : decode cX10_summedBy 47 = .ok (.iconst 3, 1) := by decide +kernel
theorem dX10_summedBy_48 : decode cX10_summedBy 48 = .ok (.iadd, 1) := by decide +kernel
theorem dX10_summedBy_49 : decode cX10_summedBy 49 = .ok (.iaload, 1) := by decide +kernel
theorem dX10_summedBy_50 : decode cX10_summedBy 50 = .ok (.invokevirtual 325, 3) := by decide +kernel
theorem dX10_summedBy_53 : decode cX10_summedBy 53 = .ok (.lconst 1, 1) := by decide +kernel
theorem dX10_summedBy_54 : decode cX10_summedBy 54 = .ok (.lcmp, 1) := by decide +kernel
theorem dX10_summedBy_55 : decode cX10_summedBy 55 = .ok (.ifCond .ne 23, 3) := by decide +kernel
theorem dX10_summedBy_58 : decode cX10_summedBy 58 = .ok (.aload_n 0, 1) := by decide +kernel
theorem dX10_summedBy_59 : decode cX10_summedBy 59 = .ok (.iload_n 1, 1) := by decide +kernel
theorem dX10_summedBy_60 : decode cX10_summedBy 60 = .ok (.aload_n 0, 1) := by decide +kernel
theorem dX10_summedBy_61 : decode cX10_summedBy 61 = .ok (.getfield 20, 3) := by decide +kernel
theorem dX10_summedBy_64 : decode cX10_summedBy 64 = .ok (.iload_n 3, 1) := by decide +kernel
theorem dX10_summedBy_65 : decode cX10_summedBy 65 = .ok (.iaload, 1) := by decide +kernel
theorem dX10_summedBy_66 : decode cX10_summedBy 66 = .ok (.aload_n 0, 1) := by decide +kernel
theorem dX10_summedBy_67 : decode cX10_summedBy 67 = .ok (.getfield 20, 3) := by decide +kernel
theorem dX10_summedBy_70 : decode cX10_summedBy 70 = .ok (.iload_n 3, 1) := by decide +kernel
theorem dX10_summedBy_71 : decode cX10_summedBy 71 = .ok (.iconst 1, 1) := by decide +kernel
theorem dX10_summedBy_72 : decode cX10_summedBy 72 = .ok (.iadd, 1) := by decide +kernel
theorem dX10_summedBy_73 : decode cX10_summedBy 73 = .ok (.iaload, 1) := by decide +kernel
theorem dX10_summedBy_74 : decode cX10_summedBy 74 = .ok (.invokevirtual 325, 3) := by decide +kernel
theorem dX10_summedBy_77 : decode cX10_summedBy 77 = .ok (.lreturn, 1) := by decide +kernel
theorem dX10_summedBy_78 : decode cX10_summedBy 78 = .ok (.iinc 2 1, 3) := by decide +kernel
theorem dX10_summedBy_81 : decode cX10_summedBy 81 = .ok (.goto (-79), 3) := by decide +kernel
theorem dX10_summedBy_84 : decode cX10_summedBy 84 = .ok (.lconst 0, 1) := by decide +kernel
theorem dX10_summedBy_85 : decode cX10_summedBy 85 = .ok (.lreturn, 1) := by decide +kernel
theorem dX10_sumOf_0 : decode cX10_sumOf 0 = .ok (.aload_n 0, 1) := by decide +kernel
theorem dX10_sumOf_1 : decode cX10_sumOf 1 = .ok (.getfield 36, 3) := by decide +kernel
theorem dX10_sumOf_4 : decode cX10_sumOf 4 = .ok (.iconst 0, 1) := by decide +kernel
theorem dX10_sumOf_5 : decode cX10_sumOf 5 = .ok (.iload_n 1, 1) := by decide +kernel
theorem dX10_sumOf_6 : decode cX10_sumOf 6 = .ok (.i2l, 1) := by decide +kernel
theorem dX10_sumOf_7 : decode cX10_sumOf 7 = .ok (.lastore, 1) := by decide +kernel
theorem dX10_sumOf_8 : decode cX10_sumOf 8 = .ok (.aload_n 0, 1) := by decide +kernel
theorem dX10_sumOf_9 : decode cX10_sumOf 9 = .ok (.getfield 36, 3) := by decide +kernel
theorem dX10_sumOf_12 : decode cX10_sumOf 12 = .ok (.iconst 1, 1) := by decide +kernel
theorem dX10_sumOf_13 : decode cX10_sumOf 13 = .ok (.aload_n 0, 1) := by decide +kernel
theorem dX10_sumOf_14 : decode cX10_sumOf 14 = .ok (.getfield 39, 3) := by decide +kernel
theorem dX10_sumOf_17 : decode cX10_sumOf 17 = .ok (.sipush 1090, 3) := by decide +kernel
theorem dX10_sumOf_20 : decode cX10_sumOf 20 = .ok (.iload_n 1, 1) := by decide +kernel
theorem dX10_sumOf_21 : decode cX10_sumOf 21 = .ok (.iadd, 1) := by decide +kernel
theorem dX10_sumOf_22 : decode cX10_sumOf 22 = .ok (.iaload, 1) := by decide +kernel
theorem dX10_sumOf_23 : decode cX10_sumOf 23 = .ok (.i2l, 1) := by decide +kernel
theorem dX10_sumOf_24 : decode cX10_sumOf 24 = .ok (.lastore, 1) := by decide +kernel
theorem dX10_sumOf_25 : decode cX10_sumOf 25 = .ok (.iconst 0, 1) := by decide +kernel
theorem dX10_sumOf_26 : decode cX10_sumOf 26 = .ok (.istore_n 2, 1) := by decide +kernel
theorem dX10_sumOf_27 : decode cX10_sumOf 27 = .ok (.iload_n 2, 1) := by decide +kernel
theorem dX10_sumOf_28 : decode cX10_sumOf 28 = .ok (.iconst 3, 1) := by decide +kernel
theorem dX10_sumOf_29 : decode cX10_sumOf 29 = .ok (.if_icmp .ge 24, 3) := by decide +kernel
theorem dX10_sumOf_32 : decode cX10_sumOf 32 = .ok (.aload_n 0, 1) := by decide +kernel
theorem dX10_sumOf_33 : decode cX10_sumOf 33 = .ok (.getfield 36, 3) := by decide +kernel
theorem dX10_sumOf_36 : decode cX10_sumOf 36 = .ok (.iconst 2, 1) := by decide +kernel
theorem dX10_sumOf_37 : decode cX10_sumOf 37 = .ok (.iload_n 2, 1) := by decide +kernel
theorem dX10_sumOf_38 : decode cX10_sumOf 38 = .ok (.iadd, 1) := by decide +kernel
theorem dX10_sumOf_39 : decode cX10_sumOf 39 = .ok (.aload_n 0, 1) := by decide +kernel
theorem dX10_sumOf_40 : decode cX10_sumOf 40 = .ok (.iload_n 1, 1) := by decide +kernel
theorem dX10_sumOf_41 : decode cX10_sumOf 41 = .ok (.iload_n 2, 1) := by decide +kernel
theorem dX10_sumOf_42 : decode cX10_sumOf 42 = .ok (.invokevirtual 290, 3) := by decide +kernel
theorem dX10_sumOf_45 : decode cX10_sumOf 45 = .ok (.i2l, 1) := by decide +kernel
theorem dX10_sumOf_46 : decode cX10_sumOf 46 = .ok (.lastore, 1) := by decide +kernel
theorem dX10_sumOf_47 : decode cX10_sumOf 47 = .ok (.iinc 2 1, 3) := by decide +kernel
theorem dX10_sumOf_50 : decode cX10_sumOf 50 = .ok (.goto (-23), 3) := by decide +kernel
theorem dX10_sumOf_53 : decode cX10_sumOf 53 = .ok (.aload_n 0, 1) := by decide +kernel
theorem dX10_sumOf_54 : decode cX10_sumOf 54 = .ok (.getfield 36, 3) := by decide +kernel
theorem dX10_sumOf_57 : decode cX10_sumOf 57 = .ok (.iconst 5, 1) := by decide +kernel
theorem dX10_sumOf_58 : decode cX10_sumOf 58 = .ok (.aload_n 0, 1) := by decide +kernel
theorem dX10_sumOf_59 : decode cX10_sumOf 59 = .ok (.iload_n 1, 1) := by decide +kernel
theorem dX10_sumOf_60 : decode cX10_sumOf 60 = .ok (.invokevirtual 322, 3) := by decide +kernel
theorem dX10_sumOf_63 : decode cX10_sumOf 63 = .ok (.i2l, 1) := by decide +kernel
theorem dX10_sumOf_64 : decode cX10_sumOf 64 = .ok (.lastore, 1) := by decide +kernel
theorem dX10_sumOf_65 : decode cX10_sumOf 65 = .ok (.aload_n 0, 1) := by decide +kernel
theorem dX10_sumOf_66 : decode cX10_sumOf 66 = .ok (.getfield 36, 3) := by decide +kernel
theorem dX10_sumOf_69 : decode cX10_sumOf 69 = .ok (.bipush 6, 2) := by decide +kernel
theorem dX10_sumOf_71 : decode cX10_sumOf 71 = .ok (.aload_n 0, 1) := by decide +kernel
theorem dX10_sumOf_72 : decode cX10_sumOf 72 = .ok (.iload_n 1, 1) := by decide +kernel
theorem dX10_sumOf_73 : decode cX10_sumOf 73 = .ok (.invokevirtual 319, 3) := by decide +kernel
theorem dX10_sumOf_76 : decode cX10_sumOf 76 = .ok (.i2l, 1) := by decide +kernel
theorem dX10_sumOf_77 : decode cX10_sumOf 77 = .ok (.lastore, 1) := by decide +kernel
theorem dX10_sumOf_78 : decode cX10_sumOf 78 = .ok (.aload_n 0, 1) := by decide +kernel
theorem dX10_sumOf_79 : decode cX10_sumOf 79 = .ok (.getfield 36, 3) := by decide +kernel
theorem dX10_sumOf_82 : decode cX10_sumOf 82 = .ok (.bipush 7, 2) := by decide +kernel
theorem dX10_sumOf_84 : decode cX10_sumOf 84 = .ok (.aload_n 0, 1) := by decide +kernel
theorem dX10_sumOf_85 : decode cX10_sumOf 85 = .ok (.invokevirtual 329, 3) := by decide +kernel
theorem dX10_sumOf_88 : decode cX10_sumOf 88 = .ok (.i2l, 1) := by decide +kernel
theorem dX10_sumOf_89 : decode cX10_sumOf 89 = .ok (.lastore, 1) := by decide +kernel
theorem dX10_sumOf_90 : decode cX10_sumOf 90 = .ok (.aload_n 0, 1) := by decide +kernel
theorem dX10_sumOf_91 : decode cX10_sumOf 91 = .ok (.getfield 36, 3) := by decide +kernel
theorem dX10_sumOf_94 : decode cX10_sumOf 94 = .ok (.bipush 8, 2) := by decide +kernel
theorem dX10_sumOf_96 : decode cX10_sumOf 96 = .ok (.aload_n 0, 1) := by decide +kernel
theorem dX10_sumOf_97 : decode cX10_sumOf 97 = .ok (.iconst 0, 1) := by decide +kernel
theorem dX10_sumOf_98 : decode cX10_sumOf 98 = .ok (.invokevirtual 332, 3) := by decide +kernel
theorem dX10_sumOf_101 : decode cX10_sumOf 101 = .ok (.i2l, 1) := by decide +kernel
theorem dX10_sumOf_102 : decode cX10_sumOf 102 = .ok (.lastore, 1) := by decide +kernel
theorem dX10_sumOf_103 : decode cX10_sumOf 103 = .ok (.aload_n 0, 1) := by decide +kernel
theorem dX10_sumOf_104 : decode cX10_sumOf 104 = .ok (.getfield 36, 3) := by decide +kernel
theorem dX10_sumOf_107 : decode cX10_sumOf 107 = .ok (.bipush 9, 2) := by decide +kernel
theorem dX10_sumOf_109 : decode cX10_sumOf 109 = .ok (.aload_n 0, 1) := by decide +kernel
theorem dX10_sumOf_110 : decode cX10_sumOf 110 = .ok (.getfield 39, 3) := by decide +kernel
theorem dX10_sumOf_113 : decode cX10_sumOf 113 = .ok (.sipush 128, 3) := by decide +kernel
theorem dX10_sumOf_116 : decode cX10_sumOf 116 = .ok (.iaload, 1) := by decide +kernel
theorem dX10_sumOf_117 : decode cX10_sumOf 117 = .ok (.i2l, 1) := by decide +kernel
theorem dX10_sumOf_118 : decode cX10_sumOf 118 = .ok (.lastore, 1) := by decide +kernel
theorem dX10_sumOf_119 : decode cX10_sumOf 119 = .ok (.aload_n 0, 1) := by decide +kernel
theorem dX10_sumOf_120 : decode cX10_sumOf 120 = .ok (.aload_n 0, 1) := by decide +kernel
theorem dX10_sumOf_121 : decode cX10_sumOf 121 = .ok (.getfield 42, 3) := by decide +kernel
theorem dX10_sumOf_124 : decode cX10_sumOf 124 = .ok (.invokevirtual 335, 3) := by decide +kernel
theorem dX10_sumOf_127 : decode cX10_sumOf 127 = .ok (.lreturn, 1) := by decide +kernel
theorem dX10_choice_0 : decode cX10_choice 0 = .ok (.iconst (-1), 1) := by decide +kernel
theorem dX10_choice_1 : decode cX10_choice 1 = .ok (.istore_n 1, 1) := by decide +kernel
theorem dX10_choice_2 : decode cX10_choice 2 = .ok (.lconst 0, 1) := by decide +kernel
theorem dX10_choice_3 : decode cX10_choice 3 = .ok (.lstore_n 2, 1) := by decide +kernel
theorem dX10_choice_4 : decode cX10_choice 4 = .ok (.iconst 0, 1) := by decide +kernel
theorem dX10_choice_5 : decode cX10_choice 5 = .ok (.istore 4, 2) := by decide +kernel
theorem dX10_choice_7 : decode cX10_choice 7 = .ok (.iload 4, 2) := by decide +kernel
theorem dX10_choice_9 : decode cX10_choice 9 = .ok (.aload_n 0, 1) := by decide +kernel
theorem dX10_choice_10 : decode cX10_choice 10 = .ok (.getfield 39, 3) := by decide +kernel
theorem dX10_choice_13 : decode cX10_choice 13 = .ok (.iconst 2, 1) := by decide +kernel
theorem dX10_choice_14 : decode cX10_choice 14 = .ok (.iaload, 1) := by decide +kernel
theorem dX10_choice_15 : decode cX10_choice 15 = .ok (.if_icmp .ge 56, 3) := by decide +kernel
theorem dX10_choice_18 : decode cX10_choice 18 = .ok (.aload_n 0, 1) := by decide +kernel
theorem dX10_choice_19 : decode cX10_choice 19 = .ok (.iload 4, 2) := by decide +kernel
theorem dX10_choice_21 : decode cX10_choice 21 = .ok (.invokevirtual 339, 3) := by decide +kernel
theorem dX10_choice_24 : decode cX10_choice 24 = .ok (.ifCond .ne 6, 3) := by decide +kernel
theorem dX10_choice_27 : decode cX10_choice 27 = .ok (.goto 38, 3) := by decide +kernel
theorem dX10_choice_30 : decode cX10_choice 30 = .ok (.aload_n 0, 1) := by decide +kernel
theorem dX10_choice_31 : decode cX10_choice 31 = .ok (.getfield 42, 3) := by decide +kernel
theorem dX10_choice_34 : decode cX10_choice 34 = .ok (.ifCond .ge 7, 3) := by decide +kernel
theorem dX10_choice_37 : decode cX10_choice 37 = .ok (.lconst 1, 1) := by decide +kernel
theorem dX10_choice_38 : decode cX10_choice 38 = .ok (.goto 9, 3) := by decide +kernel
theorem dX10_choice_41 : decode cX10_choice 41 = .ok (.aload_n 0, 1) := by decide +kernel
theorem dX10_choice_42 : decode cX10_choice 42 = .ok (.iload 4, 2) := by decide +kernel
theorem dX10_choice_44 : decode cX10_choice 44 = .ok (.invokevirtual 342, 3) := by decide +kernel
theorem dX10_choice_47 : decode cX10_choice 47 = .ok (.lstore 5, 2) := by decide +kernel
theorem dX10_choice_49 : decode cX10_choice 49 = .ok (.lload 5, 2) := by decide +kernel
theorem dX10_choice_51 : decode cX10_choice 51 = .ok (.lload_n 2, 1) := by decide +kernel
theorem dX10_choice_52 : decode cX10_choice 52 = .ok (.lcmp, 1) := by decide +kernel
theorem dX10_choice_53 : decode cX10_choice 53 = .ok (.ifCond .gt 6, 3) := by decide +kernel
theorem dX10_choice_56 : decode cX10_choice 56 = .ok (.goto 9, 3) := by decide +kernel
theorem dX10_choice_59 : decode cX10_choice 59 = .ok (.iload 4, 2) := by decide +kernel
theorem dX10_choice_61 : decode cX10_choice 61 = .ok (.istore_n 1, 1) := by decide +kernel
theorem dX10_choice_62 : decode cX10_choice 62 = .ok (.lload 5, 2) := by decide +kernel
theorem dX10_choice_64 : decode cX10_choice 64 = .ok (.lstore_n 2, 1) := by decide +kernel
theorem dX10_choice_65 : decode cX10_choice 65 = .ok (.iinc 4 1, 3) := by decide +kernel
theorem dX10_choice_68 : decode cX10_choice 68 = .ok (.goto (-61), 3) := by decide +kernel
theorem dX10_choice_71 : decode cX10_choice 71 = .ok (.iload_n 1, 1) := by decide +kernel
theorem dX10_choice_72 : decode cX10_choice 72 = .ok (.ireturn, 1) := by decide +kernel
theorem dX10_serves_0 : decode cX10_serves 0 = .ok (.aload_n 0, 1) := by decide +kernel
theorem dX10_serves_1 : decode cX10_serves 1 = .ok (.iload_n 1, 1) := by decide +kernel
theorem dX10_serves_2 : decode cX10_serves 2 = .ok (.invokevirtual 322, 3) := by decide +kernel
theorem dX10_serves_5 : decode cX10_serves 5 = .ok (.istore_n 2, 1) := by decide +kernel
theorem dX10_serves_6 : decode cX10_serves 6 = .ok (.iload_n 2, 1) := by decide +kernel
theorem dX10_serves_7 : decode cX10_serves 7 = .ok (.bipush 7, 2) := by decide +kernel
theorem dX10_serves_9 : decode cX10_serves 9 = .ok (.irem, 1) := by decide +kernel
theorem dX10_serves_10 : decode cX10_serves 10 = .ok (.iconst 3, 1) := by decide +kernel
theorem dX10_serves_11 : decode cX10_serves 11 = .ok (.if_icmp .ne 16, 3) := by decide +kernel
theorem dX10_serves_14 : decode cX10_serves 14 = .ok (.aload_n 0, 1) := by decide +kernel
theorem dX10_serves_15 : decode cX10_serves 15 = .ok (.iload_n 2, 1) := by decide +kernel
theorem dX10_serves_16 : decode cX10_serves 16 = .ok (.iload_n 1, 1) := by decide +kernel
theorem dX10_serves_17 : decode cX10_serves 17 = .ok (.iconst 2, 1) := by decide +kernel
theorem dX10_serves_18 : decode cX10_serves 18 = .ok (.invokevirtual 300, 3) := by decide +kernel
theorem dX10_serves_21 : decode cX10_serves 21 = .ok (.aload_n 0, 1) := by decide +kernel
theorem dX10_serves_22 : decode cX10_serves 22 = .ok (.iload_n 1, 1) := by decide +kernel
theorem dX10_serves_23 : decode cX10_serves 23 = .ok (.invokevirtual 322, 3) := by decide +kernel
theorem dX10_serves_26 : decode cX10_serves 26 = .ok (.istore_n 2, 1) := by decide +kernel
theorem dX10_serves_27 : decode cX10_serves 27 = .ok (.iload_n 2, 1) := by decide +kernel
theorem dX10_serves_28 : decode cX10_serves 28 = .ok (.ifCond .ge 4, 3) := by decide +kernel
theorem dX10_serves_31 : decode cX10_serves 31 = .ok (.return_, 1) := by decide +kernel
theorem dX10_serves_32 : decode cX10_serves 32 = .ok (.aload_n 0, 1) := by decide +kernel
theorem dX10_serves_33 : decode cX10_serves 33 = .ok (.iload_n 2, 1) := by decide +kernel
theorem dX10_serves_34 : decode cX10_serves 34 = .ok (.iload_n 1, 1) := by decide +kernel
theorem dX10_serves_35 : decode cX10_serves 35 = .ok (.iconst 1, 1) := by decide +kernel
theorem dX10_serves_36 : decode cX10_serves 36 = .ok (.invokevirtual 300, 3) := by decide +kernel
theorem dX10_serves_39 : decode cX10_serves 39 = .ok (.aload_n 0, 1) := by decide +kernel
theorem dX10_serves_40 : decode cX10_serves 40 = .ok (.getfield 39, 3) := by decide +kernel
theorem dX10_serves_43 : decode cX10_serves 43 = .ok (.sipush 1090, 3) := by decide +kernel
theorem dX10_serves_46 : decode cX10_serves 46 = .ok (.iload_n 1, 1) := by decide +kernel
theorem dX10_serves_47 : decode cX10_serves 47 = .ok (.iadd, 1) := by decide +kernel
theorem dX10_serves_48 : decode cX10_serves 48 = .ok (.dup2, 1) := by decide +kernel
theorem dX10_serves_49 : decode cX10_serves 49 = .ok (.iaload, 1) := by decide +kernel
theorem dX10_serves_50 : decode cX10_serves 50 = .ok (.iconst 1, 1) := by decide +kernel
theorem dX10_serves_51 : decode cX10_serves 51 = .ok (.isub, 1) := by decide +kernel
theorem dX10_serves_52 : decode cX10_serves 52 = .ok (.iastore, 1) := by decide +kernel
theorem dX10_serves_53 : decode cX10_serves 53 = .ok (.return_, 1) := by decide +kernel
theorem dX10_passes_0 : decode cX10_passes 0 = .ok (.aload_n 0, 1) := by decide +kernel
theorem dX10_passes_1 : decode cX10_passes 1 = .ok (.invokevirtual 345, 3) := by decide +kernel
theorem dX10_passes_4 : decode cX10_passes 4 = .ok (.istore_n 1, 1) := by decide +kernel
theorem dX10_passes_5 : decode cX10_passes 5 = .ok (.iload_n 1, 1) := by decide +kernel
theorem dX10_passes_6 : decode cX10_passes 6 = .ok (.ifCond .lt 8, 3) := by decide +kernel
theorem dX10_passes_9 : decode cX10_passes 9 = .ok (.aload_n 0, 1) := by decide +kernel
theorem dX10_passes_10 : decode cX10_passes 10 = .ok (.iload_n 1, 1) := by decide +kernel
theorem dX10_passes_11 : decode cX10_passes 11 = .ok (.invokevirtual 348, 3) := by decide +kernel
theorem dX10_passes_14 : decode cX10_passes 14 = .ok (.aload_n 0, 1) := by decide +kernel
theorem dX10_passes_15 : decode cX10_passes 15 = .ok (.getfield 39, 3) := by decide +kernel
theorem dX10_passes_18 : decode cX10_passes 18 = .ok (.sipush 128, 3) := by decide +kernel
theorem dX10_passes_21 : decode cX10_passes 21 = .ok (.dup2, 1) := by decide +kernel
theorem dX10_passes_22 : decode cX10_passes 22 = .ok (.iaload, 1) := by decide +kernel
theorem dX10_passes_23 : decode cX10_passes 23 = .ok (.iconst 1, 1) := by decide +kernel
theorem dX10_passes_24 : decode cX10_passes 24 = .ok (.iadd, 1) := by decide +kernel
theorem dX10_passes_25 : decode cX10_passes 25 = .ok (.iastore, 1) := by decide +kernel
theorem dX10_passes_26 : decode cX10_passes 26 = .ok (.iload_n 1, 1) := by decide +kernel
theorem dX10_passes_27 : decode cX10_passes 27 = .ok (.ireturn, 1) := by decide +kernel
theorem dX10_passesAll_0 : decode cX10_passesAll 0 = .ok (.iconst 0, 1) := by decide +kernel
theorem dX10_passesAll_1 : decode cX10_passesAll 1 = .ok (.istore_n 2, 1) := by decide +kernel
theorem dX10_passesAll_2 : decode cX10_passesAll 2 = .ok (.iload_n 2, 1) := by decide +kernel
theorem dX10_passesAll_3 : decode cX10_passesAll 3 = .ok (.iload_n 1, 1) := by decide +kernel
theorem dX10_passesAll_4 : decode cX10_passesAll 4 = .ok (.if_icmp .ge 14, 3) := by decide +kernel
theorem dX10_passesAll_7 : decode cX10_passesAll 7 = .ok (.aload_n 0, 1) := by decide +kernel
theorem dX10_passesAll_8 : decode cX10_passesAll 8 = .ok (.invokevirtual 351, 3) := by decide +kernel
theorem dX10_passesAll_11 : decode cX10_passesAll 11 = .ok (.pop, 1) := by decide +kernel
theorem dX10_passesAll_12 : decode cX10_passesAll 12 = .ok (.iinc 2 1, 3) := by decide +kernel
theorem dX10_passesAll_15 : decode cX10_passesAll 15 = .ok (.goto (-13), 3) := by decide +kernel
theorem dX10_passesAll_18 : decode cX10_passesAll 18 = .ok (.return_, 1) := by decide +kernel
theorem dX10_keepsAct_0 : decode cX10_keepsAct 0 = .ok (.aload_n 0, 1) := by decide +kernel
theorem dX10_keepsAct_1 : decode cX10_keepsAct 1 = .ok (.getfield 266, 3) := by decide +kernel
theorem dX10_keepsAct_4 : decode cX10_keepsAct 4 = .ok (.bipush 20, 2) := by decide +kernel
theorem dX10_keepsAct_6 : decode cX10_keepsAct 6 = .ok (.if_icmp .ne 46, 3) := by decide +kernel
theorem dX10_keepsAct_9 : decode cX10_keepsAct 9 = .ok (.sipush 1012, 3) := by decide +kernel
theorem dX10_keepsAct_12 : decode cX10_keepsAct 12 = .ok (.istore_n 1, 1) := by decide +kernel
theorem dX10_keepsAct_13 : decode cX10_keepsAct 13 = .ok (.iload_n 1, 1) := by decide +kernel
theorem dX10_keepsAct_14 : decode cX10_keepsAct 14 = .ok (.sipush 20240, 3) := by decide +kernel
theorem dX10_keepsAct_17 : decode cX10_keepsAct 17 = .ok (.if_icmp .ge 25, 3) := by decide +kernel
theorem dX10_keepsAct_20 : decode cX10_keepsAct 20 = .ok (.aload_n 0, 1) := by decide +kernel
theorem dX10_keepsAct_21 : decode cX10_keepsAct 21 = .ok (.getfield 46, 3) := by decide +kernel
theorem dX10_keepsAct_24 : decode cX10_keepsAct 24 = .ok (.iload_n 1, 1) := by decide +kernel
theorem dX10_keepsAct_25 : decode cX10_keepsAct 25 = .ok (.sipush 1012, 3) := by decide +kernel
theorem dX10_keepsAct_28 : decode cX10_keepsAct 28 = .ok (.isub, 1) := by decide +kernel
theorem dX10_keepsAct_29 : decode cX10_keepsAct 29 = .ok (.aload_n 0, 1) := by decide +kernel
theorem dX10_keepsAct_30 : decode cX10_keepsAct 30 = .ok (.getfield 46, 3) := by decide +kernel
theorem dX10_keepsAct_33 : decode cX10_keepsAct 33 = .ok (.iload_n 1, 1) := by decide +kernel
theorem dX10_keepsAct_34 : decode cX10_keepsAct 34 = .ok (.iaload, 1) := by decide +kernel
theorem dX10_keepsAct_35 : decode cX10_keepsAct 35 = .ok (.iastore, 1) := by decide +kernel
theorem dX10_keepsAct_36 : decode cX10_keepsAct 36 = .ok (.iinc 1 1, 3) := by decide +kernel
theorem dX10_keepsAct_39 : decode cX10_keepsAct 39 = .ok (.goto (-26), 3) := by decide +kernel
theorem dX10_keepsAct_42 : decode cX10_keepsAct 42 = .ok (.aload_n 0, 1) := by decide +kernel
theorem dX10_keepsAct_43 : decode cX10_keepsAct 43 = .ok (.dup, 1) := by decide +kernel
theorem dX10_keepsAct_44 : decode cX10_keepsAct 44 = .ok (.getfield 266, 3) := by decide +kernel
theorem dX10_keepsAct_47 : decode cX10_keepsAct 47 = .ok (.iconst 1, 1) := by decide +kernel
theorem dX10_keepsAct_48 : decode cX10_keepsAct 48 = .ok (.isub, 1) := by decide +kernel
theorem dX10_keepsAct_49 : decode cX10_keepsAct 49 = .ok (.putfield 266, 3) := by decide +kernel
theorem dX10_keepsAct_52 : decode cX10_keepsAct 52 = .ok (.iconst 0, 1) := by decide +kernel
theorem dX10_keepsAct_53 : decode cX10_keepsAct 53 = .ok (.istore_n 1, 1) := by decide +kernel
theorem dX10_keepsAct_54 : decode cX10_keepsAct 54 = .ok (.iload_n 1, 1) := by decide +kernel
theorem dX10_keepsAct_55 : decode cX10_keepsAct 55 = .ok (.sipush 1012, 3) := by decide +kernel
theorem dX10_keepsAct_58 : decode cX10_keepsAct 58 = .ok (.if_icmp .ge 34, 3) := by decide +kernel
theorem dX10_keepsAct_61 : decode cX10_keepsAct 61 = .ok (.aload_n 0, 1) := by decide +kernel
theorem dX10_keepsAct_62 : decode cX10_keepsAct 62 = .ok (.getfield 46, 3) := by decide +kernel
theorem dX10_keepsAct_65 : decode cX10_keepsAct 65 = .ok (.sipush 1012, 3) := by decide +kernel
theorem dX10_keepsAct_68 : decode cX10_keepsAct 68 = .ok (.aload_n 0, 1) := by decide +kernel
theorem dX10_keepsAct_69 : decode cX10_keepsAct 69 = .ok (.getfield 266, 3) := by decide +kernel
theorem dX10_keepsAct_72 : decode cX10_keepsAct 72 = .ok (.imul, 1) := by decide +kernel
theorem dX10_keepsAct_73 : decode cX10_keepsAct 73 = .ok (.iload_n 1, 1) := by decide +kernel
theorem dX10_keepsAct_74 : decode cX10_keepsAct 74 = .ok (.iadd, 1) := by decide +kernel
theorem dX10_keepsAct_75 : decode cX10_keepsAct 75 = .ok (.aload_n 0, 1) := by decide +kernel
theorem dX10_keepsAct_76 : decode cX10_keepsAct 76 = .ok (.getfield 39, 3) := by decide +kernel
theorem dX10_keepsAct_79 : decode cX10_keepsAct 79 = .ok (.sipush 128, 3) := by decide +kernel
theorem dX10_keepsAct_82 : decode cX10_keepsAct 82 = .ok (.iload_n 1, 1) := by decide +kernel
theorem dX10_keepsAct_83 : decode cX10_keepsAct 83 = .ok (.iadd, 1) := by decide +kernel
theorem dX10_keepsAct_84 : decode cX10_keepsAct 84 = .ok (.iaload, 1) := by decide +kernel
theorem dX10_keepsAct_85 : decode cX10_keepsAct 85 = .ok (.iastore, 1) := by decide +kernel
theorem dX10_keepsAct_86 : decode cX10_keepsAct 86 = .ok (.iinc 1 1, 3) := by decide +kernel
theorem dX10_keepsAct_89 : decode cX10_keepsAct 89 = .ok (.goto (-35), 3) := by decide +kernel
theorem dX10_keepsAct_92 : decode cX10_keepsAct 92 = .ok (.aload_n 0, 1) := by decide +kernel
theorem dX10_keepsAct_93 : decode cX10_keepsAct 93 = .ok (.dup, 1) := by decide +kernel
theorem dX10_keepsAct_94 : decode cX10_keepsAct 94 = .ok (.getfield 266, 3) := by decide +kernel
theorem dX10_keepsAct_97 : decode cX10_keepsAct 97 = .ok (.iconst 1, 1) := by decide +kernel
theorem dX10_keepsAct_98 : decode cX10_keepsAct 98 = .ok (.iadd, 1) := by decide +kernel
theorem dX10_keepsAct_99 : decode cX10_keepsAct 99 = .ok (.putfield 266, 3) := by decide +kernel
theorem dX10_keepsAct_102 : decode cX10_keepsAct 102 = .ok (.return_, 1) := by decide +kernel
theorem dX10_undo_0 : decode cX10_undo 0 = .ok (.aload_n 0, 1) := by decide +kernel
theorem dX10_undo_1 : decode cX10_undo 1 = .ok (.getfield 266, 3) := by decide +kernel
theorem dX10_undo_4 : decode cX10_undo 4 = .ok (.ifCond .ne 5, 3) := by decide +kernel
theorem dX10_undo_7 : decode cX10_undo 7 = .ok (.iconst (-1), 1) := by decide +kernel
theorem dX10_undo_8 : decode cX10_undo 8 = .ok (.ireturn, 1) := by decide +kernel
theorem dX10_undo_9 : decode cX10_undo 9 = .ok (.aload_n 0, 1) := by decide +kernel
theorem dX10_undo_10 : decode cX10_undo 10 = .ok (.dup, 1) := by decide +kernel
theorem dX10_undo_11 : decode cX10_undo 11 = .ok (.getfield 266, 3) := by decide +kernel
theorem dX10_undo_14 : decode cX10_undo 14 = .ok (.iconst 1, 1) := by decide +kernel
theorem dX10_undo_15 : decode cX10_undo 15 = .ok (.isub, 1) := by decide +kernel
theorem dX10_undo_16 : decode cX10_undo 16 = .ok (.putfield 266, 3) := by decide +kernel
theorem dX10_undo_19 : decode cX10_undo 19 = .ok (.iconst 0, 1) := by decide +kernel
theorem dX10_undo_20 : decode cX10_undo 20 = .ok (.istore_n 1, 1) := by decide +kernel
theorem dX10_undo_21 : decode cX10_undo 21 = .ok (.iload_n 1, 1) := by decide +kernel
theorem dX10_undo_22 : decode cX10_undo 22 = .ok (.sipush 1012, 3) := by decide +kernel
theorem dX10_undo_25 : decode cX10_undo 25 = .ok (.if_icmp .ge 34, 3) := by decide +kernel
theorem dX10_undo_28 : decode cX10_undo 28 = .ok (.aload_n 0, 1) := by decide +kernel
theorem dX10_undo_29 : decode cX10_undo 29 = .ok (.getfield 39, 3) := by decide +kernel
theorem dX10_undo_32 : decode cX10_undo 32 = .ok (.sipush 128, 3) := by decide +kernel
theorem dX10_undo_35 : decode cX10_undo 35 = .ok (.iload_n 1, 1) := by decide +kernel
theorem dX10_undo_36 : decode cX10_undo 36 = .ok (.iadd, 1) := by decide +kernel
theorem dX10_undo_37 : decode cX10_undo 37 = .ok (.aload_n 0, 1) := by decide +kernel
theorem dX10_undo_38 : decode cX10_undo 38 = .ok (.getfield 46, 3) := by decide +kernel
theorem dX10_undo_41 : decode cX10_undo 41 = .ok (.sipush 1012, 3) := by decide +kernel
theorem dX10_undo_44 : decode cX10_undo 44 = .ok (.aload_n 0, 1) := by decide +kernel
theorem dX10_undo_45 : decode cX10_undo 45 = .ok (.getfield 266, 3) := by decide +kernel
theorem dX10_undo_48 : decode cX10_undo 48 = .ok (.imul, 1) := by decide +kernel
theorem dX10_undo_49 : decode cX10_undo 49 = .ok (.iload_n 1, 1) := by decide +kernel
theorem dX10_undo_50 : decode cX10_undo 50 = .ok (.iadd, 1) := by decide +kernel
theorem dX10_undo_51 : decode cX10_undo 51 = .ok (.iaload, 1) := by decide +kernel
theorem dX10_undo_52 : decode cX10_undo 52 = .ok (.iastore, 1) := by decide +kernel
theorem dX10_undo_53 : decode cX10_undo 53 = .ok (.iinc 1 1, 3) := by decide +kernel
theorem dX10_undo_56 : decode cX10_undo 56 = .ok (.goto (-35), 3) := by decide +kernel
theorem dX10_undo_59 : decode cX10_undo 59 = .ok (.aload_n 0, 1) := by decide +kernel
theorem dX10_undo_60 : decode cX10_undo 60 = .ok (.getfield 266, 3) := by decide +kernel
theorem dX10_undo_63 : decode cX10_undo 63 = .ok (.ireturn, 1) := by decide +kernel
theorem dX10_hour_0 : decode cX10_hour 0 = .ok (.aload_n 0, 1) := by decide +kernel
theorem dX10_hour_1 : decode cX10_hour 1 = .ok (.invokevirtual 354, 3) := by decide +kernel
theorem dX10_hour_4 : decode cX10_hour 4 = .ok (.ifCond .eq 17, 3) := by decide +kernel
theorem dX10_hour_7 : decode cX10_hour 7 = .ok (.aload_n 0, 1) := by decide +kernel
theorem dX10_hour_8 : decode cX10_hour 8 = .ok (.getfield 39, 3) := by decide +kernel
theorem dX10_hour_11 : decode cX10_hour 11 = .ok (.sipush 128, 3) := by decide +kernel
theorem dX10_hour_14 : decode cX10_hour 14 = .ok (.iaload, 1) := by decide +kernel
theorem dX10_hour_15 : decode cX10_hour 15 = .ok (.sipush 999, 3) := by decide +kernel
theorem dX10_hour_18 : decode cX10_hour 18 = .ok (.if_icmp .ne 5, 3) := by decide +kernel
theorem dX10_hour_21 : decode cX10_hour 21 = .ok (.iconst (-1), 1) := by decide +kernel
theorem dX10_hour_22 : decode cX10_hour 22 = .ok (.ireturn, 1) := by decide +kernel
theorem dX10_hour_23 : decode cX10_hour 23 = .ok (.aload_n 0, 1) := by decide +kernel
theorem dX10_hour_24 : decode cX10_hour 24 = .ok (.invokevirtual 357, 3) := by decide +kernel
theorem dX10_hour_27 : decode cX10_hour 27 = .ok (.aload_n 0, 1) := by decide +kernel
theorem dX10_hour_28 : decode cX10_hour 28 = .ok (.invokevirtual 351, 3) := by decide +kernel
theorem dX10_hour_31 : decode cX10_hour 31 = .ok (.istore_n 1, 1) := by decide +kernel
theorem dX10_hour_32 : decode cX10_hour 32 = .ok (.iload_n 1, 1) := by decide +kernel
theorem dX10_hour_33 : decode cX10_hour 33 = .ok (.ifCond .ge 8, 3) := by decide +kernel
theorem dX10_hour_36 : decode cX10_hour 36 = .ok (.bipush (-2), 2) := by decide +kernel
theorem dX10_hour_38 : decode cX10_hour 38 = .ok (.goto 4, 3) := by decide +kernel
theorem dX10_hour_41 : decode cX10_hour 41 = .ok (.iload_n 1, 1) := by decide +kernel
theorem dX10_hour_42 : decode cX10_hour 42 = .ok (.ireturn, 1) := by decide +kernel
theorem dX10_comes_0 : decode cX10_comes 0 = .ok (.aload_n 0, 1) := by decide +kernel
theorem dX10_comes_1 : decode cX10_comes 1 = .ok (.getfield 39, 3) := by decide +kernel
theorem dX10_comes_4 : decode cX10_comes 4 = .ok (.sipush 310, 3) := by decide +kernel
theorem dX10_comes_7 : decode cX10_comes 7 = .ok (.iload_n 1, 1) := by decide +kernel
theorem dX10_comes_8 : decode cX10_comes 8 = .ok (.iadd, 1) := by decide +kernel
theorem dX10_comes_9 : decode cX10_comes 9 = .ok (.iaload, 1) := by decide +kernel
theorem dX10_comes_10 : decode cX10_comes 10 = .ok (.bipush 12, 2) := by decide +kernel
theorem dX10_comes_12 : decode cX10_comes 12 = .ok (.if_icmp .ne 4, 3) := by decide +kernel
theorem dX10_comes_15 : decode cX10_comes 15 = .ok (.return_, 1) := by decide +kernel
theorem dX10_comes_16 : decode cX10_comes 16 = .ok (.aload_n 0, 1) := by decide +kernel
theorem dX10_comes_17 : decode cX10_comes 17 = .ok (.getfield 39, 3) := by decide +kernel
theorem dX10_comes_20 : decode cX10_comes 20 = .ok (.sipush 370, 3) := by decide +kernel
theorem dX10_comes_23 : decode cX10_comes 23 = .ok (.bipush 12, 2) := by decide +kernel
theorem dX10_comes_25 : decode cX10_comes 25 = .ok (.iload_n 1, 1) := by decide +kernel
theorem dX10_comes_26 : decode cX10_comes 26 = .ok (.imul, 1) := by decide +kernel
theorem dX10_comes_27 : decode cX10_comes 27 = .ok (.iadd, 1) := by decide +kernel
theorem dX10_comes_28 : decode cX10_comes 28 = .ok (.aload_n 0, 1) := by decide +kernel
theorem dX10_comes_29 : decode cX10_comes 29 = .ok (.getfield 39, 3) := by decide +kernel
theorem dX10_comes_32 : decode cX10_comes 32 = .ok (.sipush 310, 3) := by decide +kernel
theorem dX10_comes_35 : decode cX10_comes 35 = .ok (.iload_n 1, 1) := by decide +kernel
theorem dX10_comes_36 : decode cX10_comes 36 = .ok (.iadd, 1) := by decide +kernel
theorem dX10_comes_37 : decode cX10_comes 37 = .ok (.iaload, 1) := by decide +kernel
theorem dX10_comes_38 : decode cX10_comes 38 = .ok (.iadd, 1) := by decide +kernel
theorem dX10_comes_39 : decode cX10_comes 39 = .ok (.iload_n 2, 1) := by decide +kernel
theorem dX10_comes_40 : decode cX10_comes 40 = .ok (.iastore, 1) := by decide +kernel
theorem dX10_comes_41 : decode cX10_comes 41 = .ok (.aload_n 0, 1) := by decide +kernel
theorem dX10_comes_42 : decode cX10_comes 42 = .ok (.getfield 39, 3) := by decide +kernel
theorem dX10_comes_45 : decode cX10_comes 45 = .ok (.sipush 310, 3) := by decide +kernel
theorem dX10_comes_48 : decode cX10_comes 48 = .ok (.iload_n 1, 1) := by decide +kernel
theorem dX10_comes_49 : decode cX10_comes 49 = .ok (.iadd, 1) := by decide +kernel
theorem dX10_comes_50 : decode cX10_comes 50 = .ok (.dup2, 1) := by decide +kernel
theorem dX10_comes_51 : decode cX10_comes 51 = .ok (.iaload, 1) := by decide +kernel
theorem dX10_comes_52 : decode cX10_comes 52 = .ok (.iconst 1, 1) := by decide +kernel
theorem dX10_comes_53 : decode cX10_comes 53 = .ok (.iadd, 1) := by decide +kernel
theorem dX10_comes_54 : decode cX10_comes 54 = .ok (.iastore, 1) := by decide +kernel
theorem dX10_comes_55 : decode cX10_comes 55 = .ok (.return_, 1) := by decide +kernel
theorem dX10_areUnlike_0 : decode cX10_areUnlike 0 = .ok (.aload_n 0, 1) := by decide +kernel
theorem dX10_areUnlike_1 : decode cX10_areUnlike 1 = .ok (.iload_n 1, 1) := by decide +kernel
theorem dX10_areUnlike_2 : decode cX10_areUnlike 2 = .ok (.invokevirtual 307, 3) := by decide +kernel
theorem dX10_areUnlike_5 : decode cX10_areUnlike 5 = .ok (.ifCond .eq 32, 3) := by decide +kernel
theorem dX10_areUnlike_8 : decode cX10_areUnlike 8 = .ok (.aload_n 0, 1) := by decide +kernel
theorem dX10_areUnlike_9 : decode cX10_areUnlike 9 = .ok (.iload_n 2, 1) := by decide +kernel
theorem dX10_areUnlike_10 : decode cX10_areUnlike 10 = .ok (.invokevirtual 307, 3) := by decide +kernel
theorem dX10_areUnlike_13 : decode cX10_areUnlike 13 = .ok (.ifCond .eq 24, 3) := by decide +kernel
theorem dX10_areUnlike_16 : decode cX10_areUnlike 16 = .ok (.iload_n 1, 1) := by decide +kernel
theorem dX10_areUnlike_17 : decode cX10_areUnlike 17 = .ok (.iload_n 2, 1) := by decide +kernel
theorem dX10_areUnlike_18 : decode cX10_areUnlike 18 = .ok (.if_icmp .eq 19, 3) := by decide +kernel
theorem dX10_areUnlike_21 : decode cX10_areUnlike 21 = .ok (.iload_n 3, 1) := by decide +kernel
theorem dX10_areUnlike_22 : decode cX10_areUnlike 22 = .ok (.i2l, 1) := by decide +kernel
theorem dX10_areUnlike_23 : decode cX10_areUnlike 23 = .ok (.lconst 1, 1) := by decide +kernel
theorem dX10_areUnlike_24 : decode cX10_areUnlike 24 = .ok (.ldc2_w 360, 3) := by decide +kernel
theorem dX10_areUnlike_27 : decode cX10_areUnlike 27 = .ok (.invokestatic 121, 3) := by decide +kernel
theorem dX10_areUnlike_30 : decode cX10_areUnlike 30 = .ok (.ifCond .eq 7, 3) := by decide +kernel
theorem dX10_areUnlike_33 : decode cX10_areUnlike 33 = .ok (.iconst 1, 1) := by decide +kernel
theorem dX10_areUnlike_34 : decode cX10_areUnlike 34 = .ok (.goto 4, 3) := by decide +kernel
theorem dX10_areUnlike_37 : decode cX10_areUnlike 37 = .ok (.iconst 0, 1) := by decide +kernel
theorem dX10_areUnlike_38 : decode cX10_areUnlike 38 = .ok (.ireturn, 1) := by decide +kernel
theorem dX10_move_0 : decode cX10_move 0 = .ok (.aload_n 0, 1) := by decide +kernel
theorem dX10_move_1 : decode cX10_move 1 = .ok (.iload_n 1, 1) := by decide +kernel
theorem dX10_move_2 : decode cX10_move 2 = .ok (.iload_n 2, 1) := by decide +kernel
theorem dX10_move_3 : decode cX10_move 3 = .ok (.iload_n 3, 1) := by decide +kernel
theorem dX10_move_4 : decode cX10_move 4 = .ok (.invokevirtual 362, 3) := by decide +kernel
theorem dX10_move_7 : decode cX10_move 7 = .ok (.ifCond .eq 13, 3) := by decide +kernel
theorem dX10_move_10 : decode cX10_move 10 = .ok (.aload_n 0, 1) := by decide +kernel
theorem dX10_move_11 : decode cX10_move 11 = .ok (.iload_n 1, 1) := by decide +kernel
theorem dX10_move_12 : decode cX10_move 12 = .ok (.iconst 1, 1) := by decide +kernel
theorem dX10_move_13 : decode cX10_move 13 = .ok (.invokevirtual 290, 3) := by decide +kernel
theorem dX10_move_16 : decode cX10_move 16 = .ok (.iload_n 3, 1) := by decide +kernel
theorem dX10_move_17 : decode cX10_move 17 = .ok (.if_icmp .ge 5, 3) := by decide +kernel
theorem dX10_move_20 : decode cX10_move 20 = .ok (.iconst (-1), 1) := by decide +kernel
theorem dX10_move_21 : decode cX10_move 21 = .ok (.ireturn, 1) := by decide +kernel
theorem dX10_move_22 : decode cX10_move 22 = .ok (.aload_n 0, 1) := by decide +kernel
theorem dX10_move_23 : decode cX10_move 23 = .ok (.invokevirtual 357, 3) := by decide +kernel
theorem dX10_move_26 : decode cX10_move 26 = .ok (.iconst 0, 1) := by decide +kernel
theorem dX10_move_27 : decode cX10_move 27 = .ok (.istore 4, 2) := by decide +kernel
theorem dX10_move_29 : decode cX10_move 29 = .ok (.iload 4, 2) := by decide +kernel
theorem dX10_move_31 : decode cX10_move 31 = .ok (.iload_n 3, 1) := by decide +kernel
theorem dX10_move_32 : decode cX10_move 32 = .ok (.if_icmp .ge 33, 3) := by decide +kernel
theorem dX10_move_35 : decode cX10_move 35 = .ok (.aload_n 0, 1) := by decide +kernel
theorem dX10_move_36 : decode cX10_move 36 = .ok (.iload_n 1, 1) := by decide +kernel
theorem dX10_move_37 : decode cX10_move 37 = .ok (.iconst 1, 1) := by decide +kernel
theorem dX10_move_38 : decode cX10_move 38 = .ok (.iconst 0, 1) := by decide +kernel
theorem dX10_move_39 : decode cX10_move 39 = .ok (.invokevirtual 315, 3) := by decide +kernel
theorem dX10_move_42 : decode cX10_move 42 = .ok (.istore 5, 2) := by decide +kernel
theorem dX10_move_44 : decode cX10_move 44 = .ok (.aload_n 0, 1) := by decide +kernel
theorem dX10_move_45 : decode cX10_move 45 = .ok (.iload 5, 2) := by decide +kernel
theorem dX10_move_47 : decode cX10_move 47 = .ok (.iload_n 2, 1) := by decide +kernel
theorem dX10_move_48 : decode cX10_move 48 = .ok (.iconst 1, 1) := by decide +kernel
theorem dX10_move_49 : decode cX10_move 49 = .ok (.invokevirtual 300, 3) := by decide +kernel
theorem dX10_move_52 : decode cX10_move 52 = .ok (.aload_n 0, 1) := by decide +kernel
theorem dX10_move_53 : decode cX10_move 53 = .ok (.iload 5, 2) := by decide +kernel
theorem dX10_move_55 : decode cX10_move 55 = .ok (.iload_n 2, 1) := by decide +kernel
theorem dX10_move_56 : decode cX10_move 56 = .ok (.invokevirtual 365, 3) := by decide +kernel
theorem dX10_move_59 : decode cX10_move 59 = .ok (.iinc 4 1, 3) := by decide +kernel
theorem dX10_move_62 : decode cX10_move 62 = .ok (.goto (-33), 3) := by decide +kernel
theorem dX10_move_65 : decode cX10_move 65 = .ok (.aload_n 0, 1) := by decide +kernel
theorem dX10_move_66 : decode cX10_move 66 = .ok (.getfield 39, 3) := by decide +kernel
theorem dX10_move_69 : decode cX10_move 69 = .ok (.sipush 1115, 3) := by decide +kernel
theorem dX10_move_72 : decode cX10_move 72 = .ok (.iconst 5, 1) := by decide +kernel
theorem dX10_move_73 : decode cX10_move 73 = .ok (.iload_n 1, 1) := by decide +kernel
theorem dX10_move_74 : decode cX10_move 74 = .ok (.imul, 1) := by decide +kernel
theorem dX10_move_75 : decode cX10_move 75 = .ok (.iadd, 1) := by decide +kernel
theorem dX10_move_76 : decode cX10_move 76 = .ok (.iload_n 2, 1) := by decide +kernel
theorem dX10_move_77 : decode cX10_move 77 = .ok (.iadd, 1) := by decide +kernel
theorem dX10_move_78 : decode cX10_move 78 = .ok (.dup2, 1) := by decide +kernel
theorem dX10_move_79 : decode cX10_move 79 = .ok (.iaload, 1) := by decide +kernel
theorem dX10_move_80 : decode cX10_move 80 = .ok (.iload_n 3, 1) := by decide +kernel
theorem dX10_move_81 : decode cX10_move 81 = .ok (.iadd, 1) := by decide +kernel
theorem dX10_move_82 : decode cX10_move 82 = .ok (.iastore, 1) := by decide +kernel
theorem dX10_move_83 : decode cX10_move 83 = .ok (.aload_n 0, 1) := by decide +kernel
theorem dX10_move_84 : decode cX10_move 84 = .ok (.iload_n 2, 1) := by decide +kernel
theorem dX10_move_85 : decode cX10_move 85 = .ok (.iconst 1, 1) := by decide +kernel
theorem dX10_move_86 : decode cX10_move 86 = .ok (.invokevirtual 290, 3) := by decide +kernel
theorem dX10_move_89 : decode cX10_move 89 = .ok (.ireturn, 1) := by decide +kernel
theorem dX10_lends_0 : decode cX10_lends 0 = .ok (.iconst 0, 1) := by decide +kernel
theorem dX10_lends_1 : decode cX10_lends 1 = .ok (.istore 4, 2) := by decide +kernel
theorem dX10_lends_3 : decode cX10_lends 3 = .ok (.iload 4, 2) := by decide +kernel
theorem dX10_lends_5 : decode cX10_lends 5 = .ok (.iload_n 3, 1) := by decide +kernel
theorem dX10_lends_6 : decode cX10_lends 6 = .ok (.if_icmp .ge 39, 3) := by decide +kernel
theorem dX10_lends_9 : decode cX10_lends 9 = .ok (.aload_n 0, 1) := by decide +kernel
theorem dX10_lends_10 : decode cX10_lends 10 = .ok (.iload_n 1, 1) := by decide +kernel
theorem dX10_lends_11 : decode cX10_lends 11 = .ok (.invokevirtual 368, 3) := by decide +kernel
theorem dX10_lends_14 : decode cX10_lends 14 = .ok (.ifCond .lt 31, 3) := by decide +kernel
theorem dX10_lends_17 : decode cX10_lends 17 = .ok (.aload_n 0, 1) := by decide +kernel
theorem dX10_lends_18 : decode cX10_lends 18 = .ok (.iload_n 1, 1) := by decide +kernel
theorem dX10_lends_19 : decode cX10_lends 19 = .ok (.invokevirtual 368, 3) := by decide +kernel
theorem dX10_lends_22 : decode cX10_lends 22 = .ok (.istore 5, 2) := by decide +kernel
theorem dX10_lends_24 : decode cX10_lends 24 = .ok (.aload_n 0, 1) := by decide +kernel
theorem dX10_lends_25 : decode cX10_lends 25 = .ok (.iload 5, 2) := by decide +kernel
theorem dX10_lends_27 : decode cX10_lends 27 = .ok (.iload_n 2, 1) := by decide +kernel
theorem dX10_lends_28 : decode cX10_lends 28 = .ok (.iconst 0, 1) := by decide +kernel
theorem dX10_lends_29 : decode cX10_lends 29 = .ok (.invokevirtual 300, 3) := by decide +kernel
theorem dX10_lends_32 : decode cX10_lends 32 = .ok (.aload_n 0, 1) := by decide +kernel
theorem dX10_lends_33 : decode cX10_lends 33 = .ok (.iload 5, 2) := by decide +kernel
theorem dX10_lends_35 : decode cX10_lends 35 = .ok (.iload_n 2, 1) := by decide +kernel
theorem dX10_lends_36 : decode cX10_lends 36 = .ok (.invokevirtual 365, 3) := by decide +kernel
theorem dX10_lends_39 : decode cX10_lends 39 = .ok (.iinc 4 1, 3) := by decide +kernel
theorem dX10_lends_42 : decode cX10_lends 42 = .ok (.goto (-39), 3) := by decide +kernel
theorem dX10_lends_45 : decode cX10_lends 45 = .ok (.iload 4, 2) := by decide +kernel
theorem dX10_lends_47 : decode cX10_lends 47 = .ok (.ireturn, 1) := by decide +kernel
theorem dX10_lend_0 : decode cX10_lend 0 = .ok (.aload_n 0, 1) := by decide +kernel
theorem dX10_lend_1 : decode cX10_lend 1 = .ok (.iload_n 1, 1) := by decide +kernel
theorem dX10_lend_2 : decode cX10_lend 2 = .ok (.iload_n 2, 1) := by decide +kernel
theorem dX10_lend_3 : decode cX10_lend 3 = .ok (.iload_n 3, 1) := by decide +kernel
theorem dX10_lend_4 : decode cX10_lend 4 = .ok (.invokevirtual 362, 3) := by decide +kernel
theorem dX10_lend_7 : decode cX10_lend 7 = .ok (.ifCond .eq 13, 3) := by decide +kernel
theorem dX10_lend_10 : decode cX10_lend 10 = .ok (.aload_n 0, 1) := by decide +kernel
theorem dX10_lend_11 : decode cX10_lend 11 = .ok (.iload_n 1, 1) := by decide +kernel
theorem dX10_lend_12 : decode cX10_lend 12 = .ok (.iconst 0, 1) := by decide +kernel
theorem dX10_lend_13 : decode cX10_lend 13 = .ok (.invokevirtual 290, 3) := by decide +kernel
theorem dX10_lend_16 : decode cX10_lend 16 = .ok (.iload_n 3, 1) := by decide +kernel
theorem dX10_lend_17 : decode cX10_lend 17 = .ok (.if_icmp .ge 5, 3) := by decide +kernel
theorem dX10_lend_20 : decode cX10_lend 20 = .ok (.iconst (-1), 1) := by decide +kernel
theorem dX10_lend_21 : decode cX10_lend 21 = .ok (.ireturn, 1) := by decide +kernel
theorem dX10_lend_22 : decode cX10_lend 22 = .ok (.aload_n 0, 1) := by decide +kernel
theorem dX10_lend_23 : decode cX10_lend 23 = .ok (.invokevirtual 357, 3) := by decide +kernel
theorem dX10_lend_26 : decode cX10_lend 26 = .ok (.aload_n 0, 1) := by decide +kernel
theorem dX10_lend_27 : decode cX10_lend 27 = .ok (.getfield 39, 3) := by decide +kernel
theorem dX10_lend_30 : decode cX10_lend 30 = .ok (.sipush 1115, 3) := by decide +kernel
theorem dX10_lend_33 : decode cX10_lend 33 = .ok (.iconst 5, 1) := by decide +kernel
theorem dX10_lend_34 : decode cX10_lend 34 = .ok (.iload_n 1, 1) := by decide +kernel
theorem dX10_lend_35 : decode cX10_lend 35 = .ok (.imul, 1) := by decide +kernel
theorem dX10_lend_36 : decode cX10_lend 36 = .ok (.iadd, 1) := by decide +kernel
theorem dX10_lend_37 : decode cX10_lend 37 = .ok (.iload_n 2, 1) := by decide +kernel
theorem dX10_lend_38 : decode cX10_lend 38 = .ok (.iadd, 1) := by decide +kernel
theorem dX10_lend_39 : decode cX10_lend 39 = .ok (.dup2, 1) := by decide +kernel
theorem dX10_lend_40 : decode cX10_lend 40 = .ok (.iaload, 1) := by decide +kernel
theorem dX10_lend_41 : decode cX10_lend 41 = .ok (.aload_n 0, 1) := by decide +kernel
theorem dX10_lend_42 : decode cX10_lend 42 = .ok (.iload_n 1, 1) := by decide +kernel
theorem dX10_lend_43 : decode cX10_lend 43 = .ok (.iload_n 2, 1) := by decide +kernel
theorem dX10_lend_44 : decode cX10_lend 44 = .ok (.iload_n 3, 1) := by decide +kernel
theorem dX10_lend_45 : decode cX10_lend 45 = .ok (.invokevirtual 371, 3) := by decide +kernel
theorem dX10_lend_48 : decode cX10_lend 48 = .ok (.iadd, 1) := by decide +kernel
theorem dX10_lend_49 : decode cX10_lend 49 = .ok (.iastore, 1) := by decide +kernel
theorem dX10_lend_50 : decode cX10_lend 50 = .ok (.aload_n 0, 1) := by decide +kernel
theorem dX10_lend_51 : decode cX10_lend 51 = .ok (.iload_n 2, 1) := by decide +kernel
theorem dX10_lend_52 : decode cX10_lend 52 = .ok (.iconst 0, 1) := by decide +kernel
theorem dX10_lend_53 : decode cX10_lend 53 = .ok (.invokevirtual 290, 3) := by decide +kernel
theorem dX10_lend_56 : decode cX10_lend 56 = .ok (.ireturn, 1) := by decide +kernel
theorem dX10_spoil_0 : decode cX10_spoil 0 = .ok (.aload_n 0, 1) := by decide +kernel
theorem dX10_spoil_1 : decode cX10_spoil 1 = .ok (.iload_n 1, 1) := by decide +kernel
theorem dX10_spoil_2 : decode cX10_spoil 2 = .ok (.invokevirtual 284, 3) := by decide +kernel
theorem dX10_spoil_5 : decode cX10_spoil 5 = .ok (.ifCond .eq 17, 3) := by decide +kernel
theorem dX10_spoil_8 : decode cX10_spoil 8 = .ok (.aload_n 0, 1) := by decide +kernel
theorem dX10_spoil_9 : decode cX10_spoil 9 = .ok (.getfield 39, 3) := by decide +kernel
theorem dX10_spoil_12 : decode cX10_spoil 12 = .ok (.sipush 190, 3) := by decide +kernel
theorem dX10_spoil_15 : decode cX10_spoil 15 = .ok (.iload_n 1, 1) := by decide +kernel
theorem dX10_spoil_16 : decode cX10_spoil 16 = .ok (.iadd, 1) := by decide +kernel
theorem dX10_spoil_17 : decode cX10_spoil 17 = .ok (.iaload, 1) := by decide +kernel
theorem dX10_spoil_18 : decode cX10_spoil 18 = .ok (.iconst 2, 1) := by decide +kernel
theorem dX10_spoil_19 : decode cX10_spoil 19 = .ok (.if_icmp .ne 5, 3) := by decide +kernel
theorem dX10_spoil_22 : decode cX10_spoil 22 = .ok (.iconst (-1), 1) := by decide +kernel
theorem dX10_spoil_23 : decode cX10_spoil 23 = .ok (.ireturn, 1) := by decide +kernel
theorem dX10_spoil_24 : decode cX10_spoil 24 = .ok (.aload_n 0, 1) := by decide +kernel
theorem dX10_spoil_25 : decode cX10_spoil 25 = .ok (.invokevirtual 357, 3) := by decide +kernel
theorem dX10_spoil_28 : decode cX10_spoil 28 = .ok (.aload_n 0, 1) := by decide +kernel
theorem dX10_spoil_29 : decode cX10_spoil 29 = .ok (.iload_n 1, 1) := by decide +kernel
theorem dX10_spoil_30 : decode cX10_spoil 30 = .ok (.aload_n 0, 1) := by decide +kernel
theorem dX10_spoil_31 : decode cX10_spoil 31 = .ok (.getfield 39, 3) := by decide +kernel
theorem dX10_spoil_34 : decode cX10_spoil 34 = .ok (.sipush 130, 3) := by decide +kernel
theorem dX10_spoil_37 : decode cX10_spoil 37 = .ok (.iload_n 1, 1) := by decide +kernel
theorem dX10_spoil_38 : decode cX10_spoil 38 = .ok (.iadd, 1) := by decide +kernel
theorem dX10_spoil_39 : decode cX10_spoil 39 = .ok (.iaload, 1) := by decide +kernel
theorem dX10_spoil_40 : decode cX10_spoil 40 = .ok (.iconst 2, 1) := by decide +kernel
theorem dX10_spoil_41 : decode cX10_spoil 41 = .ok (.invokevirtual 300, 3) := by decide +kernel
theorem dX10_spoil_44 : decode cX10_spoil 44 = .ok (.aload_n 0, 1) := by decide +kernel
theorem dX10_spoil_45 : decode cX10_spoil 45 = .ok (.aload_n 0, 1) := by decide +kernel
theorem dX10_spoil_46 : decode cX10_spoil 46 = .ok (.getfield 39, 3) := by decide +kernel
theorem dX10_spoil_49 : decode cX10_spoil 49 = .ok (.sipush 130, 3) := by decide +kernel
theorem dX10_spoil_52 : decode cX10_spoil 52 = .ok (.iload_n 1, 1) := by decide +kernel
theorem dX10_spoil_53 : decode cX10_spoil 53 = .ok (.iadd, 1) := by decide +kernel
theorem dX10_spoil_54 : decode cX10_spoil 54 = .ok (.iaload, 1) := by decide +kernel
theorem dX10_spoil_55 : decode cX10_spoil 55 = .ok (.iconst 2, 1) := by decide +kernel
theorem dX10_spoil_56 : decode cX10_spoil 56 = .ok (.invokevirtual 290, 3) := by decide +kernel
theorem dX10_spoil_59 : decode cX10_spoil 59 = .ok (.ireturn, 1) := by decide +kernel
theorem dX10_find_0 : decode cX10_find 0 = .ok (.aload_n 0, 1) := by decide +kernel
theorem dX10_find_1 : decode cX10_find 1 = .ok (.iload_n 1, 1) := by decide +kernel
theorem dX10_find_2 : decode cX10_find 2 = .ok (.invokevirtual 284, 3) := by decide +kernel
theorem dX10_find_5 : decode cX10_find 5 = .ok (.ifCond .eq 17, 3) := by decide +kernel
theorem dX10_find_8 : decode cX10_find 8 = .ok (.aload_n 0, 1) := by decide +kernel
theorem dX10_find_9 : decode cX10_find 9 = .ok (.getfield 39, 3) := by decide +kernel
theorem dX10_find_12 : decode cX10_find 12 = .ok (.sipush 190, 3) := by decide +kernel
theorem dX10_find_15 : decode cX10_find 15 = .ok (.iload_n 1, 1) := by decide +kernel
theorem dX10_find_16 : decode cX10_find 16 = .ok (.iadd, 1) := by decide +kernel
theorem dX10_find_17 : decode cX10_find 17 = .ok (.iaload, 1) := by decide +kernel
theorem dX10_find_18 : decode cX10_find 18 = .ok (.iconst 2, 1) := by decide +kernel
theorem dX10_find_19 : decode cX10_find 19 = .ok (.if_icmp .eq 5, 3) := by decide +kernel
theorem dX10_find_22 : decode cX10_find 22 = .ok (.iconst (-1), 1) := by decide +kernel
theorem dX10_find_23 : decode cX10_find 23 = .ok (.ireturn, 1) := by decide +kernel
theorem dX10_find_24 : decode cX10_find 24 = .ok (.aload_n 0, 1) := by decide +kernel
theorem dX10_find_25 : decode cX10_find 25 = .ok (.invokevirtual 357, 3) := by decide +kernel
theorem dX10_find_28 : decode cX10_find 28 = .ok (.aload_n 0, 1) := by decide +kernel
theorem dX10_find_29 : decode cX10_find 29 = .ok (.iload_n 1, 1) := by decide +kernel
theorem dX10_find_30 : decode cX10_find 30 = .ok (.aload_n 0, 1) := by decide +kernel
theorem dX10_find_31 : decode cX10_find 31 = .ok (.getfield 39, 3) := by decide +kernel
theorem dX10_find_34 : decode cX10_find 34 = .ok (.sipush 130, 3) := by decide +kernel
theorem dX10_find_37 : decode cX10_find 37 = .ok (.iload_n 1, 1) := by decide +kernel
theorem dX10_find_38 : decode cX10_find 38 = .ok (.iadd, 1) := by decide +kernel
theorem dX10_find_39 : decode cX10_find 39 = .ok (.iaload, 1) := by decide +kernel
theorem dX10_find_40 : decode cX10_find 40 = .ok (.iconst 1, 1) := by decide +kernel
theorem dX10_find_41 : decode cX10_find 41 = .ok (.invokevirtual 300, 3) := by decide +kernel
theorem dX10_find_44 : decode cX10_find 44 = .ok (.aload_n 0, 1) := by decide +kernel
theorem dX10_find_45 : decode cX10_find 45 = .ok (.aload_n 0, 1) := by decide +kernel
theorem dX10_find_46 : decode cX10_find 46 = .ok (.getfield 39, 3) := by decide +kernel
theorem dX10_find_49 : decode cX10_find 49 = .ok (.sipush 130, 3) := by decide +kernel
theorem dX10_find_52 : decode cX10_find 52 = .ok (.iload_n 1, 1) := by decide +kernel
theorem dX10_find_53 : decode cX10_find 53 = .ok (.iadd, 1) := by decide +kernel
theorem dX10_find_54 : decode cX10_find 54 = .ok (.iaload, 1) := by decide +kernel
theorem dX10_find_55 : decode cX10_find 55 = .ok (.iconst 1, 1) := by decide +kernel
theorem dX10_find_56 : decode cX10_find 56 = .ok (.invokevirtual 290, 3) := by decide +kernel
theorem dX10_find_59 : decode cX10_find 59 = .ok (.ireturn, 1) := by decide +kernel
theorem dX10_send_0 : decode cX10_send 0 = .ok (.aload_n 0, 1) := by decide +kernel
theorem dX10_send_1 : decode cX10_send 1 = .ok (.iload_n 1, 1) := by decide +kernel
theorem dX10_send_2 : decode cX10_send 2 = .ok (.iload_n 2, 1) := by decide +kernel
theorem dX10_send_3 : decode cX10_send 3 = .ok (.iload_n 3, 1) := by decide +kernel
theorem dX10_send_4 : decode cX10_send 4 = .ok (.invokevirtual 362, 3) := by decide +kernel
theorem dX10_send_7 : decode cX10_send 7 = .ok (.ifCond .eq 17, 3) := by decide +kernel
theorem dX10_send_10 : decode cX10_send 10 = .ok (.aload_n 0, 1) := by decide +kernel
theorem dX10_send_11 : decode cX10_send 11 = .ok (.getfield 39, 3) := by decide +kernel
theorem dX10_send_14 : decode cX10_send 14 = .ok (.sipush 1090, 3) := by decide +kernel
theorem dX10_send_17 : decode cX10_send 17 = .ok (.iload_n 1, 1) := by decide +kernel
theorem dX10_send_18 : decode cX10_send 18 = .ok (.iadd, 1) := by decide +kernel
theorem dX10_send_19 : decode cX10_send 19 = .ok (.iaload, 1) := by decide +kernel
theorem dX10_send_20 : decode cX10_send 20 = .ok (.iload_n 3, 1) := by decide +kernel
theorem dX10_send_21 : decode cX10_send 21 = .ok (.if_icmp .ge 5, 3) := by decide +kernel
theorem dX10_send_24 : decode cX10_send 24 = .ok (.iconst (-1), 1) := by decide +kernel
theorem dX10_send_25 : decode cX10_send 25 = .ok (.ireturn, 1) := by decide +kernel
theorem dX10_send_26 : decode cX10_send 26 = .ok (.aload_n 0, 1) := by decide +kernel
theorem dX10_send_27 : decode cX10_send 27 = .ok (.invokevirtual 357, 3) := by decide +kernel
theorem dX10_send_30 : decode cX10_send 30 = .ok (.aload_n 0, 1) := by decide +kernel
theorem dX10_send_31 : decode cX10_send 31 = .ok (.getfield 39, 3) := by decide +kernel
theorem dX10_send_34 : decode cX10_send 34 = .ok (.sipush 1090, 3) := by decide +kernel
theorem dX10_send_37 : decode cX10_send 37 = .ok (.iload_n 1, 1) := by decide +kernel
theorem dX10_send_38 : decode cX10_send 38 = .ok (.iadd, 1) := by decide +kernel
theorem dX10_send_39 : decode cX10_send 39 = .ok (.dup2, 1) := by decide +kernel
theorem dX10_send_40 : decode cX10_send 40 = .ok (.iaload, 1) := by decide +kernel
theorem dX10_send_41 : decode cX10_send 41 = .ok (.iload_n 3, 1) := by decide +kernel
theorem dX10_send_42 : decode cX10_send 42 = .ok (.isub, 1) := by decide +kernel
theorem dX10_send_43 : decode cX10_send 43 = .ok (.iastore, 1) := by decide +kernel
theorem dX10_send_44 : decode cX10_send 44 = .ok (.aload_n 0, 1) := by decide +kernel
theorem dX10_send_45 : decode cX10_send 45 = .ok (.getfield 39, 3) := by decide +kernel
theorem dX10_send_48 : decode cX10_send 48 = .ok (.sipush 1090, 3) := by decide +kernel
theorem dX10_send_51 : decode cX10_send 51 = .ok (.iload_n 2, 1) := by decide +kernel
theorem dX10_send_52 : decode cX10_send 52 = .ok (.iadd, 1) := by decide +kernel
theorem dX10_send_53 : decode cX10_send 53 = .ok (.dup2, 1) := by decide +kernel
theorem dX10_send_54 : decode cX10_send 54 = .ok (.iaload, 1) := by decide +kernel
theorem dX10_send_55 : decode cX10_send 55 = .ok (.iload_n 3, 1) := by decide +kernel
theorem dX10_send_56 : decode cX10_send 56 = .ok (.iadd, 1) := by decide +kernel
theorem dX10_send_57 : decode cX10_send 57 = .ok (.iastore, 1) := by decide +kernel
theorem dX10_send_58 : decode cX10_send 58 = .ok (.aload_n 0, 1) := by decide +kernel
theorem dX10_send_59 : decode cX10_send 59 = .ok (.getfield 39, 3) := by decide +kernel
theorem dX10_send_62 : decode cX10_send 62 = .ok (.sipush 1090, 3) := by decide +kernel
theorem dX10_send_65 : decode cX10_send 65 = .ok (.iload_n 2, 1) := by decide +kernel
theorem dX10_send_66 : decode cX10_send 66 = .ok (.iadd, 1) := by decide +kernel
theorem dX10_send_67 : decode cX10_send 67 = .ok (.iaload, 1) := by decide +kernel
theorem dX10_send_68 : decode cX10_send 68 = .ok (.ireturn, 1) := by decide +kernel
theorem dX10_toldMany_0 : decode cX10_toldMany 0 = .ok (.iconst 0, 1) := by decide +kernel
theorem dX10_toldMany_1 : decode cX10_toldMany 1 = .ok (.istore_n 2, 1) := by decide +kernel
theorem dX10_toldMany_2 : decode cX10_toldMany 2 = .ok (.iconst 0, 1) := by decide +kernel
theorem dX10_toldMany_3 : decode cX10_toldMany 3 = .ok (.istore_n 3, 1) := by decide +kernel
theorem dX10_toldMany_4 : decode cX10_toldMany 4 = .ok (.iload_n 3, 1) := by decide +kernel
theorem dX10_toldMany_5 : decode cX10_toldMany 5 = .ok (.iconst 3, 1) := by decide +kernel
theorem dX10_toldMany_6 : decode cX10_toldMany 6 = .ok (.if_icmp .ge 36, 3) := by decide +kernel
theorem dX10_toldMany_9 : decode cX10_toldMany 9 = .ok (.iload_n 2, 1) := by decide +kernel
theorem dX10_toldMany_10 : decode cX10_toldMany 10 = .ok (.aload_n 0, 1) := by decide +kernel
theorem dX10_toldMany_11 : decode cX10_toldMany 11 = .ok (.getfield 39, 3) := by decide +kernel
theorem dX10_toldMany_14 : decode cX10_toldMany 14 = .ok (.sipush 1095, 3) := by decide +kernel
theorem dX10_toldMany_17 : decode cX10_toldMany 17 = .ok (.iconst 3, 1) := by decide +kernel
theorem dX10_toldMany_18 : decode cX10_toldMany 18 = .ok (.iload_n 1, 1) := by decide +kernel
theorem dX10_toldMany_19 : decode cX10_toldMany 19 = .ok (.imul, 1) := by decide +kernel
theorem dX10_toldMany_20 : decode cX10_toldMany 20 = .ok (.iadd, 1) := by decide +kernel
theorem dX10_toldMany_21 : decode cX10_toldMany 21 = .ok (.iload_n 3, 1) := by decide +kernel
theorem dX10_toldMany_22 : decode cX10_toldMany 22 = .ok (.iadd, 1) := by decide +kernel
theorem dX10_toldMany_23 : decode cX10_toldMany 23 = .ok (.iaload, 1) := by decide +kernel
theorem dX10_toldMany_24 : decode cX10_toldMany 24 = .ok (.bipush (-2), 2) := by decide +kernel
theorem dX10_toldMany_26 : decode cX10_toldMany 26 = .ok (.if_icmp .eq 7, 3) := by decide +kernel
theorem dX10_toldMany_29 : decode cX10_toldMany 29 = .ok (.iconst 1, 1) := by decide +kernel
theorem dX10_toldMany_30 : decode cX10_toldMany 30 = .ok (.goto 4, 3) := by decide +kernel
theorem dX10_toldMany_33 : decode cX10_toldMany 33 = .ok (.iconst 0, 1) := by decide +kernel
theorem dX10_toldMany_34 : decode cX10_toldMany 34 = .ok (.iadd, 1) := by decide +kernel
theorem dX10_toldMany_35 : decode cX10_toldMany 35 = .ok (.istore_n 2, 1) := by decide +kernel
theorem dX10_toldMany_36 : decode cX10_toldMany 36 = .ok (.iinc 3 1, 3) := by decide +kernel
theorem dX10_toldMany_39 : decode cX10_toldMany 39 = .ok (.goto (-35), 3) := by decide +kernel
theorem dX10_toldMany_42 : decode cX10_toldMany 42 = .ok (.iload_n 2, 1) := by decide +kernel
theorem dX10_toldMany_43 : decode cX10_toldMany 43 = .ok (.ireturn, 1) := by decide +kernel
theorem dX10_tell_0 : decode cX10_tell 0 = .ok (.aload_n 0, 1) := by decide +kernel
theorem dX10_tell_1 : decode cX10_tell 1 = .ok (.iload_n 1, 1) := by decide +kernel
theorem dX10_tell_2 : decode cX10_tell 2 = .ok (.invokevirtual 307, 3) := by decide +kernel
theorem dX10_tell_5 : decode cX10_tell 5 = .ok (.ifCond .eq 41, 3) := by decide +kernel
theorem dX10_tell_8 : decode cX10_tell 8 = .ok (.aload_n 0, 1) := by decide +kernel
theorem dX10_tell_9 : decode cX10_tell 9 = .ok (.getfield 39, 3) := by decide +kernel
theorem dX10_tell_12 : decode cX10_tell 12 = .ok (.sipush 1110, 3) := by decide +kernel
theorem dX10_tell_15 : decode cX10_tell 15 = .ok (.iload_n 1, 1) := by decide +kernel
theorem dX10_tell_16 : decode cX10_tell 16 = .ok (.iadd, 1) := by decide +kernel
theorem dX10_tell_17 : decode cX10_tell 17 = .ok (.iaload, 1) := by decide +kernel
theorem dX10_tell_18 : decode cX10_tell 18 = .ok (.iconst 1, 1) := by decide +kernel
theorem dX10_tell_19 : decode cX10_tell 19 = .ok (.if_icmp .eq 27, 3) := by decide +kernel
theorem dX10_tell_22 : decode cX10_tell 22 = .ok (.iload_n 2, 1) := by decide +kernel
theorem dX10_tell_23 : decode cX10_tell 23 = .ok (.i2l, 1) := by decide +kernel
theorem dX10_tell_24 : decode cX10_tell 24 = .ok (.lconst 0, 1) := by decide +kernel
theorem dX10_tell_25 : decode cX10_tell 25 = .ok (.ldc2_w 313, 3) := by decide +kernel
theorem dX10_tell_28 : decode cX10_tell 28 = .ok (.invokestatic 121, 3) := by decide +kernel
theorem dX10_tell_31 : decode cX10_tell 31 = .ok (.ifCond .eq 15, 3) := by decide +kernel
theorem dX10_tell_34 : decode cX10_tell 34 = .ok (.iload_n 3, 1) := by decide +kernel
theorem dX10_tell_35 : decode cX10_tell 35 = .ok (.i2l, 1) := by decide +kernel
theorem dX10_tell_36 : decode cX10_tell 36 = .ok (.lconst 0, 1) := by decide +kernel
theorem dX10_tell_37 : decode cX10_tell 37 = .ok (.ldc2_w 374, 3) := by decide +kernel
theorem dX10_tell_40 : decode cX10_tell 40 = .ok (.invokestatic 121, 3) := by decide +kernel
theorem dX10_tell_43 : decode cX10_tell 43 = .ok (.ifCond .ne 5, 3) := by decide +kernel
theorem dX10_tell_46 : decode cX10_tell 46 = .ok (.iconst (-1), 1) := by decide +kernel
theorem dX10_tell_47 : decode cX10_tell 47 = .ok (.ireturn, 1) := by decide +kernel
theorem dX10_tell_48 : decode cX10_tell 48 = .ok (.aload_n 0, 1) := by decide +kernel
theorem dX10_tell_49 : decode cX10_tell 49 = .ok (.invokevirtual 357, 3) := by decide +kernel
theorem dX10_tell_52 : decode cX10_tell 52 = .ok (.aload_n 0, 1) := by decide +kernel
theorem dX10_tell_53 : decode cX10_tell 53 = .ok (.getfield 39, 3) := by decide +kernel
theorem dX10_tell_56 : decode cX10_tell 56 = .ok (.sipush 1095, 3) := by decide +kernel
theorem dX10_tell_59 : decode cX10_tell 59 = .ok (.iconst 3, 1) := by decide +kernel
theorem dX10_tell_60 : decode cX10_tell 60 = .ok (.iload_n 1, 1) := by decide +kernel
theorem dX10_tell_61 : decode cX10_tell 61 = .ok (.imul, 1) := by decide +kernel
theorem dX10_tell_62 : decode cX10_tell 62 = .ok (.iadd, 1) := by decide +kernel
theorem dX10_tell_63 : decode cX10_tell 63 = .ok (.iload_n 2, 1) := by decide +kernel
theorem dX10_tell_64 : decode cX10_tell 64 = .ok (.iadd, 1) := by decide +kernel
theorem dX10_tell_65 : decode cX10_tell 65 = .ok (.iload_n 3, 1) := by decide +kernel
theorem dX10_tell_66 : decode cX10_tell 66 = .ok (.iastore, 1) := by decide +kernel
theorem dX10_tell_67 : decode cX10_tell 67 = .ok (.aload_n 0, 1) := by decide +kernel
theorem dX10_tell_68 : decode cX10_tell 68 = .ok (.iload_n 1, 1) := by decide +kernel
theorem dX10_tell_69 : decode cX10_tell 69 = .ok (.invokevirtual 376, 3) := by decide +kernel
theorem dX10_tell_72 : decode cX10_tell 72 = .ok (.ireturn, 1) := by decide +kernel
theorem dX10_recounts_0 : decode cX10_recounts 0 = .ok (.iconst 0, 1) := by decide +kernel
theorem dX10_recounts_1 : decode cX10_recounts 1 = .ok (.istore_n 2, 1) := by decide +kernel
theorem dX10_recounts_2 : decode cX10_recounts 2 = .ok (.iload_n 2, 1) := by decide +kernel
theorem dX10_recounts_3 : decode cX10_recounts 3 = .ok (.iconst 3, 1) := by decide +kernel
theorem dX10_recounts_4 : decode cX10_recounts 4 = .ok (.if_icmp .ge 29, 3) := by decide +kernel
theorem dX10_recounts_7 : decode cX10_recounts 7 = .ok (.aload_n 0, 1) := by decide +kernel
theorem dX10_recounts_8 : decode cX10_recounts 8 = .ok (.getfield 39, 3) := by decide +kernel
theorem dX10_recounts_11 : decode cX10_recounts 11 = .ok (.sipush 1095, 3) := by decide +kernel
theorem dX10_recounts_14 : decode cX10_recounts 14 = .ok (.iconst 3, 1) := by decide +kernel
theorem dX10_recounts_15 : decode cX10_recounts 15 = .ok (.iload_n 1, 1) := by decide +kernel
theorem dX10_recounts_16 : decode cX10_recounts 16 = .ok (.imul, 1) := by decide +kernel
theorem dX10_recounts_17 : decode cX10_recounts 17 = .ok (.iadd, 1) := by decide +kernel
theorem dX10_recounts_18 : decode cX10_recounts 18 = .ok (.iload_n 2, 1) := by decide +kernel
theorem dX10_recounts_19 : decode cX10_recounts 19 = .ok (.iadd, 1) := by decide +kernel
theorem dX10_recounts_20 : decode cX10_recounts 20 = .ok (.aload_n 0, 1) := by decide +kernel
theorem dX10_recounts_21 : decode cX10_recounts 21 = .ok (.iload_n 1, 1) := by decide +kernel
theorem dX10_recounts_22 : decode cX10_recounts 22 = .ok (.iload_n 2, 1) := by decide +kernel
theorem dX10_recounts_23 : decode cX10_recounts 23 = .ok (.invokevirtual 290, 3) := by decide +kernel
theorem dX10_recounts_26 : decode cX10_recounts 26 = .ok (.iastore, 1) := by decide +kernel
theorem dX10_recounts_27 : decode cX10_recounts 27 = .ok (.iinc 2 1, 3) := by decide +kernel
theorem dX10_recounts_30 : decode cX10_recounts 30 = .ok (.goto (-28), 3) := by decide +kernel
theorem dX10_recounts_33 : decode cX10_recounts 33 = .ok (.aload_n 0, 1) := by decide +kernel
theorem dX10_recounts_34 : decode cX10_recounts 34 = .ok (.getfield 39, 3) := by decide +kernel
theorem dX10_recounts_37 : decode cX10_recounts 37 = .ok (.sipush 1110, 3) := by decide +kernel
theorem dX10_recounts_40 : decode cX10_recounts 40 = .ok (.iload_n 1, 1) := by decide +kernel
theorem dX10_recounts_41 : decode cX10_recounts 41 = .ok (.iadd, 1) := by decide +kernel
theorem dX10_recounts_42 : decode cX10_recounts 42 = .ok (.iconst 1, 1) := by decide +kernel
theorem dX10_recounts_43 : decode cX10_recounts 43 = .ok (.iastore, 1) := by decide +kernel
theorem dX10_recounts_44 : decode cX10_recounts 44 = .ok (.return_, 1) := by decide +kernel
theorem dX10_recount_0 : decode cX10_recount 0 = .ok (.aload_n 0, 1) := by decide +kernel
theorem dX10_recount_1 : decode cX10_recount 1 = .ok (.iload_n 1, 1) := by decide +kernel
theorem dX10_recount_2 : decode cX10_recount 2 = .ok (.invokevirtual 307, 3) := by decide +kernel
theorem dX10_recount_5 : decode cX10_recount 5 = .ok (.ifCond .eq 17, 3) := by decide +kernel
theorem dX10_recount_8 : decode cX10_recount 8 = .ok (.aload_n 0, 1) := by decide +kernel
theorem dX10_recount_9 : decode cX10_recount 9 = .ok (.getfield 39, 3) := by decide +kernel
theorem dX10_recount_12 : decode cX10_recount 12 = .ok (.sipush 1110, 3) := by decide +kernel
theorem dX10_recount_15 : decode cX10_recount 15 = .ok (.iload_n 1, 1) := by decide +kernel
theorem dX10_recount_16 : decode cX10_recount 16 = .ok (.iadd, 1) := by decide +kernel
theorem dX10_recount_17 : decode cX10_recount 17 = .ok (.iaload, 1) := by decide +kernel
theorem dX10_recount_18 : decode cX10_recount 18 = .ok (.iconst 1, 1) := by decide +kernel
theorem dX10_recount_19 : decode cX10_recount 19 = .ok (.if_icmp .ne 5, 3) := by decide +kernel
theorem dX10_recount_22 : decode cX10_recount 22 = .ok (.iconst (-1), 1) := by decide +kernel
theorem dX10_recount_23 : decode cX10_recount 23 = .ok (.ireturn, 1) := by decide +kernel
theorem dX10_recount_24 : decode cX10_recount 24 = .ok (.aload_n 0, 1) := by decide +kernel
theorem dX10_recount_25 : decode cX10_recount 25 = .ok (.invokevirtual 357, 3) := by decide +kernel
theorem dX10_recount_28 : decode cX10_recount 28 = .ok (.aload_n 0, 1) := by decide +kernel
theorem dX10_recount_29 : decode cX10_recount 29 = .ok (.iload_n 1, 1) := by decide +kernel
theorem dX10_recount_30 : decode cX10_recount 30 = .ok (.invokevirtual 379, 3) := by decide +kernel
theorem dX10_recount_33 : decode cX10_recount 33 = .ok (.iconst 0, 1) := by decide +kernel
theorem dX10_recount_34 : decode cX10_recount 34 = .ok (.istore_n 2, 1) := by decide +kernel
theorem dX10_recount_35 : decode cX10_recount 35 = .ok (.iconst 0, 1) := by decide +kernel
theorem dX10_recount_36 : decode cX10_recount 36 = .ok (.istore_n 3, 1) := by decide +kernel
theorem dX10_recount_37 : decode cX10_recount 37 = .ok (.iload_n 3, 1) := by decide +kernel
theorem dX10_recount_38 : decode cX10_recount 38 = .ok (.aload_n 0, 1) := by decide +kernel
theorem dX10_recount_39 : decode cX10_recount 39 = .ok (.getfield 39, 3) := by decide +kernel
theorem dX10_recount_42 : decode cX10_recount 42 = .ok (.iconst 2, 1) := by decide +kernel
theorem dX10_recount_43 : decode cX10_recount 43 = .ok (.iaload, 1) := by decide +kernel
theorem dX10_recount_44 : decode cX10_recount 44 = .ok (.if_icmp .ge 22, 3) := by decide +kernel
theorem dX10_recount_47 : decode cX10_recount 47 = .ok (.iload_n 2, 1) := by decide +kernel
theorem dX10_recount_48 : decode cX10_recount 48 = .ok (.aload_n 0, 1) := by decide +kernel
theorem dX10_recount_49 : decode cX10_recount 49 = .ok (.getfield 39, 3) := by decide +kernel
theorem dX10_recount_52 : decode cX10_recount 52 = .ok (.sipush 1110, 3) := by decide +kernel
theorem dX10_recount_55 : decode cX10_recount 55 = .ok (.iload_n 3, 1) := by decide +kernel
theorem dX10_recount_56 : decode cX10_recount 56 = .ok (.iadd, 1) := by decide +kernel
theorem dX10_recount_57 : decode cX10_recount 57 = .ok (.iaload, 1) := by decide +kernel
theorem dX10_recount_58 : decode cX10_recount 58 = .ok (.iadd, 1) := by decide +kernel
theorem dX10_recount_59 : decode cX10_recount 59 = .ok (.istore_n 2, 1) := by decide +kernel
theorem dX10_recount_60 : decode cX10_recount 60 = .ok (.iinc 3 1, 3) := by decide +kernel
theorem dX10_recount_63 : decode cX10_recount 63 = .ok (.goto (-26), 3) := by decide +kernel
theorem dX10_recount_66 : decode cX10_recount 66 = .ok (.iload_n 2, 1) := by decide +kernel
theorem dX10_recount_67 : decode cX10_recount 67 = .ok (.ireturn, 1) := by decide +kernel
theorem dX10_way_0 : decode cX10_way 0 = .ok (.aload_n 0, 1) := by decide +kernel
theorem dX10_way_1 : decode cX10_way 1 = .ok (.iload_n 1, 1) := by decide +kernel
theorem dX10_way_2 : decode cX10_way 2 = .ok (.invokevirtual 284, 3) := by decide +kernel
theorem dX10_way_5 : decode cX10_way 5 = .ok (.ifCond .eq 7, 3) := by decide +kernel
theorem dX10_way_8 : decode cX10_way 8 = .ok (.iload_n 2, 1) := by decide +kernel
theorem dX10_way_9 : decode cX10_way 9 = .ok (.ifCond .ge 5, 3) := by decide +kernel
theorem dX10_way_12 : decode cX10_way 12 = .ok (.iconst (-1), 1) := by decide +kernel
theorem dX10_way_13 : decode cX10_way 13 = .ok (.ireturn, 1) := by decide +kernel
theorem dX10_way_14 : decode cX10_way 14 = .ok (.iload_n 2, 1) := by decide +kernel
theorem dX10_way_15 : decode cX10_way 15 = .ok (.ifCond .ne 14, 3) := by decide +kernel
theorem dX10_way_18 : decode cX10_way 18 = .ok (.aload_n 0, 1) := by decide +kernel
theorem dX10_way_19 : decode cX10_way 19 = .ok (.getfield 39, 3) := by decide +kernel
theorem dX10_way_22 : decode cX10_way 22 = .ok (.sipush 310, 3) := by decide +kernel
theorem dX10_way_25 : decode cX10_way 25 = .ok (.iload_n 1, 1) := by decide +kernel
theorem dX10_way_26 : decode cX10_way 26 = .ok (.iadd, 1) := by decide +kernel
theorem dX10_way_27 : decode cX10_way 27 = .ok (.iaload, 1) := by decide +kernel
theorem dX10_way_28 : decode cX10_way 28 = .ok (.ireturn, 1) := by decide +kernel
theorem dX10_way_29 : decode cX10_way 29 = .ok (.iload_n 2, 1) := by decide +kernel
theorem dX10_way_30 : decode cX10_way 30 = .ok (.aload_n 0, 1) := by decide +kernel
theorem dX10_way_31 : decode cX10_way 31 = .ok (.getfield 39, 3) := by decide +kernel
theorem dX10_way_34 : decode cX10_way 34 = .ok (.sipush 310, 3) := by decide +kernel
theorem dX10_way_37 : decode cX10_way 37 = .ok (.iload_n 1, 1) := by decide +kernel
theorem dX10_way_38 : decode cX10_way 38 = .ok (.iadd, 1) := by decide +kernel
theorem dX10_way_39 : decode cX10_way 39 = .ok (.iaload, 1) := by decide +kernel
theorem dX10_way_40 : decode cX10_way 40 = .ok (.if_icmp .gt 23, 3) := by decide +kernel
theorem dX10_way_43 : decode cX10_way 43 = .ok (.aload_n 0, 1) := by decide +kernel
theorem dX10_way_44 : decode cX10_way 44 = .ok (.getfield 39, 3) := by decide +kernel
theorem dX10_way_47 : decode cX10_way 47 = .ok (.sipush 370, 3) := by decide +kernel
theorem dX10_way_50 : decode cX10_way 50 = .ok (.bipush 12, 2) := by decide +kernel
theorem dX10_way_52 : decode cX10_way 52 = .ok (.iload_n 1, 1) := by decide +kernel
theorem dX10_way_53 : decode cX10_way 53 = .ok (.imul, 1) := by decide +kernel
theorem dX10_way_54 : decode cX10_way 54 = .ok (.iadd, 1) := by decide +kernel
theorem dX10_way_55 : decode cX10_way 55 = .ok (.iload_n 2, 1) := by decide +kernel
theorem dX10_way_56 : decode cX10_way 56 = .ok (.iadd, 1) := by decide +kernel
theorem dX10_way_57 : decode cX10_way 57 = .ok (.iconst 1, 1) := by decide +kernel
theorem dX10_way_58 : decode cX10_way 58 = .ok (.isub, 1) := by decide +kernel
theorem dX10_way_59 : decode cX10_way 59 = .ok (.iaload, 1) := by decide +kernel
theorem dX10_way_60 : decode cX10_way 60 = .ok (.goto 5, 3) := by decide +kernel
theorem dX10_way_63 : decode cX10_way 63 = .ok (.bipush (-2), 2) := by decide +kernel
theorem dX10_way_65 : decode cX10_way 65 = .ok (.ireturn, 1) := by decide +kernel
theorem dX10_balanceOf_0 : decode cX10_balanceOf 0 = .ok (.aload_n 0, 1) := by decide +kernel
theorem dX10_balanceOf_1 : decode cX10_balanceOf 1 = .ok (.iload_n 1, 1) := by decide +kernel
theorem dX10_balanceOf_2 : decode cX10_balanceOf 2 = .ok (.invokevirtual 310, 3) := by decide +kernel
theorem dX10_balanceOf_5 : decode cX10_balanceOf 5 = .ok (.istore_n 2, 1) := by decide +kernel
theorem dX10_balanceOf_6 : decode cX10_balanceOf 6 = .ok (.iconst 0, 1) := by decide +kernel
theorem dX10_balanceOf_7 : decode cX10_balanceOf 7 = .ok (.istore_n 3, 1) := by decide +kernel
theorem dX10_balanceOf_8 : decode cX10_balanceOf 8 = .ok (.iload_n 3, 1) := by decide +kernel
theorem dX10_balanceOf_9 : decode cX10_balanceOf 9 = .ok (.aload_n 0, 1) := by decide +kernel
theorem dX10_balanceOf_10 : decode cX10_balanceOf 10 = .ok (.getfield 39, 3) := by decide +kernel
theorem dX10_balanceOf_13 : decode cX10_balanceOf 13 = .ok (.iconst 2, 1) := by decide +kernel
theorem dX10_balanceOf_14 : decode cX10_balanceOf 14 = .ok (.iaload, 1) := by decide +kernel
theorem dX10_balanceOf_15 : decode cX10_balanceOf 15 = .ok (.if_icmp .ge 41, 3) := by decide +kernel
theorem dX10_balanceOf_18 : decode cX10_balanceOf 18 = .ok (.iload_n 2, 1) := by decide +kernel
theorem dX10_balanceOf_19 : decode cX10_balanceOf 19 = .ok (.aload_n 0, 1) := by decide +kernel
theorem dX10_balanceOf_20 : decode cX10_balanceOf 20 = .ok (.getfield 39, 3) := by decide +kernel
theorem dX10_balanceOf_23 : decode cX10_balanceOf 23 = .ok (.sipush 1115, 3) := by decide +kernel
theorem dX10_balanceOf_26 : decode cX10_balanceOf 26 = .ok (.iconst 5, 1) := by decide +kernel
theorem dX10_balanceOf_27 : decode cX10_balanceOf 27 = .ok (.iload_n 3, 1) := by decide +kernel
theorem dX10_balanceOf_28 : decode cX10_balanceOf 28 = .ok (.imul, 1) := by decide +kernel
theorem dX10_balanceOf_29 : decode cX10_balanceOf 29 = .ok (.iadd, 1) := by decide +kernel
theorem dX10_balanceOf_30 : decode cX10_balanceOf 30 = .ok (.iload_n 1, 1) := by decide +kernel
theorem dX10_balanceOf_31 : decode cX10_balanceOf 31 = .ok (.iadd, 1) := by decide +kernel
theorem dX10_balanceOf_32 : decode cX10_balanceOf 32 = .ok (.iaload, 1) := by decide +kernel
theorem dX10_balanceOf_33 : decode cX10_balanceOf 33 = .ok (.aload_n 0, 1) := by decide +kernel
theorem dX10_balanceOf_34 : decode cX10_balanceOf 34 = .ok (.getfield 39, 3) := by decide +kernel
theorem dX10_balanceOf_37 : decode cX10_balanceOf 37 = .ok (.sipush 1115, 3) := by decide +kernel
theorem dX10_balanceOf_40 : decode cX10_balanceOf 40 = .ok (.iconst 5, 1) := by decide +kernel
theorem dX10_balanceOf_41 : decode cX10_balanceOf 41 = .ok (.iload_n 1, 1) := by decide +kernel
theorem dX10_balanceOf_42 : decode cX10_balanceOf 42 = .ok (.imul, 1) := by decide +kernel
theorem dX10_balanceOf_43 : decode cX10_balanceOf 43 = .ok (.iadd, 1) := by decide +kernel
theorem dX10_balanceOf_44 : decode cX10_balanceOf 44 = .ok (.iload_n 3, 1) := by decide +kernel
theorem dX10_balanceOf_45 : decode cX10_balanceOf 45 = .ok (.iadd, 1) := by decide +kernel
theorem dX10_balanceOf_46 : decode cX10_balanceOf 46 = .ok (.iaload, 1) := by decide +kernel
theorem dX10_balanceOf_47 : decode cX10_balanceOf 47 = .ok (.isub, 1) := by decide +kernel
theorem dX10_balanceOf_48 : decode cX10_balanceOf 48 = .ok (.iadd, 1) := by decide +kernel
theorem dX10_balanceOf_49 : decode cX10_balanceOf 49 = .ok (.istore_n 2, 1) := by decide +kernel
theorem dX10_balanceOf_50 : decode cX10_balanceOf 50 = .ok (.iinc 3 1, 3) := by decide +kernel
theorem dX10_balanceOf_53 : decode cX10_balanceOf 53 = .ok (.goto (-45), 3) := by decide +kernel
theorem dX10_balanceOf_56 : decode cX10_balanceOf 56 = .ok (.iconst 0, 1) := by decide +kernel
theorem dX10_balanceOf_57 : decode cX10_balanceOf 57 = .ok (.istore_n 3, 1) := by decide +kernel
theorem dX10_balanceOf_58 : decode cX10_balanceOf 58 = .ok (.iload_n 3, 1) := by decide +kernel
theorem dX10_balanceOf_59 : decode cX10_balanceOf 59 = .ok (.iconst 3, 1) := by decide +kernel
theorem dX10_balanceOf_60 : decode cX10_balanceOf 60 = .ok (.if_icmp .ge 26, 3) := by decide +kernel
theorem dX10_balanceOf_63 : decode cX10_balanceOf 63 = .ok (.iload_n 2, 1) := by decide +kernel
theorem dX10_balanceOf_64 : decode cX10_balanceOf 64 = .ok (.aload_n 0, 1) := by decide +kernel
theorem dX10_balanceOf_65 : decode cX10_balanceOf 65 = .ok (.getfield 39, 3) := by decide +kernel
theorem dX10_balanceOf_68 : decode cX10_balanceOf 68 = .ok (.sipush 1095, 3) := by decide +kernel
theorem dX10_balanceOf_71 : decode cX10_balanceOf 71 = .ok (.iconst 3, 1) := by decide +kernel
theorem dX10_balanceOf_72 : decode cX10_balanceOf 72 = .ok (.iload_n 1, 1) := by decide +kernel
theorem dX10_balanceOf_73 : decode cX10_balanceOf 73 = .ok (.imul, 1) := by decide +kernel
theorem dX10_balanceOf_74 : decode cX10_balanceOf 74 = .ok (.iadd, 1) := by decide +kernel
theorem dX10_balanceOf_75 : decode cX10_balanceOf 75 = .ok (.iload_n 3, 1) := by decide +kernel
theorem dX10_balanceOf_76 : decode cX10_balanceOf 76 = .ok (.iadd, 1) := by decide +kernel
theorem dX10_balanceOf_77 : decode cX10_balanceOf 77 = .ok (.iaload, 1) := by decide +kernel
theorem dX10_balanceOf_78 : decode cX10_balanceOf 78 = .ok (.isub, 1) := by decide +kernel
theorem dX10_balanceOf_79 : decode cX10_balanceOf 79 = .ok (.istore_n 2, 1) := by decide +kernel
theorem dX10_balanceOf_80 : decode cX10_balanceOf 80 = .ok (.iinc 3 1, 3) := by decide +kernel
theorem dX10_balanceOf_83 : decode cX10_balanceOf 83 = .ok (.goto (-25), 3) := by decide +kernel
theorem dX10_balanceOf_86 : decode cX10_balanceOf 86 = .ok (.iload_n 2, 1) := by decide +kernel
theorem dX10_balanceOf_87 : decode cX10_balanceOf 87 = .ok (.ireturn, 1) := by decide +kernel
theorem dX10_balance_0 : decode cX10_balance 0 = .ok (.aload_n 0, 1) := by decide +kernel
theorem dX10_balance_1 : decode cX10_balance 1 = .ok (.iload_n 1, 1) := by decide +kernel
theorem dX10_balance_2 : decode cX10_balance 2 = .ok (.invokevirtual 307, 3) := by decide +kernel
theorem dX10_balance_5 : decode cX10_balance 5 = .ok (.ifCond .ne 5, 3) := by decide +kernel
theorem dX10_balance_8 : decode cX10_balance 8 = .ok (.iconst (-1), 1) := by decide +kernel
theorem dX10_balance_9 : decode cX10_balance 9 = .ok (.ireturn, 1) := by decide +kernel
theorem dX10_balance_10 : decode cX10_balance 10 = .ok (.aload_n 0, 1) := by decide +kernel
theorem dX10_balance_11 : decode cX10_balance 11 = .ok (.iload_n 1, 1) := by decide +kernel
theorem dX10_balance_12 : decode cX10_balance 12 = .ok (.invokevirtual 376, 3) := by decide +kernel
theorem dX10_balance_15 : decode cX10_balance 15 = .ok (.iconst 3, 1) := by decide +kernel
theorem dX10_balance_16 : decode cX10_balance 16 = .ok (.if_icmp .ge 8, 3) := by decide +kernel
theorem dX10_balance_19 : decode cX10_balance 19 = .ok (.bipush (-2), 2) := by decide +kernel
theorem dX10_balance_21 : decode cX10_balance 21 = .ok (.goto 12, 3) := by decide +kernel
theorem dX10_balance_24 : decode cX10_balance 24 = .ok (.aload_n 0, 1) := by decide +kernel
theorem dX10_balance_25 : decode cX10_balance 25 = .ok (.iload_n 1, 1) := by decide +kernel
theorem dX10_balance_26 : decode cX10_balance 26 = .ok (.invokevirtual 382, 3) := by decide +kernel
theorem dX10_balance_29 : decode cX10_balance 29 = .ok (.sipush 1000, 3) := by decide +kernel
theorem dX10_balance_32 : decode cX10_balance 32 = .ok (.iadd, 1) := by decide +kernel
theorem dX10_balance_33 : decode cX10_balance 33 = .ok (.ireturn, 1) := by decide +kernel
theorem dX10_isAllTold_0 : decode cX10_isAllTold 0 = .ok (.iconst 0, 1) := by decide +kernel
theorem dX10_isAllTold_1 : decode cX10_isAllTold 1 = .ok (.istore_n 2, 1) := by decide +kernel
theorem dX10_isAllTold_2 : decode cX10_isAllTold 2 = .ok (.iload_n 2, 1) := by decide +kernel
theorem dX10_isAllTold_3 : decode cX10_isAllTold 3 = .ok (.aload_n 0, 1) := by decide +kernel
theorem dX10_isAllTold_4 : decode cX10_isAllTold 4 = .ok (.getfield 39, 3) := by decide +kernel
theorem dX10_isAllTold_7 : decode cX10_isAllTold 7 = .ok (.iconst 2, 1) := by decide +kernel
theorem dX10_isAllTold_8 : decode cX10_isAllTold 8 = .ok (.iaload, 1) := by decide +kernel
theorem dX10_isAllTold_9 : decode cX10_isAllTold 9 = .ok (.if_icmp .ge 25, 3) := by decide +kernel
theorem dX10_isAllTold_12 : decode cX10_isAllTold 12 = .ok (.iload_n 2, 1) := by decide +kernel
theorem dX10_isAllTold_13 : decode cX10_isAllTold 13 = .ok (.iload_n 1, 1) := by decide +kernel
theorem dX10_isAllTold_14 : decode cX10_isAllTold 14 = .ok (.if_icmp .eq 14, 3) := by decide +kernel
theorem dX10_isAllTold_17 : decode cX10_isAllTold 17 = .ok (.aload_n 0, 1) := by decide +kernel
theorem dX10_isAllTold_18 : decode cX10_isAllTold 18 = .ok (.iload_n 2, 1) := by decide +kernel
theorem dX10_isAllTold_19 : decode cX10_isAllTold 19 = .ok (.invokevirtual 376, 3) := by decide +kernel
theorem dX10_isAllTold_22 : decode cX10_isAllTold 22 = .ok (.iconst 3, 1) := by decide +kernel
theorem dX10_isAllTold_23 : decode cX10_isAllTold 23 = .ok (.if_icmp .ge 5, 3) := by decide +kernel
theorem dX10_isAllTold_26 : decode cX10_isAllTold 26 = .ok (.iconst 0, 1) := by decide +kernel
theorem dX10_isAllTold_27 : decode cX10_isAllTold 27 = .ok (.ireturn, 1) := by decide +kernel
theorem dX10_isAllTold_28 : decode cX10_isAllTold 28 = .ok (.iinc 2 1, 3) := by decide +kernel
theorem dX10_isAllTold_31 : decode cX10_isAllTold 31 = .ok (.goto (-29), 3) := by decide +kernel
theorem dX10_isAllTold_34 : decode cX10_isAllTold 34 = .ok (.iconst 1, 1) := by decide +kernel
theorem dX10_isAllTold_35 : decode cX10_isAllTold 35 = .ok (.ireturn, 1) := by decide +kernel
theorem dX10_most0_0 : decode cX10_most0 0 = .ok (.iload_n 0, 1) := by decide +kernel
theorem dX10_most0_1 : decode cX10_most0 1 = .ok (.ifCond .le 7, 3) := by decide +kernel
theorem dX10_most0_4 : decode cX10_most0 4 = .ok (.iload_n 0, 1) := by decide +kernel
theorem dX10_most0_5 : decode cX10_most0 5 = .ok (.goto 4, 3) := by decide +kernel
theorem dX10_most0_8 : decode cX10_most0 8 = .ok (.iconst 0, 1) := by decide +kernel
theorem dX10_most0_9 : decode cX10_most0 9 = .ok (.ireturn, 1) := by decide +kernel
theorem dX10_plain_0 : decode cX10_plain 0 = .ok (.iload_n 0, 1) := by decide +kernel
theorem dX10_plain_1 : decode cX10_plain 1 = .ok (.ifCond .ge 8, 3) := by decide +kernel
theorem dX10_plain_4 : decode cX10_plain 4 = .ok (.iload_n 0, 1) := by decide +kernel
theorem dX10_plain_5 : decode cX10_plain 5 = .ok (.ineg, 1) := by decide +kernel
theorem dX10_plain_6 : decode cX10_plain 6 = .ok (.goto 4, 3) := by decide +kernel
theorem dX10_plain_9 : decode cX10_plain 9 = .ok (.iload_n 0, 1) := by decide +kernel
theorem dX10_plain_10 : decode cX10_plain 10 = .ok (.ireturn, 1) := by decide +kernel
theorem dX10_slipsNow_0 : decode cX10_slipsNow 0 = .ok (.iconst 0, 1) := by decide +kernel
theorem dX10_slipsNow_1 : decode cX10_slipsNow 1 = .ok (.istore_n 1, 1) := by decide +kernel
theorem dX10_slipsNow_2 : decode cX10_slipsNow 2 = .ok (.iconst 0, 1) := by decide +kernel
theorem dX10_slipsNow_3 : decode cX10_slipsNow 3 = .ok (.istore_n 2, 1) := by decide +kernel
theorem dX10_slipsNow_4 : decode cX10_slipsNow 4 = .ok (.iconst 0, 1) := by decide +kernel
theorem dX10_slipsNow_5 : decode cX10_slipsNow 5 = .ok (.istore_n 3, 1) := by decide +kernel
theorem dX10_slipsNow_6 : decode cX10_slipsNow 6 = .ok (.iconst 0, 1) := by decide +kernel
theorem dX10_slipsNow_7 : decode cX10_slipsNow 7 = .ok (.istore 4, 2) := by decide +kernel
theorem dX10_slipsNow_9 : decode cX10_slipsNow 9 = .ok (.iconst 0, 1) := by decide +kernel
theorem dX10_slipsNow_10 : decode cX10_slipsNow 10 = .ok (.istore 5, 2) := by decide +kernel
theorem dX10_slipsNow_12 : decode cX10_slipsNow 12 = .ok (.iconst 0, 1) := by decide +kernel
theorem dX10_slipsNow_13 : decode cX10_slipsNow 13 = .ok (.istore 6, 2) := by decide +kernel
theorem dX10_slipsNow_15 : decode cX10_slipsNow 15 = .ok (.iload 6, 2) := by decide +kernel
theorem dX10_slipsNow_17 : decode cX10_slipsNow 17 = .ok (.aload_n 0, 1) := by decide +kernel
theorem dX10_slipsNow_18 : decode cX10_slipsNow 18 = .ok (.getfield 39, 3) := by decide +kernel
theorem dX10_slipsNow_21 : decode cX10_slipsNow 21 = .ok (.iconst 2, 1) := by decide +kernel
theorem dX10_slipsNow_22 : decode cX10_slipsNow 22 = .ok (.iaload, 1) := by decide +kernel
theorem dX10_slipsNow_23 : decode cX10_slipsNow 23 = .ok (.if_icmp .ge 105, 3) := by decide +kernel
theorem dX10_slipsNow_26 : decode cX10_slipsNow 26 = .ok (.aload_n 0, 1) := by decide +kernel
theorem dX10_slipsNow_27 : decode cX10_slipsNow 27 = .ok (.getfield 49, 3) := by decide +kernel
theorem dX10_slipsNow_30 : decode cX10_slipsNow 30 = .ok (.iload 6, 2) := by decide +kernel
theorem dX10_slipsNow_32 : decode cX10_slipsNow 32 = .ok (.iaload, 1) := by decide +kernel
theorem dX10_slipsNow_33 : decode cX10_slipsNow 33 = .ok (.bipush 10, 2) := by decide +kernel
theorem dX10_slipsNow_35 : decode cX10_slipsNow 35 = .ok (.aload_n 0, 1) := by decide +kernel
theorem dX10_slipsNow_36 : decode cX10_slipsNow 36 = .ok (.getfield 52, 3) := by decide +kernel
theorem dX10_slipsNow_39 : decode cX10_slipsNow 39 = .ok (.iload 6, 2) := by decide +kernel
theorem dX10_slipsNow_41 : decode cX10_slipsNow 41 = .ok (.iaload, 1) := by decide +kernel
theorem dX10_slipsNow_42 : decode cX10_slipsNow 42 = .ok (.imul, 1) := by decide +kernel
theorem dX10_slipsNow_43 : decode cX10_slipsNow 43 = .ok (.isub, 1) := by decide +kernel
theorem dX10_slipsNow_44 : decode cX10_slipsNow 44 = .ok (.istore 7, 2) := by decide +kernel
theorem dX10_slipsNow_46 : decode cX10_slipsNow 46 = .ok (.iload 5, 2) := by decide +kernel
theorem dX10_slipsNow_48 : decode cX10_slipsNow 48 = .ok (.aload_n 0, 1) := by decide +kernel
theorem dX10_slipsNow_49 : decode cX10_slipsNow 49 = .ok (.getfield 52, 3) := by decide +kernel
theorem dX10_slipsNow_52 : decode cX10_slipsNow 52 = .ok (.iload 6, 2) := by decide +kernel
theorem dX10_slipsNow_54 : decode cX10_slipsNow 54 = .ok (.iaload, 1) := by decide +kernel
theorem dX10_slipsNow_55 : decode cX10_slipsNow 55 = .ok (.invokestatic 385, 3) := by decide +kernel
theorem dX10_slipsNow_58 : decode cX10_slipsNow 58 = .ok (.iadd, 1) := by decide +kernel
theorem dX10_slipsNow_59 : decode cX10_slipsNow 59 = .ok (.istore 5, 2) := by decide +kernel
theorem dX10_slipsNow_61 : decode cX10_slipsNow 61 = .ok (.aload_n 0, 1) := by decide +kernel
theorem dX10_slipsNow_62 : decode cX10_slipsNow 62 = .ok (.getfield 388, 3) := by decide +kernel
theorem dX10_slipsNow_65 : decode cX10_slipsNow 65 = .ok (.iload 6, 2) := by decide +kernel
theorem dX10_slipsNow_67 : decode cX10_slipsNow 67 = .ok (.invokestatic 391, 3) := by decide +kernel
theorem dX10_slipsNow_70 : decode cX10_slipsNow 70 = .ok (.ifCond .eq 35, 3) := by decide +kernel
theorem dX10_slipsNow_73 : decode cX10_slipsNow 73 = .ok (.iload_n 3, 1) := by decide +kernel
theorem dX10_slipsNow_74 : decode cX10_slipsNow 74 = .ok (.aload_n 0, 1) := by decide +kernel
theorem dX10_slipsNow_75 : decode cX10_slipsNow 75 = .ok (.getfield 49, 3) := by decide +kernel
theorem dX10_slipsNow_78 : decode cX10_slipsNow 78 = .ok (.iload 6, 2) := by decide +kernel
theorem dX10_slipsNow_80 : decode cX10_slipsNow 80 = .ok (.iaload, 1) := by decide +kernel
theorem dX10_slipsNow_81 : decode cX10_slipsNow 81 = .ok (.ineg, 1) := by decide +kernel
theorem dX10_slipsNow_82 : decode cX10_slipsNow 82 = .ok (.invokestatic 394, 3) := by decide +kernel
theorem dX10_slipsNow_85 : decode cX10_slipsNow 85 = .ok (.iadd, 1) := by decide +kernel
theorem dX10_slipsNow_86 : decode cX10_slipsNow 86 = .ok (.istore_n 3, 1) := by decide +kernel
theorem dX10_slipsNow_87 : decode cX10_slipsNow 87 = .ok (.iload 4, 2) := by decide +kernel
theorem dX10_slipsNow_89 : decode cX10_slipsNow 89 = .ok (.aload_n 0, 1) := by decide +kernel
theorem dX10_slipsNow_90 : decode cX10_slipsNow 90 = .ok (.getfield 49, 3) := by decide +kernel
theorem dX10_slipsNow_93 : decode cX10_slipsNow 93 = .ok (.iload 6, 2) := by decide +kernel
theorem dX10_slipsNow_95 : decode cX10_slipsNow 95 = .ok (.iaload, 1) := by decide +kernel
theorem dX10_slipsNow_96 : decode cX10_slipsNow 96 = .ok (.invokestatic 394, 3) := by decide +kernel
theorem dX10_slipsNow_99 : decode cX10_slipsNow 99 = .ok (.iadd, 1) := by decide +kernel
theorem dX10_slipsNow_100 : decode cX10_slipsNow 100 = .ok (.istore 4, 2) := by decide +kernel
theorem dX10_slipsNow_102 : decode cX10_slipsNow 102 = .ok (.goto 20, 3) := by decide +kernel
theorem dX10_slipsNow_105 : decode cX10_slipsNow 105 = .ok (.iload_n 1, 1) := by decide +kernel
theorem dX10_slipsNow_106 : decode cX10_slipsNow 106 = .ok (.iload 7, 2) := by decide +kernel
theorem dX10_slipsNow_108 : decode cX10_slipsNow 108 = .ok (.invokestatic 394, 3) := by decide +kernel
theorem dX10_slipsNow_111 : decode cX10_slipsNow 111 = .ok (.iadd, 1) := by decide +kernel
theorem dX10_slipsNow_112 : decode cX10_slipsNow 112 = .ok (.istore_n 1, 1) := by decide +kernel
theorem dX10_slipsNow_113 : decode cX10_slipsNow 113 = .ok (.iload_n 2, 1) := by decide +kernel
theorem dX10_slipsNow_114 : decode cX10_slipsNow 114 = .ok (.iload 7, 2) := by decide +kernel
theorem dX10_slipsNow_116 : decode cX10_slipsNow 116 = .ok (.ineg, 1) := by decide +kernel
theorem dX10_slipsNow_117 : decode cX10_slipsNow 117 = .ok (.invokestatic 394, 3) := by decide +kernel
theorem dX10_slipsNow_120 : decode cX10_slipsNow 120 = .ok (.iadd, 1) := by decide +kernel
theorem dX10_slipsNow_121 : decode cX10_slipsNow 121 = .ok (.istore_n 2, 1) := by decide +kernel
theorem dX10_slipsNow_122 : decode cX10_slipsNow 122 = .ok (.iinc 6 1, 3) := by decide +kernel
theorem dX10_slipsNow_125 : decode cX10_slipsNow 125 = .ok (.goto (-110), 3) := by decide +kernel
theorem dX10_slipsNow_128 : decode cX10_slipsNow 128 = .ok (.iload_n 3, 1) := by decide +kernel
theorem dX10_slipsNow_129 : decode cX10_slipsNow 129 = .ok (.iload 4, 2) := by decide +kernel
theorem dX10_slipsNow_131 : decode cX10_slipsNow 131 = .ok (.isub, 1) := by decide +kernel
theorem dX10_slipsNow_132 : decode cX10_slipsNow 132 = .ok (.istore 6, 2) := by decide +kernel
theorem dX10_slipsNow_134 : decode cX10_slipsNow 134 = .ok (.aload_n 0, 1) := by decide +kernel
theorem dX10_slipsNow_135 : decode cX10_slipsNow 135 = .ok (.getfield 388, 3) := by decide +kernel
theorem dX10_slipsNow_138 : decode cX10_slipsNow 138 = .ok (.iconst 1, 1) := by decide +kernel
theorem dX10_slipsNow_139 : decode cX10_slipsNow 139 = .ok (.aload_n 0, 1) := by decide +kernel
theorem dX10_slipsNow_140 : decode cX10_slipsNow 140 = .ok (.getfield 39, 3) := by decide +kernel
theorem dX10_slipsNow_143 : decode cX10_slipsNow 143 = .ok (.iconst 2, 1) := by decide +kernel
theorem dX10_slipsNow_144 : decode cX10_slipsNow 144 = .ok (.iaload, 1) := by decide +kernel
theorem dX10_slipsNow_145 : decode cX10_slipsNow 145 = .ok (.ishl, 1) := by decide +kernel
theorem dX10_slipsNow_146 : decode cX10_slipsNow 146 = .ok (.iconst 1, 1) := by decide +kernel
theorem dX10_slipsNow_147 : decode cX10_slipsNow 147 = .ok (.isub, 1) := by decide +kernel
theorem dX10_slipsNow_148 : decode cX10_slipsNow 148 = .ok (.if_icmp .ne 21, 3) := by decide +kernel
theorem dX10_slipsNow_151 : decode cX10_slipsNow 151 = .ok (.aload_n 0, 1) := by decide +kernel
theorem dX10_slipsNow_152 : decode cX10_slipsNow 152 = .ok (.iload_n 3, 1) := by decide +kernel
theorem dX10_slipsNow_153 : decode cX10_slipsNow 153 = .ok (.putfield 397, 3) := by decide +kernel
theorem dX10_slipsNow_156 : decode cX10_slipsNow 156 = .ok (.iload 6, 2) := by decide +kernel
theorem dX10_slipsNow_158 : decode cX10_slipsNow 158 = .ok (.ifCond .ne 7, 3) := by decide +kernel
theorem dX10_slipsNow_161 : decode cX10_slipsNow 161 = .ok (.iload_n 3, 1) := by decide +kernel
theorem dX10_slipsNow_162 : decode cX10_slipsNow 162 = .ok (.goto 6, 3) := by decide +kernel
theorem dX10_slipsNow_165 : decode cX10_slipsNow 165 = .ok (.ldc_w 400, 3) := by decide +kernel
theorem dX10_slipsNow_168 : decode cX10_slipsNow 168 = .ok (.ireturn, 1) := by decide +kernel
theorem dX10_slipsNow_169 : decode cX10_slipsNow 169 = .ok (.iload_n 2, 1) := by decide +kernel
theorem dX10_slipsNow_170 : decode cX10_slipsNow 170 = .ok (.iload_n 1, 1) := by decide +kernel
theorem dX10_slipsNow_171 : decode cX10_slipsNow 171 = .ok (.iload 6, 2) := by decide +kernel
theorem dX10_slipsNow_173 : decode cX10_slipsNow 173 = .ok (.isub, 1) := by decide +kernel
theorem dX10_slipsNow_174 : decode cX10_slipsNow 174 = .ok (.if_icmp .ge 7, 3) := by decide +kernel
theorem dX10_slipsNow_177 : decode cX10_slipsNow 177 = .ok (.iload_n 2, 1) := by decide +kernel
theorem dX10_slipsNow_178 : decode cX10_slipsNow 178 = .ok (.goto 7, 3) := by decide +kernel
theorem dX10_slipsNow_181 : decode cX10_slipsNow 181 = .ok (.iload_n 1, 1) := by decide +kernel
theorem dX10_slipsNow_182 : decode cX10_slipsNow 182 = .ok (.iload 6, 2) := by decide +kernel
theorem dX10_slipsNow_184 : decode cX10_slipsNow 184 = .ok (.isub, 1) := by decide +kernel
theorem dX10_slipsNow_185 : decode cX10_slipsNow 185 = .ok (.istore 7, 2) := by decide +kernel
theorem dX10_slipsNow_187 : decode cX10_slipsNow 187 = .ok (.iload 7, 2) := by decide +kernel
theorem dX10_slipsNow_189 : decode cX10_slipsNow 189 = .ok (.iload 6, 2) := by decide +kernel
theorem dX10_slipsNow_191 : decode cX10_slipsNow 191 = .ok (.ineg, 1) := by decide +kernel
theorem dX10_slipsNow_192 : decode cX10_slipsNow 192 = .ok (.invokestatic 394, 3) := by decide +kernel
theorem dX10_slipsNow_195 : decode cX10_slipsNow 195 = .ok (.if_icmp .ge 11, 3) := by decide +kernel
theorem dX10_slipsNow_198 : decode cX10_slipsNow 198 = .ok (.iload 6, 2) := by decide +kernel
theorem dX10_slipsNow_200 : decode cX10_slipsNow 200 = .ok (.ineg, 1) := by decide +kernel
theorem dX10_slipsNow_201 : decode cX10_slipsNow 201 = .ok (.invokestatic 394, 3) := by decide +kernel
theorem dX10_slipsNow_204 : decode cX10_slipsNow 204 = .ok (.istore 7, 2) := by decide +kernel
theorem dX10_slipsNow_206 : decode cX10_slipsNow 206 = .ok (.aload_n 0, 1) := by decide +kernel
theorem dX10_slipsNow_207 : decode cX10_slipsNow 207 = .ok (.iload_n 3, 1) := by decide +kernel
theorem dX10_slipsNow_208 : decode cX10_slipsNow 208 = .ok (.iload 7, 2) := by decide +kernel
theorem dX10_slipsNow_210 : decode cX10_slipsNow 210 = .ok (.iadd, 1) := by decide +kernel
theorem dX10_slipsNow_211 : decode cX10_slipsNow 211 = .ok (.putfield 397, 3) := by decide +kernel
theorem dX10_slipsNow_214 : decode cX10_slipsNow 214 = .ok (.iload 5, 2) := by decide +kernel
theorem dX10_slipsNow_216 : decode cX10_slipsNow 216 = .ok (.aload_n 0, 1) := by decide +kernel
theorem dX10_slipsNow_217 : decode cX10_slipsNow 217 = .ok (.getfield 397, 3) := by decide +kernel
theorem dX10_slipsNow_220 : decode cX10_slipsNow 220 = .ok (.iadd, 1) := by decide +kernel
theorem dX10_slipsNow_221 : decode cX10_slipsNow 221 = .ok (.iload_n 1, 1) := by decide +kernel
theorem dX10_slipsNow_222 : decode cX10_slipsNow 222 = .ok (.iload 7, 2) := by decide +kernel
theorem dX10_slipsNow_224 : decode cX10_slipsNow 224 = .ok (.isub, 1) := by decide +kernel
theorem dX10_slipsNow_225 : decode cX10_slipsNow 225 = .ok (.iload 6, 2) := by decide +kernel
theorem dX10_slipsNow_227 : decode cX10_slipsNow 227 = .ok (.isub, 1) := by decide +kernel
theorem dX10_slipsNow_228 : decode cX10_slipsNow 228 = .ok (.invokestatic 385, 3) := by decide +kernel
theorem dX10_slipsNow_231 : decode cX10_slipsNow 231 = .ok (.iadd, 1) := by decide +kernel
theorem dX10_slipsNow_232 : decode cX10_slipsNow 232 = .ok (.iload_n 2, 1) := by decide +kernel
theorem dX10_slipsNow_233 : decode cX10_slipsNow 233 = .ok (.iload 7, 2) := by decide +kernel
theorem dX10_slipsNow_235 : decode cX10_slipsNow 235 = .ok (.isub, 1) := by decide +kernel
theorem dX10_slipsNow_236 : decode cX10_slipsNow 236 = .ok (.invokestatic 385, 3) := by decide +kernel
theorem dX10_slipsNow_239 : decode cX10_slipsNow 239 = .ok (.iadd, 1) := by decide +kernel
theorem dX10_slipsNow_240 : decode cX10_slipsNow 240 = .ok (.ireturn, 1) := by decide +kernel
theorem dX10_tensAll_0 : decode cX10_tensAll 0 = .ok (.iconst 0, 1) := by decide +kernel
theorem dX10_tensAll_1 : decode cX10_tensAll 1 = .ok (.istore_n 1, 1) := by decide +kernel
theorem dX10_tensAll_2 : decode cX10_tensAll 2 = .ok (.iconst 0, 1) := by decide +kernel
theorem dX10_tensAll_3 : decode cX10_tensAll 3 = .ok (.istore_n 2, 1) := by decide +kernel
theorem dX10_tensAll_4 : decode cX10_tensAll 4 = .ok (.iload_n 2, 1) := by decide +kernel
theorem dX10_tensAll_5 : decode cX10_tensAll 5 = .ok (.aload_n 0, 1) := by decide +kernel
theorem dX10_tensAll_6 : decode cX10_tensAll 6 = .ok (.getfield 39, 3) := by decide +kernel
theorem dX10_tensAll_9 : decode cX10_tensAll 9 = .ok (.iconst 2, 1) := by decide +kernel
theorem dX10_tensAll_10 : decode cX10_tensAll 10 = .ok (.iaload, 1) := by decide +kernel
theorem dX10_tensAll_11 : decode cX10_tensAll 11 = .ok (.if_icmp .ge 21, 3) := by decide +kernel
theorem dX10_tensAll_14 : decode cX10_tensAll 14 = .ok (.iload_n 1, 1) := by decide +kernel
theorem dX10_tensAll_15 : decode cX10_tensAll 15 = .ok (.aload_n 0, 1) := by decide +kernel
theorem dX10_tensAll_16 : decode cX10_tensAll 16 = .ok (.getfield 52, 3) := by decide +kernel
theorem dX10_tensAll_19 : decode cX10_tensAll 19 = .ok (.iload_n 2, 1) := by decide +kernel
theorem dX10_tensAll_20 : decode cX10_tensAll 20 = .ok (.iaload, 1) := by decide +kernel
theorem dX10_tensAll_21 : decode cX10_tensAll 21 = .ok (.invokestatic 385, 3) := by decide +kernel
theorem dX10_tensAll_24 : decode cX10_tensAll 24 = .ok (.iadd, 1) := by decide +kernel
theorem dX10_tensAll_25 : decode cX10_tensAll 25 = .ok (.istore_n 1, 1) := by decide +kernel
theorem dX10_tensAll_26 : decode cX10_tensAll 26 = .ok (.iinc 2 1, 3) := by decide +kernel
theorem dX10_tensAll_29 : decode cX10_tensAll 29 = .ok (.goto (-25), 3) := by decide +kernel
theorem dX10_tensAll_32 : decode cX10_tensAll 32 = .ok (.iload_n 1, 1) := by decide +kernel
theorem dX10_tensAll_33 : decode cX10_tensAll 33 = .ok (.ireturn, 1) := by decide +kernel
theorem dX10_nextTens_0 : decode cX10_nextTens 0 = .ok (.aload_n 0, 1) := by decide +kernel
theorem dX10_nextTens_1 : decode cX10_nextTens 1 = .ok (.getfield 39, 3) := by decide +kernel
theorem dX10_nextTens_4 : decode cX10_nextTens 4 = .ok (.iconst 2, 1) := by decide +kernel
theorem dX10_nextTens_5 : decode cX10_nextTens 5 = .ok (.iaload, 1) := by decide +kernel
theorem dX10_nextTens_6 : decode cX10_nextTens 6 = .ok (.iconst 1, 1) := by decide +kernel
theorem dX10_nextTens_7 : decode cX10_nextTens 7 = .ok (.isub, 1) := by decide +kernel
theorem dX10_nextTens_8 : decode cX10_nextTens 8 = .ok (.istore_n 1, 1) := by decide +kernel
theorem dX10_nextTens_9 : decode cX10_nextTens 9 = .ok (.iload_n 1, 1) := by decide +kernel
theorem dX10_nextTens_10 : decode cX10_nextTens 10 = .ok (.ifCond .lt 53, 3) := by decide +kernel
theorem dX10_nextTens_13 : decode cX10_nextTens 13 = .ok (.aload_n 0, 1) := by decide +kernel
theorem dX10_nextTens_14 : decode cX10_nextTens 14 = .ok (.getfield 388, 3) := by decide +kernel
theorem dX10_nextTens_17 : decode cX10_nextTens 17 = .ok (.iload_n 1, 1) := by decide +kernel
theorem dX10_nextTens_18 : decode cX10_nextTens 18 = .ok (.invokestatic 391, 3) := by decide +kernel
theorem dX10_nextTens_21 : decode cX10_nextTens 21 = .ok (.ifCond .eq 6, 3) := by decide +kernel
theorem dX10_nextTens_24 : decode cX10_nextTens 24 = .ok (.goto 33, 3) := by decide +kernel
theorem dX10_nextTens_27 : decode cX10_nextTens 27 = .ok (.aload_n 0, 1) := by decide +kernel
theorem dX10_nextTens_28 : decode cX10_nextTens 28 = .ok (.getfield 52, 3) := by decide +kernel
theorem dX10_nextTens_31 : decode cX10_nextTens 31 = .ok (.iload_n 1, 1) := by decide +kernel
theorem dX10_nextTens_32 : decode cX10_nextTens 32 = .ok (.dup2, 1) := by decide +kernel
theorem dX10_nextTens_33 : decode cX10_nextTens 33 = .ok (.iaload, 1) := by decide +kernel
theorem dX10_nextTens_34 : decode cX10_nextTens 34 = .ok (.iconst 1, 1) := by decide +kernel
theorem dX10_nextTens_35 : decode cX10_nextTens 35 = .ok (.iadd, 1) := by decide +kernel
theorem dX10_nextTens_36 : decode cX10_nextTens 36 = .ok (.iastore, 1) := by decide +kernel
theorem dX10_nextTens_37 : decode cX10_nextTens 37 = .ok (.aload_n 0, 1) := by decide +kernel
theorem dX10_nextTens_38 : decode cX10_nextTens 38 = .ok (.getfield 52, 3) := by decide +kernel
theorem dX10_nextTens_41 : decode cX10_nextTens 41 = .ok (.iload_n 1, 1) := by decide +kernel
theorem dX10_nextTens_42 : decode cX10_nextTens 42 = .ok (.iaload, 1) := by decide +kernel
theorem dX10_nextTens_43 : decode cX10_nextTens 43 = .ok (.iconst 3, 1) := by decide +kernel
theorem dX10_nextTens_44 : decode cX10_nextTens 44 = .ok (.if_icmp .gt 5, 3) := by decide +kernel
theorem dX10_nextTens_47 : decode cX10_nextTens 47 = .ok (.iconst 1, 1) := by decide +kernel
theorem dX10_nextTens_48 : decode cX10_nextTens 48 = .ok (.ireturn, 1) := by decide +kernel
theorem dX10_nextTens_49 : decode cX10_nextTens 49 = .ok (.aload_n 0, 1) := by decide +kernel
theorem dX10_nextTens_50 : decode cX10_nextTens 50 = .ok (.getfield 52, 3) := by decide +kernel
theorem dX10_nextTens_53 : decode cX10_nextTens 53 = .ok (.iload_n 1, 1) := by decide +kernel
theorem dX10_nextTens_54 : decode cX10_nextTens 54 = .ok (.bipush (-3), 2) := by decide +kernel
theorem dX10_nextTens_56 : decode cX10_nextTens 56 = .ok (.iastore, 1) := by decide +kernel
theorem dX10_nextTens_57 : decode cX10_nextTens 57 = .ok (.iinc 1 (-1), 3) := by decide +kernel
theorem dX10_nextTens_60 : decode cX10_nextTens 60 = .ok (.goto (-51), 3) := by decide +kernel
theorem dX10_nextTens_63 : decode cX10_nextTens 63 = .ok (.iconst 0, 1) := by decide +kernel
theorem dX10_nextTens_64 : decode cX10_nextTens 64 = .ok (.ireturn, 1) := by decide +kernel
theorem dX10_seeks_0 : decode cX10_seeks 0 = .ok (.aload_n 0, 1) := by decide +kernel
theorem dX10_seeks_1 : decode cX10_seeks 1 = .ok (.iload_n 1, 1) := by decide +kernel
theorem dX10_seeks_2 : decode cX10_seeks 2 = .ok (.putfield 388, 3) := by decide +kernel
theorem dX10_seeks_5 : decode cX10_seeks 5 = .ok (.aload_n 0, 1) := by decide +kernel
theorem dX10_seeks_6 : decode cX10_seeks 6 = .ok (.ldc_w 400, 3) := by decide +kernel
theorem dX10_seeks_9 : decode cX10_seeks 9 = .ok (.putfield 401, 3) := by decide +kernel
theorem dX10_seeks_12 : decode cX10_seeks 12 = .ok (.iconst 0, 1) := by decide +kernel
theorem dX10_seeks_13 : decode cX10_seeks 13 = .ok (.istore_n 2, 1) := by decide +kernel
theorem dX10_seeks_14 : decode cX10_seeks 14 = .ok (.iload_n 2, 1) := by decide +kernel
theorem dX10_seeks_15 : decode cX10_seeks 15 = .ok (.aload_n 0, 1) := by decide +kernel
theorem dX10_seeks_16 : decode cX10_seeks 16 = .ok (.getfield 39, 3) := by decide +kernel
theorem dX10_seeks_19 : decode cX10_seeks 19 = .ok (.iconst 2, 1) := by decide +kernel
theorem dX10_seeks_20 : decode cX10_seeks 20 = .ok (.iaload, 1) := by decide +kernel
theorem dX10_seeks_21 : decode cX10_seeks 21 = .ok (.if_icmp .ge 29, 3) := by decide +kernel
theorem dX10_seeks_24 : decode cX10_seeks 24 = .ok (.aload_n 0, 1) := by decide +kernel
theorem dX10_seeks_25 : decode cX10_seeks 25 = .ok (.getfield 52, 3) := by decide +kernel
theorem dX10_seeks_28 : decode cX10_seeks 28 = .ok (.iload_n 2, 1) := by decide +kernel
theorem dX10_seeks_29 : decode cX10_seeks 29 = .ok (.iload_n 1, 1) := by decide +kernel
theorem dX10_seeks_30 : decode cX10_seeks 30 = .ok (.iload_n 2, 1) := by decide +kernel
theorem dX10_seeks_31 : decode cX10_seeks 31 = .ok (.invokestatic 391, 3) := by decide +kernel
theorem dX10_seeks_34 : decode cX10_seeks 34 = .ok (.ifCond .eq 7, 3) := by decide +kernel
theorem dX10_seeks_37 : decode cX10_seeks 37 = .ok (.iconst 0, 1) := by decide +kernel
theorem dX10_seeks_38 : decode cX10_seeks 38 = .ok (.goto 5, 3) := by decide +kernel
theorem dX10_seeks_41 : decode cX10_seeks 41 = .ok (.bipush (-3), 2) := by decide +kernel
theorem dX10_seeks_43 : decode cX10_seeks 43 = .ok (.iastore, 1) := by decide +kernel
theorem dX10_seeks_44 : decode cX10_seeks 44 = .ok (.iinc 2 1, 3) := by decide +kernel
theorem dX10_seeks_47 : decode cX10_seeks 47 = .ok (.goto (-33), 3) := by decide +kernel
theorem dX10_seeks_50 : decode cX10_seeks 50 = .ok (.iconst 1, 1) := by decide +kernel
theorem dX10_seeks_51 : decode cX10_seeks 51 = .ok (.istore_n 2, 1) := by decide +kernel
theorem dX10_seeks_52 : decode cX10_seeks 52 = .ok (.iload_n 2, 1) := by decide +kernel
theorem dX10_seeks_53 : decode cX10_seeks 53 = .ok (.ifCond .eq 105, 3) := by decide +kernel
theorem dX10_seeks_56 : decode cX10_seeks 56 = .ok (.aload_n 0, 1) := by decide +kernel
theorem dX10_seeks_57 : decode cX10_seeks 57 = .ok (.invokevirtual 404, 3) := by decide +kernel
theorem dX10_seeks_60 : decode cX10_seeks 60 = .ok (.istore_n 3, 1) := by decide +kernel
theorem dX10_seeks_61 : decode cX10_seeks 61 = .ok (.iload_n 3, 1) := by decide +kernel
theorem dX10_seeks_62 : decode cX10_seeks 62 = .ok (.aload_n 0, 1) := by decide +kernel
theorem dX10_seeks_63 : decode cX10_seeks 63 = .ok (.getfield 401, 3) := by decide +kernel
theorem dX10_seeks_66 : decode cX10_seeks 66 = .ok (.if_icmp .lt 29, 3) := by decide +kernel
theorem dX10_seeks_69 : decode cX10_seeks 69 = .ok (.iload_n 3, 1) := by decide +kernel
theorem dX10_seeks_70 : decode cX10_seeks 70 = .ok (.ldc_w 400, 3) := by decide +kernel
theorem dX10_seeks_73 : decode cX10_seeks 73 = .ok (.if_icmp .ge 77, 3) := by decide +kernel
theorem dX10_seeks_76 : decode cX10_seeks 76 = .ok (.iload_n 3, 1) := by decide +kernel
theorem dX10_seeks_77 : decode cX10_seeks 77 = .ok (.aload_n 0, 1) := by decide +kernel
theorem dX10_seeks_78 : decode cX10_seeks 78 = .ok (.getfield 401, 3) := by decide +kernel
theorem dX10_seeks_81 : decode cX10_seeks 81 = .ok (.if_icmp .ne 69, 3) := by decide +kernel
theorem dX10_seeks_84 : decode cX10_seeks 84 = .ok (.aload_n 0, 1) := by decide +kernel
theorem dX10_seeks_85 : decode cX10_seeks 85 = .ok (.invokevirtual 407, 3) := by decide +kernel
theorem dX10_seeks_88 : decode cX10_seeks 88 = .ok (.aload_n 0, 1) := by decide +kernel
theorem dX10_seeks_89 : decode cX10_seeks 89 = .ok (.getfield 410, 3) := by decide +kernel
theorem dX10_seeks_92 : decode cX10_seeks 92 = .ok (.if_icmp .ge 58, 3) := by decide +kernel
theorem dX10_seeks_95 : decode cX10_seeks 95 = .ok (.aload_n 0, 1) := by decide +kernel
theorem dX10_seeks_96 : decode cX10_seeks 96 = .ok (.iload_n 3, 1) := by decide +kernel
theorem dX10_seeks_97 : decode cX10_seeks 97 = .ok (.putfield 401, 3) := by decide +kernel
theorem dX10_seeks_100 : decode cX10_seeks 100 = .ok (.aload_n 0, 1) := by decide +kernel
theorem dX10_seeks_101 : decode cX10_seeks 101 = .ok (.aload_n 0, 1) := by decide +kernel
theorem dX10_seeks_102 : decode cX10_seeks 102 = .ok (.invokevirtual 407, 3) := by decide +kernel
theorem dX10_seeks_105 : decode cX10_seeks 105 = .ok (.putfield 410, 3) := by decide +kernel
theorem dX10_seeks_108 : decode cX10_seeks 108 = .ok (.aload_n 0, 1) := by decide +kernel
theorem dX10_seeks_109 : decode cX10_seeks 109 = .ok (.aload_n 0, 1) := by decide +kernel
theorem dX10_seeks_110 : decode cX10_seeks 110 = .ok (.getfield 397, 3) := by decide +kernel
theorem dX10_seeks_113 : decode cX10_seeks 113 = .ok (.putfield 413, 3) := by decide +kernel
theorem dX10_seeks_116 : decode cX10_seeks 116 = .ok (.iconst 0, 1) := by decide +kernel
theorem dX10_seeks_117 : decode cX10_seeks 117 = .ok (.istore 4, 2) := by decide +kernel
theorem dX10_seeks_119 : decode cX10_seeks 119 = .ok (.iload 4, 2) := by decide +kernel
theorem dX10_seeks_121 : decode cX10_seeks 121 = .ok (.aload_n 0, 1) := by decide +kernel
theorem dX10_seeks_122 : decode cX10_seeks 122 = .ok (.getfield 39, 3) := by decide +kernel
theorem dX10_seeks_125 : decode cX10_seeks 125 = .ok (.iconst 2, 1) := by decide +kernel
theorem dX10_seeks_126 : decode cX10_seeks 126 = .ok (.iaload, 1) := by decide +kernel
theorem dX10_seeks_127 : decode cX10_seeks 127 = .ok (.if_icmp .ge 23, 3) := by decide +kernel
theorem dX10_seeks_130 : decode cX10_seeks 130 = .ok (.aload_n 0, 1) := by decide +kernel
theorem dX10_seeks_131 : decode cX10_seeks 131 = .ok (.getfield 55, 3) := by decide +kernel
theorem dX10_seeks_134 : decode cX10_seeks 134 = .ok (.iload 4, 2) := by decide +kernel
theorem dX10_seeks_136 : decode cX10_seeks 136 = .ok (.aload_n 0, 1) := by decide +kernel
theorem dX10_seeks_137 : decode cX10_seeks 137 = .ok (.getfield 52, 3) := by decide +kernel
theorem dX10_seeks_140 : decode cX10_seeks 140 = .ok (.iload 4, 2) := by decide +kernel
theorem dX10_seeks_142 : decode cX10_seeks 142 = .ok (.iaload, 1) := by decide +kernel
theorem dX10_seeks_143 : decode cX10_seeks 143 = .ok (.iastore, 1) := by decide +kernel
theorem dX10_seeks_144 : decode cX10_seeks 144 = .ok (.iinc 4 1, 3) := by decide +kernel
theorem dX10_seeks_147 : decode cX10_seeks 147 = .ok (.goto (-28), 3) := by decide +kernel
theorem dX10_seeks_150 : decode cX10_seeks 150 = .ok (.aload_n 0, 1) := by decide +kernel
theorem dX10_seeks_151 : decode cX10_seeks 151 = .ok (.invokevirtual 416, 3) := by decide +kernel
theorem dX10_seeks_154 : decode cX10_seeks 154 = .ok (.istore_n 2, 1) := by decide +kernel
theorem dX10_seeks_155 : decode cX10_seeks 155 = .ok (.goto (-103), 3) := by decide +kernel
theorem dX10_seeks_158 : decode cX10_seeks 158 = .ok (.aload_n 0, 1) := by decide +kernel
theorem dX10_seeks_159 : decode cX10_seeks 159 = .ok (.getfield 401, 3) := by decide +kernel
theorem dX10_seeks_162 : decode cX10_seeks 162 = .ok (.ireturn, 1) := by decide +kernel
theorem dX10_recountedOnes_0 : decode cX10_recountedOnes 0 = .ok (.iconst 0, 1) := by decide +kernel
theorem dX10_recountedOnes_1 : decode cX10_recountedOnes 1 = .ok (.istore_n 1, 1) := by decide +kernel
theorem dX10_recountedOnes_2 : decode cX10_recountedOnes 2 = .ok (.iconst 0, 1) := by decide +kernel
theorem dX10_recountedOnes_3 : decode cX10_recountedOnes 3 = .ok (.istore_n 2, 1) := by decide +kernel
theorem dX10_recountedOnes_4 : decode cX10_recountedOnes 4 = .ok (.iload_n 2, 1) := by decide +kernel
theorem dX10_recountedOnes_5 : decode cX10_recountedOnes 5 = .ok (.aload_n 0, 1) := by decide +kernel
theorem dX10_recountedOnes_6 : decode cX10_recountedOnes 6 = .ok (.getfield 39, 3) := by decide +kernel
theorem dX10_recountedOnes_9 : decode cX10_recountedOnes 9 = .ok (.iconst 2, 1) := by decide +kernel
theorem dX10_recountedOnes_10 : decode cX10_recountedOnes 10 = .ok (.iaload, 1) := by decide +kernel
theorem dX10_recountedOnes_11 : decode cX10_recountedOnes 11 = .ok (.if_icmp .ge 33, 3) := by decide +kernel
theorem dX10_recountedOnes_14 : decode cX10_recountedOnes 14 = .ok (.iload_n 1, 1) := by decide +kernel
theorem dX10_recountedOnes_15 : decode cX10_recountedOnes 15 = .ok (.aload_n 0, 1) := by decide +kernel
theorem dX10_recountedOnes_16 : decode cX10_recountedOnes 16 = .ok (.getfield 39, 3) := by decide +kernel
theorem dX10_recountedOnes_19 : decode cX10_recountedOnes 19 = .ok (.sipush 1110, 3) := by decide +kernel
theorem dX10_recountedOnes_22 : decode cX10_recountedOnes 22 = .ok (.iload_n 2, 1) := by decide +kernel
theorem dX10_recountedOnes_23 : decode cX10_recountedOnes 23 = .ok (.iadd, 1) := by decide +kernel
theorem dX10_recountedOnes_24 : decode cX10_recountedOnes 24 = .ok (.iaload, 1) := by decide +kernel
theorem dX10_recountedOnes_25 : decode cX10_recountedOnes 25 = .ok (.iconst 1, 1) := by decide +kernel
theorem dX10_recountedOnes_26 : decode cX10_recountedOnes 26 = .ok (.if_icmp .ne 9, 3) := by decide +kernel
theorem dX10_recountedOnes_29 : decode cX10_recountedOnes 29 = .ok (.iconst 1, 1) := by decide +kernel
theorem dX10_recountedOnes_30 : decode cX10_recountedOnes 30 = .ok (.iload_n 2, 1) := by decide +kernel
theorem dX10_recountedOnes_31 : decode cX10_recountedOnes 31 = .ok (.ishl, 1) := by decide +kernel
theorem dX10_recountedOnes_32 : decode cX10_recountedOnes 32 = .ok (.goto 4, 3) := by decide +kernel
theorem dX10_recountedOnes_35 : decode cX10_recountedOnes 35 = .ok (.iconst 0, 1) := by decide +kernel
theorem dX10_recountedOnes_36 : decode cX10_recountedOnes 36 = .ok (.ior, 1) := by decide +kernel
theorem dX10_recountedOnes_37 : decode cX10_recountedOnes 37 = .ok (.istore_n 1, 1) := by decide +kernel
theorem dX10_recountedOnes_38 : decode cX10_recountedOnes 38 = .ok (.iinc 2 1, 3) := by decide +kernel
theorem dX10_recountedOnes_41 : decode cX10_recountedOnes 41 = .ok (.goto (-37), 3) := by decide +kernel
theorem dX10_recountedOnes_44 : decode cX10_recountedOnes 44 = .ok (.iload_n 1, 1) := by decide +kernel
theorem dX10_recountedOnes_45 : decode cX10_recountedOnes 45 = .ok (.ireturn, 1) := by decide +kernel
theorem dX10_balances_0 : decode cX10_balances 0 = .ok (.iconst 0, 1) := by decide +kernel
theorem dX10_balances_1 : decode cX10_balances 1 = .ok (.istore_n 1, 1) := by decide +kernel
theorem dX10_balances_2 : decode cX10_balances 2 = .ok (.iload_n 1, 1) := by decide +kernel
theorem dX10_balances_3 : decode cX10_balances 3 = .ok (.aload_n 0, 1) := by decide +kernel
theorem dX10_balances_4 : decode cX10_balances 4 = .ok (.getfield 39, 3) := by decide +kernel
theorem dX10_balances_7 : decode cX10_balances 7 = .ok (.iconst 2, 1) := by decide +kernel
theorem dX10_balances_8 : decode cX10_balances 8 = .ok (.iaload, 1) := by decide +kernel
theorem dX10_balances_9 : decode cX10_balances 9 = .ok (.if_icmp .ge 20, 3) := by decide +kernel
theorem dX10_balances_12 : decode cX10_balances 12 = .ok (.aload_n 0, 1) := by decide +kernel
theorem dX10_balances_13 : decode cX10_balances 13 = .ok (.getfield 49, 3) := by decide +kernel
theorem dX10_balances_16 : decode cX10_balances 16 = .ok (.iload_n 1, 1) := by decide +kernel
theorem dX10_balances_17 : decode cX10_balances 17 = .ok (.aload_n 0, 1) := by decide +kernel
theorem dX10_balances_18 : decode cX10_balances 18 = .ok (.iload_n 1, 1) := by decide +kernel
theorem dX10_balances_19 : decode cX10_balances 19 = .ok (.invokevirtual 382, 3) := by decide +kernel
theorem dX10_balances_22 : decode cX10_balances 22 = .ok (.iastore, 1) := by decide +kernel
theorem dX10_balances_23 : decode cX10_balances 23 = .ok (.iinc 1 1, 3) := by decide +kernel
theorem dX10_balances_26 : decode cX10_balances 26 = .ok (.goto (-24), 3) := by decide +kernel
theorem dX10_balances_29 : decode cX10_balances 29 = .ok (.return_, 1) := by decide +kernel
theorem dX10_fewest_0 : decode cX10_fewest 0 = .ok (.aload_n 0, 1) := by decide +kernel
theorem dX10_fewest_1 : decode cX10_fewest 1 = .ok (.invokevirtual 419, 3) := by decide +kernel
theorem dX10_fewest_4 : decode cX10_fewest 4 = .ok (.aload_n 0, 1) := by decide +kernel
theorem dX10_fewest_5 : decode cX10_fewest 5 = .ok (.aload_n 0, 1) := by decide +kernel
theorem dX10_fewest_6 : decode cX10_fewest 6 = .ok (.invokevirtual 422, 3) := by decide +kernel
theorem dX10_fewest_9 : decode cX10_fewest 9 = .ok (.invokevirtual 425, 3) := by decide +kernel
theorem dX10_fewest_12 : decode cX10_fewest 12 = .ok (.ireturn, 1) := by decide +kernel
theorem dX10_slips_0 : decode cX10_slips 0 = .ok (.aload_n 0, 1) := by decide +kernel
theorem dX10_slips_1 : decode cX10_slips 1 = .ok (.getfield 39, 3) := by decide +kernel
theorem dX10_slips_4 : decode cX10_slips 4 = .ok (.iconst 2, 1) := by decide +kernel
theorem dX10_slips_5 : decode cX10_slips 5 = .ok (.iaload, 1) := by decide +kernel
theorem dX10_slips_6 : decode cX10_slips 6 = .ok (.ifCond .eq 21, 3) := by decide +kernel
theorem dX10_slips_9 : decode cX10_slips 9 = .ok (.iload_n 1, 1) := by decide +kernel
theorem dX10_slips_10 : decode cX10_slips 10 = .ok (.i2l, 1) := by decide +kernel
theorem dX10_slips_11 : decode cX10_slips 11 = .ok (.lconst 0, 1) := by decide +kernel
theorem dX10_slips_12 : decode cX10_slips 12 = .ok (.aload_n 0, 1) := by decide +kernel
theorem dX10_slips_13 : decode cX10_slips 13 = .ok (.getfield 39, 3) := by decide +kernel
theorem dX10_slips_16 : decode cX10_slips 16 = .ok (.iconst 2, 1) := by decide +kernel
theorem dX10_slips_17 : decode cX10_slips 17 = .ok (.iaload, 1) := by decide +kernel
theorem dX10_slips_18 : decode cX10_slips 18 = .ok (.iconst 2, 1) := by decide +kernel
theorem dX10_slips_19 : decode cX10_slips 19 = .ok (.iadd, 1) := by decide +kernel
theorem dX10_slips_20 : decode cX10_slips 20 = .ok (.i2l, 1) := by decide +kernel
theorem dX10_slips_21 : decode cX10_slips 21 = .ok (.invokestatic 121, 3) := by decide +kernel
theorem dX10_slips_24 : decode cX10_slips 24 = .ok (.ifCond .ne 6, 3) := by decide +kernel
theorem dX10_slips_27 : decode cX10_slips 27 = .ok (.bipush (-3), 2) := by decide +kernel
theorem dX10_slips_29 : decode cX10_slips 29 = .ok (.ireturn, 1) := by decide +kernel
theorem dX10_slips_30 : decode cX10_slips 30 = .ok (.aload_n 0, 1) := by decide +kernel
theorem dX10_slips_31 : decode cX10_slips 31 = .ok (.iconst (-1), 1) := by decide +kernel
theorem dX10_slips_32 : decode cX10_slips 32 = .ok (.invokevirtual 428, 3) := by decide +kernel
theorem dX10_slips_35 : decode cX10_slips 35 = .ok (.ifCond .eq 13, 3) := by decide +kernel
theorem dX10_slips_38 : decode cX10_slips 38 = .ok (.aload_n 0, 1) := by decide +kernel
theorem dX10_slips_39 : decode cX10_slips 39 = .ok (.invokevirtual 431, 3) := by decide +kernel
theorem dX10_slips_42 : decode cX10_slips 42 = .ok (.ldc_w 400, 3) := by decide +kernel
theorem dX10_slips_45 : decode cX10_slips 45 = .ok (.if_icmp .ne 6, 3) := by decide +kernel
theorem dX10_slips_48 : decode cX10_slips 48 = .ok (.bipush (-2), 2) := by decide +kernel
