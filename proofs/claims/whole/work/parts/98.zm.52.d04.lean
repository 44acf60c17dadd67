theorem dX10_compare_139 : decode cX10_compare 139 = .ok (.iconst 2, 1) := by decide +kernel
theorem dX10_compare_140 : decode cX10_compare 140 = .ok (.goto 12, 3) := by decide +kernel
theorem dX10_compare_143 : decode cX10_compare 143 = .ok (.iload_n 3, 1) := by decide +kernel
theorem dX10_compare_144 : decode cX10_compare 144 = .ok (.ifCond .eq 7, 3) := by decide +kernel
theorem dX10_compare_147 : decode cX10_compare 147 = .ok (.iconst 3, 1) := by decide +kernel
theorem dX10_compare_148 : decode cX10_compare 148 = .ok (.goto 4, 3) := by decide +kernel
theorem dX10_compare_151 : decode cX10_compare 151 = .ok (.iconst 4, 1) := by decide +kernel
theorem dX10_compare_152 : decode cX10_compare 152 = .ok (.istore 4, 2) := by decide +kernel
theorem dX10_compare_154 : decode cX10_compare 154 = .ok (.aload_n 0, 1) := by decide +kernel
theorem dX10_compare_155 : decode cX10_compare 155 = .ok (.invokevirtual 182, 3) := by decide +kernel
theorem dX10_compare_158 : decode cX10_compare 158 = .ok (.ifCond .ne 5, 3) := by decide +kernel
theorem dX10_compare_161 : decode cX10_compare 161 = .ok (.iconst 0, 1) := by decide +kernel
theorem dX10_compare_162 : decode cX10_compare 162 = .ok (.ireturn, 1) := by decide +kernel
theorem dX10_compare_163 : decode cX10_compare 163 = .ok (.aload_n 0, 1) := by decide +kernel
theorem dX10_compare_164 : decode cX10_compare 164 = .ok (.bipush 6, 2) := by decide +kernel
theorem dX10_compare_166 : decode cX10_compare 166 = .ok (.iload 4, 2) := by decide +kernel
theorem dX10_compare_168 : decode cX10_compare 168 = .ok (.iadd, 1) := by decide +kernel
theorem dX10_compare_169 : decode cX10_compare 169 = .ok (.iconst 0, 1) := by decide +kernel
theorem dX10_compare_170 : decode cX10_compare 170 = .ok (.invokevirtual 161, 3) := by decide +kernel
theorem dX10_compare_173 : decode cX10_compare 173 = .ok (.iconst 1, 1) := by decide +kernel
theorem dX10_compare_174 : decode cX10_compare 174 = .ok (.ireturn, 1) := by decide +kernel
theorem dX10_fact_0 : decode cX10_fact 0 = .ok (.iconst 1, 1) := by decide +kernel
theorem dX10_fact_1 : decode cX10_fact 1 = .ok (.istore_n 1, 1) := by decide +kernel
theorem dX10_fact_2 : decode cX10_fact 2 = .ok (.iload_n 1, 1) := by decide +kernel
theorem dX10_fact_3 : decode cX10_fact 3 = .ok (.ifCond .eq 72, 3) := by decide +kernel
theorem dX10_fact_6 : decode cX10_fact 6 = .ok (.iconst 0, 1) := by decide +kernel
theorem dX10_fact_7 : decode cX10_fact 7 = .ok (.istore_n 1, 1) := by decide +kernel
theorem dX10_fact_8 : decode cX10_fact 8 = .ok (.aload_n 0, 1) := by decide +kernel
theorem dX10_fact_9 : decode cX10_fact 9 = .ok (.invokevirtual 96, 3) := by decide +kernel
theorem dX10_fact_12 : decode cX10_fact 12 = .ok (.istore_n 2, 1) := by decide +kernel
theorem dX10_fact_13 : decode cX10_fact 13 = .ok (.aload_n 0, 1) := by decide +kernel
theorem dX10_fact_14 : decode cX10_fact 14 = .ok (.ldc2_w 185, 3) := by decide +kernel
theorem dX10_fact_17 : decode cX10_fact 17 = .ok (.invokevirtual 104, 3) := by decide +kernel
theorem dX10_fact_20 : decode cX10_fact 20 = .ok (.ifCond .eq 23, 3) := by decide +kernel
theorem dX10_fact_23 : decode cX10_fact 23 = .ok (.aload_n 0, 1) := by decide +kernel
theorem dX10_fact_24 : decode cX10_fact 24 = .ok (.bipush 11, 2) := by decide +kernel
theorem dX10_fact_26 : decode cX10_fact 26 = .ok (.invokevirtual 187, 3) := by decide +kernel
theorem dX10_fact_29 : decode cX10_fact 29 = .ok (.ifCond .ne 5, 3) := by decide +kernel
theorem dX10_fact_32 : decode cX10_fact 32 = .ok (.iconst 0, 1) := by decide +kernel
theorem dX10_fact_33 : decode cX10_fact 33 = .ok (.ireturn, 1) := by decide +kernel
theorem dX10_fact_34 : decode cX10_fact 34 = .ok (.aload_n 0, 1) := by decide +kernel
theorem dX10_fact_35 : decode cX10_fact 35 = .ok (.invokevirtual 108, 3) := by decide +kernel
theorem dX10_fact_38 : decode cX10_fact 38 = .ok (.iconst 1, 1) := by decide +kernel
theorem dX10_fact_39 : decode cX10_fact 39 = .ok (.istore_n 1, 1) := by decide +kernel
theorem dX10_fact_40 : decode cX10_fact 40 = .ok (.goto 32, 3) := by decide +kernel
theorem dX10_fact_43 : decode cX10_fact 43 = .ok (.iload_n 2, 1) := by decide +kernel
theorem dX10_fact_44 : decode cX10_fact 44 = .ok (.bipush 91, 2) := by decide +kernel
theorem dX10_fact_46 : decode cX10_fact 46 = .ok (.if_icmp .ne 26, 3) := by decide +kernel
theorem dX10_fact_49 : decode cX10_fact 49 = .ok (.aload_n 0, 1) := by decide +kernel
theorem dX10_fact_50 : decode cX10_fact 50 = .ok (.bipush 91, 2) := by decide +kernel
theorem dX10_fact_52 : decode cX10_fact 52 = .ok (.invokevirtual 187, 3) := by decide +kernel
theorem dX10_fact_55 : decode cX10_fact 55 = .ok (.ifCond .ne 5, 3) := by decide +kernel
theorem dX10_fact_58 : decode cX10_fact 58 = .ok (.iconst 0, 1) := by decide +kernel
theorem dX10_fact_59 : decode cX10_fact 59 = .ok (.ireturn, 1) := by decide +kernel
theorem dX10_fact_60 : decode cX10_fact 60 = .ok (.aload_n 0, 1) := by decide +kernel
theorem dX10_fact_61 : decode cX10_fact 61 = .ok (.dup, 1) := by decide +kernel
theorem dX10_fact_62 : decode cX10_fact 62 = .ok (.getfield 93, 3) := by decide +kernel
theorem dX10_fact_65 : decode cX10_fact 65 = .ok (.iconst 1, 1) := by decide +kernel
theorem dX10_fact_66 : decode cX10_fact 66 = .ok (.iadd, 1) := by decide +kernel
theorem dX10_fact_67 : decode cX10_fact 67 = .ok (.putfield 93, 3) := by decide +kernel
theorem dX10_fact_70 : decode cX10_fact 70 = .ok (.iconst 1, 1) := by decide +kernel
theorem dX10_fact_71 : decode cX10_fact 71 = .ok (.istore_n 1, 1) := by decide +kernel
theorem dX10_fact_72 : decode cX10_fact 72 = .ok (.goto (-70), 3) := by decide +kernel
theorem dX10_fact_75 : decode cX10_fact 75 = .ok (.aload_n 0, 1) := by decide +kernel
theorem dX10_fact_76 : decode cX10_fact 76 = .ok (.invokevirtual 190, 3) := by decide +kernel
theorem dX10_fact_79 : decode cX10_fact 79 = .ok (.ireturn, 1) := by decide +kernel
theorem dX10_isInside_0 : decode cX10_isInside 0 = .ok (.iconst 0, 1) := by decide +kernel
theorem dX10_isInside_1 : decode cX10_isInside 1 = .ok (.istore_n 1, 1) := by decide +kernel
theorem dX10_isInside_2 : decode cX10_isInside 2 = .ok (.iload_n 1, 1) := by decide +kernel
theorem dX10_isInside_3 : decode cX10_isInside 3 = .ok (.aload_n 0, 1) := by decide +kernel
theorem dX10_isInside_4 : decode cX10_isInside 4 = .ok (.getfield 154, 3) := by decide +kernel
theorem dX10_isInside_7 : decode cX10_isInside 7 = .ok (.if_icmp .ge 22, 3) := by decide +kernel
theorem dX10_isInside_10 : decode cX10_isInside 10 = .ok (.aload_n 0, 1) := by decide +kernel
theorem dX10_isInside_11 : decode cX10_isInside 11 = .ok (.getfield 29, 3) := by decide +kernel
theorem dX10_isInside_14 : decode cX10_isInside 14 = .ok (.iload_n 1, 1) := by decide +kernel
theorem dX10_isInside_15 : decode cX10_isInside 15 = .ok (.iaload, 1) := by decide +kernel
theorem dX10_isInside_16 : decode cX10_isInside 16 = .ok (.bipush 91, 2) := by decide +kernel
theorem dX10_isInside_18 : decode cX10_isInside 18 = .ok (.if_icmp .ne 5, 3) := by decide +kernel
theorem dX10_isInside_21 : decode cX10_isInside 21 = .ok (.iconst 1, 1) := by decide +kernel
theorem dX10_isInside_22 : decode cX10_isInside 22 = .ok (.ireturn, 1) := by decide +kernel
theorem dX10_isInside_23 : decode cX10_isInside 23 = .ok (.iinc 1 1, 3) := by decide +kernel
theorem dX10_isInside_26 : decode cX10_isInside 26 = .ok (.goto (-24), 3) := by decide +kernel
theorem dX10_isInside_29 : decode cX10_isInside 29 = .ok (.iconst 0, 1) := by decide +kernel
theorem dX10_isInside_30 : decode cX10_isInside 30 = .ok (.ireturn, 1) := by decide +kernel
theorem dX10_closes_0 : decode cX10_closes 0 = .ok (.aload_n 0, 1) := by decide +kernel
theorem dX10_closes_1 : decode cX10_closes 1 = .ok (.iconst 3, 1) := by decide +kernel
theorem dX10_closes_2 : decode cX10_closes 2 = .ok (.invokevirtual 193, 3) := by decide +kernel
theorem dX10_closes_5 : decode cX10_closes 5 = .ok (.aload_n 0, 1) := by decide +kernel
theorem dX10_closes_6 : decode cX10_closes 6 = .ok (.invokevirtual 96, 3) := by decide +kernel
theorem dX10_closes_9 : decode cX10_closes 9 = .ok (.bipush 93, 2) := by decide +kernel
theorem dX10_closes_11 : decode cX10_closes 11 = .ok (.if_icmp .ne 53, 3) := by decide +kernel
theorem dX10_closes_14 : decode cX10_closes 14 = .ok (.aload_n 0, 1) := by decide +kernel
theorem dX10_closes_15 : decode cX10_closes 15 = .ok (.invokevirtual 196, 3) := by decide +kernel
theorem dX10_closes_18 : decode cX10_closes 18 = .ok (.ifCond .eq 46, 3) := by decide +kernel
theorem dX10_closes_21 : decode cX10_closes 21 = .ok (.aload_n 0, 1) := by decide +kernel
theorem dX10_closes_22 : decode cX10_closes 22 = .ok (.iconst 1, 1) := by decide +kernel
theorem dX10_closes_23 : decode cX10_closes 23 = .ok (.invokevirtual 193, 3) := by decide +kernel
theorem dX10_closes_26 : decode cX10_closes 26 = .ok (.aload_n 0, 1) := by decide +kernel
theorem dX10_closes_27 : decode cX10_closes 27 = .ok (.dup, 1) := by decide +kernel
theorem dX10_closes_28 : decode cX10_closes 28 = .ok (.getfield 154, 3) := by decide +kernel
theorem dX10_closes_31 : decode cX10_closes 31 = .ok (.iconst 1, 1) := by decide +kernel
theorem dX10_closes_32 : decode cX10_closes 32 = .ok (.isub, 1) := by decide +kernel
theorem dX10_closes_33 : decode cX10_closes 33 = .ok (.putfield 154, 3) := by decide +kernel
theorem dX10_closes_36 : decode cX10_closes 36 = .ok (.aload_n 0, 1) := by decide +kernel
theorem dX10_closes_37 : decode cX10_closes 37 = .ok (.dup, 1) := by decide +kernel
theorem dX10_closes_38 : decode cX10_closes 38 = .ok (.getfield 151, 3) := by decide +kernel
theorem dX10_closes_41 : decode cX10_closes 41 = .ok (.iconst 1, 1) := by decide +kernel
theorem dX10_closes_42 : decode cX10_closes 42 = .ok (.isub, 1) := by decide +kernel
theorem dX10_closes_43 : decode cX10_closes 43 = .ok (.putfield 151, 3) := by decide +kernel
theorem dX10_closes_46 : decode cX10_closes 46 = .ok (.aload_n 0, 1) := by decide +kernel
theorem dX10_closes_47 : decode cX10_closes 47 = .ok (.dup, 1) := by decide +kernel
theorem dX10_closes_48 : decode cX10_closes 48 = .ok (.getfield 93, 3) := by decide +kernel
theorem dX10_closes_51 : decode cX10_closes 51 = .ok (.iconst 1, 1) := by decide +kernel
theorem dX10_closes_52 : decode cX10_closes 52 = .ok (.iadd, 1) := by decide +kernel
theorem dX10_closes_53 : decode cX10_closes 53 = .ok (.putfield 93, 3) := by decide +kernel
theorem dX10_closes_56 : decode cX10_closes 56 = .ok (.aload_n 0, 1) := by decide +kernel
theorem dX10_closes_57 : decode cX10_closes 57 = .ok (.iconst 3, 1) := by decide +kernel
theorem dX10_closes_58 : decode cX10_closes 58 = .ok (.invokevirtual 193, 3) := by decide +kernel
theorem dX10_closes_61 : decode cX10_closes 61 = .ok (.goto (-56), 3) := by decide +kernel
theorem dX10_closes_64 : decode cX10_closes 64 = .ok (.return_, 1) := by decide +kernel
theorem dX10_tested_0 : decode cX10_tested 0 = .ok (.aload_n 0, 1) := by decide +kernel
theorem dX10_tested_1 : decode cX10_tested 1 = .ok (.iconst 0, 1) := by decide +kernel
theorem dX10_tested_2 : decode cX10_tested 2 = .ok (.putfield 154, 3) := by decide +kernel
theorem dX10_tested_5 : decode cX10_tested 5 = .ok (.aload_n 0, 1) := by decide +kernel
theorem dX10_tested_6 : decode cX10_tested 6 = .ok (.iconst 0, 1) := by decide +kernel
theorem dX10_tested_7 : decode cX10_tested 7 = .ok (.putfield 151, 3) := by decide +kernel
theorem dX10_tested_10 : decode cX10_tested 10 = .ok (.iconst 1, 1) := by decide +kernel
theorem dX10_tested_11 : decode cX10_tested 11 = .ok (.istore_n 1, 1) := by decide +kernel
theorem dX10_tested_12 : decode cX10_tested 12 = .ok (.iload_n 1, 1) := by decide +kernel
theorem dX10_tested_13 : decode cX10_tested 13 = .ok (.ifCond .eq 99, 3) := by decide +kernel
theorem dX10_tested_16 : decode cX10_tested 16 = .ok (.aload_n 0, 1) := by decide +kernel
theorem dX10_tested_17 : decode cX10_tested 17 = .ok (.invokevirtual 199, 3) := by decide +kernel
theorem dX10_tested_20 : decode cX10_tested 20 = .ok (.ifCond .ne 5, 3) := by decide +kernel
theorem dX10_tested_23 : decode cX10_tested 23 = .ok (.iconst 0, 1) := by decide +kernel
theorem dX10_tested_24 : decode cX10_tested 24 = .ok (.ireturn, 1) := by decide +kernel
theorem dX10_tested_25 : decode cX10_tested 25 = .ok (.aload_n 0, 1) := by decide +kernel
theorem dX10_tested_26 : decode cX10_tested 26 = .ok (.invokevirtual 202, 3) := by decide +kernel
theorem dX10_tested_29 : decode cX10_tested 29 = .ok (.aload_n 0, 1) := by decide +kernel
theorem dX10_tested_30 : decode cX10_tested 30 = .ok (.ldc2_w 205, 3) := by decide +kernel
theorem dX10_tested_33 : decode cX10_tested 33 = .ok (.invokevirtual 104, 3) := by decide +kernel
theorem dX10_tested_36 : decode cX10_tested 36 = .ok (.ifCond .ne 13, 3) := by decide +kernel
theorem dX10_tested_39 : decode cX10_tested 39 = .ok (.aload_n 0, 1) := by decide +kernel
theorem dX10_tested_40 : decode cX10_tested 40 = .ok (.ldc2_w 207, 3) := by decide +kernel
theorem dX10_tested_43 : decode cX10_tested 43 = .ok (.invokevirtual 104, 3) := by decide +kernel
theorem dX10_tested_46 : decode cX10_tested 46 = .ok (.ifCond .eq 7, 3) := by decide +kernel
theorem dX10_tested_49 : decode cX10_tested 49 = .ok (.iconst 1, 1) := by decide +kernel
theorem dX10_tested_50 : decode cX10_tested 50 = .ok (.goto 4, 3) := by decide +kernel
theorem dX10_tested_53 : decode cX10_tested 53 = .ok (.iconst 0, 1) := by decide +kernel
theorem dX10_tested_54 : decode cX10_tested 54 = .ok (.istore_n 1, 1) := by decide +kernel
theorem dX10_tested_55 : decode cX10_tested 55 = .ok (.iload_n 1, 1) := by decide +kernel
theorem dX10_tested_56 : decode cX10_tested 56 = .ok (.ifCond .eq (-44), 3) := by decide +kernel
theorem dX10_tested_59 : decode cX10_tested 59 = .ok (.aload_n 0, 1) := by decide +kernel
theorem dX10_tested_60 : decode cX10_tested 60 = .ok (.ldc2_w 205, 3) := by decide +kernel
theorem dX10_tested_63 : decode cX10_tested 63 = .ok (.invokevirtual 104, 3) := by decide +kernel
theorem dX10_tested_66 : decode cX10_tested 66 = .ok (.ifCond .eq 8, 3) := by decide +kernel
theorem dX10_tested_69 : decode cX10_tested 69 = .ok (.bipush 12, 2) := by decide +kernel
theorem dX10_tested_71 : decode cX10_tested 71 = .ok (.goto 5, 3) := by decide +kernel
theorem dX10_tested_74 : decode cX10_tested 74 = .ok (.bipush 13, 2) := by decide +kernel
theorem dX10_tested_76 : decode cX10_tested 76 = .ok (.istore_n 2, 1) := by decide +kernel
theorem dX10_tested_77 : decode cX10_tested 77 = .ok (.aload_n 0, 1) := by decide +kernel
theorem dX10_tested_78 : decode cX10_tested 78 = .ok (.invokevirtual 108, 3) := by decide +kernel
theorem dX10_tested_81 : decode cX10_tested 81 = .ok (.aload_n 0, 1) := by decide +kernel
theorem dX10_tested_82 : decode cX10_tested 82 = .ok (.iload_n 2, 1) := by decide +kernel
theorem dX10_tested_83 : decode cX10_tested 83 = .ok (.invokestatic 157, 3) := by decide +kernel
theorem dX10_tested_86 : decode cX10_tested 86 = .ok (.invokevirtual 193, 3) := by decide +kernel
theorem dX10_tested_89 : decode cX10_tested 89 = .ok (.aload_n 0, 1) := by decide +kernel
theorem dX10_tested_90 : decode cX10_tested 90 = .ok (.getfield 29, 3) := by decide +kernel
theorem dX10_tested_93 : decode cX10_tested 93 = .ok (.aload_n 0, 1) := by decide +kernel
theorem dX10_tested_94 : decode cX10_tested 94 = .ok (.getfield 154, 3) := by decide +kernel
theorem dX10_tested_97 : decode cX10_tested 97 = .ok (.iload_n 2, 1) := by decide +kernel
theorem dX10_tested_98 : decode cX10_tested 98 = .ok (.iastore, 1) := by decide +kernel
theorem dX10_tested_99 : decode cX10_tested 99 = .ok (.aload_n 0, 1) := by decide +kernel
theorem dX10_tested_100 : decode cX10_tested 100 = .ok (.dup, 1) := by decide +kernel
theorem dX10_tested_101 : decode cX10_tested 101 = .ok (.getfield 154, 3) := by decide +kernel
theorem dX10_tested_104 : decode cX10_tested 104 = .ok (.iconst 1, 1) := by decide +kernel
theorem dX10_tested_105 : decode cX10_tested 105 = .ok (.iadd, 1) := by decide +kernel
theorem dX10_tested_106 : decode cX10_tested 106 = .ok (.putfield 154, 3) := by decide +kernel
theorem dX10_tested_109 : decode cX10_tested 109 = .ok (.goto (-97), 3) := by decide +kernel
theorem dX10_tested_112 : decode cX10_tested 112 = .ok (.aload_n 0, 1) := by decide +kernel
theorem dX10_tested_113 : decode cX10_tested 113 = .ok (.invokevirtual 196, 3) := by decide +kernel
theorem dX10_tested_116 : decode cX10_tested 116 = .ok (.ifCond .eq 18, 3) := by decide +kernel
theorem dX10_tested_119 : decode cX10_tested 119 = .ok (.aload_n 0, 1) := by decide +kernel
theorem dX10_tested_120 : decode cX10_tested 120 = .ok (.invokevirtual 96, 3) := by decide +kernel
theorem dX10_tested_123 : decode cX10_tested 123 = .ok (.pop, 1) := by decide +kernel
theorem dX10_tested_124 : decode cX10_tested 124 = .ok (.aload_n 0, 1) := by decide +kernel
theorem dX10_tested_125 : decode cX10_tested 125 = .ok (.iconst 0, 1) := by decide +kernel
theorem dX10_tested_126 : decode cX10_tested 126 = .ok (.aload_n 0, 1) := by decide +kernel
theorem dX10_tested_127 : decode cX10_tested 127 = .ok (.getfield 93, 3) := by decide +kernel
theorem dX10_tested_130 : decode cX10_tested 130 = .ok (.invokevirtual 114, 3) := by decide +kernel
theorem dX10_tested_133 : decode cX10_tested 133 = .ok (.ireturn, 1) := by decide +kernel
theorem dX10_tested_134 : decode cX10_tested 134 = .ok (.aload_n 0, 1) := by decide +kernel
theorem dX10_tested_135 : decode cX10_tested 135 = .ok (.iconst 1, 1) := by decide +kernel
theorem dX10_tested_136 : decode cX10_tested 136 = .ok (.invokevirtual 193, 3) := by decide +kernel
theorem dX10_tested_139 : decode cX10_tested 139 = .ok (.iconst 1, 1) := by decide +kernel
theorem dX10_tested_140 : decode cX10_tested 140 = .ok (.ireturn, 1) := by decide +kernel
theorem dX10_isServeHere_0 : decode cX10_isServeHere 0 = .ok (.aload_n 0, 1) := by decide +kernel
theorem dX10_isServeHere_1 : decode cX10_isServeHere 1 = .ok (.invokevirtual 108, 3) := by decide +kernel
theorem dX10_isServeHere_4 : decode cX10_isServeHere 4 = .ok (.bipush 48, 2) := by decide +kernel
theorem dX10_isServeHere_6 : decode cX10_isServeHere 6 = .ok (.aload_n 0, 1) := by decide +kernel
theorem dX10_isServeHere_7 : decode cX10_isServeHere 7 = .ok (.getfield 145, 3) := by decide +kernel
theorem dX10_isServeHere_10 : decode cX10_isServeHere 10 = .ok (.imul, 1) := by decide +kernel
theorem dX10_isServeHere_11 : decode cX10_isServeHere 11 = .ok (.iconst 4, 1) := by decide +kernel
theorem dX10_isServeHere_12 : decode cX10_isServeHere 12 = .ok (.aload_n 0, 1) := by decide +kernel
theorem dX10_isServeHere_13 : decode cX10_isServeHere 13 = .ok (.getfield 23, 3) := by decide +kernel
theorem dX10_isServeHere_16 : decode cX10_isServeHere 16 = .ok (.aload_n 0, 1) := by decide +kernel
theorem dX10_isServeHere_17 : decode cX10_isServeHere 17 = .ok (.getfield 145, 3) := by decide +kernel
theorem dX10_isServeHere_20 : decode cX10_isServeHere 20 = .ok (.iaload, 1) := by decide +kernel
theorem dX10_isServeHere_21 : decode cX10_isServeHere 21 = .ok (.imul, 1) := by decide +kernel
theorem dX10_isServeHere_22 : decode cX10_isServeHere 22 = .ok (.iadd, 1) := by decide +kernel
theorem dX10_isServeHere_23 : decode cX10_isServeHere 23 = .ok (.istore_n 1, 1) := by decide +kernel
theorem dX10_isServeHere_24 : decode cX10_isServeHere 24 = .ok (.aload_n 0, 1) := by decide +kernel
theorem dX10_isServeHere_25 : decode cX10_isServeHere 25 = .ok (.getfield 20, 3) := by decide +kernel
theorem dX10_isServeHere_28 : decode cX10_isServeHere 28 = .ok (.iload_n 1, 1) := by decide +kernel
theorem dX10_isServeHere_29 : decode cX10_isServeHere 29 = .ok (.aload_n 0, 1) := by decide +kernel
theorem dX10_isServeHere_30 : decode cX10_isServeHere 30 = .ok (.getfield 17, 3) := by decide +kernel
theorem dX10_isServeHere_33 : decode cX10_isServeHere 33 = .ok (.aload_n 0, 1) := by decide +kernel
theorem dX10_isServeHere_34 : decode cX10_isServeHere 34 = .ok (.getfield 145, 3) := by decide +kernel
theorem dX10_isServeHere_37 : decode cX10_isServeHere 37 = .ok (.iaload, 1) := by decide +kernel
theorem dX10_isServeHere_38 : decode cX10_isServeHere 38 = .ok (.iastore, 1) := by decide +kernel
theorem dX10_isServeHere_39 : decode cX10_isServeHere 39 = .ok (.aload_n 0, 1) := by decide +kernel
theorem dX10_isServeHere_40 : decode cX10_isServeHere 40 = .ok (.invokevirtual 182, 3) := by decide +kernel
theorem dX10_isServeHere_43 : decode cX10_isServeHere 43 = .ok (.ifCond .ne 5, 3) := by decide +kernel
theorem dX10_isServeHere_46 : decode cX10_isServeHere 46 = .ok (.iconst 0, 1) := by decide +kernel
theorem dX10_isServeHere_47 : decode cX10_isServeHere 47 = .ok (.ireturn, 1) := by decide +kernel
theorem dX10_isServeHere_48 : decode cX10_isServeHere 48 = .ok (.aload_n 0, 1) := by decide +kernel
theorem dX10_isServeHere_49 : decode cX10_isServeHere 49 = .ok (.getfield 20, 3) := by decide +kernel
theorem dX10_isServeHere_52 : decode cX10_isServeHere 52 = .ok (.iload_n 1, 1) := by decide +kernel
theorem dX10_isServeHere_53 : decode cX10_isServeHere 53 = .ok (.iconst 1, 1) := by decide +kernel
theorem dX10_isServeHere_54 : decode cX10_isServeHere 54 = .ok (.iadd, 1) := by decide +kernel
theorem dX10_isServeHere_55 : decode cX10_isServeHere 55 = .ok (.aload_n 0, 1) := by decide +kernel
theorem dX10_isServeHere_56 : decode cX10_isServeHere 56 = .ok (.getfield 17, 3) := by decide +kernel
theorem dX10_isServeHere_59 : decode cX10_isServeHere 59 = .ok (.aload_n 0, 1) := by decide +kernel
theorem dX10_isServeHere_60 : decode cX10_isServeHere 60 = .ok (.getfield 145, 3) := by decide +kernel
theorem dX10_isServeHere_63 : decode cX10_isServeHere 63 = .ok (.iaload, 1) := by decide +kernel
theorem dX10_isServeHere_64 : decode cX10_isServeHere 64 = .ok (.iastore, 1) := by decide +kernel
theorem dX10_isServeHere_65 : decode cX10_isServeHere 65 = .ok (.aload_n 0, 1) := by decide +kernel
theorem dX10_isServeHere_66 : decode cX10_isServeHere 66 = .ok (.getfield 20, 3) := by decide +kernel
theorem dX10_isServeHere_69 : decode cX10_isServeHere 69 = .ok (.iload_n 1, 1) := by decide +kernel
theorem dX10_isServeHere_70 : decode cX10_isServeHere 70 = .ok (.iconst 2, 1) := by decide +kernel
theorem dX10_isServeHere_71 : decode cX10_isServeHere 71 = .ok (.iadd, 1) := by decide +kernel
theorem dX10_isServeHere_72 : decode cX10_isServeHere 72 = .ok (.iconst (-1), 1) := by decide +kernel
theorem dX10_isServeHere_73 : decode cX10_isServeHere 73 = .ok (.iastore, 1) := by decide +kernel
theorem dX10_isServeHere_74 : decode cX10_isServeHere 74 = .ok (.aload_n 0, 1) := by decide +kernel
theorem dX10_isServeHere_75 : decode cX10_isServeHere 75 = .ok (.ldc2_w 209, 3) := by decide +kernel
theorem dX10_isServeHere_78 : decode cX10_isServeHere 78 = .ok (.invokevirtual 211, 3) := by decide +kernel
theorem dX10_isServeHere_81 : decode cX10_isServeHere 81 = .ok (.ifCond .eq 29, 3) := by decide +kernel
theorem dX10_isServeHere_84 : decode cX10_isServeHere 84 = .ok (.aload_n 0, 1) := by decide +kernel
theorem dX10_isServeHere_85 : decode cX10_isServeHere 85 = .ok (.getfield 20, 3) := by decide +kernel
theorem dX10_isServeHere_88 : decode cX10_isServeHere 88 = .ok (.iload_n 1, 1) := by decide +kernel
theorem dX10_isServeHere_89 : decode cX10_isServeHere 89 = .ok (.iconst 2, 1) := by decide +kernel
theorem dX10_isServeHere_90 : decode cX10_isServeHere 90 = .ok (.iadd, 1) := by decide +kernel
theorem dX10_isServeHere_91 : decode cX10_isServeHere 91 = .ok (.aload_n 0, 1) := by decide +kernel
theorem dX10_isServeHere_92 : decode cX10_isServeHere 92 = .ok (.getfield 17, 3) := by decide +kernel
theorem dX10_isServeHere_95 : decode cX10_isServeHere 95 = .ok (.aload_n 0, 1) := by decide +kernel
theorem dX10_isServeHere_96 : decode cX10_isServeHere 96 = .ok (.getfield 145, 3) := by decide +kernel
theorem dX10_isServeHere_99 : decode cX10_isServeHere 99 = .ok (.iaload, 1) := by decide +kernel
theorem dX10_isServeHere_100 : decode cX10_isServeHere 100 = .ok (.iastore, 1) := by decide +kernel
theorem dX10_isServeHere_101 : decode cX10_isServeHere 101 = .ok (.aload_n 0, 1) := by decide +kernel
theorem dX10_isServeHere_102 : decode cX10_isServeHere 102 = .ok (.invokevirtual 214, 3) := by decide +kernel
theorem dX10_isServeHere_105 : decode cX10_isServeHere 105 = .ok (.ifCond .ne 5, 3) := by decide +kernel
theorem dX10_isServeHere_108 : decode cX10_isServeHere 108 = .ok (.iconst 0, 1) := by decide +kernel
theorem dX10_isServeHere_109 : decode cX10_isServeHere 109 = .ok (.ireturn, 1) := by decide +kernel
theorem dX10_isServeHere_110 : decode cX10_isServeHere 110 = .ok (.aload_n 0, 1) := by decide +kernel
theorem dX10_isServeHere_111 : decode cX10_isServeHere 111 = .ok (.getfield 20, 3) := by decide +kernel
theorem dX10_isServeHere_114 : decode cX10_isServeHere 114 = .ok (.iload_n 1, 1) := by decide +kernel
theorem dX10_isServeHere_115 : decode cX10_isServeHere 115 = .ok (.iconst 3, 1) := by decide +kernel
theorem dX10_isServeHere_116 : decode cX10_isServeHere 116 = .ok (.iadd, 1) := by decide +kernel
theorem dX10_isServeHere_117 : decode cX10_isServeHere 117 = .ok (.aload_n 0, 1) := by decide +kernel
theorem dX10_isServeHere_118 : decode cX10_isServeHere 118 = .ok (.getfield 17, 3) := by decide +kernel
theorem dX10_isServeHere_121 : decode cX10_isServeHere 121 = .ok (.aload_n 0, 1) := by decide +kernel
theorem dX10_isServeHere_122 : decode cX10_isServeHere 122 = .ok (.getfield 145, 3) := by decide +kernel
theorem dX10_isServeHere_125 : decode cX10_isServeHere 125 = .ok (.iaload, 1) := by decide +kernel
theorem dX10_isServeHere_126 : decode cX10_isServeHere 126 = .ok (.iastore, 1) := by decide +kernel
theorem dX10_isServeHere_127 : decode cX10_isServeHere 127 = .ok (.aload_n 0, 1) := by decide +kernel
theorem dX10_isServeHere_128 : decode cX10_isServeHere 128 = .ok (.getfield 23, 3) := by decide +kernel
theorem dX10_isServeHere_131 : decode cX10_isServeHere 131 = .ok (.aload_n 0, 1) := by decide +kernel
theorem dX10_isServeHere_132 : decode cX10_isServeHere 132 = .ok (.getfield 145, 3) := by decide +kernel
theorem dX10_isServeHere_135 : decode cX10_isServeHere 135 = .ok (.dup2, 1) := by decide +kernel
theorem dX10_isServeHere_136 : decode cX10_isServeHere 136 = .ok (.iaload, 1) := by decide +kernel
theorem dX10_isServeHere_137 : decode cX10_isServeHere 137 = .ok (.iconst 1, 1) := by decide +kernel
theorem dX10_isServeHere_138 : decode cX10_isServeHere 138 = .ok (.iadd, 1) := by decide +kernel
theorem dX10_isServeHere_139 : decode cX10_isServeHere 139 = .ok (.iastore, 1) := by decide +kernel
theorem dX10_isServeHere_140 : decode cX10_isServeHere 140 = .ok (.iconst 1, 1) := by decide +kernel
theorem dX10_isServeHere_141 : decode cX10_isServeHere 141 = .ok (.ireturn, 1) := by decide +kernel
theorem dX10_cellHere_0 : decode cX10_cellHere 0 = .ok (.aload_n 0, 1) := by decide +kernel
theorem dX10_cellHere_1 : decode cX10_cellHere 1 = .ok (.iload_n 2, 1) := by decide +kernel
theorem dX10_cellHere_2 : decode cX10_cellHere 2 = .ok (.iload_n 3, 1) := by decide +kernel
theorem dX10_cellHere_3 : decode cX10_cellHere 3 = .ok (.invokevirtual 166, 3) := by decide +kernel
theorem dX10_cellHere_6 : decode cX10_cellHere 6 = .ok (.ifCond .ne 5, 3) := by decide +kernel
theorem dX10_cellHere_9 : decode cX10_cellHere 9 = .ok (.iconst 0, 1) := by decide +kernel
theorem dX10_cellHere_10 : decode cX10_cellHere 10 = .ok (.ireturn, 1) := by decide +kernel
theorem dX10_cellHere_11 : decode cX10_cellHere 11 = .ok (.aload_n 0, 1) := by decide +kernel
theorem dX10_cellHere_12 : decode cX10_cellHere 12 = .ok (.getfield 26, 3) := by decide +kernel
theorem dX10_cellHere_15 : decode cX10_cellHere 15 = .ok (.iload_n 1, 1) := by decide +kernel
theorem dX10_cellHere_16 : decode cX10_cellHere 16 = .ok (.aload_n 0, 1) := by decide +kernel
theorem dX10_cellHere_17 : decode cX10_cellHere 17 = .ok (.getfield 118, 3) := by decide +kernel
theorem dX10_cellHere_20 : decode cX10_cellHere 20 = .ok (.iastore, 1) := by decide +kernel
theorem dX10_cellHere_21 : decode cX10_cellHere 21 = .ok (.iconst 1, 1) := by decide +kernel
theorem dX10_cellHere_22 : decode cX10_cellHere 22 = .ok (.ireturn, 1) := by decide +kernel
theorem dX10_isPapersHere_0 : decode cX10_isPapersHere 0 = .ok (.aload_n 0, 1) := by decide +kernel
theorem dX10_isPapersHere_1 : decode cX10_isPapersHere 1 = .ok (.getfield 26, 3) := by decide +kernel
theorem dX10_isPapersHere_4 : decode cX10_isPapersHere 4 = .ok (.iconst 0, 1) := by decide +kernel
theorem dX10_isPapersHere_5 : decode cX10_isPapersHere 5 = .ok (.iaload, 1) := by decide +kernel
theorem dX10_isPapersHere_6 : decode cX10_isPapersHere 6 = .ok (.ifCond .le 10, 3) := by decide +kernel
theorem dX10_isPapersHere_9 : decode cX10_isPapersHere 9 = .ok (.aload_n 0, 1) := by decide +kernel
theorem dX10_isPapersHere_10 : decode cX10_isPapersHere 10 = .ok (.iconst 4, 1) := by decide +kernel
theorem dX10_isPapersHere_11 : decode cX10_isPapersHere 11 = .ok (.iload_n 1, 1) := by decide +kernel
theorem dX10_isPapersHere_12 : decode cX10_isPapersHere 12 = .ok (.invokevirtual 114, 3) := by decide +kernel
theorem dX10_isPapersHere_15 : decode cX10_isPapersHere 15 = .ok (.ireturn, 1) := by decide +kernel
theorem dX10_isPapersHere_16 : decode cX10_isPapersHere 16 = .ok (.aload_n 0, 1) := by decide +kernel
theorem dX10_isPapersHere_17 : decode cX10_isPapersHere 17 = .ok (.invokevirtual 108, 3) := by decide +kernel
theorem dX10_isPapersHere_20 : decode cX10_isPapersHere 20 = .ok (.aload_n 0, 1) := by decide +kernel
theorem dX10_isPapersHere_21 : decode cX10_isPapersHere 21 = .ok (.iconst 1, 1) := by decide +kernel
theorem dX10_isPapersHere_22 : decode cX10_isPapersHere 22 = .ok (.iconst 1, 1) := by decide +kernel
theorem dX10_isPapersHere_23 : decode cX10_isPapersHere 23 = .ok (.bipush 60, 2) := by decide +kernel
theorem dX10_isPapersHere_25 : decode cX10_isPapersHere 25 = .ok (.invokevirtual 217, 3) := by decide +kernel
theorem dX10_isPapersHere_28 : decode cX10_isPapersHere 28 = .ok (.ifCond .ne 5, 3) := by decide +kernel
theorem dX10_isPapersHere_31 : decode cX10_isPapersHere 31 = .ok (.iconst 0, 1) := by decide +kernel
theorem dX10_isPapersHere_32 : decode cX10_isPapersHere 32 = .ok (.ireturn, 1) := by decide +kernel
theorem dX10_isPapersHere_33 : decode cX10_isPapersHere 33 = .ok (.iconst 0, 1) := by decide +kernel
theorem dX10_isPapersHere_34 : decode cX10_isPapersHere 34 = .ok (.istore_n 2, 1) := by decide +kernel
theorem dX10_isPapersHere_35 : decode cX10_isPapersHere 35 = .ok (.iload_n 2, 1) := by decide +kernel
theorem dX10_isPapersHere_36 : decode cX10_isPapersHere 36 = .ok (.bipush 60, 2) := by decide +kernel
theorem dX10_isPapersHere_38 : decode cX10_isPapersHere 38 = .ok (.if_icmp .ge 18, 3) := by decide +kernel
theorem dX10_isPapersHere_41 : decode cX10_isPapersHere 41 = .ok (.aload_n 0, 1) := by decide +kernel
theorem dX10_isPapersHere_42 : decode cX10_isPapersHere 42 = .ok (.getfield 26, 3) := by decide +kernel
theorem dX10_isPapersHere_45 : decode cX10_isPapersHere 45 = .ok (.iconst 3, 1) := by decide +kernel
theorem dX10_isPapersHere_46 : decode cX10_isPapersHere 46 = .ok (.iload_n 2, 1) := by decide +kernel
theorem dX10_isPapersHere_47 : decode cX10_isPapersHere 47 = .ok (.iadd, 1) := by decide +kernel
theorem dX10_isPapersHere_48 : decode cX10_isPapersHere 48 = .ok (.iconst (-1), 1) := by decide +kernel
theorem dX10_isPapersHere_49 : decode cX10_isPapersHere 49 = .ok (.iastore, 1) := by decide +kernel
theorem dX10_isPapersHere_50 : decode cX10_isPapersHere 50 = .ok (.iinc 2 1, 3) := by decide +kernel
theorem dX10_isPapersHere_53 : decode cX10_isPapersHere 53 = .ok (.goto (-18), 3) := by decide +kernel
theorem dX10_isPapersHere_56 : decode cX10_isPapersHere 56 = .ok (.aload_n 0, 1) := by decide +kernel
theorem dX10_isPapersHere_57 : decode cX10_isPapersHere 57 = .ok (.getfield 26, 3) := by decide +kernel
theorem dX10_isPapersHere_60 : decode cX10_isPapersHere 60 = .ok (.iconst 0, 1) := by decide +kernel
theorem dX10_isPapersHere_61 : decode cX10_isPapersHere 61 = .ok (.iconst 1, 1) := by decide +kernel
theorem dX10_isPapersHere_62 : decode cX10_isPapersHere 62 = .ok (.iastore, 1) := by decide +kernel
theorem dX10_isPapersHere_63 : decode cX10_isPapersHere 63 = .ok (.iconst 1, 1) := by decide +kernel
theorem dX10_isPapersHere_64 : decode cX10_isPapersHere 64 = .ok (.ireturn, 1) := by decide +kernel
theorem dX10_isFreeTold_0 : decode cX10_isFreeTold 0 = .ok (.iload_n 1, 1) := by decide +kernel
theorem dX10_isFreeTold_1 : decode cX10_isFreeTold 1 = .ok (.istore_n 3, 1) := by decide +kernel
theorem dX10_isFreeTold_2 : decode cX10_isFreeTold 2 = .ok (.iload_n 3, 1) := by decide +kernel
theorem dX10_isFreeTold_3 : decode cX10_isFreeTold 3 = .ok (.iload_n 2, 1) := by decide +kernel
theorem dX10_isFreeTold_4 : decode cX10_isFreeTold 4 = .ok (.if_icmp .gt 22, 3) := by decide +kernel
theorem dX10_isFreeTold_7 : decode cX10_isFreeTold 7 = .ok (.aload_n 0, 1) := by decide +kernel
theorem dX10_isFreeTold_8 : decode cX10_isFreeTold 8 = .ok (.getfield 26, 3) := by decide +kernel
theorem dX10_isFreeTold_11 : decode cX10_isFreeTold 11 = .ok (.iconst 3, 1) := by decide +kernel
theorem dX10_isFreeTold_12 : decode cX10_isFreeTold 12 = .ok (.iload_n 3, 1) := by decide +kernel
theorem dX10_isFreeTold_13 : decode cX10_isFreeTold 13 = .ok (.iadd, 1) := by decide +kernel
theorem dX10_isFreeTold_14 : decode cX10_isFreeTold 14 = .ok (.iaload, 1) := by decide +kernel
theorem dX10_isFreeTold_15 : decode cX10_isFreeTold 15 = .ok (.ifCond .lt 5, 3) := by decide +kernel
theorem dX10_isFreeTold_18 : decode cX10_isFreeTold 18 = .ok (.iconst 0, 1) := by decide +kernel
theorem dX10_isFreeTold_19 : decode cX10_isFreeTold 19 = .ok (.ireturn, 1) := by decide +kernel
theorem dX10_isFreeTold_20 : decode cX10_isFreeTold 20 = .ok (.iinc 3 1, 3) := by decide +kernel
theorem dX10_isFreeTold_23 : decode cX10_isFreeTold 23 = .ok (.goto (-21), 3) := by decide +kernel
theorem dX10_isFreeTold_26 : decode cX10_isFreeTold 26 = .ok (.iconst 1, 1) := by decide +kernel
theorem dX10_isFreeTold_27 : decode cX10_isFreeTold 27 = .ok (.ireturn, 1) := by decide +kernel
theorem dX10_isStationHere_0 : decode cX10_isStationHere 0 = .ok (.aload_n 0, 1) := by decide +kernel
theorem dX10_isStationHere_1 : decode cX10_isStationHere 1 = .ok (.getfield 26, 3) := by decide +kernel
theorem dX10_isStationHere_4 : decode cX10_isStationHere 4 = .ok (.iconst 2, 1) := by decide +kernel
theorem dX10_isStationHere_5 : decode cX10_isStationHere 5 = .ok (.iaload, 1) := by decide +kernel
theorem dX10_isStationHere_6 : decode cX10_isStationHere 6 = .ok (.iconst 5, 1) := by decide +kernel
theorem dX10_isStationHere_7 : decode cX10_isStationHere 7 = .ok (.if_icmp .ne 10, 3) := by decide +kernel
theorem dX10_isStationHere_10 : decode cX10_isStationHere 10 = .ok (.aload_n 0, 1) := by decide +kernel
theorem dX10_isStationHere_11 : decode cX10_isStationHere 11 = .ok (.iconst 4, 1) := by decide +kernel
theorem dX10_isStationHere_12 : decode cX10_isStationHere 12 = .ok (.iload_n 1, 1) := by decide +kernel
theorem dX10_isStationHere_13 : decode cX10_isStationHere 13 = .ok (.invokevirtual 114, 3) := by decide +kernel
theorem dX10_isStationHere_16 : decode cX10_isStationHere 16 = .ok (.ireturn, 1) := by decide +kernel
theorem dX10_isStationHere_17 : decode cX10_isStationHere 17 = .ok (.aload_n 0, 1) := by decide +kernel
theorem dX10_isStationHere_18 : decode cX10_isStationHere 18 = .ok (.invokevirtual 108, 3) := by decide +kernel
theorem dX10_isStationHere_21 : decode cX10_isStationHere 21 = .ok (.aload_n 0, 1) := by decide +kernel
theorem dX10_isStationHere_22 : decode cX10_isStationHere 22 = .ok (.invokevirtual 96, 3) := by decide +kernel
theorem dX10_isStationHere_25 : decode cX10_isStationHere 25 = .ok (.pop, 1) := by decide +kernel
theorem dX10_isStationHere_26 : decode cX10_isStationHere 26 = .ok (.aload_n 0, 1) := by decide +kernel
theorem dX10_isStationHere_27 : decode cX10_isStationHere 27 = .ok (.getfield 93, 3) := by decide +kernel
theorem dX10_isStationHere_30 : decode cX10_isStationHere 30 = .ok (.istore_n 2, 1) := by decide +kernel
theorem dX10_isStationHere_31 : decode cX10_isStationHere 31 = .ok (.aload_n 0, 1) := by decide +kernel
theorem dX10_isStationHere_32 : decode cX10_isStationHere 32 = .ok (.iconst 0, 1) := by decide +kernel
theorem dX10_isStationHere_33 : decode cX10_isStationHere 33 = .ok (.aload_n 0, 1) := by decide +kernel
theorem dX10_isStationHere_34 : decode cX10_isStationHere 34 = .ok (.getfield 26, 3) := by decide +kernel
theorem dX10_isStationHere_37 : decode cX10_isStationHere 37 = .ok (.iconst 1, 1) := by decide +kernel
theorem dX10_isStationHere_38 : decode cX10_isStationHere 38 = .ok (.iaload, 1) := by decide +kernel
theorem dX10_isStationHere_39 : decode cX10_isStationHere 39 = .ok (.iconst 1, 1) := by decide +kernel
theorem dX10_isStationHere_40 : decode cX10_isStationHere 40 = .ok (.isub, 1) := by decide +kernel
theorem dX10_isStationHere_41 : decode cX10_isStationHere 41 = .ok (.invokevirtual 166, 3) := by decide +kernel
theorem dX10_isStationHere_44 : decode cX10_isStationHere 44 = .ok (.ifCond .ne 5, 3) := by decide +kernel
theorem dX10_isStationHere_47 : decode cX10_isStationHere 47 = .ok (.iconst 0, 1) := by decide +kernel
theorem dX10_isStationHere_48 : decode cX10_isStationHere 48 = .ok (.ireturn, 1) := by decide +kernel
theorem dX10_isStationHere_49 : decode cX10_isStationHere 49 = .ok (.aload_n 0, 1) := by decide +kernel
theorem dX10_isStationHere_50 : decode cX10_isStationHere 50 = .ok (.getfield 118, 3) := by decide +kernel
theorem dX10_isStationHere_53 : decode cX10_isStationHere 53 = .ok (.istore_n 3, 1) := by decide +kernel
theorem dX10_isStationHere_54 : decode cX10_isStationHere 54 = .ok (.aload_n 0, 1) := by decide +kernel
theorem dX10_isStationHere_55 : decode cX10_isStationHere 55 = .ok (.iload_n 3, 1) := by decide +kernel
theorem dX10_isStationHere_56 : decode cX10_isStationHere 56 = .ok (.iload_n 3, 1) := by decide +kernel
theorem dX10_isStationHere_57 : decode cX10_isStationHere 57 = .ok (.invokevirtual 221, 3) := by decide +kernel
theorem dX10_isStationHere_60 : decode cX10_isStationHere 60 = .ok (.ifCond .ne 10, 3) := by decide +kernel
theorem dX10_isStationHere_63 : decode cX10_isStationHere 63 = .ok (.aload_n 0, 1) := by decide +kernel
theorem dX10_isStationHere_64 : decode cX10_isStationHere 64 = .ok (.iconst 1, 1) := by decide +kernel
theorem dX10_isStationHere_65 : decode cX10_isStationHere 65 = .ok (.iload_n 2, 1) := by decide +kernel
theorem dX10_isStationHere_66 : decode cX10_isStationHere 66 = .ok (.invokevirtual 114, 3) := by decide +kernel
theorem dX10_isStationHere_69 : decode cX10_isStationHere 69 = .ok (.ireturn, 1) := by decide +kernel
theorem dX10_isStationHere_70 : decode cX10_isStationHere 70 = .ok (.aload_n 0, 1) := by decide +kernel
theorem dX10_isStationHere_71 : decode cX10_isStationHere 71 = .ok (.invokevirtual 96, 3) := by decide +kernel
theorem dX10_isStationHere_74 : decode cX10_isStationHere 74 = .ok (.pop, 1) := by decide +kernel
theorem dX10_isStationHere_75 : decode cX10_isStationHere 75 = .ok (.aload_n 0, 1) := by decide +kernel
theorem dX10_isStationHere_76 : decode cX10_isStationHere 76 = .ok (.getfield 93, 3) := by decide +kernel
theorem dX10_isStationHere_79 : decode cX10_isStationHere 79 = .ok (.istore 4, 2) := by decide +kernel
theorem dX10_isStationHere_81 : decode cX10_isStationHere 81 = .ok (.aload_n 0, 1) := by decide +kernel
theorem dX10_isStationHere_82 : decode cX10_isStationHere 82 = .ok (.iload_n 3, 1) := by decide +kernel
theorem dX10_isStationHere_83 : decode cX10_isStationHere 83 = .ok (.aload_n 0, 1) := by decide +kernel
theorem dX10_isStationHere_84 : decode cX10_isStationHere 84 = .ok (.getfield 26, 3) := by decide +kernel
theorem dX10_isStationHere_87 : decode cX10_isStationHere 87 = .ok (.iconst 1, 1) := by decide +kernel
theorem dX10_isStationHere_88 : decode cX10_isStationHere 88 = .ok (.iaload, 1) := by decide +kernel
theorem dX10_isStationHere_89 : decode cX10_isStationHere 89 = .ok (.iconst 1, 1) := by decide +kernel
theorem dX10_isStationHere_90 : decode cX10_isStationHere 90 = .ok (.isub, 1) := by decide +kernel
theorem dX10_isStationHere_91 : decode cX10_isStationHere 91 = .ok (.invokevirtual 166, 3) := by decide +kernel
theorem dX10_isStationHere_94 : decode cX10_isStationHere 94 = .ok (.ifCond .ne 5, 3) := by decide +kernel
theorem dX10_isStationHere_97 : decode cX10_isStationHere 97 = .ok (.iconst 0, 1) := by decide +kernel
theorem dX10_isStationHere_98 : decode cX10_isStationHere 98 = .ok (.ireturn, 1) := by decide +kernel
theorem dX10_isStationHere_99 : decode cX10_isStationHere 99 = .ok (.aload_n 0, 1) := by decide +kernel
theorem dX10_isStationHere_100 : decode cX10_isStationHere 100 = .ok (.iload_n 3, 1) := by decide +kernel
theorem dX10_isStationHere_101 : decode cX10_isStationHere 101 = .ok (.aload_n 0, 1) := by decide +kernel
theorem dX10_isStationHere_102 : decode cX10_isStationHere 102 = .ok (.getfield 118, 3) := by decide +kernel
theorem dX10_isStationHere_105 : decode cX10_isStationHere 105 = .ok (.invokevirtual 221, 3) := by decide +kernel
theorem dX10_isStationHere_108 : decode cX10_isStationHere 108 = .ok (.ifCond .ne 11, 3) := by decide +kernel
theorem dX10_isStationHere_111 : decode cX10_isStationHere 111 = .ok (.aload_n 0, 1) := by decide +kernel
theorem dX10_isStationHere_112 : decode cX10_isStationHere 112 = .ok (.iconst 1, 1) := by decide +kernel
theorem dX10_isStationHere_113 : decode cX10_isStationHere 113 = .ok (.iload 4, 2) := by decide +kernel
theorem dX10_isStationHere_115 : decode cX10_isStationHere 115 = .ok (.invokevirtual 114, 3) := by decide +kernel
theorem dX10_isStationHere_118 : decode cX10_isStationHere 118 = .ok (.ireturn, 1) := by decide +kernel
theorem dX10_isStationHere_119 : decode cX10_isStationHere 119 = .ok (.iload_n 3, 1) := by decide +kernel
theorem dX10_isStationHere_120 : decode cX10_isStationHere 120 = .ok (.istore 5, 2) := by decide +kernel
theorem dX10_isStationHere_122 : decode cX10_isStationHere 122 = .ok (.iload 5, 2) := by decide +kernel
theorem dX10_isStationHere_124 : decode cX10_isStationHere 124 = .ok (.aload_n 0, 1) := by decide +kernel
theorem dX10_isStationHere_125 : decode cX10_isStationHere 125 = .ok (.getfield 118, 3) := by decide +kernel
theorem dX10_isStationHere_128 : decode cX10_isStationHere 128 = .ok (.if_icmp .gt 24, 3) := by decide +kernel
theorem dX10_isStationHere_131 : decode cX10_isStationHere 131 = .ok (.aload_n 0, 1) := by decide +kernel
theorem dX10_isStationHere_132 : decode cX10_isStationHere 132 = .ok (.getfield 26, 3) := by decide +kernel
theorem dX10_isStationHere_135 : decode cX10_isStationHere 135 = .ok (.iconst 3, 1) := by decide +kernel
theorem dX10_isStationHere_136 : decode cX10_isStationHere 136 = .ok (.iload 5, 2) := by decide +kernel
theorem dX10_isStationHere_138 : decode cX10_isStationHere 138 = .ok (.iadd, 1) := by decide +kernel
theorem dX10_isStationHere_139 : decode cX10_isStationHere 139 = .ok (.aload_n 0, 1) := by decide +kernel
theorem dX10_isStationHere_140 : decode cX10_isStationHere 140 = .ok (.getfield 26, 3) := by decide +kernel
theorem dX10_isStationHere_143 : decode cX10_isStationHere 143 = .ok (.iconst 2, 1) := by decide +kernel
theorem dX10_isStationHere_144 : decode cX10_isStationHere 144 = .ok (.iaload, 1) := by decide +kernel
theorem dX10_isStationHere_145 : decode cX10_isStationHere 145 = .ok (.iastore, 1) := by decide +kernel
theorem dX10_isStationHere_146 : decode cX10_isStationHere 146 = .ok (.iinc 5 1, 3) := by decide +kernel
theorem dX10_isStationHere_149 : decode cX10_isStationHere 149 = .ok (.goto (-27), 3) := by decide +kernel
theorem dX10_isStationHere_152 : decode cX10_isStationHere 152 = .ok (.aload_n 0, 1) := by decide +kernel
theorem dX10_isStationHere_153 : decode cX10_isStationHere 153 = .ok (.getfield 26, 3) := by decide +kernel
theorem dX10_isStationHere_156 : decode cX10_isStationHere 156 = .ok (.iconst 2, 1) := by decide +kernel
theorem dX10_isStationHere_157 : decode cX10_isStationHere 157 = .ok (.dup2, 1) := by decide +kernel
theorem dX10_isStationHere_158 : decode cX10_isStationHere 158 = .ok (.iaload, 1) := by decide +kernel
theorem dX10_isStationHere_159 : decode cX10_isStationHere 159 = .ok (.iconst 1, 1) := by decide +kernel
theorem dX10_isStationHere_160 : decode cX10_isStationHere 160 = .ok (.iadd, 1) := by decide +kernel
theorem dX10_isStationHere_161 : decode cX10_isStationHere 161 = .ok (.iastore, 1) := by decide +kernel
theorem dX10_isStationHere_162 : decode cX10_isStationHere 162 = .ok (.iconst 1, 1) := by decide +kernel
theorem dX10_isStationHere_163 : decode cX10_isStationHere 163 = .ok (.ireturn, 1) := by decide +kernel
theorem dX10_isVotersHere_0 : decode cX10_isVotersHere 0 = .ok (.aload_n 0, 1) := by decide +kernel
theorem dX10_isVotersHere_1 : decode cX10_isVotersHere 1 = .ok (.invokevirtual 108, 3) := by decide +kernel
theorem dX10_isVotersHere_4 : decode cX10_isVotersHere 4 = .ok (.aload_n 0, 1) := by decide +kernel
theorem dX10_isVotersHere_5 : decode cX10_isVotersHere 5 = .ok (.iconst 0, 1) := by decide +kernel
theorem dX10_isVotersHere_6 : decode cX10_isVotersHere 6 = .ok (.aload_n 0, 1) := by decide +kernel
theorem dX10_isVotersHere_7 : decode cX10_isVotersHere 7 = .ok (.getfield 26, 3) := by decide +kernel
theorem dX10_isVotersHere_10 : decode cX10_isVotersHere 10 = .ok (.iconst 2, 1) := by decide +kernel
theorem dX10_isVotersHere_11 : decode cX10_isVotersHere 11 = .ok (.iaload, 1) := by decide +kernel
theorem dX10_isVotersHere_12 : decode cX10_isVotersHere 12 = .ok (.iconst 1, 1) := by decide +kernel
theorem dX10_isVotersHere_13 : decode cX10_isVotersHere 13 = .ok (.isub, 1) := by decide +kernel
theorem dX10_isVotersHere_14 : decode cX10_isVotersHere 14 = .ok (.invokevirtual 166, 3) := by decide +kernel
theorem dX10_isVotersHere_17 : decode cX10_isVotersHere 17 = .ok (.ifCond .ne 5, 3) := by decide +kernel
theorem dX10_isVotersHere_20 : decode cX10_isVotersHere 20 = .ok (.iconst 0, 1) := by decide +kernel
theorem dX10_isVotersHere_21 : decode cX10_isVotersHere 21 = .ok (.ireturn, 1) := by decide +kernel
theorem dX10_isVotersHere_22 : decode cX10_isVotersHere 22 = .ok (.aload_n 0, 1) := by decide +kernel
theorem dX10_isVotersHere_23 : decode cX10_isVotersHere 23 = .ok (.getfield 118, 3) := by decide +kernel
theorem dX10_isVotersHere_26 : decode cX10_isVotersHere 26 = .ok (.istore_n 1, 1) := by decide +kernel
theorem dX10_isVotersHere_27 : decode cX10_isVotersHere 27 = .ok (.aload_n 0, 1) := by decide +kernel
theorem dX10_isVotersHere_28 : decode cX10_isVotersHere 28 = .ok (.bipush 123, 2) := by decide +kernel
theorem dX10_isVotersHere_30 : decode cX10_isVotersHere 30 = .ok (.iload_n 1, 1) := by decide +kernel
theorem dX10_isVotersHere_31 : decode cX10_isVotersHere 31 = .ok (.iadd, 1) := by decide +kernel
theorem dX10_isVotersHere_32 : decode cX10_isVotersHere 32 = .ok (.iconst 0, 1) := by decide +kernel
theorem dX10_isVotersHere_33 : decode cX10_isVotersHere 33 = .ok (.bipush 60, 2) := by decide +kernel
theorem dX10_isVotersHere_35 : decode cX10_isVotersHere 35 = .ok (.invokevirtual 217, 3) := by decide +kernel
theorem dX10_isVotersHere_38 : decode cX10_isVotersHere 38 = .ok (.ireturn, 1) := by decide +kernel
theorem dX10_isSpoiledHere_0 : decode cX10_isSpoiledHere 0 = .ok (.aload_n 0, 1) := by decide +kernel
theorem dX10_isSpoiledHere_1 : decode cX10_isSpoiledHere 1 = .ok (.invokevirtual 108, 3) := by decide +kernel
theorem dX10_isSpoiledHere_4 : decode cX10_isSpoiledHere 4 = .ok (.aload_n 0, 1) := by decide +kernel
theorem dX10_isSpoiledHere_5 : decode cX10_isSpoiledHere 5 = .ok (.invokevirtual 96, 3) := by decide +kernel
theorem dX10_isSpoiledHere_8 : decode cX10_isSpoiledHere 8 = .ok (.pop, 1) := by decide +kernel
theorem dX10_isSpoiledHere_9 : decode cX10_isSpoiledHere 9 = .ok (.aload_n 0, 1) := by decide +kernel
theorem dX10_isSpoiledHere_10 : decode cX10_isSpoiledHere 10 = .ok (.getfield 93, 3) := by decide +kernel
theorem dX10_isSpoiledHere_13 : decode cX10_isSpoiledHere 13 = .ok (.istore_n 1, 1) := by decide +kernel
theorem dX10_isSpoiledHere_14 : decode cX10_isSpoiledHere 14 = .ok (.aload_n 0, 1) := by decide +kernel
theorem dX10_isSpoiledHere_15 : decode cX10_isSpoiledHere 15 = .ok (.iconst 0, 1) := by decide +kernel
theorem dX10_isSpoiledHere_16 : decode cX10_isSpoiledHere 16 = .ok (.aload_n 0, 1) := by decide +kernel
theorem dX10_isSpoiledHere_17 : decode cX10_isSpoiledHere 17 = .ok (.getfield 26, 3) := by decide +kernel
theorem dX10_isSpoiledHere_20 : decode cX10_isSpoiledHere 20 = .ok (.iconst 1, 1) := by decide +kernel
theorem dX10_isSpoiledHere_21 : decode cX10_isSpoiledHere 21 = .ok (.iaload, 1) := by decide +kernel
theorem dX10_isSpoiledHere_22 : decode cX10_isSpoiledHere 22 = .ok (.iconst 1, 1) := by decide +kernel
theorem dX10_isSpoiledHere_23 : decode cX10_isSpoiledHere 23 = .ok (.isub, 1) := by decide +kernel
theorem dX10_isSpoiledHere_24 : decode cX10_isSpoiledHere 24 = .ok (.invokevirtual 166, 3) := by decide +kernel
theorem dX10_isSpoiledHere_27 : decode cX10_isSpoiledHere 27 = .ok (.ifCond .ne 5, 3) := by decide +kernel
theorem dX10_isSpoiledHere_30 : decode cX10_isSpoiledHere 30 = .ok (.iconst 0, 1) := by decide +kernel
theorem dX10_isSpoiledHere_31 : decode cX10_isSpoiledHere 31 = .ok (.ireturn, 1) := by decide +kernel
theorem dX10_isSpoiledHere_32 : decode cX10_isSpoiledHere 32 = .ok (.aload_n 0, 1) := by decide +kernel
theorem dX10_isSpoiledHere_33 : decode cX10_isSpoiledHere 33 = .ok (.getfield 26, 3) := by decide +kernel
theorem dX10_isSpoiledHere_36 : decode cX10_isSpoiledHere 36 = .ok (.iconst 3, 1) := by decide +kernel
theorem dX10_isSpoiledHere_37 : decode cX10_isSpoiledHere 37 = .ok (.aload_n 0, 1) := by decide +kernel
theorem dX10_isSpoiledHere_38 : decode cX10_isSpoiledHere 38 = .ok (.getfield 118, 3) := by decide +kernel
theorem dX10_isSpoiledHere_41 : decode cX10_isSpoiledHere 41 = .ok (.iadd, 1) := by decide +kernel
theorem dX10_isSpoiledHere_42 : decode cX10_isSpoiledHere 42 = .ok (.iaload, 1) := by decide +kernel
theorem dX10_isSpoiledHere_43 : decode cX10_isSpoiledHere 43 = .ok (.ifCond .ge 10, 3) := by decide +kernel
theorem dX10_isSpoiledHere_46 : decode cX10_isSpoiledHere 46 = .ok (.aload_n 0, 1) := by decide +kernel
theorem dX10_isSpoiledHere_47 : decode cX10_isSpoiledHere 47 = .ok (.iconst 1, 1) := by decide +kernel
theorem dX10_isSpoiledHere_48 : decode cX10_isSpoiledHere 48 = .ok (.iload_n 1, 1) := by decide +kernel
theorem dX10_isSpoiledHere_49 : decode cX10_isSpoiledHere 49 = .ok (.invokevirtual 114, 3) := by decide +kernel
theorem dX10_isSpoiledHere_52 : decode cX10_isSpoiledHere 52 = .ok (.ireturn, 1) := by decide +kernel
theorem dX10_isSpoiledHere_53 : decode cX10_isSpoiledHere 53 = .ok (.aload_n 0, 1) := by decide +kernel
theorem dX10_isSpoiledHere_54 : decode cX10_isSpoiledHere 54 = .ok (.getfield 26, 3) := by decide +kernel
theorem dX10_isSpoiledHere_57 : decode cX10_isSpoiledHere 57 = .ok (.bipush 63, 2) := by decide +kernel
theorem dX10_isSpoiledHere_59 : decode cX10_isSpoiledHere 59 = .ok (.aload_n 0, 1) := by decide +kernel
theorem dX10_isSpoiledHere_60 : decode cX10_isSpoiledHere 60 = .ok (.getfield 118, 3) := by decide +kernel
theorem dX10_isSpoiledHere_63 : decode cX10_isSpoiledHere 63 = .ok (.iadd, 1) := by decide +kernel
theorem dX10_isSpoiledHere_64 : decode cX10_isSpoiledHere 64 = .ok (.iconst 1, 1) := by decide +kernel
theorem dX10_isSpoiledHere_65 : decode cX10_isSpoiledHere 65 = .ok (.iastore, 1) := by decide +kernel
theorem dX10_isSpoiledHere_66 : decode cX10_isSpoiledHere 66 = .ok (.iconst 1, 1) := by decide +kernel
theorem dX10_isSpoiledHere_67 : decode cX10_isSpoiledHere 67 = .ok (.ireturn, 1) := by decide +kernel
theorem dX10_electionLineHere_0 : decode cX10_electionLineHere 0 = .ok (.aload_n 0, 1) := by decide +kernel
theorem dX10_electionLineHere_1 : decode cX10_electionLineHere 1 = .ok (.ldc2_w 224, 3) := by decide +kernel
theorem dX10_electionLineHere_4 : decode cX10_electionLineHere 4 = .ok (.invokevirtual 104, 3) := by decide +kernel
theorem dX10_electionLineHere_7 : decode cX10_electionLineHere 7 = .ok (.ifCond .eq 9, 3) := by decide +kernel
theorem dX10_electionLineHere_10 : decode cX10_electionLineHere 10 = .ok (.aload_n 0, 1) := by decide +kernel
theorem dX10_electionLineHere_11 : decode cX10_electionLineHere 11 = .ok (.iload_n 1, 1) := by decide +kernel
theorem dX10_electionLineHere_12 : decode cX10_electionLineHere 12 = .ok (.invokevirtual 226, 3) := by decide +kernel
theorem dX10_electionLineHere_15 : decode cX10_electionLineHere 15 = .ok (.ireturn, 1) := by decide +kernel
theorem dX10_electionLineHere_16 : decode cX10_electionLineHere 16 = .ok (.aload_n 0, 1) := by decide +kernel
theorem dX10_electionLineHere_17 : decode cX10_electionLineHere 17 = .ok (.getfield 26, 3) := by decide +kernel
theorem dX10_electionLineHere_20 : decode cX10_electionLineHere 20 = .ok (.iconst 0, 1) := by decide +kernel
theorem dX10_electionLineHere_21 : decode cX10_electionLineHere 21 = .ok (.iaload, 1) := by decide +kernel
theorem dX10_electionLineHere_22 : decode cX10_electionLineHere 22 = .ok (.ifCond .ne 10, 3) := by decide +kernel
theorem dX10_electionLineHere_25 : decode cX10_electionLineHere 25 = .ok (.aload_n 0, 1) := by decide +kernel
theorem dX10_electionLineHere_26 : decode cX10_electionLineHere 26 = .ok (.iconst 4, 1) := by decide +kernel
theorem dX10_electionLineHere_27 : decode cX10_electionLineHere 27 = .ok (.iload_n 1, 1) := by decide +kernel
theorem dX10_electionLineHere_28 : decode cX10_electionLineHere 28 = .ok (.invokevirtual 114, 3) := by decide +kernel
theorem dX10_electionLineHere_31 : decode cX10_electionLineHere 31 = .ok (.ireturn, 1) := by decide +kernel
theorem dX10_electionLineHere_32 : decode cX10_electionLineHere 32 = .ok (.aload_n 0, 1) := by decide +kernel
theorem dX10_electionLineHere_33 : decode cX10_electionLineHere 33 = .ok (.ldc2_w 125, 3) := by decide +kernel
theorem dX10_electionLineHere_36 : decode cX10_electionLineHere 36 = .ok (.invokevirtual 104, 3) := by decide +kernel
theorem dX10_electionLineHere_39 : decode cX10_electionLineHere 39 = .ok (.ifCond .eq 9, 3) := by decide +kernel
theorem dX10_electionLineHere_42 : decode cX10_electionLineHere 42 = .ok (.aload_n 0, 1) := by decide +kernel
theorem dX10_electionLineHere_43 : decode cX10_electionLineHere 43 = .ok (.iload_n 1, 1) := by decide +kernel
theorem dX10_electionLineHere_44 : decode cX10_electionLineHere 44 = .ok (.invokevirtual 229, 3) := by decide +kernel
theorem dX10_electionLineHere_47 : decode cX10_electionLineHere 47 = .ok (.ireturn, 1) := by decide +kernel
theorem dX10_electionLineHere_48 : decode cX10_electionLineHere 48 = .ok (.aload_n 0, 1) := by decide +kernel
theorem dX10_electionLineHere_49 : decode cX10_electionLineHere 49 = .ok (.ldc2_w 232, 3) := by decide +kernel
theorem dX10_electionLineHere_52 : decode cX10_electionLineHere 52 = .ok (.invokevirtual 104, 3) := by decide +kernel
theorem dX10_electionLineHere_55 : decode cX10_electionLineHere 55 = .ok (.ifCond .eq 10, 3) := by decide +kernel
theorem dX10_electionLineHere_58 : decode cX10_electionLineHere 58 = .ok (.aload_n 0, 1) := by decide +kernel
theorem dX10_electionLineHere_59 : decode cX10_electionLineHere 59 = .ok (.invokevirtual 234, 3) := by decide +kernel
theorem dX10_electionLineHere_62 : decode cX10_electionLineHere 62 = .ok (.goto 7, 3) := by decide +kernel
theorem dX10_electionLineHere_65 : decode cX10_electionLineHere 65 = .ok (.aload_n 0, 1) := by decide +kernel
theorem dX10_electionLineHere_66 : decode cX10_electionLineHere 66 = .ok (.invokevirtual 237, 3) := by decide +kernel
theorem dX10_electionLineHere_69 : decode cX10_electionLineHere 69 = .ok (.ireturn, 1) := by decide +kernel
theorem dX10_isElectionWord_0 : decode cX10_isElectionWord 0 = .ok (.aload_n 0, 1) := by decide +kernel
theorem dX10_isElectionWord_1 : decode cX10_isElectionWord 1 = .ok (.ldc2_w 224, 3) := by decide +kernel
theorem dX10_isElectionWord_4 : decode cX10_isElectionWord 4 = .ok (.invokevirtual 104, 3) := by decide +kernel
theorem dX10_isElectionWord_7 : decode cX10_isElectionWord 7 = .ok (.ifCond .ne 33, 3) := by decide +kernel
theorem dX10_isElectionWord_10 : decode cX10_isElectionWord 10 = .ok (.aload_n 0, 1) := by decide +kernel
theorem dX10_isElectionWord_11 : decode cX10_isElectionWord 11 = .ok (.ldc2_w 125, 3) := by decide +kernel
theorem dX10_isElectionWord_14 : decode cX10_isElectionWord 14 = .ok (.invokevirtual 104, 3) := by decide +kernel
theorem dX10_isElectionWord_17 : decode cX10_isElectionWord 17 = .ok (.ifCond .ne 23, 3) := by decide +kernel
theorem dX10_isElectionWord_20 : decode cX10_isElectionWord 20 = .ok (.aload_n 0, 1) := by decide +kernel
theorem dX10_isElectionWord_21 : decode cX10_isElectionWord 21 = .ok (.ldc2_w 232, 3) := by decide +kernel
theorem dX10_isElectionWord_24 : decode cX10_isElectionWord 24 = .ok (.invokevirtual 104, 3) := by decide +kernel
theorem dX10_isElectionWord_27 : decode cX10_isElectionWord 27 = .ok (.ifCond .ne 13, 3) := by decide +kernel
theorem dX10_isElectionWord_30 : decode cX10_isElectionWord 30 = .ok (.aload_n 0, 1) := by decide +kernel
theorem dX10_isElectionWord_31 : decode cX10_isElectionWord 31 = .ok (.ldc2_w 133, 3) := by decide +kernel
theorem dX10_isElectionWord_34 : decode cX10_isElectionWord 34 = .ok (.invokevirtual 104, 3) := by decide +kernel
theorem dX10_isElectionWord_37 : decode cX10_isElectionWord 37 = .ok (.ifCond .eq 7, 3) := by decide +kernel
theorem dX10_isElectionWord_40 : decode cX10_isElectionWord 40 = .ok (.iconst 1, 1) := by decide +kernel
theorem dX10_isElectionWord_41 : decode cX10_isElectionWord 41 = .ok (.goto 4, 3) := by decide +kernel
theorem dX10_isElectionWord_44 : decode cX10_isElectionWord 44 = .ok (.iconst 0, 1) := by decide +kernel
theorem dX10_isElectionWord_45 : decode cX10_isElectionWord 45 = .ok (.ireturn, 1) := by decide +kernel
theorem dX10_clauseHere_0 : decode cX10_clauseHere 0 = .ok (.aload_n 0, 1) := by decide +kernel
theorem dX10_clauseHere_1 : decode cX10_clauseHere 1 = .ok (.invokevirtual 96, 3) := by decide +kernel
theorem dX10_clauseHere_4 : decode cX10_clauseHere 4 = .ok (.pop, 1) := by decide +kernel
theorem dX10_clauseHere_5 : decode cX10_clauseHere 5 = .ok (.aload_n 0, 1) := by decide +kernel
theorem dX10_clauseHere_6 : decode cX10_clauseHere 6 = .ok (.getfield 93, 3) := by decide +kernel
theorem dX10_clauseHere_9 : decode cX10_clauseHere 9 = .ok (.istore_n 1, 1) := by decide +kernel
theorem dX10_clauseHere_10 : decode cX10_clauseHere 10 = .ok (.aload_n 0, 1) := by decide +kernel
theorem dX10_clauseHere_11 : decode cX10_clauseHere 11 = .ok (.getfield 145, 3) := by decide +kernel
theorem dX10_clauseHere_14 : decode cX10_clauseHere 14 = .ok (.bipush 6, 2) := by decide +kernel
theorem dX10_clauseHere_16 : decode cX10_clauseHere 16 = .ok (.if_icmp .ne 7, 3) := by decide +kernel
theorem dX10_clauseHere_19 : decode cX10_clauseHere 19 = .ok (.iconst 1, 1) := by decide +kernel
theorem dX10_clauseHere_20 : decode cX10_clauseHere 20 = .ok (.goto 4, 3) := by decide +kernel
theorem dX10_clauseHere_23 : decode cX10_clauseHere 23 = .ok (.iconst 0, 1) := by decide +kernel
theorem dX10_clauseHere_24 : decode cX10_clauseHere 24 = .ok (.istore_n 2, 1) := by decide +kernel
theorem dX10_clauseHere_25 : decode cX10_clauseHere 25 = .ok (.iload_n 2, 1) := by decide +kernel
theorem dX10_clauseHere_26 : decode cX10_clauseHere 26 = .ok (.ifCond .eq 13, 3) := by decide +kernel
theorem dX10_clauseHere_29 : decode cX10_clauseHere 29 = .ok (.aload_n 0, 1) := by decide +kernel
theorem dX10_clauseHere_30 : decode cX10_clauseHere 30 = .ok (.invokevirtual 240, 3) := by decide +kernel
theorem dX10_clauseHere_33 : decode cX10_clauseHere 33 = .ok (.ifCond .ne 23, 3) := by decide +kernel
theorem dX10_clauseHere_36 : decode cX10_clauseHere 36 = .ok (.goto 13, 3) := by decide +kernel
theorem dX10_clauseHere_39 : decode cX10_clauseHere 39 = .ok (.aload_n 0, 1) := by decide +kernel
theorem dX10_clauseHere_40 : decode cX10_clauseHere 40 = .ok (.ldc2_w 243, 3) := by decide +kernel
theorem dX10_clauseHere_43 : decode cX10_clauseHere 43 = .ok (.invokevirtual 104, 3) := by decide +kernel
theorem dX10_clauseHere_46 : decode cX10_clauseHere 46 = .ok (.ifCond .ne 10, 3) := by decide +kernel
theorem dX10_clauseHere_49 : decode cX10_clauseHere 49 = .ok (.aload_n 0, 1) := by decide +kernel
theorem dX10_clauseHere_50 : decode cX10_clauseHere 50 = .ok (.iconst 0, 1) := by decide +kernel
theorem dX10_clauseHere_51 : decode cX10_clauseHere 51 = .ok (.iload_n 1, 1) := by decide +kernel
theorem dX10_clauseHere_52 : decode cX10_clauseHere 52 = .ok (.invokevirtual 114, 3) := by decide +kernel
theorem dX10_clauseHere_55 : decode cX10_clauseHere 55 = .ok (.ireturn, 1) := by decide +kernel
theorem dX10_clauseHere_56 : decode cX10_clauseHere 56 = .ok (.aload_n 0, 1) := by decide +kernel
theorem dX10_clauseHere_57 : decode cX10_clauseHere 57 = .ok (.getfield 245, 3) := by decide +kernel
theorem dX10_clauseHere_60 : decode cX10_clauseHere 60 = .ok (.iload_n 2, 1) := by decide +kernel
theorem dX10_clauseHere_61 : decode cX10_clauseHere 61 = .ok (.ifCond .eq 8, 3) := by decide +kernel
theorem dX10_clauseHere_64 : decode cX10_clauseHere 64 = .ok (.bipush 40, 2) := by decide +kernel
theorem dX10_clauseHere_66 : decode cX10_clauseHere 66 = .ok (.goto 5, 3) := by decide +kernel
theorem dX10_clauseHere_69 : decode cX10_clauseHere 69 = .ok (.bipush 12, 2) := by decide +kernel
theorem dX10_clauseHere_71 : decode cX10_clauseHere 71 = .ok (.if_icmp .ne 10, 3) := by decide +kernel
theorem dX10_clauseHere_74 : decode cX10_clauseHere 74 = .ok (.aload_n 0, 1) := by decide +kernel
theorem dX10_clauseHere_75 : decode cX10_clauseHere 75 = .ok (.iconst 4, 1) := by decide +kernel
theorem dX10_clauseHere_76 : decode cX10_clauseHere 76 = .ok (.iload_n 1, 1) := by decide +kernel
theorem dX10_clauseHere_77 : decode cX10_clauseHere 77 = .ok (.invokevirtual 114, 3) := by decide +kernel
theorem dX10_clauseHere_80 : decode cX10_clauseHere 80 = .ok (.ireturn, 1) := by decide +kernel
theorem dX10_clauseHere_81 : decode cX10_clauseHere 81 = .ok (.aload_n 0, 1) := by decide +kernel
theorem dX10_clauseHere_82 : decode cX10_clauseHere 82 = .ok (.dup, 1) := by decide +kernel
theorem dX10_clauseHere_83 : decode cX10_clauseHere 83 = .ok (.getfield 245, 3) := by decide +kernel
theorem dX10_clauseHere_86 : decode cX10_clauseHere 86 = .ok (.iconst 1, 1) := by decide +kernel
theorem dX10_clauseHere_87 : decode cX10_clauseHere 87 = .ok (.iadd, 1) := by decide +kernel
theorem dX10_clauseHere_88 : decode cX10_clauseHere 88 = .ok (.putfield 245, 3) := by decide +kernel
theorem dX10_clauseHere_91 : decode cX10_clauseHere 91 = .ok (.iload_n 2, 1) := by decide +kernel
theorem dX10_clauseHere_92 : decode cX10_clauseHere 92 = .ok (.ifCond .eq 11, 3) := by decide +kernel
theorem dX10_clauseHere_95 : decode cX10_clauseHere 95 = .ok (.aload_n 0, 1) := by decide +kernel
theorem dX10_clauseHere_96 : decode cX10_clauseHere 96 = .ok (.iload_n 1, 1) := by decide +kernel
theorem dX10_clauseHere_97 : decode cX10_clauseHere 97 = .ok (.invokevirtual 248, 3) := by decide +kernel
theorem dX10_clauseHere_100 : decode cX10_clauseHere 100 = .ok (.goto 7, 3) := by decide +kernel
theorem dX10_clauseHere_103 : decode cX10_clauseHere 103 = .ok (.aload_n 0, 1) := by decide +kernel
theorem dX10_clauseHere_104 : decode cX10_clauseHere 104 = .ok (.invokevirtual 251, 3) := by decide +kernel
theorem dX10_clauseHere_107 : decode cX10_clauseHere 107 = .ok (.ireturn, 1) := by decide +kernel
theorem dX10_readsAll_0 : decode cX10_readsAll 0 = .ok (.aload_n 0, 1) := by decide +kernel
theorem dX10_readsAll_1 : decode cX10_readsAll 1 = .ok (.getfield 17, 3) := by decide +kernel
theorem dX10_readsAll_4 : decode cX10_readsAll 4 = .ok (.aload_n 0, 1) := by decide +kernel
theorem dX10_readsAll_5 : decode cX10_readsAll 5 = .ok (.getfield 145, 3) := by decide +kernel
theorem dX10_readsAll_8 : decode cX10_readsAll 8 = .ok (.iconst 0, 1) := by decide +kernel
theorem dX10_readsAll_9 : decode cX10_readsAll 9 = .ok (.iastore, 1) := by decide +kernel
theorem dX10_readsAll_10 : decode cX10_readsAll 10 = .ok (.aload_n 0, 1) := by decide +kernel
theorem dX10_readsAll_11 : decode cX10_readsAll 11 = .ok (.iconst 0, 1) := by decide +kernel
theorem dX10_readsAll_12 : decode cX10_readsAll 12 = .ok (.putfield 245, 3) := by decide +kernel
theorem dX10_readsAll_15 : decode cX10_readsAll 15 = .ok (.aload_n 0, 1) := by decide +kernel
theorem dX10_readsAll_16 : decode cX10_readsAll 16 = .ok (.iconst 0, 1) := by decide +kernel
theorem dX10_readsAll_17 : decode cX10_readsAll 17 = .ok (.putfield 93, 3) := by decide +kernel
theorem dX10_readsAll_20 : decode cX10_readsAll 20 = .ok (.aload_n 0, 1) := by decide +kernel
theorem dX10_readsAll_21 : decode cX10_readsAll 21 = .ok (.iconst 0, 1) := by decide +kernel
theorem dX10_readsAll_22 : decode cX10_readsAll 22 = .ok (.putfield 90, 3) := by decide +kernel
theorem dX10_readsAll_25 : decode cX10_readsAll 25 = .ok (.aload_n 0, 1) := by decide +kernel
theorem dX10_readsAll_26 : decode cX10_readsAll 26 = .ok (.iconst 0, 1) := by decide +kernel
theorem dX10_readsAll_27 : decode cX10_readsAll 27 = .ok (.putfield 148, 3) := by decide +kernel
theorem dX10_readsAll_30 : decode cX10_readsAll 30 = .ok (.aload_n 0, 1) := by decide +kernel
theorem dX10_readsAll_31 : decode cX10_readsAll 31 = .ok (.invokevirtual 254, 3) := by decide +kernel
theorem dX10_readsAll_34 : decode cX10_readsAll 34 = .ok (.istore_n 1, 1) := by decide +kernel
theorem dX10_readsAll_35 : decode cX10_readsAll 35 = .ok (.iload_n 1, 1) := by decide +kernel
theorem dX10_readsAll_36 : decode cX10_readsAll 36 = .ok (.ifCond .eq 30, 3) := by decide +kernel
theorem dX10_readsAll_39 : decode cX10_readsAll 39 = .ok (.aload_n 0, 1) := by decide +kernel
theorem dX10_readsAll_40 : decode cX10_readsAll 40 = .ok (.invokevirtual 96, 3) := by decide +kernel
theorem dX10_readsAll_43 : decode cX10_readsAll 43 = .ok (.bipush 59, 2) := by decide +kernel
theorem dX10_readsAll_45 : decode cX10_readsAll 45 = .ok (.if_icmp .ne 21, 3) := by decide +kernel
theorem dX10_readsAll_48 : decode cX10_readsAll 48 = .ok (.aload_n 0, 1) := by decide +kernel
theorem dX10_readsAll_49 : decode cX10_readsAll 49 = .ok (.dup, 1) := by decide +kernel
theorem dX10_readsAll_50 : decode cX10_readsAll 50 = .ok (.getfield 93, 3) := by decide +kernel
theorem dX10_readsAll_53 : decode cX10_readsAll 53 = .ok (.iconst 1, 1) := by decide +kernel
theorem dX10_readsAll_54 : decode cX10_readsAll 54 = .ok (.iadd, 1) := by decide +kernel
theorem dX10_readsAll_55 : decode cX10_readsAll 55 = .ok (.putfield 93, 3) := by decide +kernel
theorem dX10_readsAll_58 : decode cX10_readsAll 58 = .ok (.aload_n 0, 1) := by decide +kernel
theorem dX10_readsAll_59 : decode cX10_readsAll 59 = .ok (.invokevirtual 254, 3) := by decide +kernel
theorem dX10_readsAll_62 : decode cX10_readsAll 62 = .ok (.istore_n 1, 1) := by decide +kernel
theorem dX10_readsAll_63 : decode cX10_readsAll 63 = .ok (.goto (-28), 3) := by decide +kernel
theorem dX10_readsAll_66 : decode cX10_readsAll 66 = .ok (.iload_n 1, 1) := by decide +kernel
theorem dX10_readsAll_67 : decode cX10_readsAll 67 = .ok (.ifCond .eq 21, 3) := by decide +kernel
theorem dX10_readsAll_70 : decode cX10_readsAll 70 = .ok (.aload_n 0, 1) := by decide +kernel
theorem dX10_readsAll_71 : decode cX10_readsAll 71 = .ok (.invokevirtual 96, 3) := by decide +kernel
theorem dX10_readsAll_74 : decode cX10_readsAll 74 = .ok (.iconst (-1), 1) := by decide +kernel
theorem dX10_readsAll_75 : decode cX10_readsAll 75 = .ok (.if_icmp .eq 13, 3) := by decide +kernel
theorem dX10_readsAll_78 : decode cX10_readsAll 78 = .ok (.aload_n 0, 1) := by decide +kernel
theorem dX10_readsAll_79 : decode cX10_readsAll 79 = .ok (.iconst 0, 1) := by decide +kernel
theorem dX10_readsAll_80 : decode cX10_readsAll 80 = .ok (.aload_n 0, 1) := by decide +kernel
theorem dX10_readsAll_81 : decode cX10_readsAll 81 = .ok (.getfield 93, 3) := by decide +kernel
theorem dX10_readsAll_84 : decode cX10_readsAll 84 = .ok (.invokevirtual 114, 3) := by decide +kernel
theorem dX10_readsAll_87 : decode cX10_readsAll 87 = .ok (.pop, 1) := by decide +kernel
theorem dX10_readsAll_88 : decode cX10_readsAll 88 = .ok (.aload_n 0, 1) := by decide +kernel
theorem dX10_readsAll_89 : decode cX10_readsAll 89 = .ok (.iconst 0, 1) := by decide +kernel
theorem dX10_readsAll_90 : decode cX10_readsAll 90 = .ok (.putfield 83, 3) := by decide +kernel
theorem dX10_readsAll_93 : decode cX10_readsAll 93 = .ok (.aload_n 0, 1) := by decide +kernel
theorem dX10_readsAll_94 : decode cX10_readsAll 94 = .ok (.getfield 90, 3) := by decide +kernel
theorem dX10_readsAll_97 : decode cX10_readsAll 97 = .ok (.ifCond .ne 7, 3) := by decide +kernel
theorem dX10_readsAll_100 : decode cX10_readsAll 100 = .ok (.iconst 1, 1) := by decide +kernel
theorem dX10_readsAll_101 : decode cX10_readsAll 101 = .ok (.goto 4, 3) := by decide +kernel
theorem dX10_readsAll_104 : decode cX10_readsAll 104 = .ok (.iconst 0, 1) := by decide +kernel
theorem dX10_readsAll_105 : decode cX10_readsAll 105 = .ok (.ireturn, 1) := by decide +kernel
theorem dX10_rule_0 : decode cX10_rule 0 = .ok (.aload_n 0, 1) := by decide +kernel
theorem dX10_rule_1 : decode cX10_rule 1 = .ok (.getfield 257, 3) := by decide +kernel
theorem dX10_rule_4 : decode cX10_rule 4 = .ok (.bipush 6, 2) := by decide +kernel
theorem dX10_rule_6 : decode cX10_rule 6 = .ok (.if_icmp .ne 5, 3) := by decide +kernel
theorem dX10_rule_9 : decode cX10_rule 9 = .ok (.iconst (-1), 1) := by decide +kernel
theorem dX10_rule_10 : decode cX10_rule 10 = .ok (.ireturn, 1) := by decide +kernel
theorem dX10_rule_11 : decode cX10_rule 11 = .ok (.aload_n 0, 1) := by decide +kernel
theorem dX10_rule_12 : decode cX10_rule 12 = .ok (.aload_n 0, 1) := by decide +kernel
theorem dX10_rule_13 : decode cX10_rule 13 = .ok (.getfield 257, 3) := by decide +kernel
theorem dX10_rule_16 : decode cX10_rule 16 = .ok (.putfield 145, 3) := by decide +kernel
theorem dX10_rule_19 : decode cX10_rule 19 = .ok (.aload_n 0, 1) := by decide +kernel
theorem dX10_rule_20 : decode cX10_rule 20 = .ok (.getfield 23, 3) := by decide +kernel
theorem dX10_rule_23 : decode cX10_rule 23 = .ok (.aload_n 0, 1) := by decide +kernel
theorem dX10_rule_24 : decode cX10_rule 24 = .ok (.getfield 145, 3) := by decide +kernel
theorem dX10_rule_27 : decode cX10_rule 27 = .ok (.iconst 0, 1) := by decide +kernel
theorem dX10_rule_28 : decode cX10_rule 28 = .ok (.iastore, 1) := by decide +kernel
theorem dX10_rule_29 : decode cX10_rule 29 = .ok (.aload_n 0, 1) := by decide +kernel
theorem dX10_rule_30 : decode cX10_rule 30 = .ok (.invokevirtual 260, 3) := by decide +kernel
theorem dX10_rule_33 : decode cX10_rule 33 = .ok (.ifCond .ne 11, 3) := by decide +kernel
theorem dX10_rule_36 : decode cX10_rule 36 = .ok (.bipush (-2), 2) := by decide +kernel
theorem dX10_rule_38 : decode cX10_rule 38 = .ok (.aload_n 0, 1) := by decide +kernel
theorem dX10_rule_39 : decode cX10_rule 39 = .ok (.getfield 90, 3) := by decide +kernel
theorem dX10_rule_42 : decode cX10_rule 42 = .ok (.isub, 1) := by decide +kernel
theorem dX10_rule_43 : decode cX10_rule 43 = .ok (.ireturn, 1) := by decide +kernel
theorem dX10_rule_44 : decode cX10_rule 44 = .ok (.aload_n 0, 1) := by decide +kernel
theorem dX10_rule_45 : decode cX10_rule 45 = .ok (.dup, 1) := by decide +kernel
theorem dX10_rule_46 : decode cX10_rule 46 = .ok (.getfield 257, 3) := by decide +kernel
theorem dX10_rule_49 : decode cX10_rule 49 = .ok (.iconst 1, 1) := by decide +kernel
theorem dX10_rule_50 : decode cX10_rule 50 = .ok (.iadd, 1) := by decide +kernel
theorem dX10_rule_51 : decode cX10_rule 51 = .ok (.putfield 257, 3) := by decide +kernel
theorem dX10_rule_54 : decode cX10_rule 54 = .ok (.aload_n 0, 1) := by decide +kernel
theorem dX10_rule_55 : decode cX10_rule 55 = .ok (.getfield 257, 3) := by decide +kernel
theorem dX10_rule_58 : decode cX10_rule 58 = .ok (.iconst 1, 1) := by decide +kernel
theorem dX10_rule_59 : decode cX10_rule 59 = .ok (.isub, 1) := by decide +kernel
theorem dX10_rule_60 : decode cX10_rule 60 = .ok (.ireturn, 1) := by decide +kernel
theorem dX10_election_0 : decode cX10_election 0 = .ok (.aload_n 0, 1) := by decide +kernel
theorem dX10_election_1 : decode cX10_election 1 = .ok (.bipush 6, 2) := by decide +kernel
theorem dX10_election_3 : decode cX10_election 3 = .ok (.putfield 145, 3) := by decide +kernel
theorem dX10_election_6 : decode cX10_election 6 = .ok (.iconst 0, 1) := by decide +kernel
theorem dX10_election_7 : decode cX10_election 7 = .ok (.istore_n 1, 1) := by decide +kernel
theorem dX10_election_8 : decode cX10_election 8 = .ok (.iload_n 1, 1) := by decide +kernel
theorem dX10_election_9 : decode cX10_election 9 = .ok (.sipush 128, 3) := by decide +kernel
theorem dX10_election_12 : decode cX10_election 12 = .ok (.if_icmp .ge 16, 3) := by decide +kernel
theorem dX10_election_15 : decode cX10_election 15 = .ok (.aload_n 0, 1) := by decide +kernel
theorem dX10_election_16 : decode cX10_election 16 = .ok (.getfield 26, 3) := by decide +kernel
theorem dX10_election_19 : decode cX10_election 19 = .ok (.iload_n 1, 1) := by decide +kernel
theorem dX10_election_20 : decode cX10_election 20 = .ok (.iconst 0, 1) := by decide +kernel
theorem dX10_election_21 : decode cX10_election 21 = .ok (.iastore, 1) := by decide +kernel
theorem dX10_election_22 : decode cX10_election 22 = .ok (.iinc 1 1, 3) := by decide +kernel
theorem dX10_election_25 : decode cX10_election 25 = .ok (.goto (-17), 3) := by decide +kernel
theorem dX10_election_28 : decode cX10_election 28 = .ok (.aload_n 0, 1) := by decide +kernel
theorem dX10_election_29 : decode cX10_election 29 = .ok (.invokevirtual 260, 3) := by decide +kernel
theorem dX10_election_32 : decode cX10_election 32 = .ok (.ifCond .ne 11, 3) := by decide +kernel
theorem dX10_election_35 : decode cX10_election 35 = .ok (.bipush (-2), 2) := by decide +kernel
theorem dX10_election_37 : decode cX10_election 37 = .ok (.aload_n 0, 1) := by decide +kernel
theorem dX10_election_38 : decode cX10_election 38 = .ok (.getfield 90, 3) := by decide +kernel
theorem dX10_election_41 : decode cX10_election 41 = .ok (.isub, 1) := by decide +kernel
theorem dX10_election_42 : decode cX10_election 42 = .ok (.ireturn, 1) := by decide +kernel
theorem dX10_election_43 : decode cX10_election 43 = .ok (.iconst 0, 1) := by decide +kernel
theorem dX10_election_44 : decode cX10_election 44 = .ok (.istore_n 1, 1) := by decide +kernel
theorem dX10_election_45 : decode cX10_election 45 = .ok (.iload_n 1, 1) := by decide +kernel
theorem dX10_election_46 : decode cX10_election 46 = .ok (.sipush 1171, 3) := by decide +kernel
theorem dX10_election_49 : decode cX10_election 49 = .ok (.if_icmp .ge 32, 3) := by decide +kernel
theorem dX10_election_52 : decode cX10_election 52 = .ok (.aload_n 0, 1) := by decide +kernel
theorem dX10_election_53 : decode cX10_election 53 = .ok (.getfield 39, 3) := by decide +kernel
theorem dX10_election_56 : decode cX10_election 56 = .ok (.iload_n 1, 1) := by decide +kernel
theorem dX10_election_57 : decode cX10_election 57 = .ok (.iload_n 1, 1) := by decide +kernel
theorem dX10_election_58 : decode cX10_election 58 = .ok (.sipush 128, 3) := by decide +kernel
theorem dX10_election_61 : decode cX10_election 61 = .ok (.if_icmp .ge 12, 3) := by decide +kernel
theorem dX10_election_64 : decode cX10_election 64 = .ok (.aload_n 0, 1) := by decide +kernel
theorem dX10_election_65 : decode cX10_election 65 = .ok (.getfield 26, 3) := by decide +kernel
theorem dX10_election_68 : decode cX10_election 68 = .ok (.iload_n 1, 1) := by decide +kernel
theorem dX10_election_69 : decode cX10_election 69 = .ok (.iaload, 1) := by decide +kernel
theorem dX10_election_70 : decode cX10_election 70 = .ok (.goto 4, 3) := by decide +kernel
theorem dX10_election_73 : decode cX10_election 73 = .ok (.iconst 0, 1) := by decide +kernel
theorem dX10_election_74 : decode cX10_election 74 = .ok (.iastore, 1) := by decide +kernel
theorem dX10_election_75 : decode cX10_election 75 = .ok (.iinc 1 1, 3) := by decide +kernel
theorem dX10_election_78 : decode cX10_election 78 = .ok (.goto (-33), 3) := by decide +kernel
theorem dX10_election_81 : decode cX10_election 81 = .ok (.aload_n 0, 1) := by decide +kernel
theorem dX10_election_82 : decode cX10_election 82 = .ok (.invokevirtual 263, 3) := by decide +kernel
theorem dX10_election_85 : decode cX10_election 85 = .ok (.aload_n 0, 1) := by decide +kernel
theorem dX10_election_86 : decode cX10_election 86 = .ok (.iconst 0, 1) := by decide +kernel
theorem dX10_election_87 : decode cX10_election 87 = .ok (.putfield 266, 3) := by decide +kernel
theorem dX10_election_90 : decode cX10_election 90 = .ok (.aload_n 0, 1) := by decide +kernel
theorem dX10_election_91 : decode cX10_election 91 = .ok (.getfield 39, 3) := by decide +kernel
theorem dX10_election_94 : decode cX10_election 94 = .ok (.iconst 2, 1) := by decide +kernel
theorem dX10_election_95 : decode cX10_election 95 = .ok (.iaload, 1) := by decide +kernel
theorem dX10_election_96 : decode cX10_election 96 = .ok (.ireturn, 1) := by decide +kernel
theorem dX10_isRule_0 : decode cX10_isRule 0 = .ok (.iload_n 1, 1) := by decide +kernel
theorem dX10_isRule_1 : decode cX10_isRule 1 = .ok (.ifCond .lt 15, 3) := by decide +kernel
theorem dX10_isRule_4 : decode cX10_isRule 4 = .ok (.iload_n 1, 1) := by decide +kernel
theorem dX10_isRule_5 : decode cX10_isRule 5 = .ok (.aload_n 0, 1) := by decide +kernel
theorem dX10_isRule_6 : decode cX10_isRule 6 = .ok (.getfield 257, 3) := by decide +kernel
theorem dX10_isRule_9 : decode cX10_isRule 9 = .ok (.if_icmp .ge 7, 3) := by decide +kernel
theorem dX10_isRule_12 : decode cX10_isRule 12 = .ok (.iconst 1, 1) := by decide +kernel
theorem dX10_isRule_13 : decode cX10_isRule 13 = .ok (.goto 4, 3) := by decide +kernel
theorem dX10_isRule_16 : decode cX10_isRule 16 = .ok (.iconst 0, 1) := by decide +kernel
theorem dX10_isRule_17 : decode cX10_isRule 17 = .ok (.ireturn, 1) := by decide +kernel
theorem dX10_push_0 : decode cX10_push 0 = .ok (.aload_n 0, 1) := by decide +kernel
theorem dX10_push_1 : decode cX10_push 1 = .ok (.getfield 32, 3) := by decide +kernel
theorem dX10_push_4 : decode cX10_push 4 = .ok (.aload_n 0, 1) := by decide +kernel
theorem dX10_push_5 : decode cX10_push 5 = .ok (.getfield 269, 3) := by decide +kernel
theorem dX10_push_8 : decode cX10_push 8 = .ok (.lload_n 1, 1) := by decide +kernel
theorem dX10_push_9 : decode cX10_push 9 = .ok (.lastore, 1) := by decide +kernel
theorem dX10_push_10 : decode cX10_push 10 = .ok (.aload_n 0, 1) := by decide +kernel
theorem dX10_push_11 : decode cX10_push 11 = .ok (.dup, 1) := by decide +kernel
theorem dX10_push_12 : decode cX10_push 12 = .ok (.getfield 269, 3) := by decide +kernel
theorem dX10_push_15 : decode cX10_push 15 = .ok (.iconst 1, 1) := by decide +kernel
theorem dX10_push_16 : decode cX10_push 16 = .ok (.iadd, 1) := by decide +kernel
theorem dX10_push_17 : decode cX10_push 17 = .ok (.putfield 269, 3) := by decide +kernel
theorem dX10_push_20 : decode cX10_push 20 = .ok (.return_, 1) := by decide +kernel
theorem dX10_pop_0 : decode cX10_pop 0 = .ok (.aload_n 0, 1) := by decide +kernel
theorem dX10_pop_1 : decode cX10_pop 1 = .ok (.dup, 1) := by decide +kernel
theorem dX10_pop_2 : decode cX10_pop 2 = .ok (.getfield 269, 3) := by decide +kernel
theorem dX10_pop_5 : decode cX10_pop 5 = .ok (.iconst 1, 1) := by decide +kernel
theorem dX10_pop_6 : decode cX10_pop 6 = .ok (.isub, 1) := by decide +kernel
theorem dX10_pop_7 : decode cX10_pop 7 = .ok (.putfield 269, 3) := by decide +kernel
theorem dX10_pop_10 : decode cX10_pop 10 = .ok (.aload_n 0, 1) := by decide +kernel
theorem dX10_pop_11 : decode cX10_pop 11 = .ok (.getfield 32, 3) := by decide +kernel
theorem dX10_pop_14 : decode cX10_pop 14 = .ok (.aload_n 0, 1) := by decide +kernel
theorem dX10_pop_15 : decode cX10_pop 15 = .ok (.getfield 269, 3) := by decide +kernel
theorem dX10_pop_18 : decode cX10_pop 18 = .ok (.laload, 1) := by decide +kernel
theorem dX10_pop_19 : decode cX10_pop 19 = .ok (.lreturn, 1) := by decide +kernel
theorem dX10_one_0 : decode cX10_one 0 = .ok (.iload_n 0, 1) := by decide +kernel
theorem dX10_one_1 : decode cX10_one 1 = .ok (.tableswitch 171 2 14 #[67, 71, 75, 79, 107, 119, 131, 143, 155, 171, 167, 171, 93], 67) := by decide +kernel
theorem dX10_one_68 : decode cX10_one 68 = .ok (.lload_n 1, 1) := by decide +kernel
theorem dX10_one_69 : decode cX10_one 69 = .ok (.lload_n 3, 1) := by decide +kernel
theorem dX10_one_70 : decode cX10_one 70 = .ok (.ladd, 1) := by decide +kernel
theorem dX10_one_71 : decode cX10_one 71 = .ok (.lreturn, 1) := by decide +kernel
theorem dX10_one_72 : decode cX10_one 72 = .ok (.lload_n 1, 1) := by decide +kernel
theorem dX10_one_73 : decode cX10_one 73 = .ok (.lload_n 3, 1) := by decide +kernel
theorem dX10_one_74 : decode cX10_one 74 = .ok (.lsub, 1) := by decide +kernel
theorem dX10_one_75 : decode cX10_one 75 = .ok (.lreturn, 1) := by decide +kernel
theorem dX10_one_76 : decode cX10_one 76 = .ok (.lload_n 1, 1) := by decide +kernel
theorem dX10_one_77 : decode cX10_one 77 = .ok (.lload_n 3, 1) := by decide +kernel
theorem dX10_one_78 : decode cX10_one 78 = .ok (.lmul, 1) := by decide +kernel
theorem dX10_one_79 : decode cX10_one 79 = .ok (.lreturn, 1) := by decide +kernel
theorem dX10_one_80 : decode cX10_one 80 = .ok (.lload_n 3, 1) := by decide +kernel
theorem dX10_one_81 : decode cX10_one 81 = .ok (.lconst 0, 1) := by decide +kernel
theorem dX10_one_82 : decode cX10_one 82 = .ok (.lcmp, 1) := by decide +kernel
theorem dX10_one_83 : decode cX10_one 83 = .ok (.ifCond .ne 7, 3) := by decide +kernel
theorem dX10_one_86 : decode cX10_one 86 = .ok (.lconst 0, 1) := by decide +kernel
theorem dX10_one_87 : decode cX10_one 87 = .ok (.goto 6, 3) := by decide +kernel
theorem dX10_one_90 : decode cX10_one 90 = .ok (.lload_n 1, 1) := by decide +kernel
theorem dX10_one_91 : decode cX10_one 91 = .ok (.lload_n 3, 1) := by decide +kernel
theorem dX10_one_92 : decode cX10_one 92 = .ok (.ldiv, 1) := by decide +kernel
theorem dX10_one_93 : decode cX10_one 93 = .ok (.lreturn, 1) := by decide +kernel
theorem dX10_one_94 : decode cX10_one 94 = .ok (.lload_n 3, 1) := by decide +kernel
theorem dX10_one_95 : decode cX10_one 95 = .ok (.lconst 0, 1) := by decide +kernel
theorem dX10_one_96 : decode cX10_one 96 = .ok (.lcmp, 1) := by decide +kernel
theorem dX10_one_97 : decode cX10_one 97 = .ok (.ifCond .ne 7, 3) := by decide +kernel
theorem dX10_one_100 : decode cX10_one 100 = .ok (.lconst 0, 1) := by decide +kernel
theorem dX10_one_101 : decode cX10_one 101 = .ok (.goto 6, 3) := by decide +kernel
theorem dX10_one_104 : decode cX10_one 104 = .ok (.lload_n 1, 1) := by decide +kernel
theorem dX10_one_105 : decode cX10_one 105 = .ok (.lload_n 3, 1) := by decide +kernel
theorem dX10_one_106 : decode cX10_one 106 = .ok (.lrem, 1) := by decide +kernel
theorem dX10_one_107 : decode cX10_one 107 = .ok (.lreturn, 1) := by decide +kernel
theorem dX10_one_108 : decode cX10_one 108 = .ok (.lload_n 1, 1) := by decide +kernel
theorem dX10_one_109 : decode cX10_one 109 = .ok (.lload_n 3, 1) := by decide +kernel
theorem dX10_one_110 : decode cX10_one 110 = .ok (.lcmp, 1) := by decide +kernel
theorem dX10_one_111 : decode cX10_one 111 = .ok (.ifCond .ge 7, 3) := by decide +kernel
theorem dX10_one_114 : decode cX10_one 114 = .ok (.lconst 1, 1) := by decide +kernel
theorem dX10_one_115 : decode cX10_one 115 = .ok (.goto 4, 3) := by decide +kernel
theorem dX10_one_118 : decode cX10_one 118 = .ok (.lconst 0, 1) := by decide +kernel
theorem dX10_one_119 : decode cX10_one 119 = .ok (.lreturn, 1) := by decide +kernel
theorem dX10_one_120 : decode cX10_one 120 = .ok (.lload_n 1, 1) := by decide +kernel
theorem dX10_one_121 : decode cX10_one 121 = .ok (.lload_n 3, 1) := by decide +kernel
theorem dX10_one_122 : decode cX10_one 122 = .ok (.lcmp, 1) := by decide +kernel
theorem dX10_one_123 : decode cX10_one 123 = .ok (.ifCond .gt 7, 3) := by decide +kernel
theorem dX10_one_126 : decode cX10_one 126 = .ok (.lconst 1, 1) := by decide +kernel
theorem dX10_one_127 : decode cX10_one 127 = .ok (.goto 4, 3) := by decide +kernel
theorem dX10_one_130 : decode cX10_one 130 = .ok (.lconst 0, 1) := by decide +kernel
theorem dX10_one_131 : decode cX10_one 131 = .ok (.lreturn, 1) := by decide +kernel
theorem dX10_one_132 : decode cX10_one 132 = .ok (.lload_n 1, 1) := by decide +kernel
theorem dX10_one_133 : decode cX10_one 133 = .ok (.lload_n 3, 1) := by decide +kernel
theorem dX10_one_134 : decode cX10_one 134 = .ok (.lcmp, 1) := by decide +kernel
theorem dX10_one_135 : decode cX10_one 135 = .ok (.ifCond .ne 7, 3) := by decide +kernel
theorem dX10_one_138 : decode cX10_one 138 = .ok (.lconst 1, 1) := by decide +kernel
theorem dX10_one_139 : decode cX10_one 139 = .ok (.goto 4, 3) := by decide +kernel
theorem dX10_one_142 : decode cX10_one 142 = .ok (.lconst 0, 1) := by decide +kernel
theorem dX10_one_143 : decode cX10_one 143 = .ok (.lreturn, 1) := by decide +kernel
theorem dX10_one_144 : decode cX10_one 144 = .ok (.lload_n 1, 1) := by decide +kernel
theorem dX10_one_145 : decode cX10_one 145 = .ok (.lload_n 3, 1) := by decide +kernel
theorem dX10_one_146 : decode cX10_one 146 = .ok (.lcmp, 1) := by decide +kernel
theorem dX10_one_147 : decode cX10_one 147 = .ok (.ifCond .lt 7, 3) := by decide +kernel
theorem dX10_one_150 : decode cX10_one 150 = .ok (.lconst 1, 1) := by decide +kernel
theorem dX10_one_151 : decode cX10_one 151 = .ok (.goto 4, 3) := by decide +kernel
theorem dX10_one_154 : decode cX10_one 154 = .ok (.lconst 0, 1) := by decide +kernel
theorem dX10_one_155 : decode cX10_one 155 = .ok (.lreturn, 1) := by decide +kernel
theorem dX10_one_156 : decode cX10_one 156 = .ok (.lload_n 1, 1) := by decide +kernel
theorem dX10_one_157 : decode cX10_one 157 = .ok (.lload_n 3, 1) := by decide +kernel
theorem dX10_one_158 : decode cX10_one 158 = .ok (.lcmp, 1) := by decide +kernel
theorem dX10_one_159 : decode cX10_one 159 = .ok (.ifCond .le 7, 3) := by decide +kernel
theorem dX10_one_162 : decode cX10_one 162 = .ok (.lconst 1, 1) := by decide +kernel
theorem dX10_one_163 : decode cX10_one 163 = .ok (.goto 4, 3) := by decide +kernel
theorem dX10_one_166 : decode cX10_one 166 = .ok (.lconst 0, 1) := by decide +kernel
theorem dX10_one_167 : decode cX10_one 167 = .ok (.lreturn, 1) := by decide +kernel
theorem dX10_one_168 : decode cX10_one 168 = .ok (.lload_n 1, 1) := by decide +kernel
theorem dX10_one_169 : decode cX10_one 169 = .ok (.lload_n 3, 1) := by decide +kernel
theorem dX10_one_170 : decode cX10_one 170 = .ok (.land, 1) := by decide +kernel
theorem dX10_one_171 : decode cX10_one 171 = .ok (.lreturn, 1) := by decide +kernel
theorem dX10_one_172 : decode cX10_one 172 = .ok (.lload_n 1, 1) := by decide +kernel
theorem dX10_one_173 : decode cX10_one 173 = .ok (.lload_n 3, 1) := by decide +kernel
theorem dX10_one_174 : decode cX10_one 174 = .ok (.lor, 1) := by decide +kernel
theorem dX10_one_175 : decode cX10_one 175 = .ok (.lreturn, 1) := by decide +kernel
theorem dX10_reckons_0 : decode cX10_reckons 0 = .ok (.aload_n 0, 1) := by decide +kernel
theorem dX10_reckons_1 : decode cX10_reckons 1 = .ok (.iconst 0, 1) := by decide +kernel
theorem dX10_reckons_2 : decode cX10_reckons 2 = .ok (.putfield 269, 3) := by decide +kernel
theorem dX10_reckons_5 : decode cX10_reckons 5 = .ok (.iload_n 2, 1) := by decide +kernel
theorem dX10_reckons_6 : decode cX10_reckons 6 = .ok (.istore 4, 2) := by decide +kernel
theorem dX10_reckons_8 : decode cX10_reckons 8 = .ok (.iload 4, 2) := by decide +kernel
theorem dX10_reckons_10 : decode cX10_reckons 10 = .ok (.iload_n 3, 1) := by decide +kernel
theorem dX10_reckons_11 : decode cX10_reckons 11 = .ok (.if_icmp .ge 124, 3) := by decide +kernel
theorem dX10_reckons_14 : decode cX10_reckons 14 = .ok (.aload_n 0, 1) := by decide +kernel
theorem dX10_reckons_15 : decode cX10_reckons 15 = .ok (.getfield 13, 3) := by decide +kernel
theorem dX10_reckons_18 : decode cX10_reckons 18 = .ok (.sipush 400, 3) := by decide +kernel
theorem dX10_reckons_21 : decode cX10_reckons 21 = .ok (.iload_n 1, 1) := by decide +kernel
theorem dX10_reckons_22 : decode cX10_reckons 22 = .ok (.imul, 1) := by decide +kernel
theorem dX10_reckons_23 : decode cX10_reckons 23 = .ok (.iload 4, 2) := by decide +kernel
theorem dX10_reckons_25 : decode cX10_reckons 25 = .ok (.iadd, 1) := by decide +kernel
theorem dX10_reckons_26 : decode cX10_reckons 26 = .ok (.iaload, 1) := by decide +kernel
theorem dX10_reckons_27 : decode cX10_reckons 27 = .ok (.bipush 15, 2) := by decide +kernel
theorem dX10_reckons_29 : decode cX10_reckons 29 = .ok (.iand, 1) := by decide +kernel
theorem dX10_reckons_30 : decode cX10_reckons 30 = .ok (.istore 5, 2) := by decide +kernel
theorem dX10_reckons_32 : decode cX10_reckons 32 = .ok (.aload_n 0, 1) := by decide +kernel
theorem dX10_reckons_33 : decode cX10_reckons 33 = .ok (.getfield 13, 3) := by decide +kernel
theorem dX10_reckons_36 : decode cX10_reckons 36 = .ok (.sipush 400, 3) := by decide +kernel
theorem dX10_reckons_39 : decode cX10_reckons 39 = .ok (.iload_n 1, 1) := by decide +kernel
theorem dX10_reckons_40 : decode cX10_reckons 40 = .ok (.imul, 1) := by decide +kernel
theorem dX10_reckons_41 : decode cX10_reckons 41 = .ok (.iload 4, 2) := by decide +kernel
theorem dX10_reckons_43 : decode cX10_reckons 43 = .ok (.iadd, 1) := by decide +kernel
theorem dX10_reckons_44 : decode cX10_reckons 44 = .ok (.iaload, 1) := by decide +kernel
theorem dX10_reckons_45 : decode cX10_reckons 45 = .ok (.iconst 4, 1) := by decide +kernel
theorem dX10_reckons_46 : decode cX10_reckons 46 = .ok (.ishr, 1) := by decide +kernel
theorem dX10_reckons_47 : decode cX10_reckons 47 = .ok (.istore 6, 2) := by decide +kernel
theorem dX10_reckons_49 : decode cX10_reckons 49 = .ok (.iload 5, 2) := by decide +kernel
theorem dX10_reckons_51 : decode cX10_reckons 51 = .ok (.ifCond .ne 13, 3) := by decide +kernel
theorem dX10_reckons_54 : decode cX10_reckons 54 = .ok (.aload_n 0, 1) := by decide +kernel
theorem dX10_reckons_55 : decode cX10_reckons 55 = .ok (.iload 6, 2) := by decide +kernel
theorem dX10_reckons_57 : decode cX10_reckons 57 = .ok (.i2l, 1) := by decide +kernel
theorem dX10_reckons_58 : decode cX10_reckons 58 = .ok (.invokevirtual 272, 3) := by decide +kernel
theorem dX10_reckons_61 : decode cX10_reckons 61 = .ok (.goto 68, 3) := by decide +kernel
theorem dX10_reckons_64 : decode cX10_reckons 64 = .ok (.iload 5, 2) := by decide +kernel
theorem dX10_reckons_66 : decode cX10_reckons 66 = .ok (.iconst 1, 1) := by decide +kernel
theorem dX10_reckons_67 : decode cX10_reckons 67 = .ok (.if_icmp .ne 17, 3) := by decide +kernel
theorem dX10_reckons_70 : decode cX10_reckons 70 = .ok (.aload_n 0, 1) := by decide +kernel
theorem dX10_reckons_71 : decode cX10_reckons 71 = .ok (.aload_n 0, 1) := by decide +kernel
theorem dX10_reckons_72 : decode cX10_reckons 72 = .ok (.getfield 36, 3) := by decide +kernel
theorem dX10_reckons_75 : decode cX10_reckons 75 = .ok (.iload 6, 2) := by decide +kernel
theorem dX10_reckons_77 : decode cX10_reckons 77 = .ok (.laload, 1) := by decide +kernel
theorem dX10_reckons_78 : decode cX10_reckons 78 = .ok (.invokevirtual 272, 3) := by decide +kernel
theorem dX10_reckons_81 : decode cX10_reckons 81 = .ok (.goto 48, 3) := by decide +kernel
theorem dX10_reckons_84 : decode cX10_reckons 84 = .ok (.iload 5, 2) := by decide +kernel
theorem dX10_reckons_86 : decode cX10_reckons 86 = .ok (.bipush 11, 2) := by decide +kernel
theorem dX10_reckons_88 : decode cX10_reckons 88 = .ok (.if_icmp .ne 16, 3) := by decide +kernel
theorem dX10_reckons_91 : decode cX10_reckons 91 = .ok (.aload_n 0, 1) := by decide +kernel
theorem dX10_reckons_92 : decode cX10_reckons 92 = .ok (.lconst 1, 1) := by decide +kernel
theorem dX10_reckons_93 : decode cX10_reckons 93 = .ok (.aload_n 0, 1) := by decide +kernel
theorem dX10_reckons_94 : decode cX10_reckons 94 = .ok (.invokevirtual 276, 3) := by decide +kernel
theorem dX10_reckons_97 : decode cX10_reckons 97 = .ok (.lsub, 1) := by decide +kernel
theorem dX10_reckons_98 : decode cX10_reckons 98 = .ok (.invokevirtual 272, 3) := by decide +kernel
theorem dX10_reckons_101 : decode cX10_reckons 101 = .ok (.goto 28, 3) := by decide +kernel
theorem dX10_reckons_104 : decode cX10_reckons 104 = .ok (.aload_n 0, 1) := by decide +kernel
theorem dX10_reckons_105 : decode cX10_reckons 105 = .ok (.invokevirtual 276, 3) := by decide +kernel
theorem dX10_reckons_108 : decode cX10_reckons 108 = .ok (.lstore 7, 2) := by decide +kernel
theorem dX10_reckons_110 : decode cX10_reckons 110 = .ok (.aload_n 0, 1) := by decide +kernel
theorem dX10_reckons_111 : decode cX10_reckons 111 = .ok (.invokevirtual 276, 3) := by decide +kernel
theorem dX10_reckons_114 : decode cX10_reckons 114 = .ok (.lstore 9, 2) := by decide +kernel
theorem dX10_reckons_116 : decode cX10_reckons 116 = .ok (.aload_n 0, 1) := by decide +kernel
theorem dX10_reckons_117 : decode cX10_reckons 117 = .ok (.iload 5, 2) := by decide +kernel
theorem dX10_reckons_119 : decode cX10_reckons 119 = .ok (.lload 9, 2) := by decide +kernel
theorem dX10_reckons_121 : decode cX10_reckons 121 = .ok (.lload 7, 2) := by decide +kernel
theorem dX10_reckons_123 : decode cX10_reckons 123 = .ok (.invokestatic 280, 3) := by decide +kernel
theorem dX10_reckons_126 : decode cX10_reckons 126 = .ok (.invokevirtual 272, 3) := by decide +kernel
theorem dX10_reckons_129 : decode cX10_reckons 129 = .ok (.iinc 4 1, 3) := by decide +kernel
theorem dX10_reckons_132 : decode cX10_reckons 132 = .ok (.goto (-124), 3) := by decide +kernel
theorem dX10_reckons_135 : decode cX10_reckons 135 = .ok (.aload_n 0, 1) := by decide +kernel
theorem dX10_reckons_136 : decode cX10_reckons 136 = .ok (.invokevirtual 276, 3) := by decide +kernel
theorem dX10_reckons_139 : decode cX10_reckons 139 = .ok (.lreturn, 1) := by decide +kernel
theorem dX10_isElection_0 : decode cX10_isElection 0 = .ok (.aload_n 0, 1) := by decide +kernel
theorem dX10_isElection_1 : decode cX10_isElection 1 = .ok (.getfield 39, 3) := by decide +kernel
theorem dX10_isElection_4 : decode cX10_isElection 4 = .ok (.iconst 0, 1) := by decide +kernel
theorem dX10_isElection_5 : decode cX10_isElection 5 = .ok (.iaload, 1) := by decide +kernel
theorem dX10_isElection_6 : decode cX10_isElection 6 = .ok (.iconst 1, 1) := by decide +kernel
theorem dX10_isElection_7 : decode cX10_isElection 7 = .ok (.if_icmp .ne 7, 3) := by decide +kernel
theorem dX10_isElection_10 : decode cX10_isElection 10 = .ok (.iconst 1, 1) := by decide +kernel
theorem dX10_isElection_11 : decode cX10_isElection 11 = .ok (.goto 4, 3) := by decide +kernel
theorem dX10_isElection_14 : decode cX10_isElection 14 = .ok (.iconst 0, 1) := by decide +kernel
theorem dX10_isElection_15 : decode cX10_isElection 15 = .ok (.ireturn, 1) := by decide +kernel
theorem dX10_isStation_0 : decode cX10_isStation 0 = .ok (.iload_n 1, 1) := by decide +kernel
theorem dX10_isStation_1 : decode cX10_isStation 1 = .ok (.ifCond .lt 17, 3) := by decide +kernel
theorem dX10_isStation_4 : decode cX10_isStation 4 = .ok (.iload_n 1, 1) := by decide +kernel
theorem dX10_isStation_5 : decode cX10_isStation 5 = .ok (.aload_n 0, 1) := by decide +kernel
theorem dX10_isStation_6 : decode cX10_isStation 6 = .ok (.getfield 39, 3) := by decide +kernel
theorem dX10_isStation_9 : decode cX10_isStation 9 = .ok (.iconst 2, 1) := by decide +kernel
theorem dX10_isStation_10 : decode cX10_isStation 10 = .ok (.iaload, 1) := by decide +kernel
theorem dX10_isStation_11 : decode cX10_isStation 11 = .ok (.if_icmp .ge 7, 3) := by decide +kernel
theorem dX10_isStation_14 : decode cX10_isStation 14 = .ok (.iconst 1, 1) := by decide +kernel
theorem dX10_isStation_15 : decode cX10_isStation 15 = .ok (.goto 4, 3) := by decide +kernel
theorem dX10_isStation_18 : decode cX10_isStation 18 = .ok (.iconst 0, 1) := by decide +kernel
theorem dX10_isStation_19 : decode cX10_isStation 19 = .ok (.ireturn, 1) := by decide +kernel
theorem dX10_isPaper_0 : decode cX10_isPaper 0 = .ok (.iload_n 1, 1) := by decide +kernel
theorem dX10_isPaper_1 : decode cX10_isPaper 1 = .ok (.ifCond .lt 28, 3) := by decide +kernel
theorem dX10_isPaper_4 : decode cX10_isPaper 4 = .ok (.iload_n 1, 1) := by decide +kernel
theorem dX10_isPaper_5 : decode cX10_isPaper 5 = .ok (.aload_n 0, 1) := by decide +kernel
theorem dX10_isPaper_6 : decode cX10_isPaper 6 = .ok (.getfield 39, 3) := by decide +kernel
theorem dX10_isPaper_9 : decode cX10_isPaper 9 = .ok (.iconst 1, 1) := by decide +kernel
theorem dX10_isPaper_10 : decode cX10_isPaper 10 = .ok (.iaload, 1) := by decide +kernel
theorem dX10_isPaper_11 : decode cX10_isPaper 11 = .ok (.if_icmp .ge 18, 3) := by decide +kernel
theorem dX10_isPaper_14 : decode cX10_isPaper 14 = .ok (.aload_n 0, 1) := by decide +kernel
theorem dX10_isPaper_15 : decode cX10_isPaper 15 = .ok (.getfield 39, 3) := by decide +kernel
theorem dX10_isPaper_18 : decode cX10_isPaper 18 = .ok (.iconst 3, 1) := by decide +kernel
theorem dX10_isPaper_19 : decode cX10_isPaper 19 = .ok (.iload_n 1, 1) := by decide +kernel
theorem dX10_isPaper_20 : decode cX10_isPaper 20 = .ok (.iadd, 1) := by decide +kernel
theorem dX10_isPaper_21 : decode cX10_isPaper 21 = .ok (.iaload, 1) := by decide +kernel
theorem dX10_isPaper_22 : decode cX10_isPaper 22 = .ok (.ifCond .lt 7, 3) := by decide +kernel
theorem dX10_isPaper_25 : decode cX10_isPaper 25 = .ok (.iconst 1, 1) := by decide +kernel
theorem dX10_isPaper_26 : decode cX10_isPaper 26 = .ok (.goto 4, 3) := by decide +kernel
theorem dX10_isPaper_29 : decode cX10_isPaper 29 = .ok (.iconst 0, 1) := by decide +kernel
theorem dX10_isPaper_30 : decode cX10_isPaper 30 = .ok (.ireturn, 1) := by decide +kernel
theorem dX10_isIn_0 : decode cX10_isIn 0 = .ok (.aload_n 0, 1) := by decide +kernel
theorem dX10_isIn_1 : decode cX10_isIn 1 = .ok (.iload_n 1, 1) := by decide +kernel
theorem dX10_isIn_2 : decode cX10_isIn 2 = .ok (.invokevirtual 284, 3) := by decide +kernel
theorem dX10_isIn_5 : decode cX10_isIn 5 = .ok (.ifCond .eq 35, 3) := by decide +kernel
theorem dX10_isIn_8 : decode cX10_isIn 8 = .ok (.aload_n 0, 1) := by decide +kernel
theorem dX10_isIn_9 : decode cX10_isIn 9 = .ok (.getfield 39, 3) := by decide +kernel
theorem dX10_isIn_12 : decode cX10_isIn 12 = .ok (.sipush 130, 3) := by decide +kernel
theorem dX10_isIn_15 : decode cX10_isIn 15 = .ok (.iload_n 1, 1) := by decide +kernel
theorem dX10_isIn_16 : decode cX10_isIn 16 = .ok (.iadd, 1) := by decide +kernel
theorem dX10_isIn_17 : decode cX10_isIn 17 = .ok (.iaload, 1) := by decide +kernel
theorem dX10_isIn_18 : decode cX10_isIn 18 = .ok (.iload_n 2, 1) := by decide +kernel
theorem dX10_isIn_19 : decode cX10_isIn 19 = .ok (.if_icmp .ne 21, 3) := by decide +kernel
theorem dX10_isIn_22 : decode cX10_isIn 22 = .ok (.aload_n 0, 1) := by decide +kernel
theorem dX10_isIn_23 : decode cX10_isIn 23 = .ok (.getfield 39, 3) := by decide +kernel
theorem dX10_isIn_26 : decode cX10_isIn 26 = .ok (.sipush 190, 3) := by decide +kernel
theorem dX10_isIn_29 : decode cX10_isIn 29 = .ok (.iload_n 1, 1) := by decide +kernel
theorem dX10_isIn_30 : decode cX10_isIn 30 = .ok (.iadd, 1) := by decide +kernel
theorem dX10_isIn_31 : decode cX10_isIn 31 = .ok (.iaload, 1) := by decide +kernel
theorem dX10_isIn_32 : decode cX10_isIn 32 = .ok (.iload_n 3, 1) := by decide +kernel
theorem dX10_isIn_33 : decode cX10_isIn 33 = .ok (.if_icmp .ne 7, 3) := by decide +kernel
theorem dX10_isIn_36 : decode cX10_isIn 36 = .ok (.iconst 1, 1) := by decide +kernel
theorem dX10_isIn_37 : decode cX10_isIn 37 = .ok (.goto 4, 3) := by decide +kernel
theorem dX10_isIn_40 : decode cX10_isIn 40 = .ok (.iconst 0, 1) := by decide +kernel
theorem dX10_isIn_41 : decode cX10_isIn 41 = .ok (.ireturn, 1) := by decide +kernel
theorem dX10_manyIn_0 : decode cX10_manyIn 0 = .ok (.iconst 0, 1) := by decide +kernel
theorem dX10_manyIn_1 : decode cX10_manyIn 1 = .ok (.istore_n 3, 1) := by decide +kernel
theorem dX10_manyIn_2 : decode cX10_manyIn 2 = .ok (.iconst 0, 1) := by decide +kernel
theorem dX10_manyIn_3 : decode cX10_manyIn 3 = .ok (.istore 4, 2) := by decide +kernel
theorem dX10_manyIn_5 : decode cX10_manyIn 5 = .ok (.iload 4, 2) := by decide +kernel
theorem dX10_manyIn_7 : decode cX10_manyIn 7 = .ok (.aload_n 0, 1) := by decide +kernel
theorem dX10_manyIn_8 : decode cX10_manyIn 8 = .ok (.getfield 39, 3) := by decide +kernel
theorem dX10_manyIn_11 : decode cX10_manyIn 11 = .ok (.iconst 1, 1) := by decide +kernel
theorem dX10_manyIn_12 : decode cX10_manyIn 12 = .ok (.iaload, 1) := by decide +kernel
theorem dX10_manyIn_13 : decode cX10_manyIn 13 = .ok (.if_icmp .ge 28, 3) := by decide +kernel
theorem dX10_manyIn_16 : decode cX10_manyIn 16 = .ok (.iload_n 3, 1) := by decide +kernel
theorem dX10_manyIn_17 : decode cX10_manyIn 17 = .ok (.aload_n 0, 1) := by decide +kernel
theorem dX10_manyIn_18 : decode cX10_manyIn 18 = .ok (.iload 4, 2) := by decide +kernel
theorem dX10_manyIn_20 : decode cX10_manyIn 20 = .ok (.iload_n 1, 1) := by decide +kernel
theorem dX10_manyIn_21 : decode cX10_manyIn 21 = .ok (.iload_n 2, 1) := by decide +kernel
theorem dX10_manyIn_22 : decode cX10_manyIn 22 = .ok (.invokevirtual 287, 3) := by decide +kernel
theorem dX10_manyIn_25 : decode cX10_manyIn 25 = .ok (.ifCond .eq 7, 3) := by decide +kernel
theorem dX10_manyIn_28 : decode cX10_manyIn 28 = .ok (.iconst 1, 1) := by decide +kernel
theorem dX10_manyIn_29 : decode cX10_manyIn 29 = .ok (.goto 4, 3) := by decide +kernel
theorem dX10_manyIn_32 : decode cX10_manyIn 32 = .ok (.iconst 0, 1) := by decide +kernel
theorem dX10_manyIn_33 : decode cX10_manyIn 33 = .ok (.iadd, 1) := by decide +kernel
theorem dX10_manyIn_34 : decode cX10_manyIn 34 = .ok (.istore_n 3, 1) := by decide +kernel
theorem dX10_manyIn_35 : decode cX10_manyIn 35 = .ok (.iinc 4 1, 3) := by decide +kernel
theorem dX10_manyIn_38 : decode cX10_manyIn 38 = .ok (.goto (-33), 3) := by decide +kernel
theorem dX10_manyIn_41 : decode cX10_manyIn 41 = .ok (.iload_n 3, 1) := by decide +kernel
theorem dX10_manyIn_42 : decode cX10_manyIn 42 = .ok (.ireturn, 1) := by decide +kernel
theorem dX10_allIn_0 : decode cX10_allIn 0 = .ok (.iconst 0, 1) := by decide +kernel
theorem dX10_allIn_1 : decode cX10_allIn 1 = .ok (.istore_n 2, 1) := by decide +kernel
theorem dX10_allIn_2 : decode cX10_allIn 2 = .ok (.iconst 0, 1) := by decide +kernel
theorem dX10_allIn_3 : decode cX10_allIn 3 = .ok (.istore_n 3, 1) := by decide +kernel
theorem dX10_allIn_4 : decode cX10_allIn 4 = .ok (.iload_n 3, 1) := by decide +kernel
theorem dX10_allIn_5 : decode cX10_allIn 5 = .ok (.aload_n 0, 1) := by decide +kernel
theorem dX10_allIn_6 : decode cX10_allIn 6 = .ok (.getfield 39, 3) := by decide +kernel
theorem dX10_allIn_9 : decode cX10_allIn 9 = .ok (.iconst 2, 1) := by decide +kernel
theorem dX10_allIn_10 : decode cX10_allIn 10 = .ok (.iaload, 1) := by decide +kernel
theorem dX10_allIn_11 : decode cX10_allIn 11 = .ok (.if_icmp .ge 18, 3) := by decide +kernel
theorem dX10_allIn_14 : decode cX10_allIn 14 = .ok (.iload_n 2, 1) := by decide +kernel
theorem dX10_allIn_15 : decode cX10_allIn 15 = .ok (.aload_n 0, 1) := by decide +kernel
theorem dX10_allIn_16 : decode cX10_allIn 16 = .ok (.iload_n 3, 1) := by decide +kernel
theorem dX10_allIn_17 : decode cX10_allIn 17 = .ok (.iload_n 1, 1) := by decide +kernel
theorem dX10_allIn_18 : decode cX10_allIn 18 = .ok (.invokevirtual 290, 3) := by decide +kernel
theorem dX10_allIn_21 : decode cX10_allIn 21 = .ok (.iadd, 1) := by decide +kernel
theorem dX10_allIn_22 : decode cX10_allIn 22 = .ok (.istore_n 2, 1) := by decide +kernel
theorem dX10_allIn_23 : decode cX10_allIn 23 = .ok (.iinc 3 1, 3) := by decide +kernel
theorem dX10_allIn_26 : decode cX10_allIn 26 = .ok (.goto (-22), 3) := by decide +kernel
theorem dX10_allIn_29 : decode cX10_allIn 29 = .ok (.iload_n 2, 1) := by decide +kernel
theorem dX10_allIn_30 : decode cX10_allIn 30 = .ok (.ireturn, 1) := by decide +kernel
theorem dX10_hadBy_0 : decode cX10_hadBy 0 = .ok (.iconst 0, 1) := by decide +kernel
theorem dX10_hadBy_1 : decode cX10_hadBy 1 = .ok (.istore_n 2, 1) := by decide +kernel
theorem dX10_hadBy_2 : decode cX10_hadBy 2 = .ok (.iconst 0, 1) := by decide +kernel
theorem dX10_hadBy_3 : decode cX10_hadBy 3 = .ok (.istore_n 3, 1) := by decide +kernel
theorem dX10_hadBy_4 : decode cX10_hadBy 4 = .ok (.iload_n 3, 1) := by decide +kernel
theorem dX10_hadBy_5 : decode cX10_hadBy 5 = .ok (.aload_n 0, 1) := by decide +kernel
theorem dX10_hadBy_6 : decode cX10_hadBy 6 = .ok (.getfield 39, 3) := by decide +kernel
theorem dX10_hadBy_9 : decode cX10_hadBy 9 = .ok (.iconst 1, 1) := by decide +kernel
theorem dX10_hadBy_10 : decode cX10_hadBy 10 = .ok (.iaload, 1) := by decide +kernel
theorem dX10_hadBy_11 : decode cX10_hadBy 11 = .ok (.if_icmp .ge 29, 3) := by decide +kernel
theorem dX10_hadBy_14 : decode cX10_hadBy 14 = .ok (.iload_n 2, 1) := by decide +kernel
theorem dX10_hadBy_15 : decode cX10_hadBy 15 = .ok (.aload_n 0, 1) := by decide +kernel
theorem dX10_hadBy_16 : decode cX10_hadBy 16 = .ok (.getfield 39, 3) := by decide +kernel
theorem dX10_hadBy_19 : decode cX10_hadBy 19 = .ok (.iconst 3, 1) := by decide +kernel
theorem dX10_hadBy_20 : decode cX10_hadBy 20 = .ok (.iload_n 3, 1) := by decide +kernel
theorem dX10_hadBy_21 : decode cX10_hadBy 21 = .ok (.iadd, 1) := by decide +kernel
theorem dX10_hadBy_22 : decode cX10_hadBy 22 = .ok (.iaload, 1) := by decide +kernel
theorem dX10_hadBy_23 : decode cX10_hadBy 23 = .ok (.iload_n 1, 1) := by decide +kernel
theorem dX10_hadBy_24 : decode cX10_hadBy 24 = .ok (.if_icmp .ne 7, 3) := by decide +kernel
theorem dX10_hadBy_27 : decode cX10_hadBy 27 = .ok (.iconst 1, 1) := by decide +kernel
theorem dX10_hadBy_28 : decode cX10_hadBy 28 = .ok (.goto 4, 3) := by decide +kernel
theorem dX10_hadBy_31 : decode cX10_hadBy 31 = .ok (.iconst 0, 1) := by decide +kernel
theorem dX10_hadBy_32 : decode cX10_hadBy 32 = .ok (.iadd, 1) := by decide +kernel
theorem dX10_hadBy_33 : decode cX10_hadBy 33 = .ok (.istore_n 2, 1) := by decide +kernel
theorem dX10_hadBy_34 : decode cX10_hadBy 34 = .ok (.iinc 3 1, 3) := by decide +kernel
theorem dX10_hadBy_37 : decode cX10_hadBy 37 = .ok (.goto (-33), 3) := by decide +kernel
theorem dX10_hadBy_40 : decode cX10_hadBy 40 = .ok (.iload_n 2, 1) := by decide +kernel
theorem dX10_hadBy_41 : decode cX10_hadBy 41 = .ok (.ireturn, 1) := by decide +kernel
theorem dX10_waitAll_0 : decode cX10_waitAll 0 = .ok (.iconst 0, 1) := by decide +kernel
theorem dX10_waitAll_1 : decode cX10_waitAll 1 = .ok (.istore_n 1, 1) := by decide +kernel
theorem dX10_waitAll_2 : decode cX10_waitAll 2 = .ok (.iconst 0, 1) := by decide +kernel
theorem dX10_waitAll_3 : decode cX10_waitAll 3 = .ok (.istore_n 2, 1) := by decide +kernel
theorem dX10_waitAll_4 : decode cX10_waitAll 4 = .ok (.iload_n 2, 1) := by decide +kernel
theorem dX10_waitAll_5 : decode cX10_waitAll 5 = .ok (.aload_n 0, 1) := by decide +kernel
theorem dX10_waitAll_6 : decode cX10_waitAll 6 = .ok (.getfield 39, 3) := by decide +kernel
theorem dX10_waitAll_9 : decode cX10_waitAll 9 = .ok (.iconst 2, 1) := by decide +kernel
theorem dX10_waitAll_10 : decode cX10_waitAll 10 = .ok (.iaload, 1) := by decide +kernel
theorem dX10_waitAll_11 : decode cX10_waitAll 11 = .ok (.if_icmp .ge 22, 3) := by decide +kernel
theorem dX10_waitAll_14 : decode cX10_waitAll 14 = .ok (.iload_n 1, 1) := by decide +kernel
theorem dX10_waitAll_15 : decode cX10_waitAll 15 = .ok (.aload_n 0, 1) := by decide +kernel
theorem dX10_waitAll_16 : decode cX10_waitAll 16 = .ok (.getfield 39, 3) := by decide +kernel
theorem dX10_waitAll_19 : decode cX10_waitAll 19 = .ok (.sipush 1090, 3) := by decide +kernel
theorem dX10_waitAll_22 : decode cX10_waitAll 22 = .ok (.iload_n 2, 1) := by decide +kernel
theorem dX10_waitAll_23 : decode cX10_waitAll 23 = .ok (.iadd, 1) := by decide +kernel
theorem dX10_waitAll_24 : decode cX10_waitAll 24 = .ok (.iaload, 1) := by decide +kernel
theorem dX10_waitAll_25 : decode cX10_waitAll 25 = .ok (.iadd, 1) := by decide +kernel
theorem dX10_waitAll_26 : decode cX10_waitAll 26 = .ok (.istore_n 1, 1) := by decide +kernel
theorem dX10_waitAll_27 : decode cX10_waitAll 27 = .ok (.iinc 2 1, 3) := by decide +kernel
theorem dX10_waitAll_30 : decode cX10_waitAll 30 = .ok (.goto (-26), 3) := by decide +kernel
theorem dX10_waitAll_33 : decode cX10_waitAll 33 = .ok (.iload_n 1, 1) := by decide +kernel
theorem dX10_waitAll_34 : decode cX10_waitAll 34 = .ok (.ireturn, 1) := by decide +kernel
theorem dX10_leastOf_0 : decode cX10_leastOf 0 = .ok (.iconst 0, 1) := by decide +kernel
theorem dX10_leastOf_1 : decode cX10_leastOf 1 = .ok (.istore_n 2, 1) := by decide +kernel
theorem dX10_leastOf_2 : decode cX10_leastOf 2 = .ok (.iload_n 2, 1) := by decide +kernel
theorem dX10_leastOf_3 : decode cX10_leastOf 3 = .ok (.aload_n 0, 1) := by decide +kernel
theorem dX10_leastOf_4 : decode cX10_leastOf 4 = .ok (.getfield 39, 3) := by decide +kernel
theorem dX10_leastOf_7 : decode cX10_leastOf 7 = .ok (.iconst 1, 1) := by decide +kernel
theorem dX10_leastOf_8 : decode cX10_leastOf 8 = .ok (.iaload, 1) := by decide +kernel
theorem dX10_leastOf_9 : decode cX10_leastOf 9 = .ok (.if_icmp .ge 21, 3) := by decide +kernel
theorem dX10_leastOf_12 : decode cX10_leastOf 12 = .ok (.aload_n 0, 1) := by decide +kernel
theorem dX10_leastOf_13 : decode cX10_leastOf 13 = .ok (.iload_n 2, 1) := by decide +kernel
theorem dX10_leastOf_14 : decode cX10_leastOf 14 = .ok (.iload_n 1, 1) := by decide +kernel
theorem dX10_leastOf_15 : decode cX10_leastOf 15 = .ok (.iconst 0, 1) := by decide +kernel
theorem dX10_leastOf_16 : decode cX10_leastOf 16 = .ok (.invokevirtual 287, 3) := by decide +kernel
theorem dX10_leastOf_19 : decode cX10_leastOf 19 = .ok (.ifCond .eq 5, 3) := by decide +kernel
theorem dX10_leastOf_22 : decode cX10_leastOf 22 = .ok (.iload_n 2, 1) := by decide +kernel
theorem dX10_leastOf_23 : decode cX10_leastOf 23 = .ok (.ireturn, 1) := by decide +kernel
theorem dX10_leastOf_24 : decode cX10_leastOf 24 = .ok (.iinc 2 1, 3) := by decide +kernel
theorem dX10_leastOf_27 : decode cX10_leastOf 27 = .ok (.goto (-25), 3) := by decide +kernel
theorem dX10_leastOf_30 : decode cX10_leastOf 30 = .ok (.iconst (-1), 1) := by decide +kernel
theorem dX10_leastOf_31 : decode cX10_leastOf 31 = .ok (.ireturn, 1) := by decide +kernel
theorem dX10_greatestOf_0 : decode cX10_greatestOf 0 = .ok (.aload_n 0, 1) := by decide +kernel
theorem dX10_greatestOf_1 : decode cX10_greatestOf 1 = .ok (.getfield 39, 3) := by decide +kernel
theorem dX10_greatestOf_4 : decode cX10_greatestOf 4 = .ok (.iconst 1, 1) := by decide +kernel
theorem dX10_greatestOf_5 : decode cX10_greatestOf 5 = .ok (.iaload, 1) := by decide +kernel
theorem dX10_greatestOf_6 : decode cX10_greatestOf 6 = .ok (.iconst 1, 1) := by decide +kernel
theorem dX10_greatestOf_7 : decode cX10_greatestOf 7 = .ok (.isub, 1) := by decide +kernel
theorem dX10_greatestOf_8 : decode cX10_greatestOf 8 = .ok (.istore_n 2, 1) := by decide +kernel
theorem dX10_greatestOf_9 : decode cX10_greatestOf 9 = .ok (.iload_n 2, 1) := by decide +kernel
theorem dX10_greatestOf_10 : decode cX10_greatestOf 10 = .ok (.ifCond .lt 21, 3) := by decide +kernel
theorem dX10_greatestOf_13 : decode cX10_greatestOf 13 = .ok (.aload_n 0, 1) := by decide +kernel
theorem dX10_greatestOf_14 : decode cX10_greatestOf 14 = .ok (.iload_n 2, 1) := by decide +kernel
theorem dX10_greatestOf_15 : decode cX10_greatestOf 15 = .ok (.iload_n 1, 1) := by decide +kernel
theorem dX10_greatestOf_16 : decode cX10_greatestOf 16 = .ok (.iconst 0, 1) := by decide +kernel
theorem dX10_greatestOf_17 : decode cX10_greatestOf 17 = .ok (.invokevirtual 287, 3) := by decide +kernel
theorem dX10_greatestOf_20 : decode cX10_greatestOf 20 = .ok (.ifCond .eq 5, 3) := by decide +kernel
theorem dX10_greatestOf_23 : decode cX10_greatestOf 23 = .ok (.iload_n 2, 1) := by decide +kernel
theorem dX10_greatestOf_24 : decode cX10_greatestOf 24 = .ok (.ireturn, 1) := by decide +kernel
theorem dX10_greatestOf_25 : decode cX10_greatestOf 25 = .ok (.iinc 2 (-1), 3) := by decide +kernel
theorem dX10_greatestOf_28 : decode cX10_greatestOf 28 = .ok (.goto (-19), 3) := by decide +kernel
theorem dX10_greatestOf_31 : decode cX10_greatestOf 31 = .ok (.iconst (-1), 1) := by decide +kernel
theorem dX10_greatestOf_32 : decode cX10_greatestOf 32 = .ok (.ireturn, 1) := by decide +kernel
theorem dX10_aheadOf_0 : decode cX10_aheadOf 0 = .ok (.iconst 0, 1) := by decide +kernel
theorem dX10_aheadOf_1 : decode cX10_aheadOf 1 = .ok (.istore_n 2, 1) := by decide +kernel
theorem dX10_aheadOf_2 : decode cX10_aheadOf 2 = .ok (.iconst 0, 1) := by decide +kernel
theorem dX10_aheadOf_3 : decode cX10_aheadOf 3 = .ok (.istore_n 3, 1) := by decide +kernel
theorem dX10_aheadOf_4 : decode cX10_aheadOf 4 = .ok (.iload_n 3, 1) := by decide +kernel
theorem dX10_aheadOf_5 : decode cX10_aheadOf 5 = .ok (.aload_n 0, 1) := by decide +kernel
theorem dX10_aheadOf_6 : decode cX10_aheadOf 6 = .ok (.getfield 39, 3) := by decide +kernel
theorem dX10_aheadOf_9 : decode cX10_aheadOf 9 = .ok (.iconst 1, 1) := by decide +kernel
theorem dX10_aheadOf_10 : decode cX10_aheadOf 10 = .ok (.iaload, 1) := by decide +kernel
theorem dX10_aheadOf_11 : decode cX10_aheadOf 11 = .ok (.if_icmp .ge 97, 3) := by decide +kernel
theorem dX10_aheadOf_14 : decode cX10_aheadOf 14 = .ok (.aload_n 0, 1) := by decide +kernel
theorem dX10_aheadOf_15 : decode cX10_aheadOf 15 = .ok (.iload_n 3, 1) := by decide +kernel
theorem dX10_aheadOf_16 : decode cX10_aheadOf 16 = .ok (.aload_n 0, 1) := by decide +kernel
theorem dX10_aheadOf_17 : decode cX10_aheadOf 17 = .ok (.getfield 39, 3) := by decide +kernel
theorem dX10_aheadOf_20 : decode cX10_aheadOf 20 = .ok (.sipush 130, 3) := by decide +kernel
theorem dX10_aheadOf_23 : decode cX10_aheadOf 23 = .ok (.iload_n 1, 1) := by decide +kernel
theorem dX10_aheadOf_24 : decode cX10_aheadOf 24 = .ok (.iadd, 1) := by decide +kernel
theorem dX10_aheadOf_25 : decode cX10_aheadOf 25 = .ok (.iaload, 1) := by decide +kernel
theorem dX10_aheadOf_26 : decode cX10_aheadOf 26 = .ok (.aload_n 0, 1) := by decide +kernel
theorem dX10_aheadOf_27 : decode cX10_aheadOf 27 = .ok (.getfield 39, 3) := by decide +kernel
theorem dX10_aheadOf_30 : decode cX10_aheadOf 30 = .ok (.sipush 190, 3) := by decide +kernel
theorem dX10_aheadOf_33 : decode cX10_aheadOf 33 = .ok (.iload_n 1, 1) := by decide +kernel
theorem dX10_aheadOf_34 : decode cX10_aheadOf 34 = .ok (.iadd, 1) := by decide +kernel
theorem dX10_aheadOf_35 : decode cX10_aheadOf 35 = .ok (.iaload, 1) := by decide +kernel
theorem dX10_aheadOf_36 : decode cX10_aheadOf 36 = .ok (.invokevirtual 287, 3) := by decide +kernel
theorem dX10_aheadOf_39 : decode cX10_aheadOf 39 = .ok (.ifCond .ne 6, 3) := by decide +kernel
theorem dX10_aheadOf_42 : decode cX10_aheadOf 42 = .ok (.goto 60, 3) := by decide +kernel
theorem dX10_aheadOf_45 : decode cX10_aheadOf 45 = .ok (.iload_n 2, 1) := by decide +kernel
theorem dX10_aheadOf_46 : decode cX10_aheadOf 46 = .ok (.aload_n 0, 1) := by decide +kernel
theorem dX10_aheadOf_47 : decode cX10_aheadOf 47 = .ok (.getfield 39, 3) := by decide +kernel
theorem dX10_aheadOf_50 : decode cX10_aheadOf 50 = .ok (.sipush 190, 3) := by decide +kernel
theorem dX10_aheadOf_53 : decode cX10_aheadOf 53 = .ok (.iload_n 1, 1) := by decide +kernel
theorem dX10_aheadOf_54 : decode cX10_aheadOf 54 = .ok (.iadd, 1) := by decide +kernel
theorem dX10_aheadOf_55 : decode cX10_aheadOf 55 = .ok (.iaload, 1) := by decide +kernel
theorem dX10_aheadOf_56 : decode cX10_aheadOf 56 = .ok (.ifCond .ne 16, 3) := by decide +kernel
theorem dX10_aheadOf_59 : decode cX10_aheadOf 59 = .ok (.iload_n 3, 1) := by decide +kernel
theorem dX10_aheadOf_60 : decode cX10_aheadOf 60 = .ok (.iload_n 1, 1) := by decide +kernel
theorem dX10_aheadOf_61 : decode cX10_aheadOf 61 = .ok (.if_icmp .ge 7, 3) := by decide +kernel
theorem dX10_aheadOf_64 : decode cX10_aheadOf 64 = .ok (.iconst 1, 1) := by decide +kernel
theorem dX10_aheadOf_65 : decode cX10_aheadOf 65 = .ok (.goto 35, 3) := by decide +kernel
theorem dX10_aheadOf_68 : decode cX10_aheadOf 68 = .ok (.iconst 0, 1) := by decide +kernel
theorem dX10_aheadOf_69 : decode cX10_aheadOf 69 = .ok (.goto 31, 3) := by decide +kernel
theorem dX10_aheadOf_72 : decode cX10_aheadOf 72 = .ok (.aload_n 0, 1) := by decide +kernel
theorem dX10_aheadOf_73 : decode cX10_aheadOf 73 = .ok (.getfield 39, 3) := by decide +kernel
theorem dX10_aheadOf_76 : decode cX10_aheadOf 76 = .ok (.sipush 250, 3) := by decide +kernel
theorem dX10_aheadOf_79 : decode cX10_aheadOf 79 = .ok (.iload_n 3, 1) := by decide +kernel
theorem dX10_aheadOf_80 : decode cX10_aheadOf 80 = .ok (.iadd, 1) := by decide +kernel
theorem dX10_aheadOf_81 : decode cX10_aheadOf 81 = .ok (.iaload, 1) := by decide +kernel
theorem dX10_aheadOf_82 : decode cX10_aheadOf 82 = .ok (.aload_n 0, 1) := by decide +kernel
theorem dX10_aheadOf_83 : decode cX10_aheadOf 83 = .ok (.getfield 39, 3) := by decide +kernel
theorem dX10_aheadOf_86 : decode cX10_aheadOf 86 = .ok (.sipush 250, 3) := by decide +kernel
theorem dX10_aheadOf_89 : decode cX10_aheadOf 89 = .ok (.iload_n 1, 1) := by decide +kernel
theorem dX10_aheadOf_90 : decode cX10_aheadOf 90 = .ok (.iadd, 1) := by decide +kernel
theorem dX10_aheadOf_91 : decode cX10_aheadOf 91 = .ok (.iaload, 1) := by decide +kernel
theorem dX10_aheadOf_92 : decode cX10_aheadOf 92 = .ok (.if_icmp .ge 7, 3) := by decide +kernel
theorem dX10_aheadOf_95 : decode cX10_aheadOf 95 = .ok (.iconst 1, 1) := by decide +kernel
theorem dX10_aheadOf_96 : decode cX10_aheadOf 96 = .ok (.goto 4, 3) := by decide +kernel
theorem dX10_aheadOf_99 : decode cX10_aheadOf 99 = .ok (.iconst 0, 1) := by decide +kernel
theorem dX10_aheadOf_100 : decode cX10_aheadOf 100 = .ok (.iadd, 1) := by decide +kernel
theorem dX10_aheadOf_101 : decode cX10_aheadOf 101 = .ok (.istore_n 2, 1) := by decide +kernel
theorem dX10_aheadOf_102 : decode cX10_aheadOf 102 = .ok (.iinc 3 1, 3) := by decide +kernel
theorem dX10_aheadOf_105 : decode cX10_aheadOf 105 = .ok (.goto (-101), 3) := by decide +kernel
theorem dX10_aheadOf_108 : decode cX10_aheadOf 108 = .ok (.iload_n 2, 1) := by decide +kernel
theorem dX10_aheadOf_109 : decode cX10_aheadOf 109 = .ok (.ireturn, 1) := by decide +kernel
theorem dX10_atPlace_0 : decode cX10_atPlace 0 = .ok (.iconst 0, 1) := by decide +kernel
theorem dX10_atPlace_1 : decode cX10_atPlace 1 = .ok (.istore 4, 2) := by decide +kernel
theorem dX10_atPlace_3 : decode cX10_atPlace 3 = .ok (.iload 4, 2) := by decide +kernel
theorem dX10_atPlace_5 : decode cX10_atPlace 5 = .ok (.aload_n 0, 1) := by decide +kernel
theorem dX10_atPlace_6 : decode cX10_atPlace 6 = .ok (.getfield 39, 3) := by decide +kernel
theorem dX10_atPlace_9 : decode cX10_atPlace 9 = .ok (.iconst 1, 1) := by decide +kernel
theorem dX10_atPlace_10 : decode cX10_atPlace 10 = .ok (.iaload, 1) := by decide +kernel
theorem dX10_atPlace_11 : decode cX10_atPlace 11 = .ok (.if_icmp .ge 33, 3) := by decide +kernel
theorem dX10_atPlace_14 : decode cX10_atPlace 14 = .ok (.aload_n 0, 1) := by decide +kernel
theorem dX10_atPlace_15 : decode cX10_atPlace 15 = .ok (.iload 4, 2) := by decide +kernel
theorem dX10_atPlace_17 : decode cX10_atPlace 17 = .ok (.iload_n 1, 1) := by decide +kernel
theorem dX10_atPlace_18 : decode cX10_atPlace 18 = .ok (.iload_n 2, 1) := by decide +kernel
theorem dX10_atPlace_19 : decode cX10_atPlace 19 = .ok (.invokevirtual 287, 3) := by decide +kernel
theorem dX10_atPlace_22 : decode cX10_atPlace 22 = .ok (.ifCond .eq 16, 3) := by decide +kernel
theorem dX10_atPlace_25 : decode cX10_atPlace 25 = .ok (.aload_n 0, 1) := by decide +kernel
theorem dX10_atPlace_26 : decode cX10_atPlace 26 = .ok (.iload 4, 2) := by decide +kernel
theorem dX10_atPlace_28 : decode cX10_atPlace 28 = .ok (.invokevirtual 294, 3) := by decide +kernel
theorem dX10_atPlace_31 : decode cX10_atPlace 31 = .ok (.iload_n 3, 1) := by decide +kernel
theorem dX10_atPlace_32 : decode cX10_atPlace 32 = .ok (.if_icmp .ne 6, 3) := by decide +kernel
theorem dX10_atPlace_35 : decode cX10_atPlace 35 = .ok (.iload 4, 2) := by decide +kernel
theorem dX10_atPlace_37 : decode cX10_atPlace 37 = .ok (.ireturn, 1) := by decide +kernel
theorem dX10_atPlace_38 : decode cX10_atPlace 38 = .ok (.iinc 4 1, 3) := by decide +kernel
theorem dX10_atPlace_41 : decode cX10_atPlace 41 = .ok (.goto (-38), 3) := by decide +kernel
theorem dX10_atPlace_44 : decode cX10_atPlace 44 = .ok (.iconst (-1), 1) := by decide +kernel
theorem dX10_atPlace_45 : decode cX10_atPlace 45 = .ok (.ireturn, 1) := by decide +kernel
theorem dX10_laysIn_0 : decode cX10_laysIn 0 = .ok (.aload_n 0, 1) := by decide +kernel
theorem dX10_laysIn_1 : decode cX10_laysIn 1 = .ok (.getfield 39, 3) := by decide +kernel
theorem dX10_laysIn_4 : decode cX10_laysIn 4 = .ok (.sipush 130, 3) := by decide +kernel
theorem dX10_laysIn_7 : decode cX10_laysIn 7 = .ok (.iload_n 1, 1) := by decide +kernel
theorem dX10_laysIn_8 : decode cX10_laysIn 8 = .ok (.iadd, 1) := by decide +kernel
theorem dX10_laysIn_9 : decode cX10_laysIn 9 = .ok (.iload_n 2, 1) := by decide +kernel
theorem dX10_laysIn_10 : decode cX10_laysIn 10 = .ok (.iastore, 1) := by decide +kernel
theorem dX10_laysIn_11 : decode cX10_laysIn 11 = .ok (.aload_n 0, 1) := by decide +kernel
theorem dX10_laysIn_12 : decode cX10_laysIn 12 = .ok (.getfield 39, 3) := by decide +kernel
theorem dX10_laysIn_15 : decode cX10_laysIn 15 = .ok (.sipush 190, 3) := by decide +kernel
theorem dX10_laysIn_18 : decode cX10_laysIn 18 = .ok (.iload_n 1, 1) := by decide +kernel
theorem dX10_laysIn_19 : decode cX10_laysIn 19 = .ok (.iadd, 1) := by decide +kernel
theorem dX10_laysIn_20 : decode cX10_laysIn 20 = .ok (.iload_n 3, 1) := by decide +kernel
theorem dX10_laysIn_21 : decode cX10_laysIn 21 = .ok (.iastore, 1) := by decide +kernel
theorem dX10_laysIn_22 : decode cX10_laysIn 22 = .ok (.aload_n 0, 1) := by decide +kernel
theorem dX10_laysIn_23 : decode cX10_laysIn 23 = .ok (.getfield 39, 3) := by decide +kernel
theorem dX10_laysIn_26 : decode cX10_laysIn 26 = .ok (.sipush 250, 3) := by decide +kernel
theorem dX10_laysIn_29 : decode cX10_laysIn 29 = .ok (.iload_n 1, 1) := by decide +kernel
theorem dX10_laysIn_30 : decode cX10_laysIn 30 = .ok (.iadd, 1) := by decide +kernel
theorem dX10_laysIn_31 : decode cX10_laysIn 31 = .ok (.aload_n 0, 1) := by decide +kernel
theorem dX10_laysIn_32 : decode cX10_laysIn 32 = .ok (.getfield 39, 3) := by decide +kernel
theorem dX10_laysIn_35 : decode cX10_laysIn 35 = .ok (.sipush 129, 3) := by decide +kernel
theorem dX10_laysIn_38 : decode cX10_laysIn 38 = .ok (.iaload, 1) := by decide +kernel
theorem dX10_laysIn_39 : decode cX10_laysIn 39 = .ok (.iastore, 1) := by decide +kernel
theorem dX10_laysIn_40 : decode cX10_laysIn 40 = .ok (.aload_n 0, 1) := by decide +kernel
theorem dX10_laysIn_41 : decode cX10_laysIn 41 = .ok (.getfield 39, 3) := by decide +kernel
theorem dX10_laysIn_44 : decode cX10_laysIn 44 = .ok (.sipush 129, 3) := by decide +kernel
theorem dX10_laysIn_47 : decode cX10_laysIn 47 = .ok (.dup2, 1) := by decide +kernel
theorem dX10_laysIn_48 : decode cX10_laysIn 48 = .ok (.iaload, 1) := by decide +kernel
theorem dX10_laysIn_49 : decode cX10_laysIn 49 = .ok (.iconst 1, 1) := by decide +kernel
theorem dX10_laysIn_50 : decode cX10_laysIn 50 = .ok (.iadd, 1) := by decide +kernel
theorem dX10_laysIn_51 : decode cX10_laysIn 51 = .ok (.iastore, 1) := by decide +kernel
theorem dX10_laysIn_52 : decode cX10_laysIn 52 = .ok (.return_, 1) := by decide +kernel
theorem dX10_isFirstOfRun_0 : decode cX10_isFirstOfRun 0 = .ok (.aload_n 0, 1) := by decide +kernel
theorem dX10_isFirstOfRun_1 : decode cX10_isFirstOfRun 1 = .ok (.iload_n 1, 1) := by decide +kernel
theorem dX10_isFirstOfRun_2 : decode cX10_isFirstOfRun 2 = .ok (.iload_n 2, 1) := by decide +kernel
theorem dX10_isFirstOfRun_3 : decode cX10_isFirstOfRun 3 = .ok (.iconst 0, 1) := by decide +kernel
theorem dX10_isFirstOfRun_4 : decode cX10_isFirstOfRun 4 = .ok (.invokevirtual 287, 3) := by decide +kernel
theorem dX10_isFirstOfRun_7 : decode cX10_isFirstOfRun 7 = .ok (.ifCond .eq 19, 3) := by decide +kernel
theorem dX10_isFirstOfRun_10 : decode cX10_isFirstOfRun 10 = .ok (.aload_n 0, 1) := by decide +kernel
theorem dX10_isFirstOfRun_11 : decode cX10_isFirstOfRun 11 = .ok (.iload_n 1, 1) := by decide +kernel
theorem dX10_isFirstOfRun_12 : decode cX10_isFirstOfRun 12 = .ok (.iconst 1, 1) := by decide +kernel
theorem dX10_isFirstOfRun_13 : decode cX10_isFirstOfRun 13 = .ok (.isub, 1) := by decide +kernel
theorem dX10_isFirstOfRun_14 : decode cX10_isFirstOfRun 14 = .ok (.iload_n 2, 1) := by decide +kernel
theorem dX10_isFirstOfRun_15 : decode cX10_isFirstOfRun 15 = .ok (.iconst 0, 1) := by decide +kernel
theorem dX10_isFirstOfRun_16 : decode cX10_isFirstOfRun 16 = .ok (.invokevirtual 287, 3) := by decide +kernel
theorem dX10_isFirstOfRun_19 : decode cX10_isFirstOfRun 19 = .ok (.ifCond .ne 7, 3) := by decide +kernel
theorem dX10_isFirstOfRun_22 : decode cX10_isFirstOfRun 22 = .ok (.iconst 1, 1) := by decide +kernel
theorem dX10_isFirstOfRun_23 : decode cX10_isFirstOfRun 23 = .ok (.goto 4, 3) := by decide +kernel
theorem dX10_isFirstOfRun_26 : decode cX10_isFirstOfRun 26 = .ok (.iconst 0, 1) := by decide +kernel
theorem dX10_isFirstOfRun_27 : decode cX10_isFirstOfRun 27 = .ok (.ireturn, 1) := by decide +kernel
theorem dX10_runsOf_0 : decode cX10_runsOf 0 = .ok (.iconst 0, 1) := by decide +kernel
theorem dX10_runsOf_1 : decode cX10_runsOf 1 = .ok (.istore_n 2, 1) := by decide +kernel
theorem dX10_runsOf_2 : decode cX10_runsOf 2 = .ok (.iconst 0, 1) := by decide +kernel
theorem dX10_runsOf_3 : decode cX10_runsOf 3 = .ok (.istore_n 3, 1) := by decide +kernel
theorem dX10_runsOf_4 : decode cX10_runsOf 4 = .ok (.iload_n 3, 1) := by decide +kernel
theorem dX10_runsOf_5 : decode cX10_runsOf 5 = .ok (.aload_n 0, 1) := by decide +kernel
theorem dX10_runsOf_6 : decode cX10_runsOf 6 = .ok (.getfield 39, 3) := by decide +kernel
theorem dX10_runsOf_9 : decode cX10_runsOf 9 = .ok (.iconst 1, 1) := by decide +kernel
theorem dX10_runsOf_10 : decode cX10_runsOf 10 = .ok (.iaload, 1) := by decide +kernel
theorem dX10_runsOf_11 : decode cX10_runsOf 11 = .ok (.if_icmp .ge 26, 3) := by decide +kernel
theorem dX10_runsOf_14 : decode cX10_runsOf 14 = .ok (.iload_n 2, 1) := by decide +kernel
theorem dX10_runsOf_15 : decode cX10_runsOf 15 = .ok (.aload_n 0, 1) := by decide +kernel
theorem dX10_runsOf_16 : decode cX10_runsOf 16 = .ok (.iload_n 3, 1) := by decide +kernel
theorem dX10_runsOf_17 : decode cX10_runsOf 17 = .ok (.iload_n 1, 1) := by decide +kernel
theorem dX10_runsOf_18 : decode cX10_runsOf 18 = .ok (.invokevirtual 297, 3) := by decide +kernel
theorem dX10_runsOf_21 : decode cX10_runsOf 21 = .ok (.ifCond .eq 7, 3) := by decide +kernel
theorem dX10_runsOf_24 : decode cX10_runsOf 24 = .ok (.iconst 1, 1) := by decide +kernel
theorem dX10_runsOf_25 : decode cX10_runsOf 25 = .ok (.goto 4, 3) := by decide +kernel
theorem dX10_runsOf_28 : decode cX10_runsOf 28 = .ok (.iconst 0, 1) := by decide +kernel
theorem dX10_runsOf_29 : decode cX10_runsOf 29 = .ok (.iadd, 1) := by decide +kernel
theorem dX10_runsOf_30 : decode cX10_runsOf 30 = .ok (.istore_n 2, 1) := by decide +kernel
theorem dX10_runsOf_31 : decode cX10_runsOf 31 = .ok (.iinc 3 1, 3) := by decide +kernel
theorem dX10_runsOf_34 : decode cX10_runsOf 34 = .ok (.goto (-30), 3) := by decide +kernel
theorem dX10_runsOf_37 : decode cX10_runsOf 37 = .ok (.iload_n 2, 1) := by decide +kernel
theorem dX10_runsOf_38 : decode cX10_runsOf 38 = .ok (.ireturn, 1) := by decide +kernel
theorem dX10_begins_0 : decode cX10_begins 0 = .ok (.iconst 0, 1) := by decide +kernel
theorem dX10_begins_1 : decode cX10_begins 1 = .ok (.istore_n 1, 1) := by decide +kernel
theorem dX10_begins_2 : decode cX10_begins 2 = .ok (.iload_n 1, 1) := by decide +kernel
theorem dX10_begins_3 : decode cX10_begins 3 = .ok (.sipush 1012, 3) := by decide +kernel
theorem dX10_begins_6 : decode cX10_begins 6 = .ok (.if_icmp .ge 20, 3) := by decide +kernel
theorem dX10_begins_9 : decode cX10_begins 9 = .ok (.aload_n 0, 1) := by decide +kernel
theorem dX10_begins_10 : decode cX10_begins 10 = .ok (.getfield 39, 3) := by decide +kernel
theorem dX10_begins_13 : decode cX10_begins 13 = .ok (.sipush 128, 3) := by decide +kernel
theorem dX10_begins_16 : decode cX10_begins 16 = .ok (.iload_n 1, 1) := by decide +kernel
theorem dX10_begins_17 : decode cX10_begins 17 = .ok (.iadd, 1) := by decide +kernel
theorem dX10_begins_18 : decode cX10_begins 18 = .ok (.iconst 0, 1) := by decide +kernel
theorem dX10_begins_19 : decode cX10_begins 19 = .ok (.iastore, 1) := by decide +kernel
theorem dX10_begins_20 : decode cX10_begins 20 = .ok (.iinc 1 1, 3) := by decide +kernel
theorem dX10_begins_23 : decode cX10_begins 23 = .ok (.goto (-21), 3) := by decide +kernel
theorem dX10_begins_26 : decode cX10_begins 26 = .ok (.iconst 0, 1) := by decide +kernel
theorem dX10_begins_27 : decode cX10_begins 27 = .ok (.istore_n 1, 1) := by decide +kernel
theorem dX10_begins_28 : decode cX10_begins 28 = .ok (.iload_n 1, 1) := by decide +kernel
theorem dX10_begins_29 : decode cX10_begins 29 = .ok (.aload_n 0, 1) := by decide +kernel
theorem dX10_begins_30 : decode cX10_begins 30 = .ok (.getfield 39, 3) := by decide +kernel
theorem dX10_begins_33 : decode cX10_begins 33 = .ok (.iconst 1, 1) := by decide +kernel
theorem dX10_begins_34 : decode cX10_begins 34 = .ok (.iaload, 1) := by decide +kernel
theorem dX10_begins_35 : decode cX10_begins 35 = .ok (.if_icmp .ge 51, 3) := by decide +kernel
theorem dX10_begins_38 : decode cX10_begins 38 = .ok (.aload_n 0, 1) := by decide +kernel
theorem dX10_begins_39 : decode cX10_begins 39 = .ok (.getfield 39, 3) := by decide +kernel
theorem dX10_begins_42 : decode cX10_begins 42 = .ok (.iconst 3, 1) := by decide +kernel
theorem dX10_begins_43 : decode cX10_begins 43 = .ok (.iload_n 1, 1) := by decide +kernel
theorem dX10_begins_44 : decode cX10_begins 44 = .ok (.iadd, 1) := by decide +kernel
theorem dX10_begins_45 : decode cX10_begins 45 = .ok (.iaload, 1) := by decide +kernel
theorem dX10_begins_46 : decode cX10_begins 46 = .ok (.ifCond .lt 34, 3) := by decide +kernel
theorem dX10_begins_49 : decode cX10_begins 49 = .ok (.aload_n 0, 1) := by decide +kernel
theorem dX10_begins_50 : decode cX10_begins 50 = .ok (.iload_n 1, 1) := by decide +kernel
theorem dX10_begins_51 : decode cX10_begins 51 = .ok (.aload_n 0, 1) := by decide +kernel
theorem dX10_begins_52 : decode cX10_begins 52 = .ok (.getfield 39, 3) := by decide +kernel
theorem dX10_begins_55 : decode cX10_begins 55 = .ok (.iconst 3, 1) := by decide +kernel
theorem dX10_begins_56 : decode cX10_begins 56 = .ok (.iload_n 1, 1) := by decide +kernel
theorem dX10_begins_57 : decode cX10_begins 57 = .ok (.iadd, 1) := by decide +kernel
theorem dX10_begins_58 : decode cX10_begins 58 = .ok (.iaload, 1) := by decide +kernel
theorem dX10_begins_59 : decode cX10_begins 59 = .ok (.aload_n 0, 1) := by decide +kernel
theorem dX10_begins_60 : decode cX10_begins 60 = .ok (.getfield 39, 3) := by decide +kernel
theorem dX10_begins_63 : decode cX10_begins 63 = .ok (.bipush 63, 2) := by decide +kernel
theorem dX10_begins_65 : decode cX10_begins 65 = .ok (.iload_n 1, 1) := by decide +kernel
theorem dX10_begins_66 : decode cX10_begins 66 = .ok (.iadd, 1) := by decide +kernel
theorem dX10_begins_67 : decode cX10_begins 67 = .ok (.iaload, 1) := by decide +kernel
theorem dX10_begins_68 : decode cX10_begins 68 = .ok (.iconst 1, 1) := by decide +kernel
theorem dX10_begins_69 : decode cX10_begins 69 = .ok (.if_icmp .ne 7, 3) := by decide +kernel
theorem dX10_begins_72 : decode cX10_begins 72 = .ok (.iconst 2, 1) := by decide +kernel
theorem dX10_begins_73 : decode cX10_begins 73 = .ok (.goto 4, 3) := by decide +kernel
theorem dX10_begins_76 : decode cX10_begins 76 = .ok (.iconst 0, 1) := by decide +kernel
theorem dX10_begins_77 : decode cX10_begins 77 = .ok (.invokevirtual 300, 3) := by decide +kernel
theorem dX10_begins_80 : decode cX10_begins 80 = .ok (.iinc 1 1, 3) := by decide +kernel
theorem dX10_begins_83 : decode cX10_begins 83 = .ok (.goto (-55), 3) := by decide +kernel
theorem dX10_begins_86 : decode cX10_begins 86 = .ok (.iconst 0, 1) := by decide +kernel
theorem dX10_begins_87 : decode cX10_begins 87 = .ok (.istore_n 1, 1) := by decide +kernel
theorem dX10_begins_88 : decode cX10_begins 88 = .ok (.iload_n 1, 1) := by decide +kernel
theorem dX10_begins_89 : decode cX10_begins 89 = .ok (.iconst 5, 1) := by decide +kernel
theorem dX10_begins_90 : decode cX10_begins 90 = .ok (.if_icmp .ge 57, 3) := by decide +kernel
theorem dX10_begins_93 : decode cX10_begins 93 = .ok (.aload_n 0, 1) := by decide +kernel
theorem dX10_begins_94 : decode cX10_begins 94 = .ok (.getfield 39, 3) := by decide +kernel
theorem dX10_begins_97 : decode cX10_begins 97 = .ok (.sipush 1090, 3) := by decide +kernel
theorem dX10_begins_100 : decode cX10_begins 100 = .ok (.iload_n 1, 1) := by decide +kernel
theorem dX10_begins_101 : decode cX10_begins 101 = .ok (.iadd, 1) := by decide +kernel
theorem dX10_begins_102 : decode cX10_begins 102 = .ok (.aload_n 0, 1) := by decide +kernel
theorem dX10_begins_103 : decode cX10_begins 103 = .ok (.getfield 39, 3) := by decide +kernel
theorem dX10_begins_106 : decode cX10_begins 106 = .ok (.bipush 123, 2) := by decide +kernel
theorem dX10_begins_108 : decode cX10_begins 108 = .ok (.iload_n 1, 1) := by decide +kernel
theorem dX10_begins_109 : decode cX10_begins 109 = .ok (.iadd, 1) := by decide +kernel
theorem dX10_begins_110 : decode cX10_begins 110 = .ok (.iaload, 1) := by decide +kernel
theorem dX10_begins_111 : decode cX10_begins 111 = .ok (.iastore, 1) := by decide +kernel
theorem dX10_begins_112 : decode cX10_begins 112 = .ok (.iconst 0, 1) := by decide +kernel
theorem dX10_begins_113 : decode cX10_begins 113 = .ok (.istore_n 2, 1) := by decide +kernel
theorem dX10_begins_114 : decode cX10_begins 114 = .ok (.iload_n 2, 1) := by decide +kernel
theorem dX10_begins_115 : decode cX10_begins 115 = .ok (.iconst 3, 1) := by decide +kernel
theorem dX10_begins_116 : decode cX10_begins 116 = .ok (.if_icmp .ge 25, 3) := by decide +kernel
theorem dX10_begins_119 : decode cX10_begins 119 = .ok (.aload_n 0, 1) := by decide +kernel
theorem dX10_begins_120 : decode cX10_begins 120 = .ok (.getfield 39, 3) := by decide +kernel
theorem dX10_begins_123 : decode cX10_begins 123 = .ok (.sipush 1095, 3) := by decide +kernel
theorem dX10_begins_126 : decode cX10_begins 126 = .ok (.iconst 3, 1) := by decide +kernel
theorem dX10_begins_127 : decode cX10_begins 127 = .ok (.iload_n 1, 1) := by decide +kernel
theorem dX10_begins_128 : decode cX10_begins 128 = .ok (.imul, 1) := by decide +kernel
theorem dX10_begins_129 : decode cX10_begins 129 = .ok (.iadd, 1) := by decide +kernel
theorem dX10_begins_130 : decode cX10_begins 130 = .ok (.iload_n 2, 1) := by decide +kernel
theorem dX10_begins_131 : decode cX10_begins 131 = .ok (.iadd, 1) := by decide +kernel
theorem dX10_begins_132 : decode cX10_begins 132 = .ok (.bipush (-2), 2) := by decide +kernel
theorem dX10_begins_134 : decode cX10_begins 134 = .ok (.iastore, 1) := by decide +kernel
theorem dX10_begins_135 : decode cX10_begins 135 = .ok (.iinc 2 1, 3) := by decide +kernel
theorem dX10_begins_138 : decode cX10_begins 138 = .ok (.goto (-24), 3) := by decide +kernel
theorem dX10_begins_141 : decode cX10_begins 141 = .ok (.iinc 1 1, 3) := by decide +kernel
theorem dX10_begins_144 : decode cX10_begins 144 = .ok (.goto (-56), 3) := by decide +kernel
theorem dX10_begins_147 : decode cX10_begins 147 = .ok (.return_, 1) := by decide +kernel
theorem dX10_force_0 : decode cX10_force 0 = .ok (.iload_n 1, 1) := by decide +kernel
theorem dX10_force_1 : decode cX10_force 1 = .ok (.iconst (-1), 1) := by decide +kernel
theorem dX10_force_2 : decode cX10_force 2 = .ok (.if_icmp .eq 14, 3) := by decide +kernel
theorem dX10_force_5 : decode cX10_force 5 = .ok (.aload_n 0, 1) := by decide +kernel
theorem dX10_force_6 : decode cX10_force 6 = .ok (.iload_n 1, 1) := by decide +kernel
theorem dX10_force_7 : decode cX10_force 7 = .ok (.invokevirtual 304, 3) := by decide +kernel
theorem dX10_force_10 : decode cX10_force 10 = .ok (.ifCond .ne 6, 3) := by decide +kernel
theorem dX10_force_13 : decode cX10_force 13 = .ok (.bipush (-2), 2) := by decide +kernel
theorem dX10_force_15 : decode cX10_force 15 = .ok (.ireturn, 1) := by decide +kernel
theorem dX10_force_16 : decode cX10_force 16 = .ok (.aload_n 0, 1) := by decide +kernel
theorem dX10_force_17 : decode cX10_force 17 = .ok (.getfield 42, 3) := by decide +kernel
theorem dX10_force_20 : decode cX10_force 20 = .ok (.istore_n 2, 1) := by decide +kernel
theorem dX10_force_21 : decode cX10_force 21 = .ok (.aload_n 0, 1) := by decide +kernel
theorem dX10_force_22 : decode cX10_force 22 = .ok (.iload_n 1, 1) := by decide +kernel
theorem dX10_force_23 : decode cX10_force 23 = .ok (.putfield 42, 3) := by decide +kernel
theorem dX10_force_26 : decode cX10_force 26 = .ok (.iload_n 2, 1) := by decide +kernel
theorem dX10_force_27 : decode cX10_force 27 = .ok (.ireturn, 1) := by decide +kernel
theorem dX10_station_0 : decode cX10_station 0 = .ok (.aload_n 0, 1) := by decide +kernel
theorem dX10_station_1 : decode cX10_station 1 = .ok (.iload_n 1, 1) := by decide +kernel
theorem dX10_station_2 : decode cX10_station 2 = .ok (.invokevirtual 307, 3) := by decide +kernel
theorem dX10_station_5 : decode cX10_station 5 = .ok (.ifCond .ne 5, 3) := by decide +kernel
theorem dX10_station_8 : decode cX10_station 8 = .ok (.iconst (-1), 1) := by decide +kernel
theorem dX10_station_9 : decode cX10_station 9 = .ok (.ireturn, 1) := by decide +kernel
theorem dX10_station_10 : decode cX10_station 10 = .ok (.iload_n 2, 1) := by decide +kernel
theorem dX10_station_11 : decode cX10_station 11 = .ok (.tableswitch 72 0 5 #[37, 37, 37, 44, 55, 61], 37) := by decide +kernel
theorem dX10_station_48 : decode cX10_station 48 = .ok (.aload_n 0, 1) := by decide +kernel
theorem dX10_station_49 : decode cX10_station 49 = .ok (.iload_n 1, 1) := by decide +kernel
theorem dX10_station_50 : decode cX10_station 50 = .ok (.iload_n 2, 1) := by decide +kernel
theorem dX10_station_51 : decode cX10_station 51 = .ok (.invokevirtual 290, 3) := by decide +kernel
theorem dX10_station_54 : decode cX10_station 54 = .ok (.ireturn, 1) := by decide +kernel
theorem dX10_station_55 : decode cX10_station 55 = .ok (.aload_n 0, 1) := by decide +kernel
theorem dX10_station_56 : decode cX10_station 56 = .ok (.getfield 39, 3) := by decide +kernel
theorem dX10_station_59 : decode cX10_station 59 = .ok (.sipush 1090, 3) := by decide +kernel
theorem dX10_station_62 : decode cX10_station 62 = .ok (.iload_n 1, 1) := by decide +kernel
theorem dX10_station_63 : decode cX10_station 63 = .ok (.iadd, 1) := by decide +kernel
theorem dX10_station_64 : decode cX10_station 64 = .ok (.iaload, 1) := by decide +kernel
theorem dX10_station_65 : decode cX10_station 65 = .ok (.ireturn, 1) := by decide +kernel
theorem dX10_station_66 : decode cX10_station 66 = .ok (.aload_n 0, 1) := by decide +kernel
theorem dX10_station_67 : decode cX10_station 67 = .ok (.iload_n 1, 1) := by decide +kernel
theorem dX10_station_68 : decode cX10_station 68 = .ok (.invokevirtual 310, 3) := by decide +kernel
theorem dX10_station_71 : decode cX10_station 71 = .ok (.ireturn, 1) := by decide +kernel
theorem dX10_station_72 : decode cX10_station 72 = .ok (.aload_n 0, 1) := by decide +kernel
theorem dX10_station_73 : decode cX10_station 73 = .ok (.getfield 39, 3) := by decide +kernel
theorem dX10_station_76 : decode cX10_station 76 = .ok (.sipush 1110, 3) := by decide +kernel
theorem dX10_station_79 : decode cX10_station 79 = .ok (.iload_n 1, 1) := by decide +kernel
theorem dX10_station_80 : decode cX10_station 80 = .ok (.iadd, 1) := by decide +kernel
theorem dX10_station_81 : decode cX10_station 81 = .ok (.iaload, 1) := by decide +kernel
theorem dX10_station_82 : decode cX10_station 82 = .ok (.ireturn, 1) := by decide +kernel
theorem dX10_station_83 : decode cX10_station 83 = .ok (.iconst (-1), 1) := by decide +kernel
theorem dX10_station_84 : decode cX10_station 84 = .ok (.ireturn, 1) := by decide +kernel
theorem dX10_paper_0 : decode cX10_paper 0 = .ok (.aload_n 0, 1) := by decide +kernel
theorem dX10_paper_1 : decode cX10_paper 1 = .ok (.iload_n 1, 1) := by decide +kernel
theorem dX10_paper_2 : decode cX10_paper 2 = .ok (.invokevirtual 284, 3) := by decide +kernel
theorem dX10_paper_5 : decode cX10_paper 5 = .ok (.ifCond .eq 15, 3) := by decide +kernel
theorem dX10_paper_8 : decode cX10_paper 8 = .ok (.iload_n 2, 1) := by decide +kernel
theorem dX10_paper_9 : decode cX10_paper 9 = .ok (.i2l, 1) := by decide +kernel
theorem dX10_paper_10 : decode cX10_paper 10 = .ok (.lconst 0, 1) := by decide +kernel
theorem dX10_paper_11 : decode cX10_paper 11 = .ok (.ldc2_w 313, 3) := by decide +kernel
theorem dX10_paper_14 : decode cX10_paper 14 = .ok (.invokestatic 121, 3) := by decide +kernel
theorem dX10_paper_17 : decode cX10_paper 17 = .ok (.ifCond .ne 5, 3) := by decide +kernel
theorem dX10_paper_20 : decode cX10_paper 20 = .ok (.iconst (-1), 1) := by decide +kernel
theorem dX10_paper_21 : decode cX10_paper 21 = .ok (.ireturn, 1) := by decide +kernel
theorem dX10_paper_22 : decode cX10_paper 22 = .ok (.iload_n 2, 1) := by decide +kernel
theorem dX10_paper_23 : decode cX10_paper 23 = .ok (.ifCond .ne 16, 3) := by decide +kernel
