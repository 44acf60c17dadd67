theorem dX9_look_102 : decode cX9_look 102 = .ok (.ifCond .eq 10, 3) := by decide +kernel
theorem dX9_look_105 : decode cX9_look 105 = .ok (.iload 4, 2) := by decide +kernel
theorem dX9_look_107 : decode cX9_look 107 = .ok (.bipush (-2), 2) := by decide +kernel
theorem dX9_look_109 : decode cX9_look 109 = .ok (.if_icmp .ne 8, 3) := by decide +kernel
theorem dX9_look_112 : decode cX9_look 112 = .ok (.iload 4, 2) := by decide +kernel
theorem dX9_look_114 : decode cX9_look 114 = .ok (.goto 5, 3) := by decide +kernel
theorem dX9_look_117 : decode cX9_look 117 = .ok (.iload 5, 2) := by decide +kernel
theorem dX9_look_119 : decode cX9_look 119 = .ok (.ireturn, 1) := by decide +kernel
theorem dX9_seed_0 : decode cX9_seed 0 = .ok (.iload_n 1, 1) := by decide +kernel
theorem dX9_seed_1 : decode cX9_seed 1 = .ok (.ifCond .ge 5, 3) := by decide +kernel
theorem dX9_seed_4 : decode cX9_seed 4 = .ok (.iconst (-1), 1) := by decide +kernel
theorem dX9_seed_5 : decode cX9_seed 5 = .ok (.ireturn, 1) := by decide +kernel
theorem dX9_seed_6 : decode cX9_seed 6 = .ok (.aload_n 0, 1) := by decide +kernel
theorem dX9_seed_7 : decode cX9_seed 7 = .ok (.getfield 41, 3) := by decide +kernel
theorem dX9_seed_10 : decode cX9_seed 10 = .ok (.getfield 316, 3) := by decide +kernel
theorem dX9_seed_13 : decode cX9_seed 13 = .ok (.istore_n 2, 1) := by decide +kernel
theorem dX9_seed_14 : decode cX9_seed 14 = .ok (.aload_n 0, 1) := by decide +kernel
theorem dX9_seed_15 : decode cX9_seed 15 = .ok (.getfield 41, 3) := by decide +kernel
theorem dX9_seed_18 : decode cX9_seed 18 = .ok (.iload_n 1, 1) := by decide +kernel
theorem dX9_seed_19 : decode cX9_seed 19 = .ok (.putfield 316, 3) := by decide +kernel
theorem dX9_seed_22 : decode cX9_seed 22 = .ok (.iload_n 2, 1) := by decide +kernel
theorem dX9_seed_23 : decode cX9_seed 23 = .ok (.ireturn, 1) := by decide +kernel
theorem dX9_crowded_0 : decode cX9_crowded 0 = .ok (.aload_n 0, 1) := by decide +kernel
theorem dX9_crowded_1 : decode cX9_crowded 1 = .ok (.getfield 41, 3) := by decide +kernel
theorem dX9_crowded_4 : decode cX9_crowded 4 = .ok (.getfield 115, 3) := by decide +kernel
theorem dX9_crowded_7 : decode cX9_crowded 7 = .ok (.ifCond .eq 46, 3) := by decide +kernel
theorem dX9_crowded_10 : decode cX9_crowded 10 = .ok (.iload_n 1, 1) := by decide +kernel
theorem dX9_crowded_11 : decode cX9_crowded 11 = .ok (.iconst 1, 1) := by decide +kernel
theorem dX9_crowded_12 : decode cX9_crowded 12 = .ok (.if_icmp .lt 41, 3) := by decide +kernel
theorem dX9_crowded_15 : decode cX9_crowded 15 = .ok (.iload_n 1, 1) := by decide +kernel
theorem dX9_crowded_16 : decode cX9_crowded 16 = .ok (.bipush 10, 2) := by decide +kernel
theorem dX9_crowded_18 : decode cX9_crowded 18 = .ok (.if_icmp .gt 35, 3) := by decide +kernel
theorem dX9_crowded_21 : decode cX9_crowded 21 = .ok (.iload_n 2, 1) := by decide +kernel
theorem dX9_crowded_22 : decode cX9_crowded 22 = .ok (.iconst 1, 1) := by decide +kernel
theorem dX9_crowded_23 : decode cX9_crowded 23 = .ok (.if_icmp .lt 30, 3) := by decide +kernel
theorem dX9_crowded_26 : decode cX9_crowded 26 = .ok (.iload_n 2, 1) := by decide +kernel
theorem dX9_crowded_27 : decode cX9_crowded 27 = .ok (.bipush 60, 2) := by decide +kernel
theorem dX9_crowded_29 : decode cX9_crowded 29 = .ok (.if_icmp .gt 24, 3) := by decide +kernel
theorem dX9_crowded_32 : decode cX9_crowded 32 = .ok (.iload_n 3, 1) := by decide +kernel
theorem dX9_crowded_33 : decode cX9_crowded 33 = .ok (.ifCond .lt 20, 3) := by decide +kernel
theorem dX9_crowded_36 : decode cX9_crowded 36 = .ok (.iload_n 3, 1) := by decide +kernel
theorem dX9_crowded_37 : decode cX9_crowded 37 = .ok (.bipush 100, 2) := by decide +kernel
theorem dX9_crowded_39 : decode cX9_crowded 39 = .ok (.if_icmp .gt 14, 3) := by decide +kernel
theorem dX9_crowded_42 : decode cX9_crowded 42 = .ok (.iload 4, 2) := by decide +kernel
theorem dX9_crowded_44 : decode cX9_crowded 44 = .ok (.ifCond .lt 9, 3) := by decide +kernel
theorem dX9_crowded_47 : decode cX9_crowded 47 = .ok (.iload 4, 2) := by decide +kernel
theorem dX9_crowded_49 : decode cX9_crowded 49 = .ok (.iconst 1, 1) := by decide +kernel
theorem dX9_crowded_50 : decode cX9_crowded 50 = .ok (.if_icmp .le 5, 3) := by decide +kernel
theorem dX9_crowded_53 : decode cX9_crowded 53 = .ok (.iconst (-1), 1) := by decide +kernel
theorem dX9_crowded_54 : decode cX9_crowded 54 = .ok (.ireturn, 1) := by decide +kernel
theorem dX9_crowded_55 : decode cX9_crowded 55 = .ok (.aload_n 0, 1) := by decide +kernel
theorem dX9_crowded_56 : decode cX9_crowded 56 = .ok (.invokevirtual 203, 3) := by decide +kernel
theorem dX9_crowded_59 : decode cX9_crowded 59 = .ok (.astore 5, 2) := by decide +kernel
theorem dX9_crowded_61 : decode cX9_crowded 61 = .ok (.aload_n 0, 1) := by decide +kernel
theorem dX9_crowded_62 : decode cX9_crowded 62 = .ok (.getfield 41, 3) := by decide +kernel
theorem dX9_crowded_65 : decode cX9_crowded 65 = .ok (.getfield 316, 3) := by decide +kernel
theorem dX9_crowded_68 : decode cX9_crowded 68 = .ok (.istore 6, 2) := by decide +kernel
theorem dX9_crowded_70 : decode cX9_crowded 70 = .ok (.iconst 0, 1) := by decide +kernel
theorem dX9_crowded_71 : decode cX9_crowded 71 = .ok (.istore 7, 2) := by decide +kernel
theorem dX9_crowded_73 : decode cX9_crowded 73 = .ok (.iconst 0, 1) := by decide +kernel
theorem dX9_crowded_74 : decode cX9_crowded 74 = .ok (.istore 8, 2) := by decide +kernel
theorem dX9_crowded_76 : decode cX9_crowded 76 = .ok (.iload 8, 2) := by decide +kernel
theorem dX9_crowded_78 : decode cX9_crowded 78 = .ok (.iload_n 1, 1) := by decide +kernel
theorem dX9_crowded_79 : decode cX9_crowded 79 = .ok (.if_icmp .ge 84, 3) := by decide +kernel
theorem dX9_crowded_82 : decode cX9_crowded 82 = .ok (.aload_n 0, 1) := by decide +kernel
theorem dX9_crowded_83 : decode cX9_crowded 83 = .ok (.getfield 59, 3) := by decide +kernel
theorem dX9_crowded_86 : decode cX9_crowded 86 = .ok (.aload_n 0, 1) := by decide +kernel
theorem dX9_crowded_87 : decode cX9_crowded 87 = .ok (.getfield 41, 3) := by decide +kernel
theorem dX9_crowded_90 : decode cX9_crowded 90 = .ok (.getfield 95, 3) := by decide +kernel
theorem dX9_crowded_93 : decode cX9_crowded 93 = .ok (.getfield 106, 3) := by decide +kernel
theorem dX9_crowded_96 : decode cX9_crowded 96 = .ok (.invokevirtual 111, 3) := by decide +kernel
theorem dX9_crowded_99 : decode cX9_crowded 99 = .ok (.iconst 0, 1) := by decide +kernel
theorem dX9_crowded_100 : decode cX9_crowded 100 = .ok (.istore 9, 2) := by decide +kernel
theorem dX9_crowded_102 : decode cX9_crowded 102 = .ok (.iload 9, 2) := by decide +kernel
theorem dX9_crowded_104 : decode cX9_crowded 104 = .ok (.iload_n 2, 1) := by decide +kernel
theorem dX9_crowded_105 : decode cX9_crowded 105 = .ok (.if_icmp .ge 30, 3) := by decide +kernel
theorem dX9_crowded_108 : decode cX9_crowded 108 = .ok (.aload_n 0, 1) := by decide +kernel
theorem dX9_crowded_109 : decode cX9_crowded 109 = .ok (.getfield 59, 3) := by decide +kernel
theorem dX9_crowded_112 : decode cX9_crowded 112 = .ok (.iload 6, 2) := by decide +kernel
theorem dX9_crowded_114 : decode cX9_crowded 114 = .ok (.iload_n 3, 1) := by decide +kernel
theorem dX9_crowded_115 : decode cX9_crowded 115 = .ok (.invokevirtual 319, 3) := by decide +kernel
theorem dX9_crowded_118 : decode cX9_crowded 118 = .ok (.istore 6, 2) := by decide +kernel
theorem dX9_crowded_120 : decode cX9_crowded 120 = .ok (.aload_n 0, 1) := by decide +kernel
theorem dX9_crowded_121 : decode cX9_crowded 121 = .ok (.getfield 59, 3) := by decide +kernel
theorem dX9_crowded_124 : decode cX9_crowded 124 = .ok (.aload 5, 2) := by decide +kernel
theorem dX9_crowded_126 : decode cX9_crowded 126 = .ok (.invokevirtual 282, 3) := by decide +kernel
theorem dX9_crowded_129 : decode cX9_crowded 129 = .ok (.iinc 9 1, 3) := by decide +kernel
theorem dX9_crowded_132 : decode cX9_crowded 132 = .ok (.goto (-30), 3) := by decide +kernel
theorem dX9_crowded_135 : decode cX9_crowded 135 = .ok (.iload 7, 2) := by decide +kernel
theorem dX9_crowded_137 : decode cX9_crowded 137 = .ok (.aload_n 0, 1) := by decide +kernel
theorem dX9_crowded_138 : decode cX9_crowded 138 = .ok (.getfield 59, 3) := by decide +kernel
theorem dX9_crowded_141 : decode cX9_crowded 141 = .ok (.iload 4, 2) := by decide +kernel
theorem dX9_crowded_143 : decode cX9_crowded 143 = .ok (.ifCond .ne 7, 3) := by decide +kernel
theorem dX9_crowded_146 : decode cX9_crowded 146 = .ok (.iconst 1, 1) := by decide +kernel
theorem dX9_crowded_147 : decode cX9_crowded 147 = .ok (.goto 4, 3) := by decide +kernel
theorem dX9_crowded_150 : decode cX9_crowded 150 = .ok (.iconst 3, 1) := by decide +kernel
theorem dX9_crowded_151 : decode cX9_crowded 151 = .ok (.invokevirtual 286, 3) := by decide +kernel
theorem dX9_crowded_154 : decode cX9_crowded 154 = .ok (.iadd, 1) := by decide +kernel
theorem dX9_crowded_155 : decode cX9_crowded 155 = .ok (.istore 7, 2) := by decide +kernel
theorem dX9_crowded_157 : decode cX9_crowded 157 = .ok (.iinc 8 1, 3) := by decide +kernel
theorem dX9_crowded_160 : decode cX9_crowded 160 = .ok (.goto (-84), 3) := by decide +kernel
theorem dX9_crowded_163 : decode cX9_crowded 163 = .ok (.iload 7, 2) := by decide +kernel
theorem dX9_crowded_165 : decode cX9_crowded 165 = .ok (.ireturn, 1) := by decide +kernel
theorem dX9_count_0 : decode cX9_count 0 = .ok (.aload_n 0, 1) := by decide +kernel
theorem dX9_count_1 : decode cX9_count 1 = .ok (.getfield 41, 3) := by decide +kernel
theorem dX9_count_4 : decode cX9_count 4 = .ok (.getfield 95, 3) := by decide +kernel
theorem dX9_count_7 : decode cX9_count 7 = .ok (.getfield 106, 3) := by decide +kernel
theorem dX9_count_10 : decode cX9_count 10 = .ok (.astore_n 2, 1) := by decide +kernel
theorem dX9_count_11 : decode cX9_count 11 = .ok (.iload_n 1, 1) := by decide +kernel
theorem dX9_count_12 : decode cX9_count 12 = .ok (.tableswitch 167 0 13 #[72, 83, 88, 93, 101, 106, 112, 118, 124, 130, 135, 143, 151, 159], 72) := by decide +kernel
theorem dX9_count_84 : decode cX9_count 84 = .ok (.aload_n 0, 1) := by decide +kernel
theorem dX9_count_85 : decode cX9_count 85 = .ok (.getfield 41, 3) := by decide +kernel
theorem dX9_count_88 : decode cX9_count 88 = .ok (.getfield 95, 3) := by decide +kernel
theorem dX9_count_91 : decode cX9_count 91 = .ok (.getfield 322, 3) := by decide +kernel
theorem dX9_count_94 : decode cX9_count 94 = .ok (.ireturn, 1) := by decide +kernel
theorem dX9_count_95 : decode cX9_count 95 = .ok (.aload_n 2, 1) := by decide +kernel
theorem dX9_count_96 : decode cX9_count 96 = .ok (.getfield 125, 3) := by decide +kernel
theorem dX9_count_99 : decode cX9_count 99 = .ok (.ireturn, 1) := by decide +kernel
theorem dX9_count_100 : decode cX9_count 100 = .ok (.aload_n 0, 1) := by decide +kernel
theorem dX9_count_101 : decode cX9_count 101 = .ok (.getfield 128, 3) := by decide +kernel
theorem dX9_count_104 : decode cX9_count 104 = .ok (.ireturn, 1) := by decide +kernel
theorem dX9_count_105 : decode cX9_count 105 = .ok (.aload_n 0, 1) := by decide +kernel
theorem dX9_count_106 : decode cX9_count 106 = .ok (.getfield 41, 3) := by decide +kernel
theorem dX9_count_109 : decode cX9_count 109 = .ok (.getfield 134, 3) := by decide +kernel
theorem dX9_count_112 : decode cX9_count 112 = .ok (.ireturn, 1) := by decide +kernel
theorem dX9_count_113 : decode cX9_count 113 = .ok (.aload_n 2, 1) := by decide +kernel
theorem dX9_count_114 : decode cX9_count 114 = .ok (.getfield 197, 3) := by decide +kernel
theorem dX9_count_117 : decode cX9_count 117 = .ok (.ireturn, 1) := by decide +kernel
theorem dX9_count_118 : decode cX9_count 118 = .ok (.aload_n 2, 1) := by decide +kernel
theorem dX9_count_119 : decode cX9_count 119 = .ok (.iconst 0, 1) := by decide +kernel
theorem dX9_count_120 : decode cX9_count 120 = .ok (.invokevirtual 286, 3) := by decide +kernel
theorem dX9_count_123 : decode cX9_count 123 = .ok (.ireturn, 1) := by decide +kernel
theorem dX9_count_124 : decode cX9_count 124 = .ok (.aload_n 2, 1) := by decide +kernel
theorem dX9_count_125 : decode cX9_count 125 = .ok (.iconst 1, 1) := by decide +kernel
theorem dX9_count_126 : decode cX9_count 126 = .ok (.invokevirtual 286, 3) := by decide +kernel
theorem dX9_count_129 : decode cX9_count 129 = .ok (.ireturn, 1) := by decide +kernel
theorem dX9_count_130 : decode cX9_count 130 = .ok (.aload_n 2, 1) := by decide +kernel
theorem dX9_count_131 : decode cX9_count 131 = .ok (.iconst 2, 1) := by decide +kernel
theorem dX9_count_132 : decode cX9_count 132 = .ok (.invokevirtual 286, 3) := by decide +kernel
theorem dX9_count_135 : decode cX9_count 135 = .ok (.ireturn, 1) := by decide +kernel
theorem dX9_count_136 : decode cX9_count 136 = .ok (.aload_n 2, 1) := by decide +kernel
theorem dX9_count_137 : decode cX9_count 137 = .ok (.iconst 3, 1) := by decide +kernel
theorem dX9_count_138 : decode cX9_count 138 = .ok (.invokevirtual 286, 3) := by decide +kernel
theorem dX9_count_141 : decode cX9_count 141 = .ok (.ireturn, 1) := by decide +kernel
theorem dX9_count_142 : decode cX9_count 142 = .ok (.aload_n 2, 1) := by decide +kernel
theorem dX9_count_143 : decode cX9_count 143 = .ok (.invokevirtual 325, 3) := by decide +kernel
theorem dX9_count_146 : decode cX9_count 146 = .ok (.ireturn, 1) := by decide +kernel
theorem dX9_count_147 : decode cX9_count 147 = .ok (.aload_n 0, 1) := by decide +kernel
theorem dX9_count_148 : decode cX9_count 148 = .ok (.getfield 41, 3) := by decide +kernel
theorem dX9_count_151 : decode cX9_count 151 = .ok (.getfield 119, 3) := by decide +kernel
theorem dX9_count_154 : decode cX9_count 154 = .ok (.ireturn, 1) := by decide +kernel
theorem dX9_count_155 : decode cX9_count 155 = .ok (.aload_n 0, 1) := by decide +kernel
theorem dX9_count_156 : decode cX9_count 156 = .ok (.getfield 52, 3) := by decide +kernel
theorem dX9_count_159 : decode cX9_count 159 = .ok (.getfield 250, 3) := by decide +kernel
theorem dX9_count_162 : decode cX9_count 162 = .ok (.ireturn, 1) := by decide +kernel
theorem dX9_count_163 : decode cX9_count 163 = .ok (.aload_n 0, 1) := by decide +kernel
theorem dX9_count_164 : decode cX9_count 164 = .ok (.getfield 41, 3) := by decide +kernel
theorem dX9_count_167 : decode cX9_count 167 = .ok (.getfield 316, 3) := by decide +kernel
theorem dX9_count_170 : decode cX9_count 170 = .ok (.ireturn, 1) := by decide +kernel
theorem dX9_count_171 : decode cX9_count 171 = .ok (.aload_n 0, 1) := by decide +kernel
theorem dX9_count_172 : decode cX9_count 172 = .ok (.getfield 10, 3) := by decide +kernel
theorem dX9_count_175 : decode cX9_count 175 = .ok (.getfield 80, 3) := by decide +kernel
theorem dX9_count_178 : decode cX9_count 178 = .ok (.ireturn, 1) := by decide +kernel
theorem dX9_count_179 : decode cX9_count 179 = .ok (.iconst (-1), 1) := by decide +kernel
theorem dX9_count_180 : decode cX9_count 180 = .ok (.ireturn, 1) := by decide +kernel
theorem dX9_image_0 : decode cX9_image 0 = .ok (.iload_n 1, 1) := by decide +kernel
theorem dX9_image_1 : decode cX9_image 1 = .ok (.ifCond .lt 8, 3) := by decide +kernel
theorem dX9_image_4 : decode cX9_image 4 = .ok (.iload_n 1, 1) := by decide +kernel
theorem dX9_image_5 : decode cX9_image 5 = .ok (.iconst 4, 1) := by decide +kernel
theorem dX9_image_6 : decode cX9_image 6 = .ok (.if_icmp .lt 5, 3) := by decide +kernel
theorem dX9_image_9 : decode cX9_image 9 = .ok (.iconst (-1), 1) := by decide +kernel
theorem dX9_image_10 : decode cX9_image 10 = .ok (.ireturn, 1) := by decide +kernel
theorem dX9_image_11 : decode cX9_image 11 = .ok (.aload_n 0, 1) := by decide +kernel
theorem dX9_image_12 : decode cX9_image 12 = .ok (.getfield 45, 3) := by decide +kernel
theorem dX9_image_15 : decode cX9_image 15 = .ok (.iload_n 1, 1) := by decide +kernel
theorem dX9_image_16 : decode cX9_image 16 = .ok (.aaload, 1) := by decide +kernel
theorem dX9_image_17 : decode cX9_image 17 = .ok (.ifnonnull 16, 3) := by decide +kernel
theorem dX9_image_20 : decode cX9_image 20 = .ok (.aload_n 0, 1) := by decide +kernel
theorem dX9_image_21 : decode cX9_image 21 = .ok (.getfield 45, 3) := by decide +kernel
theorem dX9_image_24 : decode cX9_image 24 = .ok (.iload_n 1, 1) := by decide +kernel
theorem dX9_image_25 : decode cX9_image 25 = .ok (.new 38, 3) := by decide +kernel
theorem dX9_image_28 : decode cX9_image 28 = .ok (.dup, 1) := by decide +kernel
theorem dX9_image_29 : decode cX9_image 29 = .ok (.invokespecial 40, 3) := by decide +kernel
theorem dX9_image_32 : decode cX9_image 32 = .ok (.aastore, 1) := by decide +kernel
theorem dX9_image_33 : decode cX9_image 33 = .ok (.aload_n 0, 1) := by decide +kernel
theorem dX9_image_34 : decode cX9_image 34 = .ok (.getfield 45, 3) := by decide +kernel
theorem dX9_image_37 : decode cX9_image 37 = .ok (.iload_n 1, 1) := by decide +kernel
theorem dX9_image_38 : decode cX9_image 38 = .ok (.aaload, 1) := by decide +kernel
theorem dX9_image_39 : decode cX9_image 39 = .ok (.aload_n 0, 1) := by decide +kernel
theorem dX9_image_40 : decode cX9_image 40 = .ok (.getfield 41, 3) := by decide +kernel
theorem dX9_image_43 : decode cX9_image 43 = .ok (.invokevirtual 328, 3) := by decide +kernel
theorem dX9_image_46 : decode cX9_image 46 = .ok (.aload_n 0, 1) := by decide +kernel
theorem dX9_image_47 : decode cX9_image 47 = .ok (.getfield 41, 3) := by decide +kernel
theorem dX9_image_50 : decode cX9_image 50 = .ok (.getfield 95, 3) := by decide +kernel
theorem dX9_image_53 : decode cX9_image 53 = .ok (.getfield 106, 3) := by decide +kernel
theorem dX9_image_56 : decode cX9_image 56 = .ok (.getfield 197, 3) := by decide +kernel
theorem dX9_image_59 : decode cX9_image 59 = .ok (.ireturn, 1) := by decide +kernel
theorem dX9_back_0 : decode cX9_back 0 = .ok (.iload_n 1, 1) := by decide +kernel
theorem dX9_back_1 : decode cX9_back 1 = .ok (.ifCond .lt 17, 3) := by decide +kernel
theorem dX9_back_4 : decode cX9_back 4 = .ok (.iload_n 1, 1) := by decide +kernel
theorem dX9_back_5 : decode cX9_back 5 = .ok (.iconst 4, 1) := by decide +kernel
theorem dX9_back_6 : decode cX9_back 6 = .ok (.if_icmp .ge 12, 3) := by decide +kernel
theorem dX9_back_9 : decode cX9_back 9 = .ok (.aload_n 0, 1) := by decide +kernel
theorem dX9_back_10 : decode cX9_back 10 = .ok (.getfield 45, 3) := by decide +kernel
theorem dX9_back_13 : decode cX9_back 13 = .ok (.iload_n 1, 1) := by decide +kernel
theorem dX9_back_14 : decode cX9_back 14 = .ok (.aaload, 1) := by decide +kernel
theorem dX9_back_15 : decode cX9_back 15 = .ok (.ifnonnull 5, 3) := by decide +kernel
theorem dX9_back_18 : decode cX9_back 18 = .ok (.iconst (-1), 1) := by decide +kernel
theorem dX9_back_19 : decode cX9_back 19 = .ok (.ireturn, 1) := by decide +kernel
theorem dX9_back_20 : decode cX9_back 20 = .ok (.aload_n 0, 1) := by decide +kernel
theorem dX9_back_21 : decode cX9_back 21 = .ok (.getfield 41, 3) := by decide +kernel
theorem dX9_back_24 : decode cX9_back 24 = .ok (.aload_n 0, 1) := by decide +kernel
theorem dX9_back_25 : decode cX9_back 25 = .ok (.getfield 45, 3) := by decide +kernel
theorem dX9_back_28 : decode cX9_back 28 = .ok (.iload_n 1, 1) := by decide +kernel
theorem dX9_back_29 : decode cX9_back 29 = .ok (.aaload, 1) := by decide +kernel
theorem dX9_back_30 : decode cX9_back 30 = .ok (.invokevirtual 328, 3) := by decide +kernel
theorem dX9_back_33 : decode cX9_back 33 = .ok (.aload_n 0, 1) := by decide +kernel
theorem dX9_back_34 : decode cX9_back 34 = .ok (.getfield 52, 3) := by decide +kernel
theorem dX9_back_37 : decode cX9_back 37 = .ok (.invokevirtual 122, 3) := by decide +kernel
theorem dX9_back_40 : decode cX9_back 40 = .ok (.aload_n 0, 1) := by decide +kernel
theorem dX9_back_41 : decode cX9_back 41 = .ok (.getfield 41, 3) := by decide +kernel
theorem dX9_back_44 : decode cX9_back 44 = .ok (.getfield 95, 3) := by decide +kernel
theorem dX9_back_47 : decode cX9_back 47 = .ok (.getfield 106, 3) := by decide +kernel
theorem dX9_back_50 : decode cX9_back 50 = .ok (.getfield 197, 3) := by decide +kernel
theorem dX9_back_53 : decode cX9_back 53 = .ok (.ireturn, 1) := by decide +kernel
theorem dX9_isStation_0 : decode cX9_isStation 0 = .ok (.iload_n 1, 1) := by decide +kernel
theorem dX9_isStation_1 : decode cX9_isStation 1 = .ok (.ifCond .lt 24, 3) := by decide +kernel
theorem dX9_isStation_4 : decode cX9_isStation 4 = .ok (.iload_n 1, 1) := by decide +kernel
theorem dX9_isStation_5 : decode cX9_isStation 5 = .ok (.aload_n 0, 1) := by decide +kernel
theorem dX9_isStation_6 : decode cX9_isStation 6 = .ok (.getfield 41, 3) := by decide +kernel
theorem dX9_isStation_9 : decode cX9_isStation 9 = .ok (.getfield 95, 3) := by decide +kernel
theorem dX9_isStation_12 : decode cX9_isStation 12 = .ok (.getfield 106, 3) := by decide +kernel
theorem dX9_isStation_15 : decode cX9_isStation 15 = .ok (.getfield 125, 3) := by decide +kernel
theorem dX9_isStation_18 : decode cX9_isStation 18 = .ok (.if_icmp .ge 7, 3) := by decide +kernel
theorem dX9_isStation_21 : decode cX9_isStation 21 = .ok (.iconst 1, 1) := by decide +kernel
theorem dX9_isStation_22 : decode cX9_isStation 22 = .ok (.goto 4, 3) := by decide +kernel
theorem dX9_isStation_25 : decode cX9_isStation 25 = .ok (.iconst 0, 1) := by decide +kernel
theorem dX9_isStation_26 : decode cX9_isStation 26 = .ok (.ireturn, 1) := by decide +kernel
theorem dX9_areTwo_0 : decode cX9_areTwo 0 = .ok (.aload_n 0, 1) := by decide +kernel
theorem dX9_areTwo_1 : decode cX9_areTwo 1 = .ok (.iload_n 1, 1) := by decide +kernel
theorem dX9_areTwo_2 : decode cX9_areTwo 2 = .ok (.invokevirtual 137, 3) := by decide +kernel
theorem dX9_areTwo_5 : decode cX9_areTwo 5 = .ok (.ifCond .eq 20, 3) := by decide +kernel
theorem dX9_areTwo_8 : decode cX9_areTwo 8 = .ok (.aload_n 0, 1) := by decide +kernel
theorem dX9_areTwo_9 : decode cX9_areTwo 9 = .ok (.iload_n 2, 1) := by decide +kernel
theorem dX9_areTwo_10 : decode cX9_areTwo 10 = .ok (.invokevirtual 137, 3) := by decide +kernel
theorem dX9_areTwo_13 : decode cX9_areTwo 13 = .ok (.ifCond .eq 12, 3) := by decide +kernel
theorem dX9_areTwo_16 : decode cX9_areTwo 16 = .ok (.iload_n 1, 1) := by decide +kernel
theorem dX9_areTwo_17 : decode cX9_areTwo 17 = .ok (.iload_n 2, 1) := by decide +kernel
theorem dX9_areTwo_18 : decode cX9_areTwo 18 = .ok (.if_icmp .eq 7, 3) := by decide +kernel
theorem dX9_areTwo_21 : decode cX9_areTwo 21 = .ok (.iconst 1, 1) := by decide +kernel
theorem dX9_areTwo_22 : decode cX9_areTwo 22 = .ok (.goto 4, 3) := by decide +kernel
theorem dX9_areTwo_25 : decode cX9_areTwo 25 = .ok (.iconst 0, 1) := by decide +kernel
theorem dX9_areTwo_26 : decode cX9_areTwo 26 = .ok (.ireturn, 1) := by decide +kernel
theorem dX9_isKind_0 : decode cX9_isKind 0 = .ok (.iload_n 0, 1) := by decide +kernel
theorem dX9_isKind_1 : decode cX9_isKind 1 = .ok (.ifCond .lt 12, 3) := by decide +kernel
theorem dX9_isKind_4 : decode cX9_isKind 4 = .ok (.iload_n 0, 1) := by decide +kernel
theorem dX9_isKind_5 : decode cX9_isKind 5 = .ok (.iconst 2, 1) := by decide +kernel
theorem dX9_isKind_6 : decode cX9_isKind 6 = .ok (.if_icmp .gt 7, 3) := by decide +kernel
theorem dX9_isKind_9 : decode cX9_isKind 9 = .ok (.iconst 1, 1) := by decide +kernel
theorem dX9_isKind_10 : decode cX9_isKind 10 = .ok (.goto 4, 3) := by decide +kernel
theorem dX9_isKind_13 : decode cX9_isKind 13 = .ok (.iconst 0, 1) := by decide +kernel
theorem dX9_isKind_14 : decode cX9_isKind 14 = .ok (.ireturn, 1) := by decide +kernel
theorem dX9_isMany_0 : decode cX9_isMany 0 = .ok (.iload_n 0, 1) := by decide +kernel
theorem dX9_isMany_1 : decode cX9_isMany 1 = .ok (.iconst 1, 1) := by decide +kernel
theorem dX9_isMany_2 : decode cX9_isMany 2 = .ok (.if_icmp .lt 13, 3) := by decide +kernel
theorem dX9_isMany_5 : decode cX9_isMany 5 = .ok (.iload_n 0, 1) := by decide +kernel
theorem dX9_isMany_6 : decode cX9_isMany 6 = .ok (.bipush 9, 2) := by decide +kernel
theorem dX9_isMany_8 : decode cX9_isMany 8 = .ok (.if_icmp .gt 7, 3) := by decide +kernel
theorem dX9_isMany_11 : decode cX9_isMany 11 = .ok (.iconst 1, 1) := by decide +kernel
theorem dX9_isMany_12 : decode cX9_isMany 12 = .ok (.goto 4, 3) := by decide +kernel
theorem dX9_isMany_15 : decode cX9_isMany 15 = .ok (.iconst 0, 1) := by decide +kernel
theorem dX9_isMany_16 : decode cX9_isMany 16 = .ok (.ireturn, 1) := by decide +kernel
theorem dX9_ruleInForce_0 : decode cX9_ruleInForce 0 = .ok (.aload_n 0, 1) := by decide +kernel
theorem dX9_ruleInForce_1 : decode cX9_ruleInForce 1 = .ok (.aload_n 0, 1) := by decide +kernel
theorem dX9_ruleInForce_2 : decode cX9_ruleInForce 2 = .ok (.getfield 41, 3) := by decide +kernel
theorem dX9_ruleInForce_5 : decode cX9_ruleInForce 5 = .ok (.getfield 134, 3) := by decide +kernel
theorem dX9_ruleInForce_8 : decode cX9_ruleInForce 8 = .ok (.invokevirtual 306, 3) := by decide +kernel
theorem dX9_ruleInForce_11 : decode cX9_ruleInForce 11 = .ok (.areturn, 1) := by decide +kernel
theorem dX9_ruleNumbered_0 : decode cX9_ruleNumbered 0 = .ok (.iload_n 1, 1) := by decide +kernel
theorem dX9_ruleNumbered_1 : decode cX9_ruleNumbered 1 = .ok (.ifCond .lt 20, 3) := by decide +kernel
theorem dX9_ruleNumbered_4 : decode cX9_ruleNumbered 4 = .ok (.iload_n 1, 1) := by decide +kernel
theorem dX9_ruleNumbered_5 : decode cX9_ruleNumbered 5 = .ok (.aload_n 0, 1) := by decide +kernel
theorem dX9_ruleNumbered_6 : decode cX9_ruleNumbered 6 = .ok (.getfield 128, 3) := by decide +kernel
theorem dX9_ruleNumbered_9 : decode cX9_ruleNumbered 9 = .ok (.if_icmp .ge 12, 3) := by decide +kernel
theorem dX9_ruleNumbered_12 : decode cX9_ruleNumbered 12 = .ok (.aload_n 0, 1) := by decide +kernel
theorem dX9_ruleNumbered_13 : decode cX9_ruleNumbered 13 = .ok (.getfield 34, 3) := by decide +kernel
theorem dX9_ruleNumbered_16 : decode cX9_ruleNumbered 16 = .ok (.iload_n 1, 1) := by decide +kernel
theorem dX9_ruleNumbered_17 : decode cX9_ruleNumbered 17 = .ok (.aaload, 1) := by decide +kernel
theorem dX9_ruleNumbered_18 : decode cX9_ruleNumbered 18 = .ok (.goto 4, 3) := by decide +kernel
theorem dX9_ruleNumbered_21 : decode cX9_ruleNumbered 21 = .ok (.aconst_null, 1) := by decide +kernel
theorem dX9_ruleNumbered_22 : decode cX9_ruleNumbered 22 = .ok (.areturn, 1) := by decide +kernel
theorem dX9_searchSlips_0 : decode cX9_searchSlips 0 = .ok (.aload_n 0, 1) := by decide +kernel
theorem dX9_searchSlips_1 : decode cX9_searchSlips 1 = .ok (.getfield 41, 3) := by decide +kernel
theorem dX9_searchSlips_4 : decode cX9_searchSlips 4 = .ok (.getfield 95, 3) := by decide +kernel
theorem dX9_searchSlips_7 : decode cX9_searchSlips 7 = .ok (.astore_n 2, 1) := by decide +kernel
theorem dX9_searchSlips_8 : decode cX9_searchSlips 8 = .ok (.aload_n 2, 1) := by decide +kernel
theorem dX9_searchSlips_9 : decode cX9_searchSlips 9 = .ok (.getfield 106, 3) := by decide +kernel
theorem dX9_searchSlips_12 : decode cX9_searchSlips 12 = .ok (.getfield 125, 3) := by decide +kernel
theorem dX9_searchSlips_15 : decode cX9_searchSlips 15 = .ok (.istore_n 3, 1) := by decide +kernel
theorem dX9_searchSlips_16 : decode cX9_searchSlips 16 = .ok (.aload_n 2, 1) := by decide +kernel
theorem dX9_searchSlips_17 : decode cX9_searchSlips 17 = .ok (.getfield 239, 3) := by decide +kernel
theorem dX9_searchSlips_20 : decode cX9_searchSlips 20 = .ok (.istore 4, 2) := by decide +kernel
theorem dX9_searchSlips_22 : decode cX9_searchSlips 22 = .ok (.iconst 0, 1) := by decide +kernel
theorem dX9_searchSlips_23 : decode cX9_searchSlips 23 = .ok (.istore 5, 2) := by decide +kernel
theorem dX9_searchSlips_25 : decode cX9_searchSlips 25 = .ok (.iload 5, 2) := by decide +kernel
theorem dX9_searchSlips_27 : decode cX9_searchSlips 27 = .ok (.iload_n 3, 1) := by decide +kernel
theorem dX9_searchSlips_28 : decode cX9_searchSlips 28 = .ok (.if_icmp .ge 66, 3) := by decide +kernel
theorem dX9_searchSlips_31 : decode cX9_searchSlips 31 = .ok (.iload 5, 2) := by decide +kernel
theorem dX9_searchSlips_33 : decode cX9_searchSlips 33 = .ok (.iload_n 1, 1) := by decide +kernel
theorem dX9_searchSlips_34 : decode cX9_searchSlips 34 = .ok (.if_icmp .ne 26, 3) := by decide +kernel
theorem dX9_searchSlips_37 : decode cX9_searchSlips 37 = .ok (.aload_n 0, 1) := by decide +kernel
theorem dX9_searchSlips_38 : decode cX9_searchSlips 38 = .ok (.getfield 66, 3) := by decide +kernel
theorem dX9_searchSlips_41 : decode cX9_searchSlips 41 = .ok (.getfield 331, 3) := by decide +kernel
theorem dX9_searchSlips_44 : decode cX9_searchSlips 44 = .ok (.iload 5, 2) := by decide +kernel
theorem dX9_searchSlips_46 : decode cX9_searchSlips 46 = .ok (.iconst 0, 1) := by decide +kernel
theorem dX9_searchSlips_47 : decode cX9_searchSlips 47 = .ok (.iastore, 1) := by decide +kernel
theorem dX9_searchSlips_48 : decode cX9_searchSlips 48 = .ok (.iload 4, 2) := by decide +kernel
theorem dX9_searchSlips_50 : decode cX9_searchSlips 50 = .ok (.iconst 1, 1) := by decide +kernel
theorem dX9_searchSlips_51 : decode cX9_searchSlips 51 = .ok (.iload 5, 2) := by decide +kernel
theorem dX9_searchSlips_53 : decode cX9_searchSlips 53 = .ok (.ishl, 1) := by decide +kernel
theorem dX9_searchSlips_54 : decode cX9_searchSlips 54 = .ok (.ior, 1) := by decide +kernel
theorem dX9_searchSlips_55 : decode cX9_searchSlips 55 = .ok (.istore 4, 2) := by decide +kernel
theorem dX9_searchSlips_57 : decode cX9_searchSlips 57 = .ok (.goto 31, 3) := by decide +kernel
theorem dX9_searchSlips_60 : decode cX9_searchSlips 60 = .ok (.aload_n 2, 1) := by decide +kernel
theorem dX9_searchSlips_61 : decode cX9_searchSlips 61 = .ok (.iload 5, 2) := by decide +kernel
theorem dX9_searchSlips_63 : decode cX9_searchSlips 63 = .ok (.invokevirtual 236, 3) := by decide +kernel
theorem dX9_searchSlips_66 : decode cX9_searchSlips 66 = .ok (.iconst 3, 1) := by decide +kernel
theorem dX9_searchSlips_67 : decode cX9_searchSlips 67 = .ok (.if_icmp .ge 5, 3) := by decide +kernel
theorem dX9_searchSlips_70 : decode cX9_searchSlips 70 = .ok (.iconst 0, 1) := by decide +kernel
theorem dX9_searchSlips_71 : decode cX9_searchSlips 71 = .ok (.ireturn, 1) := by decide +kernel
theorem dX9_searchSlips_72 : decode cX9_searchSlips 72 = .ok (.aload_n 0, 1) := by decide +kernel
theorem dX9_searchSlips_73 : decode cX9_searchSlips 73 = .ok (.getfield 66, 3) := by decide +kernel
theorem dX9_searchSlips_76 : decode cX9_searchSlips 76 = .ok (.getfield 331, 3) := by decide +kernel
theorem dX9_searchSlips_79 : decode cX9_searchSlips 79 = .ok (.iload 5, 2) := by decide +kernel
theorem dX9_searchSlips_81 : decode cX9_searchSlips 81 = .ok (.aload_n 2, 1) := by decide +kernel
theorem dX9_searchSlips_82 : decode cX9_searchSlips 82 = .ok (.iload 5, 2) := by decide +kernel
theorem dX9_searchSlips_84 : decode cX9_searchSlips 84 = .ok (.invokevirtual 256, 3) := by decide +kernel
theorem dX9_searchSlips_87 : decode cX9_searchSlips 87 = .ok (.iastore, 1) := by decide +kernel
theorem dX9_searchSlips_88 : decode cX9_searchSlips 88 = .ok (.iinc 5 1, 3) := by decide +kernel
theorem dX9_searchSlips_91 : decode cX9_searchSlips 91 = .ok (.goto (-66), 3) := by decide +kernel
theorem dX9_searchSlips_94 : decode cX9_searchSlips 94 = .ok (.aload_n 0, 1) := by decide +kernel
theorem dX9_searchSlips_95 : decode cX9_searchSlips 95 = .ok (.getfield 66, 3) := by decide +kernel
theorem dX9_searchSlips_98 : decode cX9_searchSlips 98 = .ok (.iload_n 3, 1) := by decide +kernel
theorem dX9_searchSlips_99 : decode cX9_searchSlips 99 = .ok (.iload 4, 2) := by decide +kernel
theorem dX9_searchSlips_101 : decode cX9_searchSlips 101 = .ok (.ldc_w 334, 3) := by decide +kernel
theorem dX9_searchSlips_104 : decode cX9_searchSlips 104 = .ok (.invokevirtual 335, 3) := by decide +kernel
theorem dX9_searchSlips_107 : decode cX9_searchSlips 107 = .ok (.ireturn, 1) := by decide +kernel
theorem dX9_stationsThatMustSlip_0 : decode cX9_stationsThatMustSlip 0 = .ok (.aload_n 0, 1) := by decide +kernel
theorem dX9_stationsThatMustSlip_1 : decode cX9_stationsThatMustSlip 1 = .ok (.getfield 41, 3) := by decide +kernel
theorem dX9_stationsThatMustSlip_4 : decode cX9_stationsThatMustSlip 4 = .ok (.getfield 95, 3) := by decide +kernel
theorem dX9_stationsThatMustSlip_7 : decode cX9_stationsThatMustSlip 7 = .ok (.astore_n 1, 1) := by decide +kernel
theorem dX9_stationsThatMustSlip_8 : decode cX9_stationsThatMustSlip 8 = .ok (.aload_n 0, 1) := by decide +kernel
theorem dX9_stationsThatMustSlip_9 : decode cX9_stationsThatMustSlip 9 = .ok (.getfield 66, 3) := by decide +kernel
theorem dX9_stationsThatMustSlip_12 : decode cX9_stationsThatMustSlip 12 = .ok (.getfield 262, 3) := by decide +kernel
theorem dX9_stationsThatMustSlip_15 : decode cX9_stationsThatMustSlip 15 = .ok (.istore_n 2, 1) := by decide +kernel
theorem dX9_stationsThatMustSlip_16 : decode cX9_stationsThatMustSlip 16 = .ok (.iconst 0, 1) := by decide +kernel
theorem dX9_stationsThatMustSlip_17 : decode cX9_stationsThatMustSlip 17 = .ok (.istore_n 3, 1) := by decide +kernel
theorem dX9_stationsThatMustSlip_18 : decode cX9_stationsThatMustSlip 18 = .ok (.iconst 0, 1) := by decide +kernel
theorem dX9_stationsThatMustSlip_19 : decode cX9_stationsThatMustSlip 19 = .ok (.istore 4, 2) := by decide +kernel
theorem dX9_stationsThatMustSlip_21 : decode cX9_stationsThatMustSlip 21 = .ok (.iload 4, 2) := by decide +kernel
theorem dX9_stationsThatMustSlip_23 : decode cX9_stationsThatMustSlip 23 = .ok (.aload_n 1, 1) := by decide +kernel
theorem dX9_stationsThatMustSlip_24 : decode cX9_stationsThatMustSlip 24 = .ok (.getfield 106, 3) := by decide +kernel
theorem dX9_stationsThatMustSlip_27 : decode cX9_stationsThatMustSlip 27 = .ok (.getfield 125, 3) := by decide +kernel
theorem dX9_stationsThatMustSlip_30 : decode cX9_stationsThatMustSlip 30 = .ok (.if_icmp .ge 52, 3) := by decide +kernel
theorem dX9_stationsThatMustSlip_33 : decode cX9_stationsThatMustSlip 33 = .ok (.aload_n 1, 1) := by decide +kernel
theorem dX9_stationsThatMustSlip_34 : decode cX9_stationsThatMustSlip 34 = .ok (.iload 4, 2) := by decide +kernel
theorem dX9_stationsThatMustSlip_36 : decode cX9_stationsThatMustSlip 36 = .ok (.invokevirtual 144, 3) := by decide +kernel
theorem dX9_stationsThatMustSlip_39 : decode cX9_stationsThatMustSlip 39 = .ok (.ifCond .ne 37, 3) := by decide +kernel
theorem dX9_stationsThatMustSlip_42 : decode cX9_stationsThatMustSlip 42 = .ok (.aload_n 0, 1) := by decide +kernel
theorem dX9_stationsThatMustSlip_43 : decode cX9_stationsThatMustSlip 43 = .ok (.getfield 66, 3) := by decide +kernel
theorem dX9_stationsThatMustSlip_46 : decode cX9_stationsThatMustSlip 46 = .ok (.aload_n 1, 1) := by decide +kernel
theorem dX9_stationsThatMustSlip_47 : decode cX9_stationsThatMustSlip 47 = .ok (.getfield 106, 3) := by decide +kernel
theorem dX9_stationsThatMustSlip_50 : decode cX9_stationsThatMustSlip 50 = .ok (.getfield 125, 3) := by decide +kernel
theorem dX9_stationsThatMustSlip_53 : decode cX9_stationsThatMustSlip 53 = .ok (.aload_n 1, 1) := by decide +kernel
theorem dX9_stationsThatMustSlip_54 : decode cX9_stationsThatMustSlip 54 = .ok (.getfield 239, 3) := by decide +kernel
theorem dX9_stationsThatMustSlip_57 : decode cX9_stationsThatMustSlip 57 = .ok (.iconst 1, 1) := by decide +kernel
theorem dX9_stationsThatMustSlip_58 : decode cX9_stationsThatMustSlip 58 = .ok (.iload 4, 2) := by decide +kernel
theorem dX9_stationsThatMustSlip_60 : decode cX9_stationsThatMustSlip 60 = .ok (.ishl, 1) := by decide +kernel
theorem dX9_stationsThatMustSlip_61 : decode cX9_stationsThatMustSlip 61 = .ok (.ior, 1) := by decide +kernel
theorem dX9_stationsThatMustSlip_62 : decode cX9_stationsThatMustSlip 62 = .ok (.iload_n 2, 1) := by decide +kernel
theorem dX9_stationsThatMustSlip_63 : decode cX9_stationsThatMustSlip 63 = .ok (.invokevirtual 335, 3) := by decide +kernel
theorem dX9_stationsThatMustSlip_66 : decode cX9_stationsThatMustSlip 66 = .ok (.ifCond .ne 10, 3) := by decide +kernel
theorem dX9_stationsThatMustSlip_69 : decode cX9_stationsThatMustSlip 69 = .ok (.iload_n 3, 1) := by decide +kernel
theorem dX9_stationsThatMustSlip_70 : decode cX9_stationsThatMustSlip 70 = .ok (.iconst 1, 1) := by decide +kernel
theorem dX9_stationsThatMustSlip_71 : decode cX9_stationsThatMustSlip 71 = .ok (.iload 4, 2) := by decide +kernel
theorem dX9_stationsThatMustSlip_73 : decode cX9_stationsThatMustSlip 73 = .ok (.ishl, 1) := by decide +kernel
theorem dX9_stationsThatMustSlip_74 : decode cX9_stationsThatMustSlip 74 = .ok (.ior, 1) := by decide +kernel
theorem dX9_stationsThatMustSlip_75 : decode cX9_stationsThatMustSlip 75 = .ok (.istore_n 3, 1) := by decide +kernel
theorem dX9_stationsThatMustSlip_76 : decode cX9_stationsThatMustSlip 76 = .ok (.iinc 4 1, 3) := by decide +kernel
theorem dX9_stationsThatMustSlip_79 : decode cX9_stationsThatMustSlip 79 = .ok (.goto (-58), 3) := by decide +kernel
theorem dX9_stationsThatMustSlip_82 : decode cX9_stationsThatMustSlip 82 = .ok (.iload_n 3, 1) := by decide +kernel
theorem dX9_stationsThatMustSlip_83 : decode cX9_stationsThatMustSlip 83 = .ok (.ireturn, 1) := by decide +kernel
theorem dX9_waitingAfterGift_0 : decode cX9_waitingAfterGift 0 = .ok (.aload_n 0, 1) := by decide +kernel
theorem dX9_waitingAfterGift_1 : decode cX9_waitingAfterGift 1 = .ok (.getfield 59, 3) := by decide +kernel
theorem dX9_waitingAfterGift_4 : decode cX9_waitingAfterGift 4 = .ok (.aload_n 0, 1) := by decide +kernel
theorem dX9_waitingAfterGift_5 : decode cX9_waitingAfterGift 5 = .ok (.getfield 41, 3) := by decide +kernel
theorem dX9_waitingAfterGift_8 : decode cX9_waitingAfterGift 8 = .ok (.getfield 95, 3) := by decide +kernel
theorem dX9_waitingAfterGift_11 : decode cX9_waitingAfterGift 11 = .ok (.getfield 106, 3) := by decide +kernel
theorem dX9_waitingAfterGift_14 : decode cX9_waitingAfterGift 14 = .ok (.invokevirtual 111, 3) := by decide +kernel
theorem dX9_waitingAfterGift_17 : decode cX9_waitingAfterGift 17 = .ok (.iload_n 2, 1) := by decide +kernel
theorem dX9_waitingAfterGift_18 : decode cX9_waitingAfterGift 18 = .ok (.iconst (-1), 1) := by decide +kernel
theorem dX9_waitingAfterGift_19 : decode cX9_waitingAfterGift 19 = .ok (.if_icmp .eq 13, 3) := by decide +kernel
theorem dX9_waitingAfterGift_22 : decode cX9_waitingAfterGift 22 = .ok (.aload_n 0, 1) := by decide +kernel
theorem dX9_waitingAfterGift_23 : decode cX9_waitingAfterGift 23 = .ok (.getfield 59, 3) := by decide +kernel
theorem dX9_waitingAfterGift_26 : decode cX9_waitingAfterGift 26 = .ok (.iload_n 1, 1) := by decide +kernel
theorem dX9_waitingAfterGift_27 : decode cX9_waitingAfterGift 27 = .ok (.iload_n 2, 1) := by decide +kernel
theorem dX9_waitingAfterGift_28 : decode cX9_waitingAfterGift 28 = .ok (.iconst 5, 1) := by decide +kernel
theorem dX9_waitingAfterGift_29 : decode cX9_waitingAfterGift 29 = .ok (.invokevirtual 338, 3) := by decide +kernel
theorem dX9_waitingAfterGift_32 : decode cX9_waitingAfterGift 32 = .ok (.aload_n 0, 1) := by decide +kernel
theorem dX9_waitingAfterGift_33 : decode cX9_waitingAfterGift 33 = .ok (.getfield 59, 3) := by decide +kernel
theorem dX9_waitingAfterGift_36 : decode cX9_waitingAfterGift 36 = .ok (.aload_n 0, 1) := by decide +kernel
theorem dX9_waitingAfterGift_37 : decode cX9_waitingAfterGift 37 = .ok (.invokevirtual 203, 3) := by decide +kernel
theorem dX9_waitingAfterGift_40 : decode cX9_waitingAfterGift 40 = .ok (.iload_n 3, 1) := by decide +kernel
theorem dX9_waitingAfterGift_41 : decode cX9_waitingAfterGift 41 = .ok (.invokevirtual 278, 3) := by decide +kernel
theorem dX9_waitingAfterGift_44 : decode cX9_waitingAfterGift 44 = .ok (.aload_n 0, 1) := by decide +kernel
theorem dX9_waitingAfterGift_45 : decode cX9_waitingAfterGift 45 = .ok (.getfield 59, 3) := by decide +kernel
theorem dX9_waitingAfterGift_48 : decode cX9_waitingAfterGift 48 = .ok (.iconst 3, 1) := by decide +kernel
theorem dX9_waitingAfterGift_49 : decode cX9_waitingAfterGift 49 = .ok (.invokevirtual 286, 3) := by decide +kernel
theorem dX9_waitingAfterGift_52 : decode cX9_waitingAfterGift 52 = .ok (.ireturn, 1) := by decide +kernel
theorem dX9_fillGains_0 : decode cX9_fillGains 0 = .ok (.aload_n 0, 1) := by decide +kernel
theorem dX9_fillGains_1 : decode cX9_fillGains 1 = .ok (.getfield 41, 3) := by decide +kernel
theorem dX9_fillGains_4 : decode cX9_fillGains 4 = .ok (.getfield 95, 3) := by decide +kernel
theorem dX9_fillGains_7 : decode cX9_fillGains 7 = .ok (.getfield 106, 3) := by decide +kernel
theorem dX9_fillGains_10 : decode cX9_fillGains 10 = .ok (.astore 4, 2) := by decide +kernel
theorem dX9_fillGains_12 : decode cX9_fillGains 12 = .ok (.aload_n 0, 1) := by decide +kernel
theorem dX9_fillGains_13 : decode cX9_fillGains 13 = .ok (.invokevirtual 203, 3) := by decide +kernel
theorem dX9_fillGains_16 : decode cX9_fillGains 16 = .ok (.astore 5, 2) := by decide +kernel
theorem dX9_fillGains_18 : decode cX9_fillGains 18 = .ok (.iconst 0, 1) := by decide +kernel
theorem dX9_fillGains_19 : decode cX9_fillGains 19 = .ok (.istore 6, 2) := by decide +kernel
theorem dX9_fillGains_21 : decode cX9_fillGains 21 = .ok (.iload 6, 2) := by decide +kernel
theorem dX9_fillGains_23 : decode cX9_fillGains 23 = .ok (.bipush 16, 2) := by decide +kernel
theorem dX9_fillGains_25 : decode cX9_fillGains 25 = .ok (.if_icmp .ge 166, 3) := by decide +kernel
theorem dX9_fillGains_28 : decode cX9_fillGains 28 = .ok (.iload 6, 2) := by decide +kernel
theorem dX9_fillGains_30 : decode cX9_fillGains 30 = .ok (.iconst 4, 1) := by decide +kernel
theorem dX9_fillGains_31 : decode cX9_fillGains 31 = .ok (.idiv, 1) := by decide +kernel
theorem dX9_fillGains_32 : decode cX9_fillGains 32 = .ok (.aload 4, 2) := by decide +kernel
theorem dX9_fillGains_34 : decode cX9_fillGains 34 = .ok (.getfield 233, 3) := by decide +kernel
theorem dX9_fillGains_37 : decode cX9_fillGains 37 = .ok (.iload_n 1, 1) := by decide +kernel
theorem dX9_fillGains_38 : decode cX9_fillGains 38 = .ok (.iaload, 1) := by decide +kernel
theorem dX9_fillGains_39 : decode cX9_fillGains 39 = .ok (.invokestatic 341, 3) := by decide +kernel
theorem dX9_fillGains_42 : decode cX9_fillGains 42 = .ok (.istore 7, 2) := by decide +kernel
theorem dX9_fillGains_44 : decode cX9_fillGains 44 = .ok (.iload 6, 2) := by decide +kernel
theorem dX9_fillGains_46 : decode cX9_fillGains 46 = .ok (.iconst 4, 1) := by decide +kernel
theorem dX9_fillGains_47 : decode cX9_fillGains 47 = .ok (.irem, 1) := by decide +kernel
theorem dX9_fillGains_48 : decode cX9_fillGains 48 = .ok (.aload 4, 2) := by decide +kernel
theorem dX9_fillGains_50 : decode cX9_fillGains 50 = .ok (.getfield 233, 3) := by decide +kernel
theorem dX9_fillGains_53 : decode cX9_fillGains 53 = .ok (.iload_n 2, 1) := by decide +kernel
theorem dX9_fillGains_54 : decode cX9_fillGains 54 = .ok (.iaload, 1) := by decide +kernel
theorem dX9_fillGains_55 : decode cX9_fillGains 55 = .ok (.invokestatic 341, 3) := by decide +kernel
theorem dX9_fillGains_58 : decode cX9_fillGains 58 = .ok (.istore 8, 2) := by decide +kernel
theorem dX9_fillGains_60 : decode cX9_fillGains 60 = .ok (.aload_n 0, 1) := by decide +kernel
theorem dX9_fillGains_61 : decode cX9_fillGains 61 = .ok (.getfield 59, 3) := by decide +kernel
theorem dX9_fillGains_64 : decode cX9_fillGains 64 = .ok (.aload 4, 2) := by decide +kernel
theorem dX9_fillGains_66 : decode cX9_fillGains 66 = .ok (.invokevirtual 111, 3) := by decide +kernel
theorem dX9_fillGains_69 : decode cX9_fillGains 69 = .ok (.aload_n 0, 1) := by decide +kernel
theorem dX9_fillGains_70 : decode cX9_fillGains 70 = .ok (.getfield 59, 3) := by decide +kernel
theorem dX9_fillGains_73 : decode cX9_fillGains 73 = .ok (.getfield 233, 3) := by decide +kernel
theorem dX9_fillGains_76 : decode cX9_fillGains 76 = .ok (.iload_n 1, 1) := by decide +kernel
theorem dX9_fillGains_77 : decode cX9_fillGains 77 = .ok (.dup2, 1) := by decide +kernel
theorem dX9_fillGains_78 : decode cX9_fillGains 78 = .ok (.iaload, 1) := by decide +kernel
theorem dX9_fillGains_79 : decode cX9_fillGains 79 = .ok (.iload 8, 2) := by decide +kernel
theorem dX9_fillGains_81 : decode cX9_fillGains 81 = .ok (.iload 7, 2) := by decide +kernel
theorem dX9_fillGains_83 : decode cX9_fillGains 83 = .ok (.isub, 1) := by decide +kernel
theorem dX9_fillGains_84 : decode cX9_fillGains 84 = .ok (.iadd, 1) := by decide +kernel
theorem dX9_fillGains_85 : decode cX9_fillGains 85 = .ok (.iastore, 1) := by decide +kernel
theorem dX9_fillGains_86 : decode cX9_fillGains 86 = .ok (.aload_n 0, 1) := by decide +kernel
theorem dX9_fillGains_87 : decode cX9_fillGains 87 = .ok (.getfield 59, 3) := by decide +kernel
theorem dX9_fillGains_90 : decode cX9_fillGains 90 = .ok (.getfield 233, 3) := by decide +kernel
theorem dX9_fillGains_93 : decode cX9_fillGains 93 = .ok (.iload_n 2, 1) := by decide +kernel
theorem dX9_fillGains_94 : decode cX9_fillGains 94 = .ok (.dup2, 1) := by decide +kernel
theorem dX9_fillGains_95 : decode cX9_fillGains 95 = .ok (.iaload, 1) := by decide +kernel
theorem dX9_fillGains_96 : decode cX9_fillGains 96 = .ok (.iload 7, 2) := by decide +kernel
theorem dX9_fillGains_98 : decode cX9_fillGains 98 = .ok (.iload 8, 2) := by decide +kernel
theorem dX9_fillGains_100 : decode cX9_fillGains 100 = .ok (.isub, 1) := by decide +kernel
theorem dX9_fillGains_101 : decode cX9_fillGains 101 = .ok (.iadd, 1) := by decide +kernel
theorem dX9_fillGains_102 : decode cX9_fillGains 102 = .ok (.iastore, 1) := by decide +kernel
theorem dX9_fillGains_103 : decode cX9_fillGains 103 = .ok (.aload_n 0, 1) := by decide +kernel
theorem dX9_fillGains_104 : decode cX9_fillGains 104 = .ok (.getfield 59, 3) := by decide +kernel
theorem dX9_fillGains_107 : decode cX9_fillGains 107 = .ok (.aload 5, 2) := by decide +kernel
theorem dX9_fillGains_109 : decode cX9_fillGains 109 = .ok (.iload_n 3, 1) := by decide +kernel
theorem dX9_fillGains_110 : decode cX9_fillGains 110 = .ok (.invokevirtual 278, 3) := by decide +kernel
theorem dX9_fillGains_113 : decode cX9_fillGains 113 = .ok (.aload_n 0, 1) := by decide +kernel
theorem dX9_fillGains_114 : decode cX9_fillGains 114 = .ok (.getfield 70, 3) := by decide +kernel
theorem dX9_fillGains_117 : decode cX9_fillGains 117 = .ok (.iload 6, 2) := by decide +kernel
theorem dX9_fillGains_119 : decode cX9_fillGains 119 = .ok (.iconst 2, 1) := by decide +kernel
theorem dX9_fillGains_120 : decode cX9_fillGains 120 = .ok (.aload_n 0, 1) := by decide +kernel
theorem dX9_fillGains_121 : decode cX9_fillGains 121 = .ok (.getfield 59, 3) := by decide +kernel
theorem dX9_fillGains_124 : decode cX9_fillGains 124 = .ok (.getfield 213, 3) := by decide +kernel
theorem dX9_fillGains_127 : decode cX9_fillGains 127 = .ok (.iload_n 1, 1) := by decide +kernel
theorem dX9_fillGains_128 : decode cX9_fillGains 128 = .ok (.iaload, 1) := by decide +kernel
theorem dX9_fillGains_129 : decode cX9_fillGains 129 = .ok (.aload 4, 2) := by decide +kernel
theorem dX9_fillGains_131 : decode cX9_fillGains 131 = .ok (.getfield 213, 3) := by decide +kernel
theorem dX9_fillGains_134 : decode cX9_fillGains 134 = .ok (.iload_n 1, 1) := by decide +kernel
theorem dX9_fillGains_135 : decode cX9_fillGains 135 = .ok (.iaload, 1) := by decide +kernel
theorem dX9_fillGains_136 : decode cX9_fillGains 136 = .ok (.isub, 1) := by decide +kernel
theorem dX9_fillGains_137 : decode cX9_fillGains 137 = .ok (.imul, 1) := by decide +kernel
theorem dX9_fillGains_138 : decode cX9_fillGains 138 = .ok (.aload_n 0, 1) := by decide +kernel
theorem dX9_fillGains_139 : decode cX9_fillGains 139 = .ok (.getfield 59, 3) := by decide +kernel
theorem dX9_fillGains_142 : decode cX9_fillGains 142 = .ok (.getfield 233, 3) := by decide +kernel
theorem dX9_fillGains_145 : decode cX9_fillGains 145 = .ok (.iload_n 1, 1) := by decide +kernel
theorem dX9_fillGains_146 : decode cX9_fillGains 146 = .ok (.iaload, 1) := by decide +kernel
theorem dX9_fillGains_147 : decode cX9_fillGains 147 = .ok (.isub, 1) := by decide +kernel
theorem dX9_fillGains_148 : decode cX9_fillGains 148 = .ok (.iastore, 1) := by decide +kernel
theorem dX9_fillGains_149 : decode cX9_fillGains 149 = .ok (.aload_n 0, 1) := by decide +kernel
theorem dX9_fillGains_150 : decode cX9_fillGains 150 = .ok (.getfield 74, 3) := by decide +kernel
theorem dX9_fillGains_153 : decode cX9_fillGains 153 = .ok (.iload 6, 2) := by decide +kernel
theorem dX9_fillGains_155 : decode cX9_fillGains 155 = .ok (.iconst 2, 1) := by decide +kernel
theorem dX9_fillGains_156 : decode cX9_fillGains 156 = .ok (.aload_n 0, 1) := by decide +kernel
theorem dX9_fillGains_157 : decode cX9_fillGains 157 = .ok (.getfield 59, 3) := by decide +kernel
theorem dX9_fillGains_160 : decode cX9_fillGains 160 = .ok (.getfield 213, 3) := by decide +kernel
theorem dX9_fillGains_163 : decode cX9_fillGains 163 = .ok (.iload_n 2, 1) := by decide +kernel
theorem dX9_fillGains_164 : decode cX9_fillGains 164 = .ok (.iaload, 1) := by decide +kernel
theorem dX9_fillGains_165 : decode cX9_fillGains 165 = .ok (.aload 4, 2) := by decide +kernel
theorem dX9_fillGains_167 : decode cX9_fillGains 167 = .ok (.getfield 213, 3) := by decide +kernel
theorem dX9_fillGains_170 : decode cX9_fillGains 170 = .ok (.iload_n 2, 1) := by decide +kernel
theorem dX9_fillGains_171 : decode cX9_fillGains 171 = .ok (.iaload, 1) := by decide +kernel
theorem dX9_fillGains_172 : decode cX9_fillGains 172 = .ok (.isub, 1) := by decide +kernel
theorem dX9_fillGains_173 : decode cX9_fillGains 173 = .ok (.imul, 1) := by decide +kernel
theorem dX9_fillGains_174 : decode cX9_fillGains 174 = .ok (.aload_n 0, 1) := by decide +kernel
theorem dX9_fillGains_175 : decode cX9_fillGains 175 = .ok (.getfield 59, 3) := by decide +kernel
theorem dX9_fillGains_178 : decode cX9_fillGains 178 = .ok (.getfield 233, 3) := by decide +kernel
theorem dX9_fillGains_181 : decode cX9_fillGains 181 = .ok (.iload_n 2, 1) := by decide +kernel
theorem dX9_fillGains_182 : decode cX9_fillGains 182 = .ok (.iaload, 1) := by decide +kernel
theorem dX9_fillGains_183 : decode cX9_fillGains 183 = .ok (.isub, 1) := by decide +kernel
theorem dX9_fillGains_184 : decode cX9_fillGains 184 = .ok (.iastore, 1) := by decide +kernel
theorem dX9_fillGains_185 : decode cX9_fillGains 185 = .ok (.iinc 6 1, 3) := by decide +kernel
theorem dX9_fillGains_188 : decode cX9_fillGains 188 = .ok (.goto (-167), 3) := by decide +kernel
theorem dX9_fillGains_191 : decode cX9_fillGains 191 = .ok (.return_, 1) := by decide +kernel
theorem dX9_isRest_0 : decode cX9_isRest 0 = .ok (.iload_n 1, 1) := by decide +kernel
theorem dX9_isRest_1 : decode cX9_isRest 1 = .ok (.iconst 4, 1) := by decide +kernel
theorem dX9_isRest_2 : decode cX9_isRest 2 = .ok (.idiv, 1) := by decide +kernel
theorem dX9_isRest_3 : decode cX9_isRest 3 = .ok (.istore_n 2, 1) := by decide +kernel
theorem dX9_isRest_4 : decode cX9_isRest 4 = .ok (.iload_n 1, 1) := by decide +kernel
theorem dX9_isRest_5 : decode cX9_isRest 5 = .ok (.iconst 4, 1) := by decide +kernel
theorem dX9_isRest_6 : decode cX9_isRest 6 = .ok (.irem, 1) := by decide +kernel
theorem dX9_isRest_7 : decode cX9_isRest 7 = .ok (.istore_n 3, 1) := by decide +kernel
theorem dX9_isRest_8 : decode cX9_isRest 8 = .ok (.iconst 0, 1) := by decide +kernel
theorem dX9_isRest_9 : decode cX9_isRest 9 = .ok (.istore 4, 2) := by decide +kernel
theorem dX9_isRest_11 : decode cX9_isRest 11 = .ok (.iload 4, 2) := by decide +kernel
theorem dX9_isRest_13 : decode cX9_isRest 13 = .ok (.iconst 4, 1) := by decide +kernel
theorem dX9_isRest_14 : decode cX9_isRest 14 = .ok (.if_icmp .ge 51, 3) := by decide +kernel
theorem dX9_isRest_17 : decode cX9_isRest 17 = .ok (.aload_n 0, 1) := by decide +kernel
theorem dX9_isRest_18 : decode cX9_isRest 18 = .ok (.getfield 70, 3) := by decide +kernel
theorem dX9_isRest_21 : decode cX9_isRest 21 = .ok (.iload 4, 2) := by decide +kernel
theorem dX9_isRest_23 : decode cX9_isRest 23 = .ok (.iconst 4, 1) := by decide +kernel
theorem dX9_isRest_24 : decode cX9_isRest 24 = .ok (.imul, 1) := by decide +kernel
theorem dX9_isRest_25 : decode cX9_isRest 25 = .ok (.iload_n 3, 1) := by decide +kernel
theorem dX9_isRest_26 : decode cX9_isRest 26 = .ok (.iadd, 1) := by decide +kernel
theorem dX9_isRest_27 : decode cX9_isRest 27 = .ok (.iaload, 1) := by decide +kernel
theorem dX9_isRest_28 : decode cX9_isRest 28 = .ok (.aload_n 0, 1) := by decide +kernel
theorem dX9_isRest_29 : decode cX9_isRest 29 = .ok (.getfield 70, 3) := by decide +kernel
theorem dX9_isRest_32 : decode cX9_isRest 32 = .ok (.iload_n 1, 1) := by decide +kernel
theorem dX9_isRest_33 : decode cX9_isRest 33 = .ok (.iaload, 1) := by decide +kernel
theorem dX9_isRest_34 : decode cX9_isRest 34 = .ok (.if_icmp .gt 23, 3) := by decide +kernel
theorem dX9_isRest_37 : decode cX9_isRest 37 = .ok (.aload_n 0, 1) := by decide +kernel
theorem dX9_isRest_38 : decode cX9_isRest 38 = .ok (.getfield 74, 3) := by decide +kernel
theorem dX9_isRest_41 : decode cX9_isRest 41 = .ok (.iload_n 2, 1) := by decide +kernel
theorem dX9_isRest_42 : decode cX9_isRest 42 = .ok (.iconst 4, 1) := by decide +kernel
theorem dX9_isRest_43 : decode cX9_isRest 43 = .ok (.imul, 1) := by decide +kernel
theorem dX9_isRest_44 : decode cX9_isRest 44 = .ok (.iload 4, 2) := by decide +kernel
theorem dX9_isRest_46 : decode cX9_isRest 46 = .ok (.iadd, 1) := by decide +kernel
theorem dX9_isRest_47 : decode cX9_isRest 47 = .ok (.iaload, 1) := by decide +kernel
theorem dX9_isRest_48 : decode cX9_isRest 48 = .ok (.aload_n 0, 1) := by decide +kernel
theorem dX9_isRest_49 : decode cX9_isRest 49 = .ok (.getfield 74, 3) := by decide +kernel
theorem dX9_isRest_52 : decode cX9_isRest 52 = .ok (.iload_n 1, 1) := by decide +kernel
theorem dX9_isRest_53 : decode cX9_isRest 53 = .ok (.iaload, 1) := by decide +kernel
theorem dX9_isRest_54 : decode cX9_isRest 54 = .ok (.if_icmp .le 5, 3) := by decide +kernel
theorem dX9_isRest_57 : decode cX9_isRest 57 = .ok (.iconst 0, 1) := by decide +kernel
theorem dX9_isRest_58 : decode cX9_isRest 58 = .ok (.ireturn, 1) := by decide +kernel
theorem dX9_isRest_59 : decode cX9_isRest 59 = .ok (.iinc 4 1, 3) := by decide +kernel
theorem dX9_isRest_62 : decode cX9_isRest 62 = .ok (.goto (-51), 3) := by decide +kernel
theorem dX9_isRest_65 : decode cX9_isRest 65 = .ok (.iconst 1, 1) := by decide +kernel
theorem dX9_isRest_66 : decode cX9_isRest 66 = .ok (.ireturn, 1) := by decide +kernel
theorem dX9_fillBoxesBehind_0 : decode cX9_fillBoxesBehind 0 = .ok (.iconst 0, 1) := by decide +kernel
theorem dX9_fillBoxesBehind_1 : decode cX9_fillBoxesBehind 1 = .ok (.istore_n 2, 1) := by decide +kernel
theorem dX9_fillBoxesBehind_2 : decode cX9_fillBoxesBehind 2 = .ok (.iconst (-1), 1) := by decide +kernel
theorem dX9_fillBoxesBehind_3 : decode cX9_fillBoxesBehind 3 = .ok (.istore_n 3, 1) := by decide +kernel
theorem dX9_fillBoxesBehind_4 : decode cX9_fillBoxesBehind 4 = .ok (.iload_n 3, 1) := by decide +kernel
theorem dX9_fillBoxesBehind_5 : decode cX9_fillBoxesBehind 5 = .ok (.aload_n 0, 1) := by decide +kernel
theorem dX9_fillBoxesBehind_6 : decode cX9_fillBoxesBehind 6 = .ok (.getfield 128, 3) := by decide +kernel
theorem dX9_fillBoxesBehind_9 : decode cX9_fillBoxesBehind 9 = .ok (.if_icmp .ge 93, 3) := by decide +kernel
theorem dX9_fillBoxesBehind_12 : decode cX9_fillBoxesBehind 12 = .ok (.aload_n 0, 1) := by decide +kernel
theorem dX9_fillBoxesBehind_13 : decode cX9_fillBoxesBehind 13 = .ok (.getfield 59, 3) := by decide +kernel
theorem dX9_fillBoxesBehind_16 : decode cX9_fillBoxesBehind 16 = .ok (.aload_n 0, 1) := by decide +kernel
theorem dX9_fillBoxesBehind_17 : decode cX9_fillBoxesBehind 17 = .ok (.getfield 41, 3) := by decide +kernel
theorem dX9_fillBoxesBehind_20 : decode cX9_fillBoxesBehind 20 = .ok (.getfield 103, 3) := by decide +kernel
theorem dX9_fillBoxesBehind_23 : decode cX9_fillBoxesBehind 23 = .ok (.invokevirtual 111, 3) := by decide +kernel
theorem dX9_fillBoxesBehind_26 : decode cX9_fillBoxesBehind 26 = .ok (.aload_n 0, 1) := by decide +kernel
theorem dX9_fillBoxesBehind_27 : decode cX9_fillBoxesBehind 27 = .ok (.getfield 41, 3) := by decide +kernel
theorem dX9_fillBoxesBehind_30 : decode cX9_fillBoxesBehind 30 = .ok (.aload_n 0, 1) := by decide +kernel
theorem dX9_fillBoxesBehind_31 : decode cX9_fillBoxesBehind 31 = .ok (.getfield 59, 3) := by decide +kernel
theorem dX9_fillBoxesBehind_34 : decode cX9_fillBoxesBehind 34 = .ok (.aload_n 0, 1) := by decide +kernel
theorem dX9_fillBoxesBehind_35 : decode cX9_fillBoxesBehind 35 = .ok (.iload_n 3, 1) := by decide +kernel
theorem dX9_fillBoxesBehind_36 : decode cX9_fillBoxesBehind 36 = .ok (.invokevirtual 306, 3) := by decide +kernel
theorem dX9_fillBoxesBehind_39 : decode cX9_fillBoxesBehind 39 = .ok (.invokevirtual 292, 3) := by decide +kernel
theorem dX9_fillBoxesBehind_42 : decode cX9_fillBoxesBehind 42 = .ok (.ifCond .eq 54, 3) := by decide +kernel
theorem dX9_fillBoxesBehind_45 : decode cX9_fillBoxesBehind 45 = .ok (.aload_n 0, 1) := by decide +kernel
theorem dX9_fillBoxesBehind_46 : decode cX9_fillBoxesBehind 46 = .ok (.getfield 59, 3) := by decide +kernel
theorem dX9_fillBoxesBehind_49 : decode cX9_fillBoxesBehind 49 = .ok (.aload_n 0, 1) := by decide +kernel
theorem dX9_fillBoxesBehind_50 : decode cX9_fillBoxesBehind 50 = .ok (.getfield 41, 3) := by decide +kernel
theorem dX9_fillBoxesBehind_53 : decode cX9_fillBoxesBehind 53 = .ok (.getfield 103, 3) := by decide +kernel
theorem dX9_fillBoxesBehind_56 : decode cX9_fillBoxesBehind 56 = .ok (.invokevirtual 111, 3) := by decide +kernel
theorem dX9_fillBoxesBehind_59 : decode cX9_fillBoxesBehind 59 = .ok (.aload_n 0, 1) := by decide +kernel
theorem dX9_fillBoxesBehind_60 : decode cX9_fillBoxesBehind 60 = .ok (.getfield 59, 3) := by decide +kernel
theorem dX9_fillBoxesBehind_63 : decode cX9_fillBoxesBehind 63 = .ok (.aload_n 0, 1) := by decide +kernel
theorem dX9_fillBoxesBehind_64 : decode cX9_fillBoxesBehind 64 = .ok (.iload_n 3, 1) := by decide +kernel
theorem dX9_fillBoxesBehind_65 : decode cX9_fillBoxesBehind 65 = .ok (.invokevirtual 306, 3) := by decide +kernel
theorem dX9_fillBoxesBehind_68 : decode cX9_fillBoxesBehind 68 = .ok (.iload_n 1, 1) := by decide +kernel
theorem dX9_fillBoxesBehind_69 : decode cX9_fillBoxesBehind 69 = .ok (.iconst 1, 1) := by decide +kernel
theorem dX9_fillBoxesBehind_70 : decode cX9_fillBoxesBehind 70 = .ok (.iadd, 1) := by decide +kernel
theorem dX9_fillBoxesBehind_71 : decode cX9_fillBoxesBehind 71 = .ok (.invokevirtual 278, 3) := by decide +kernel
theorem dX9_fillBoxesBehind_74 : decode cX9_fillBoxesBehind 74 = .ok (.aload_n 0, 1) := by decide +kernel
theorem dX9_fillBoxesBehind_75 : decode cX9_fillBoxesBehind 75 = .ok (.getfield 59, 3) := by decide +kernel
theorem dX9_fillBoxesBehind_78 : decode cX9_fillBoxesBehind 78 = .ok (.getfield 213, 3) := by decide +kernel
theorem dX9_fillBoxesBehind_81 : decode cX9_fillBoxesBehind 81 = .ok (.iconst 0, 1) := by decide +kernel
theorem dX9_fillBoxesBehind_82 : decode cX9_fillBoxesBehind 82 = .ok (.aload_n 0, 1) := by decide +kernel
theorem dX9_fillBoxesBehind_83 : decode cX9_fillBoxesBehind 83 = .ok (.getfield 77, 3) := by decide +kernel
theorem dX9_fillBoxesBehind_86 : decode cX9_fillBoxesBehind 86 = .ok (.iload_n 2, 1) := by decide +kernel
theorem dX9_fillBoxesBehind_87 : decode cX9_fillBoxesBehind 87 = .ok (.iconst 5, 1) := by decide +kernel
theorem dX9_fillBoxesBehind_88 : decode cX9_fillBoxesBehind 88 = .ok (.imul, 1) := by decide +kernel
theorem dX9_fillBoxesBehind_89 : decode cX9_fillBoxesBehind 89 = .ok (.iconst 5, 1) := by decide +kernel
theorem dX9_fillBoxesBehind_90 : decode cX9_fillBoxesBehind 90 = .ok (.invokestatic 346, 3) := by decide +kernel
theorem dX9_fillBoxesBehind_93 : decode cX9_fillBoxesBehind 93 = .ok (.iinc 2 1, 3) := by decide +kernel
theorem dX9_fillBoxesBehind_96 : decode cX9_fillBoxesBehind 96 = .ok (.iinc 3 1, 3) := by decide +kernel
theorem dX9_fillBoxesBehind_99 : decode cX9_fillBoxesBehind 99 = .ok (.goto (-95), 3) := by decide +kernel
theorem dX9_fillBoxesBehind_102 : decode cX9_fillBoxesBehind 102 = .ok (.iload_n 2, 1) := by decide +kernel
theorem dX9_fillBoxesBehind_103 : decode cX9_fillBoxesBehind 103 = .ok (.ireturn, 1) := by decide +kernel
theorem dX9_mostAlike_0 : decode cX9_mostAlike 0 = .ok (.iconst 0, 1) := by decide +kernel
theorem dX9_mostAlike_1 : decode cX9_mostAlike 1 = .ok (.istore_n 3, 1) := by decide +kernel
theorem dX9_mostAlike_2 : decode cX9_mostAlike 2 = .ok (.iconst 0, 1) := by decide +kernel
theorem dX9_mostAlike_3 : decode cX9_mostAlike 3 = .ok (.istore 4, 2) := by decide +kernel
theorem dX9_mostAlike_5 : decode cX9_mostAlike 5 = .ok (.iload 4, 2) := by decide +kernel
theorem dX9_mostAlike_7 : decode cX9_mostAlike 7 = .ok (.iload_n 2, 1) := by decide +kernel
theorem dX9_mostAlike_8 : decode cX9_mostAlike 8 = .ok (.if_icmp .ge 62, 3) := by decide +kernel
theorem dX9_mostAlike_11 : decode cX9_mostAlike 11 = .ok (.iconst 0, 1) := by decide +kernel
theorem dX9_mostAlike_12 : decode cX9_mostAlike 12 = .ok (.istore 5, 2) := by decide +kernel
theorem dX9_mostAlike_14 : decode cX9_mostAlike 14 = .ok (.iconst 0, 1) := by decide +kernel
theorem dX9_mostAlike_15 : decode cX9_mostAlike 15 = .ok (.istore 6, 2) := by decide +kernel
theorem dX9_mostAlike_17 : decode cX9_mostAlike 17 = .ok (.iload 6, 2) := by decide +kernel
theorem dX9_mostAlike_19 : decode cX9_mostAlike 19 = .ok (.iload_n 2, 1) := by decide +kernel
theorem dX9_mostAlike_20 : decode cX9_mostAlike 20 = .ok (.if_icmp .ge 37, 3) := by decide +kernel
theorem dX9_mostAlike_23 : decode cX9_mostAlike 23 = .ok (.aload_n 0, 1) := by decide +kernel
theorem dX9_mostAlike_24 : decode cX9_mostAlike 24 = .ok (.getfield 77, 3) := by decide +kernel
theorem dX9_mostAlike_27 : decode cX9_mostAlike 27 = .ok (.iload 4, 2) := by decide +kernel
theorem dX9_mostAlike_29 : decode cX9_mostAlike 29 = .ok (.iconst 5, 1) := by decide +kernel
theorem dX9_mostAlike_30 : decode cX9_mostAlike 30 = .ok (.imul, 1) := by decide +kernel
theorem dX9_mostAlike_31 : decode cX9_mostAlike 31 = .ok (.iload_n 1, 1) := by decide +kernel
theorem dX9_mostAlike_32 : decode cX9_mostAlike 32 = .ok (.iadd, 1) := by decide +kernel
theorem dX9_mostAlike_33 : decode cX9_mostAlike 33 = .ok (.iaload, 1) := by decide +kernel
theorem dX9_mostAlike_34 : decode cX9_mostAlike 34 = .ok (.aload_n 0, 1) := by decide +kernel
theorem dX9_mostAlike_35 : decode cX9_mostAlike 35 = .ok (.getfield 77, 3) := by decide +kernel
theorem dX9_mostAlike_38 : decode cX9_mostAlike 38 = .ok (.iload 6, 2) := by decide +kernel
theorem dX9_mostAlike_40 : decode cX9_mostAlike 40 = .ok (.iconst 5, 1) := by decide +kernel
theorem dX9_mostAlike_41 : decode cX9_mostAlike 41 = .ok (.imul, 1) := by decide +kernel
theorem dX9_mostAlike_42 : decode cX9_mostAlike 42 = .ok (.iload_n 1, 1) := by decide +kernel
theorem dX9_mostAlike_43 : decode cX9_mostAlike 43 = .ok (.iadd, 1) := by decide +kernel
theorem dX9_mostAlike_44 : decode cX9_mostAlike 44 = .ok (.iaload, 1) := by decide +kernel
theorem dX9_mostAlike_45 : decode cX9_mostAlike 45 = .ok (.if_icmp .ne 6, 3) := by decide +kernel
theorem dX9_mostAlike_48 : decode cX9_mostAlike 48 = .ok (.iinc 5 1, 3) := by decide +kernel
theorem dX9_mostAlike_51 : decode cX9_mostAlike 51 = .ok (.iinc 6 1, 3) := by decide +kernel
theorem dX9_mostAlike_54 : decode cX9_mostAlike 54 = .ok (.goto (-37), 3) := by decide +kernel
theorem dX9_mostAlike_57 : decode cX9_mostAlike 57 = .ok (.iload_n 3, 1) := by decide +kernel
theorem dX9_mostAlike_58 : decode cX9_mostAlike 58 = .ok (.iload 5, 2) := by decide +kernel
theorem dX9_mostAlike_60 : decode cX9_mostAlike 60 = .ok (.invokestatic 352, 3) := by decide +kernel
theorem dX9_mostAlike_63 : decode cX9_mostAlike 63 = .ok (.istore_n 3, 1) := by decide +kernel
theorem dX9_mostAlike_64 : decode cX9_mostAlike 64 = .ok (.iinc 4 1, 3) := by decide +kernel
theorem dX9_mostAlike_67 : decode cX9_mostAlike 67 = .ok (.goto (-62), 3) := by decide +kernel
theorem dX9_mostAlike_70 : decode cX9_mostAlike 70 = .ok (.iload_n 3, 1) := by decide +kernel
theorem dX9_mostAlike_71 : decode cX9_mostAlike 71 = .ok (.ireturn, 1) := by decide +kernel
theorem dX10_init_0 : decode cX10_init 0 = .ok (.aload_n 0, 1) := by decide +kernel
theorem dX10_init_1 : decode cX10_init 1 = .ok (.invokespecial 1, 3) := by decide +kernel
theorem dX10_init_4 : decode cX10_init 4 = .ok (.aload_n 0, 1) := by decide +kernel
theorem dX10_init_5 : decode cX10_init 5 = .ok (.sipush 400, 3) := by decide +kernel
theorem dX10_init_8 : decode cX10_init 8 = .ok (.newarray .byte, 2) := by decide +kernel
theorem dX10_init_10 : decode cX10_init 10 = .ok (.putfield 7, 3) := by decide +kernel
theorem dX10_init_13 : decode cX10_init 13 = .ok (.aload_n 0, 1) := by decide +kernel
theorem dX10_init_14 : decode cX10_init 14 = .ok (.sipush 2400, 3) := by decide +kernel
theorem dX10_init_17 : decode cX10_init 17 = .ok (.newarray .int, 2) := by decide +kernel
theorem dX10_init_19 : decode cX10_init 19 = .ok (.putfield 13, 3) := by decide +kernel
theorem dX10_init_22 : decode cX10_init 22 = .ok (.aload_n 0, 1) := by decide +kernel
theorem dX10_init_23 : decode cX10_init 23 = .ok (.bipush 7, 2) := by decide +kernel
theorem dX10_init_25 : decode cX10_init 25 = .ok (.newarray .int, 2) := by decide +kernel
theorem dX10_init_27 : decode cX10_init 27 = .ok (.putfield 17, 3) := by decide +kernel
theorem dX10_init_30 : decode cX10_init 30 = .ok (.aload_n 0, 1) := by decide +kernel
theorem dX10_init_31 : decode cX10_init 31 = .ok (.sipush 288, 3) := by decide +kernel
theorem dX10_init_34 : decode cX10_init 34 = .ok (.newarray .int, 2) := by decide +kernel
theorem dX10_init_36 : decode cX10_init 36 = .ok (.putfield 20, 3) := by decide +kernel
theorem dX10_init_39 : decode cX10_init 39 = .ok (.aload_n 0, 1) := by decide +kernel
theorem dX10_init_40 : decode cX10_init 40 = .ok (.bipush 6, 2) := by decide +kernel
theorem dX10_init_42 : decode cX10_init 42 = .ok (.newarray .int, 2) := by decide +kernel
theorem dX10_init_44 : decode cX10_init 44 = .ok (.putfield 23, 3) := by decide +kernel
theorem dX10_init_47 : decode cX10_init 47 = .ok (.aload_n 0, 1) := by decide +kernel
theorem dX10_init_48 : decode cX10_init 48 = .ok (.sipush 133, 3) := by decide +kernel
theorem dX10_init_51 : decode cX10_init 51 = .ok (.newarray .int, 2) := by decide +kernel
theorem dX10_init_53 : decode cX10_init 53 = .ok (.putfield 26, 3) := by decide +kernel
theorem dX10_init_56 : decode cX10_init 56 = .ok (.aload_n 0, 1) := by decide +kernel
theorem dX10_init_57 : decode cX10_init 57 = .ok (.sipush 400, 3) := by decide +kernel
theorem dX10_init_60 : decode cX10_init 60 = .ok (.newarray .int, 2) := by decide +kernel
theorem dX10_init_62 : decode cX10_init 62 = .ok (.putfield 29, 3) := by decide +kernel
theorem dX10_init_65 : decode cX10_init 65 = .ok (.aload_n 0, 1) := by decide +kernel
theorem dX10_init_66 : decode cX10_init 66 = .ok (.bipush 64, 2) := by decide +kernel
theorem dX10_init_68 : decode cX10_init 68 = .ok (.newarray .long, 2) := by decide +kernel
theorem dX10_init_70 : decode cX10_init 70 = .ok (.putfield 32, 3) := by decide +kernel
theorem dX10_init_73 : decode cX10_init 73 = .ok (.aload_n 0, 1) := by decide +kernel
theorem dX10_init_74 : decode cX10_init 74 = .ok (.bipush 10, 2) := by decide +kernel
theorem dX10_init_76 : decode cX10_init 76 = .ok (.newarray .long, 2) := by decide +kernel
theorem dX10_init_78 : decode cX10_init 78 = .ok (.putfield 36, 3) := by decide +kernel
theorem dX10_init_81 : decode cX10_init 81 = .ok (.aload_n 0, 1) := by decide +kernel
theorem dX10_init_82 : decode cX10_init 82 = .ok (.sipush 1171, 3) := by decide +kernel
theorem dX10_init_85 : decode cX10_init 85 = .ok (.newarray .int, 2) := by decide +kernel
theorem dX10_init_87 : decode cX10_init 87 = .ok (.putfield 39, 3) := by decide +kernel
theorem dX10_init_90 : decode cX10_init 90 = .ok (.aload_n 0, 1) := by decide +kernel
theorem dX10_init_91 : decode cX10_init 91 = .ok (.iconst (-1), 1) := by decide +kernel
theorem dX10_init_92 : decode cX10_init 92 = .ok (.putfield 42, 3) := by decide +kernel
theorem dX10_init_95 : decode cX10_init 95 = .ok (.aload_n 0, 1) := by decide +kernel
theorem dX10_init_96 : decode cX10_init 96 = .ok (.sipush 20240, 3) := by decide +kernel
theorem dX10_init_99 : decode cX10_init 99 = .ok (.newarray .int, 2) := by decide +kernel
theorem dX10_init_101 : decode cX10_init 101 = .ok (.putfield 46, 3) := by decide +kernel
theorem dX10_init_104 : decode cX10_init 104 = .ok (.aload_n 0, 1) := by decide +kernel
theorem dX10_init_105 : decode cX10_init 105 = .ok (.iconst 5, 1) := by decide +kernel
theorem dX10_init_106 : decode cX10_init 106 = .ok (.newarray .int, 2) := by decide +kernel
theorem dX10_init_108 : decode cX10_init 108 = .ok (.putfield 49, 3) := by decide +kernel
theorem dX10_init_111 : decode cX10_init 111 = .ok (.aload_n 0, 1) := by decide +kernel
theorem dX10_init_112 : decode cX10_init 112 = .ok (.iconst 5, 1) := by decide +kernel
theorem dX10_init_113 : decode cX10_init 113 = .ok (.newarray .int, 2) := by decide +kernel
theorem dX10_init_115 : decode cX10_init 115 = .ok (.putfield 52, 3) := by decide +kernel
theorem dX10_init_118 : decode cX10_init 118 = .ok (.aload_n 0, 1) := by decide +kernel
theorem dX10_init_119 : decode cX10_init 119 = .ok (.iconst 5, 1) := by decide +kernel
theorem dX10_init_120 : decode cX10_init 120 = .ok (.newarray .int, 2) := by decide +kernel
theorem dX10_init_122 : decode cX10_init 122 = .ok (.putfield 55, 3) := by decide +kernel
theorem dX10_init_125 : decode cX10_init 125 = .ok (.aload_n 0, 1) := by decide +kernel
theorem dX10_init_126 : decode cX10_init 126 = .ok (.sipush 1012, 3) := by decide +kernel
theorem dX10_init_129 : decode cX10_init 129 = .ok (.newarray .int, 2) := by decide +kernel
theorem dX10_init_131 : decode cX10_init 131 = .ok (.putfield 58, 3) := by decide +kernel
theorem dX10_init_134 : decode cX10_init 134 = .ok (.aload_n 0, 1) := by decide +kernel
theorem dX10_init_135 : decode cX10_init 135 = .ok (.bipush 32, 2) := by decide +kernel
theorem dX10_init_137 : decode cX10_init 137 = .ok (.newarray .int, 2) := by decide +kernel
theorem dX10_init_139 : decode cX10_init 139 = .ok (.putfield 61, 3) := by decide +kernel
theorem dX10_init_142 : decode cX10_init 142 = .ok (.aload_n 0, 1) := by decide +kernel
theorem dX10_init_143 : decode cX10_init 143 = .ok (.bipush 7, 2) := by decide +kernel
theorem dX10_init_145 : decode cX10_init 145 = .ok (.newarray .boolean, 2) := by decide +kernel
theorem dX10_init_147 : decode cX10_init 147 = .ok (.putfield 64, 3) := by decide +kernel
theorem dX10_init_150 : decode cX10_init 150 = .ok (.aload_n 0, 1) := by decide +kernel
theorem dX10_init_151 : decode cX10_init 151 = .ok (.bipush 35, 2) := by decide +kernel
theorem dX10_init_153 : decode cX10_init 153 = .ok (.newarray .int, 2) := by decide +kernel
theorem dX10_init_155 : decode cX10_init 155 = .ok (.putfield 68, 3) := by decide +kernel
theorem dX10_init_158 : decode cX10_init 158 = .ok (.aload_n 0, 1) := by decide +kernel
theorem dX10_init_159 : decode cX10_init 159 = .ok (.sipush 4684, 3) := by decide +kernel
theorem dX10_init_162 : decode cX10_init 162 = .ok (.newarray .int, 2) := by decide +kernel
theorem dX10_init_164 : decode cX10_init 164 = .ok (.putfield 71, 3) := by decide +kernel
theorem dX10_init_167 : decode cX10_init 167 = .ok (.aload_n 0, 1) := by decide +kernel
theorem dX10_init_168 : decode cX10_init 168 = .ok (.iconst 4, 1) := by decide +kernel
theorem dX10_init_169 : decode cX10_init 169 = .ok (.newarray .int, 2) := by decide +kernel
theorem dX10_init_171 : decode cX10_init 171 = .ok (.putfield 74, 3) := by decide +kernel
theorem dX10_init_174 : decode cX10_init 174 = .ok (.aload_n 0, 1) := by decide +kernel
theorem dX10_init_175 : decode cX10_init 175 = .ok (.iconst 4, 1) := by decide +kernel
theorem dX10_init_176 : decode cX10_init 176 = .ok (.newarray .int, 2) := by decide +kernel
theorem dX10_init_178 : decode cX10_init 178 = .ok (.putfield 77, 3) := by decide +kernel
theorem dX10_init_181 : decode cX10_init 181 = .ok (.aload_n 0, 1) := by decide +kernel
theorem dX10_init_182 : decode cX10_init 182 = .ok (.iconst 4, 1) := by decide +kernel
theorem dX10_init_183 : decode cX10_init 183 = .ok (.newarray .boolean, 2) := by decide +kernel
theorem dX10_init_185 : decode cX10_init 185 = .ok (.putfield 80, 3) := by decide +kernel
theorem dX10_init_188 : decode cX10_init 188 = .ok (.return_, 1) := by decide +kernel
theorem dX10_in_0 : decode cX10_in 0 = .ok (.lload_n 0, 1) := by decide +kernel
theorem dX10_in_1 : decode cX10_in 1 = .ok (.lload_n 2, 1) := by decide +kernel
theorem dX10_in_2 : decode cX10_in 2 = .ok (.lcmp, 1) := by decide +kernel
theorem dX10_in_3 : decode cX10_in 3 = .ok (.ifCond .lt 14, 3) := by decide +kernel
theorem dX10_in_6 : decode cX10_in 6 = .ok (.lload_n 0, 1) := by decide +kernel
theorem dX10_in_7 : decode cX10_in 7 = .ok (.lload 4, 2) := by decide +kernel
theorem dX10_in_9 : decode cX10_in 9 = .ok (.lcmp, 1) := by decide +kernel
theorem dX10_in_10 : decode cX10_in 10 = .ok (.ifCond .gt 7, 3) := by decide +kernel
theorem dX10_in_13 : decode cX10_in 13 = .ok (.iconst 1, 1) := by decide +kernel
theorem dX10_in_14 : decode cX10_in 14 = .ok (.goto 4, 3) := by decide +kernel
theorem dX10_in_17 : decode cX10_in 17 = .ok (.iconst 0, 1) := by decide +kernel
theorem dX10_in_18 : decode cX10_in 18 = .ok (.ireturn, 1) := by decide +kernel
theorem dX10_isOf_0 : decode cX10_isOf 0 = .ok (.iload_n 0, 1) := by decide +kernel
theorem dX10_isOf_1 : decode cX10_isOf 1 = .ok (.iload_n 1, 1) := by decide +kernel
theorem dX10_isOf_2 : decode cX10_isOf 2 = .ok (.ishr, 1) := by decide +kernel
theorem dX10_isOf_3 : decode cX10_isOf 3 = .ok (.iconst 1, 1) := by decide +kernel
theorem dX10_isOf_4 : decode cX10_isOf 4 = .ok (.iand, 1) := by decide +kernel
theorem dX10_isOf_5 : decode cX10_isOf 5 = .ok (.iconst 1, 1) := by decide +kernel
theorem dX10_isOf_6 : decode cX10_isOf 6 = .ok (.if_icmp .ne 7, 3) := by decide +kernel
theorem dX10_isOf_9 : decode cX10_isOf 9 = .ok (.iconst 1, 1) := by decide +kernel
theorem dX10_isOf_10 : decode cX10_isOf 10 = .ok (.goto 4, 3) := by decide +kernel
theorem dX10_isOf_13 : decode cX10_isOf 13 = .ok (.iconst 0, 1) := by decide +kernel
theorem dX10_isOf_14 : decode cX10_isOf 14 = .ok (.ireturn, 1) := by decide +kernel
theorem dX10_four_0 : decode cX10_four 0 = .ok (.bipush 24, 2) := by decide +kernel
theorem dX10_four_2 : decode cX10_four 2 = .ok (.istore_n 2, 1) := by decide +kernel
theorem dX10_four_3 : decode cX10_four 3 = .ok (.iload_n 2, 1) := by decide +kernel
theorem dX10_four_4 : decode cX10_four 4 = .ok (.ifCond .lt 32, 3) := by decide +kernel
theorem dX10_four_7 : decode cX10_four 7 = .ok (.aload_n 0, 1) := by decide +kernel
theorem dX10_four_8 : decode cX10_four 8 = .ok (.getfield 7, 3) := by decide +kernel
theorem dX10_four_11 : decode cX10_four 11 = .ok (.aload_n 0, 1) := by decide +kernel
theorem dX10_four_12 : decode cX10_four 12 = .ok (.getfield 83, 3) := by decide +kernel
theorem dX10_four_15 : decode cX10_four 15 = .ok (.iload_n 1, 1) := by decide +kernel
theorem dX10_four_16 : decode cX10_four 16 = .ok (.iload_n 2, 1) := by decide +kernel
theorem dX10_four_17 : decode cX10_four 17 = .ok (.ishr, 1) := by decide +kernel
theorem dX10_four_18 : decode cX10_four 18 = .ok (.i2b, 1) := by decide +kernel
theorem dX10_four_19 : decode cX10_four 19 = .ok (.bastore, 1) := by decide +kernel
theorem dX10_four_20 : decode cX10_four 20 = .ok (.aload_n 0, 1) := by decide +kernel
theorem dX10_four_21 : decode cX10_four 21 = .ok (.dup, 1) := by decide +kernel
theorem dX10_four_22 : decode cX10_four 22 = .ok (.getfield 83, 3) := by decide +kernel
theorem dX10_four_25 : decode cX10_four 25 = .ok (.iconst 1, 1) := by decide +kernel
theorem dX10_four_26 : decode cX10_four 26 = .ok (.iadd, 1) := by decide +kernel
theorem dX10_four_27 : decode cX10_four 27 = .ok (.putfield 83, 3) := by decide +kernel
theorem dX10_four_30 : decode cX10_four 30 = .ok (.iinc 2 (-8), 3) := by decide +kernel
theorem dX10_four_33 : decode cX10_four 33 = .ok (.goto (-30), 3) := by decide +kernel
theorem dX10_four_36 : decode cX10_four 36 = .ok (.return_, 1) := by decide +kernel
theorem dX10_feed_0 : decode cX10_feed 0 = .ok (.aload_n 0, 1) := by decide +kernel
theorem dX10_feed_1 : decode cX10_feed 1 = .ok (.getfield 83, 3) := by decide +kernel
theorem dX10_feed_4 : decode cX10_feed 4 = .ok (.bipush 20, 2) := by decide +kernel
theorem dX10_feed_6 : decode cX10_feed 6 = .ok (.iadd, 1) := by decide +kernel
theorem dX10_feed_7 : decode cX10_feed 7 = .ok (.sipush 400, 3) := by decide +kernel
theorem dX10_feed_10 : decode cX10_feed 10 = .ok (.if_icmp .le 5, 3) := by decide +kernel
theorem dX10_feed_13 : decode cX10_feed 13 = .ok (.iconst (-1), 1) := by decide +kernel
theorem dX10_feed_14 : decode cX10_feed 14 = .ok (.ireturn, 1) := by decide +kernel
theorem dX10_feed_15 : decode cX10_feed 15 = .ok (.aload_n 0, 1) := by decide +kernel
theorem dX10_feed_16 : decode cX10_feed 16 = .ok (.iload_n 1, 1) := by decide +kernel
theorem dX10_feed_17 : decode cX10_feed 17 = .ok (.invokevirtual 86, 3) := by decide +kernel
theorem dX10_feed_20 : decode cX10_feed 20 = .ok (.aload_n 0, 1) := by decide +kernel
theorem dX10_feed_21 : decode cX10_feed 21 = .ok (.iload_n 2, 1) := by decide +kernel
theorem dX10_feed_22 : decode cX10_feed 22 = .ok (.invokevirtual 86, 3) := by decide +kernel
theorem dX10_feed_25 : decode cX10_feed 25 = .ok (.aload_n 0, 1) := by decide +kernel
theorem dX10_feed_26 : decode cX10_feed 26 = .ok (.iload_n 3, 1) := by decide +kernel
theorem dX10_feed_27 : decode cX10_feed 27 = .ok (.invokevirtual 86, 3) := by decide +kernel
theorem dX10_feed_30 : decode cX10_feed 30 = .ok (.aload_n 0, 1) := by decide +kernel
theorem dX10_feed_31 : decode cX10_feed 31 = .ok (.iload 4, 2) := by decide +kernel
theorem dX10_feed_33 : decode cX10_feed 33 = .ok (.invokevirtual 86, 3) := by decide +kernel
theorem dX10_feed_36 : decode cX10_feed 36 = .ok (.aload_n 0, 1) := by decide +kernel
theorem dX10_feed_37 : decode cX10_feed 37 = .ok (.iload 5, 2) := by decide +kernel
theorem dX10_feed_39 : decode cX10_feed 39 = .ok (.invokevirtual 86, 3) := by decide +kernel
theorem dX10_feed_42 : decode cX10_feed 42 = .ok (.aload_n 0, 1) := by decide +kernel
theorem dX10_feed_43 : decode cX10_feed 43 = .ok (.getfield 83, 3) := by decide +kernel
theorem dX10_feed_46 : decode cX10_feed 46 = .ok (.ireturn, 1) := by decide +kernel
theorem dX10_end_0 : decode cX10_end 0 = .ok (.iload_n 1, 1) := by decide +kernel
theorem dX10_end_1 : decode cX10_end 1 = .ok (.ifCond .lt 11, 3) := by decide +kernel
theorem dX10_end_4 : decode cX10_end 4 = .ok (.iload_n 1, 1) := by decide +kernel
theorem dX10_end_5 : decode cX10_end 5 = .ok (.aload_n 0, 1) := by decide +kernel
theorem dX10_end_6 : decode cX10_end 6 = .ok (.getfield 83, 3) := by decide +kernel
theorem dX10_end_9 : decode cX10_end 9 = .ok (.if_icmp .le 5, 3) := by decide +kernel
theorem dX10_end_12 : decode cX10_end 12 = .ok (.iconst (-1), 1) := by decide +kernel
theorem dX10_end_13 : decode cX10_end 13 = .ok (.ireturn, 1) := by decide +kernel
theorem dX10_end_14 : decode cX10_end 14 = .ok (.aload_n 0, 1) := by decide +kernel
theorem dX10_end_15 : decode cX10_end 15 = .ok (.iload_n 1, 1) := by decide +kernel
theorem dX10_end_16 : decode cX10_end 16 = .ok (.putfield 83, 3) := by decide +kernel
theorem dX10_end_19 : decode cX10_end 19 = .ok (.iload_n 1, 1) := by decide +kernel
theorem dX10_end_20 : decode cX10_end 20 = .ok (.ireturn, 1) := by decide +kernel
theorem dX10_fails_0 : decode cX10_fails 0 = .ok (.aload_n 0, 1) := by decide +kernel
theorem dX10_fails_1 : decode cX10_fails 1 = .ok (.getfield 90, 3) := by decide +kernel
theorem dX10_fails_4 : decode cX10_fails 4 = .ok (.ifCond .ne 15, 3) := by decide +kernel
theorem dX10_fails_7 : decode cX10_fails 7 = .ok (.aload_n 0, 1) := by decide +kernel
theorem dX10_fails_8 : decode cX10_fails 8 = .ok (.iconst 1, 1) := by decide +kernel
theorem dX10_fails_9 : decode cX10_fails 9 = .ok (.bipush 8, 2) := by decide +kernel
theorem dX10_fails_11 : decode cX10_fails 11 = .ok (.iload_n 2, 1) := by decide +kernel
theorem dX10_fails_12 : decode cX10_fails 12 = .ok (.imul, 1) := by decide +kernel
theorem dX10_fails_13 : decode cX10_fails 13 = .ok (.iadd, 1) := by decide +kernel
theorem dX10_fails_14 : decode cX10_fails 14 = .ok (.iload_n 1, 1) := by decide +kernel
theorem dX10_fails_15 : decode cX10_fails 15 = .ok (.iadd, 1) := by decide +kernel
theorem dX10_fails_16 : decode cX10_fails 16 = .ok (.putfield 90, 3) := by decide +kernel
theorem dX10_fails_19 : decode cX10_fails 19 = .ok (.iconst 0, 1) := by decide +kernel
theorem dX10_fails_20 : decode cX10_fails 20 = .ok (.ireturn, 1) := by decide +kernel
theorem dX10_see_0 : decode cX10_see 0 = .ok (.aload_n 0, 1) := by decide +kernel
theorem dX10_see_1 : decode cX10_see 1 = .ok (.getfield 93, 3) := by decide +kernel
theorem dX10_see_4 : decode cX10_see 4 = .ok (.aload_n 0, 1) := by decide +kernel
theorem dX10_see_5 : decode cX10_see 5 = .ok (.getfield 83, 3) := by decide +kernel
theorem dX10_see_8 : decode cX10_see 8 = .ok (.if_icmp .ge 30, 3) := by decide +kernel
theorem dX10_see_11 : decode cX10_see 11 = .ok (.aload_n 0, 1) := by decide +kernel
theorem dX10_see_12 : decode cX10_see 12 = .ok (.getfield 7, 3) := by decide +kernel
theorem dX10_see_15 : decode cX10_see 15 = .ok (.aload_n 0, 1) := by decide +kernel
theorem dX10_see_16 : decode cX10_see 16 = .ok (.getfield 93, 3) := by decide +kernel
theorem dX10_see_19 : decode cX10_see 19 = .ok (.baload, 1) := by decide +kernel
theorem dX10_see_20 : decode cX10_see 20 = .ok (.bipush 32, 2) := by decide +kernel
theorem dX10_see_22 : decode cX10_see 22 = .ok (.if_icmp .ne 16, 3) := by decide +kernel
theorem dX10_see_25 : decode cX10_see 25 = .ok (.aload_n 0, 1) := by decide +kernel
theorem dX10_see_26 : decode cX10_see 26 = .ok (.dup, 1) := by decide +kernel
theorem dX10_see_27 : decode cX10_see 27 = .ok (.getfield 93, 3) := by decide +kernel
theorem dX10_see_30 : decode cX10_see 30 = .ok (.iconst 1, 1) := by decide +kernel
theorem dX10_see_31 : decode cX10_see 31 = .ok (.iadd, 1) := by decide +kernel
theorem dX10_see_32 : decode cX10_see 32 = .ok (.putfield 93, 3) := by decide +kernel
theorem dX10_see_35 : decode cX10_see 35 = .ok (.goto (-35), 3) := by decide +kernel
theorem dX10_see_38 : decode cX10_see 38 = .ok (.aload_n 0, 1) := by decide +kernel
theorem dX10_see_39 : decode cX10_see 39 = .ok (.getfield 93, 3) := by decide +kernel
theorem dX10_see_42 : decode cX10_see 42 = .ok (.aload_n 0, 1) := by decide +kernel
theorem dX10_see_43 : decode cX10_see 43 = .ok (.getfield 83, 3) := by decide +kernel
theorem dX10_see_46 : decode cX10_see 46 = .ok (.if_icmp .ge 19, 3) := by decide +kernel
theorem dX10_see_49 : decode cX10_see 49 = .ok (.aload_n 0, 1) := by decide +kernel
theorem dX10_see_50 : decode cX10_see 50 = .ok (.getfield 7, 3) := by decide +kernel
theorem dX10_see_53 : decode cX10_see 53 = .ok (.aload_n 0, 1) := by decide +kernel
theorem dX10_see_54 : decode cX10_see 54 = .ok (.getfield 93, 3) := by decide +kernel
theorem dX10_see_57 : decode cX10_see 57 = .ok (.baload, 1) := by decide +kernel
theorem dX10_see_58 : decode cX10_see 58 = .ok (.sipush 255, 3) := by decide +kernel
theorem dX10_see_61 : decode cX10_see 61 = .ok (.iand, 1) := by decide +kernel
theorem dX10_see_62 : decode cX10_see 62 = .ok (.goto 4, 3) := by decide +kernel
theorem dX10_see_65 : decode cX10_see 65 = .ok (.iconst (-1), 1) := by decide +kernel
theorem dX10_see_66 : decode cX10_see 66 = .ok (.ireturn, 1) := by decide +kernel
theorem dX10_isDigit_0 : decode cX10_isDigit 0 = .ok (.iload_n 1, 1) := by decide +kernel
theorem dX10_isDigit_1 : decode cX10_isDigit 1 = .ok (.aload_n 0, 1) := by decide +kernel
theorem dX10_isDigit_2 : decode cX10_isDigit 2 = .ok (.getfield 83, 3) := by decide +kernel
theorem dX10_isDigit_5 : decode cX10_isDigit 5 = .ok (.if_icmp .ge 29, 3) := by decide +kernel
theorem dX10_isDigit_8 : decode cX10_isDigit 8 = .ok (.aload_n 0, 1) := by decide +kernel
theorem dX10_isDigit_9 : decode cX10_isDigit 9 = .ok (.getfield 7, 3) := by decide +kernel
theorem dX10_isDigit_12 : decode cX10_isDigit 12 = .ok (.iload_n 1, 1) := by decide +kernel
theorem dX10_isDigit_13 : decode cX10_isDigit 13 = .ok (.baload, 1) := by decide +kernel
theorem dX10_isDigit_14 : decode cX10_isDigit 14 = .ok (.bipush 48, 2) := by decide +kernel
theorem dX10_isDigit_16 : decode cX10_isDigit 16 = .ok (.if_icmp .lt 18, 3) := by decide +kernel
theorem dX10_isDigit_19 : decode cX10_isDigit 19 = .ok (.aload_n 0, 1) := by decide +kernel
theorem dX10_isDigit_20 : decode cX10_isDigit 20 = .ok (.getfield 7, 3) := by decide +kernel
theorem dX10_isDigit_23 : decode cX10_isDigit 23 = .ok (.iload_n 1, 1) := by decide +kernel
theorem dX10_isDigit_24 : decode cX10_isDigit 24 = .ok (.baload, 1) := by decide +kernel
theorem dX10_isDigit_25 : decode cX10_isDigit 25 = .ok (.bipush 57, 2) := by decide +kernel
theorem dX10_isDigit_27 : decode cX10_isDigit 27 = .ok (.if_icmp .gt 7, 3) := by decide +kernel
theorem dX10_isDigit_30 : decode cX10_isDigit 30 = .ok (.iconst 1, 1) := by decide +kernel
theorem dX10_isDigit_31 : decode cX10_isDigit 31 = .ok (.goto 4, 3) := by decide +kernel
theorem dX10_isDigit_34 : decode cX10_isDigit 34 = .ok (.iconst 0, 1) := by decide +kernel
theorem dX10_isDigit_35 : decode cX10_isDigit 35 = .ok (.ireturn, 1) := by decide +kernel
theorem dX10_isLetter_0 : decode cX10_isLetter 0 = .ok (.iload_n 1, 1) := by decide +kernel
theorem dX10_isLetter_1 : decode cX10_isLetter 1 = .ok (.aload_n 0, 1) := by decide +kernel
theorem dX10_isLetter_2 : decode cX10_isLetter 2 = .ok (.getfield 83, 3) := by decide +kernel
theorem dX10_isLetter_5 : decode cX10_isLetter 5 = .ok (.if_icmp .ge 29, 3) := by decide +kernel
theorem dX10_isLetter_8 : decode cX10_isLetter 8 = .ok (.aload_n 0, 1) := by decide +kernel
theorem dX10_isLetter_9 : decode cX10_isLetter 9 = .ok (.getfield 7, 3) := by decide +kernel
theorem dX10_isLetter_12 : decode cX10_isLetter 12 = .ok (.iload_n 1, 1) := by decide +kernel
theorem dX10_isLetter_13 : decode cX10_isLetter 13 = .ok (.baload, 1) := by decide +kernel
theorem dX10_isLetter_14 : decode cX10_isLetter 14 = .ok (.bipush 97, 2) := by decide +kernel
theorem dX10_isLetter_16 : decode cX10_isLetter 16 = .ok (.if_icmp .lt 18, 3) := by decide +kernel
theorem dX10_isLetter_19 : decode cX10_isLetter 19 = .ok (.aload_n 0, 1) := by decide +kernel
theorem dX10_isLetter_20 : decode cX10_isLetter 20 = .ok (.getfield 7, 3) := by decide +kernel
theorem dX10_isLetter_23 : decode cX10_isLetter 23 = .ok (.iload_n 1, 1) := by decide +kernel
theorem dX10_isLetter_24 : decode cX10_isLetter 24 = .ok (.baload, 1) := by decide +kernel
theorem dX10_isLetter_25 : decode cX10_isLetter 25 = .ok (.bipush 122, 2) := by decide +kernel
theorem dX10_isLetter_27 : decode cX10_isLetter 27 = .ok (.if_icmp .gt 7, 3) := by decide +kernel
theorem dX10_isLetter_30 : decode cX10_isLetter 30 = .ok (.iconst 1, 1) := by decide +kernel
theorem dX10_isLetter_31 : decode cX10_isLetter 31 = .ok (.goto 4, 3) := by decide +kernel
theorem dX10_isLetter_34 : decode cX10_isLetter 34 = .ok (.iconst 0, 1) := by decide +kernel
theorem dX10_isLetter_35 : decode cX10_isLetter 35 = .ok (.ireturn, 1) := by decide +kernel
theorem dX10_isWord_0 : decode cX10_isWord 0 = .ok (.aload_n 0, 1) := by decide +kernel
theorem dX10_isWord_1 : decode cX10_isWord 1 = .ok (.invokevirtual 96, 3) := by decide +kernel
theorem dX10_isWord_4 : decode cX10_isWord 4 = .ok (.pop, 1) := by decide +kernel
theorem dX10_isWord_5 : decode cX10_isWord 5 = .ok (.lconst 0, 1) := by decide +kernel
theorem dX10_isWord_6 : decode cX10_isWord 6 = .ok (.lstore_n 3, 1) := by decide +kernel
theorem dX10_isWord_7 : decode cX10_isWord 7 = .ok (.iconst 0, 1) := by decide +kernel
theorem dX10_isWord_8 : decode cX10_isWord 8 = .ok (.istore 5, 2) := by decide +kernel
theorem dX10_isWord_10 : decode cX10_isWord 10 = .ok (.aload_n 0, 1) := by decide +kernel
theorem dX10_isWord_11 : decode cX10_isWord 11 = .ok (.aload_n 0, 1) := by decide +kernel
theorem dX10_isWord_12 : decode cX10_isWord 12 = .ok (.getfield 93, 3) := by decide +kernel
theorem dX10_isWord_15 : decode cX10_isWord 15 = .ok (.iload 5, 2) := by decide +kernel
theorem dX10_isWord_17 : decode cX10_isWord 17 = .ok (.iadd, 1) := by decide +kernel
theorem dX10_isWord_18 : decode cX10_isWord 18 = .ok (.invokevirtual 100, 3) := by decide +kernel
theorem dX10_isWord_21 : decode cX10_isWord 21 = .ok (.ifCond .eq 35, 3) := by decide +kernel
theorem dX10_isWord_24 : decode cX10_isWord 24 = .ok (.iload 5, 2) := by decide +kernel
theorem dX10_isWord_26 : decode cX10_isWord 26 = .ok (.bipush 8, 2) := by decide +kernel
theorem dX10_isWord_28 : decode cX10_isWord 28 = .ok (.if_icmp .ge 22, 3) := by decide +kernel
theorem dX10_isWord_31 : decode cX10_isWord 31 = .ok (.lload_n 3, 1) := by decide +kernel
theorem dX10_isWord_32 : decode cX10_isWord 32 = .ok (.bipush 8, 2) := by decide +kernel
theorem dX10_isWord_34 : decode cX10_isWord 34 = .ok (.lshl, 1) := by decide +kernel
theorem dX10_isWord_35 : decode cX10_isWord 35 = .ok (.aload_n 0, 1) := by decide +kernel
theorem dX10_isWord_36 : decode cX10_isWord 36 = .ok (.getfield 7, 3) := by decide +kernel
theorem dX10_isWord_39 : decode cX10_isWord 39 = .ok (.aload_n 0, 1) := by decide +kernel
theorem dX10_isWord_40 : decode cX10_isWord 40 = .ok (.getfield 93, 3) := by decide +kernel
theorem dX10_isWord_43 : decode cX10_isWord 43 = .ok (.iload 5, 2) := by decide +kernel
theorem dX10_isWord_45 : decode cX10_isWord 45 = .ok (.iadd, 1) := by decide +kernel
theorem dX10_isWord_46 : decode cX10_isWord 46 = .ok (.baload, 1) := by decide +kernel
theorem dX10_isWord_47 : decode cX10_isWord 47 = .ok (.i2l, 1) := by decide +kernel
theorem dX10_isWord_48 : decode cX10_isWord 48 = .ok (.lor, 1) := by decide +kernel
theorem dX10_isWord_49 : decode cX10_isWord 49 = .ok (.lstore_n 3, 1) := by decide +kernel
theorem dX10_isWord_50 : decode cX10_isWord 50 = .ok (.iinc 5 1, 3) := by decide +kernel
theorem dX10_isWord_53 : decode cX10_isWord 53 = .ok (.goto (-43), 3) := by decide +kernel
theorem dX10_isWord_56 : decode cX10_isWord 56 = .ok (.iload 5, 2) := by decide +kernel
theorem dX10_isWord_58 : decode cX10_isWord 58 = .ok (.ifCond .le 20, 3) := by decide +kernel
theorem dX10_isWord_61 : decode cX10_isWord 61 = .ok (.iload 5, 2) := by decide +kernel
theorem dX10_isWord_63 : decode cX10_isWord 63 = .ok (.bipush 8, 2) := by decide +kernel
theorem dX10_isWord_65 : decode cX10_isWord 65 = .ok (.if_icmp .ge 13, 3) := by decide +kernel
theorem dX10_isWord_68 : decode cX10_isWord 68 = .ok (.lload_n 3, 1) := by decide +kernel
theorem dX10_isWord_69 : decode cX10_isWord 69 = .ok (.lload_n 1, 1) := by decide +kernel
theorem dX10_isWord_70 : decode cX10_isWord 70 = .ok (.lcmp, 1) := by decide +kernel
theorem dX10_isWord_71 : decode cX10_isWord 71 = .ok (.ifCond .ne 7, 3) := by decide +kernel
theorem dX10_isWord_74 : decode cX10_isWord 74 = .ok (.iconst 1, 1) := by decide +kernel
theorem dX10_isWord_75 : decode cX10_isWord 75 = .ok (.goto 4, 3) := by decide +kernel
theorem dX10_isWord_78 : decode cX10_isWord 78 = .ok (.iconst 0, 1) := by decide +kernel
theorem dX10_isWord_79 : decode cX10_isWord 79 = .ok (.ireturn, 1) := by decide +kernel
theorem dX10_passWord_0 : decode cX10_passWord 0 = .ok (.aload_n 0, 1) := by decide +kernel
theorem dX10_passWord_1 : decode cX10_passWord 1 = .ok (.aload_n 0, 1) := by decide +kernel
theorem dX10_passWord_2 : decode cX10_passWord 2 = .ok (.getfield 93, 3) := by decide +kernel
theorem dX10_passWord_5 : decode cX10_passWord 5 = .ok (.invokevirtual 100, 3) := by decide +kernel
theorem dX10_passWord_8 : decode cX10_passWord 8 = .ok (.ifCond .eq 16, 3) := by decide +kernel
theorem dX10_passWord_11 : decode cX10_passWord 11 = .ok (.aload_n 0, 1) := by decide +kernel
theorem dX10_passWord_12 : decode cX10_passWord 12 = .ok (.dup, 1) := by decide +kernel
theorem dX10_passWord_13 : decode cX10_passWord 13 = .ok (.getfield 93, 3) := by decide +kernel
theorem dX10_passWord_16 : decode cX10_passWord 16 = .ok (.iconst 1, 1) := by decide +kernel
theorem dX10_passWord_17 : decode cX10_passWord 17 = .ok (.iadd, 1) := by decide +kernel
theorem dX10_passWord_18 : decode cX10_passWord 18 = .ok (.putfield 93, 3) := by decide +kernel
theorem dX10_passWord_21 : decode cX10_passWord 21 = .ok (.goto (-21), 3) := by decide +kernel
theorem dX10_passWord_24 : decode cX10_passWord 24 = .ok (.return_, 1) := by decide +kernel
theorem dX10_takesWord_0 : decode cX10_takesWord 0 = .ok (.aload_n 0, 1) := by decide +kernel
theorem dX10_takesWord_1 : decode cX10_takesWord 1 = .ok (.lload_n 1, 1) := by decide +kernel
theorem dX10_takesWord_2 : decode cX10_takesWord 2 = .ok (.invokevirtual 104, 3) := by decide +kernel
theorem dX10_takesWord_5 : decode cX10_takesWord 5 = .ok (.ifCond .ne 5, 3) := by decide +kernel
theorem dX10_takesWord_8 : decode cX10_takesWord 8 = .ok (.iconst 0, 1) := by decide +kernel
theorem dX10_takesWord_9 : decode cX10_takesWord 9 = .ok (.ireturn, 1) := by decide +kernel
theorem dX10_takesWord_10 : decode cX10_takesWord 10 = .ok (.aload_n 0, 1) := by decide +kernel
theorem dX10_takesWord_11 : decode cX10_takesWord 11 = .ok (.invokevirtual 108, 3) := by decide +kernel
theorem dX10_takesWord_14 : decode cX10_takesWord 14 = .ok (.iconst 1, 1) := by decide +kernel
theorem dX10_takesWord_15 : decode cX10_takesWord 15 = .ok (.ireturn, 1) := by decide +kernel
theorem dX10_numberHere_0 : decode cX10_numberHere 0 = .ok (.aload_n 0, 1) := by decide +kernel
theorem dX10_numberHere_1 : decode cX10_numberHere 1 = .ok (.invokevirtual 96, 3) := by decide +kernel
theorem dX10_numberHere_4 : decode cX10_numberHere 4 = .ok (.pop, 1) := by decide +kernel
theorem dX10_numberHere_5 : decode cX10_numberHere 5 = .ok (.aload_n 0, 1) := by decide +kernel
theorem dX10_numberHere_6 : decode cX10_numberHere 6 = .ok (.aload_n 0, 1) := by decide +kernel
theorem dX10_numberHere_7 : decode cX10_numberHere 7 = .ok (.getfield 93, 3) := by decide +kernel
theorem dX10_numberHere_10 : decode cX10_numberHere 10 = .ok (.invokevirtual 111, 3) := by decide +kernel
theorem dX10_numberHere_13 : decode cX10_numberHere 13 = .ok (.ifCond .ne 13, 3) := by decide +kernel
theorem dX10_numberHere_16 : decode cX10_numberHere 16 = .ok (.aload_n 0, 1) := by decide +kernel
theorem dX10_numberHere_17 : decode cX10_numberHere 17 = .ok (.iconst 0, 1) := by decide +kernel
theorem dX10_numberHere_18 : decode cX10_numberHere 18 = .ok (.aload_n 0, 1) := by decide +kernel
theorem dX10_numberHere_19 : decode cX10_numberHere 19 = .ok (.getfield 93, 3) := by decide +kernel
theorem dX10_numberHere_22 : decode cX10_numberHere 22 = .ok (.invokevirtual 114, 3) := by decide +kernel
theorem dX10_numberHere_25 : decode cX10_numberHere 25 = .ok (.ireturn, 1) := by decide +kernel
theorem dX10_numberHere_26 : decode cX10_numberHere 26 = .ok (.aload_n 0, 1) := by decide +kernel
theorem dX10_numberHere_27 : decode cX10_numberHere 27 = .ok (.getfield 93, 3) := by decide +kernel
theorem dX10_numberHere_30 : decode cX10_numberHere 30 = .ok (.istore_n 3, 1) := by decide +kernel
theorem dX10_numberHere_31 : decode cX10_numberHere 31 = .ok (.iconst 0, 1) := by decide +kernel
theorem dX10_numberHere_32 : decode cX10_numberHere 32 = .ok (.istore 4, 2) := by decide +kernel
theorem dX10_numberHere_34 : decode cX10_numberHere 34 = .ok (.aload_n 0, 1) := by decide +kernel
theorem dX10_numberHere_35 : decode cX10_numberHere 35 = .ok (.aload_n 0, 1) := by decide +kernel
theorem dX10_numberHere_36 : decode cX10_numberHere 36 = .ok (.getfield 93, 3) := by decide +kernel
theorem dX10_numberHere_39 : decode cX10_numberHere 39 = .ok (.invokevirtual 111, 3) := by decide +kernel
theorem dX10_numberHere_42 : decode cX10_numberHere 42 = .ok (.ifCond .eq 46, 3) := by decide +kernel
theorem dX10_numberHere_45 : decode cX10_numberHere 45 = .ok (.aload_n 0, 1) := by decide +kernel
theorem dX10_numberHere_46 : decode cX10_numberHere 46 = .ok (.getfield 93, 3) := by decide +kernel
theorem dX10_numberHere_49 : decode cX10_numberHere 49 = .ok (.iload_n 3, 1) := by decide +kernel
theorem dX10_numberHere_50 : decode cX10_numberHere 50 = .ok (.isub, 1) := by decide +kernel
theorem dX10_numberHere_51 : decode cX10_numberHere 51 = .ok (.iconst 5, 1) := by decide +kernel
theorem dX10_numberHere_52 : decode cX10_numberHere 52 = .ok (.if_icmp .ge 23, 3) := by decide +kernel
theorem dX10_numberHere_55 : decode cX10_numberHere 55 = .ok (.bipush 10, 2) := by decide +kernel
theorem dX10_numberHere_57 : decode cX10_numberHere 57 = .ok (.iload 4, 2) := by decide +kernel
theorem dX10_numberHere_59 : decode cX10_numberHere 59 = .ok (.imul, 1) := by decide +kernel
theorem dX10_numberHere_60 : decode cX10_numberHere 60 = .ok (.aload_n 0, 1) := by decide +kernel
theorem dX10_numberHere_61 : decode cX10_numberHere 61 = .ok (.getfield 7, 3) := by decide +kernel
theorem dX10_numberHere_64 : decode cX10_numberHere 64 = .ok (.aload_n 0, 1) := by decide +kernel
theorem dX10_numberHere_65 : decode cX10_numberHere 65 = .ok (.getfield 93, 3) := by decide +kernel
theorem dX10_numberHere_68 : decode cX10_numberHere 68 = .ok (.baload, 1) := by decide +kernel
theorem dX10_numberHere_69 : decode cX10_numberHere 69 = .ok (.iadd, 1) := by decide +kernel
theorem dX10_numberHere_70 : decode cX10_numberHere 70 = .ok (.bipush 48, 2) := by decide +kernel
theorem dX10_numberHere_72 : decode cX10_numberHere 72 = .ok (.isub, 1) := by decide +kernel
theorem dX10_numberHere_73 : decode cX10_numberHere 73 = .ok (.istore 4, 2) := by decide +kernel
theorem dX10_numberHere_75 : decode cX10_numberHere 75 = .ok (.aload_n 0, 1) := by decide +kernel
theorem dX10_numberHere_76 : decode cX10_numberHere 76 = .ok (.dup, 1) := by decide +kernel
theorem dX10_numberHere_77 : decode cX10_numberHere 77 = .ok (.getfield 93, 3) := by decide +kernel
theorem dX10_numberHere_80 : decode cX10_numberHere 80 = .ok (.iconst 1, 1) := by decide +kernel
theorem dX10_numberHere_81 : decode cX10_numberHere 81 = .ok (.iadd, 1) := by decide +kernel
theorem dX10_numberHere_82 : decode cX10_numberHere 82 = .ok (.putfield 93, 3) := by decide +kernel
theorem dX10_numberHere_85 : decode cX10_numberHere 85 = .ok (.goto (-51), 3) := by decide +kernel
theorem dX10_numberHere_88 : decode cX10_numberHere 88 = .ok (.aload_n 0, 1) := by decide +kernel
theorem dX10_numberHere_89 : decode cX10_numberHere 89 = .ok (.iload 4, 2) := by decide +kernel
theorem dX10_numberHere_91 : decode cX10_numberHere 91 = .ok (.putfield 118, 3) := by decide +kernel
theorem dX10_numberHere_94 : decode cX10_numberHere 94 = .ok (.aload_n 0, 1) := by decide +kernel
theorem dX10_numberHere_95 : decode cX10_numberHere 95 = .ok (.getfield 93, 3) := by decide +kernel
theorem dX10_numberHere_98 : decode cX10_numberHere 98 = .ok (.iload_n 3, 1) := by decide +kernel
theorem dX10_numberHere_99 : decode cX10_numberHere 99 = .ok (.isub, 1) := by decide +kernel
theorem dX10_numberHere_100 : decode cX10_numberHere 100 = .ok (.iconst 5, 1) := by decide +kernel
theorem dX10_numberHere_101 : decode cX10_numberHere 101 = .ok (.if_icmp .gt 16, 3) := by decide +kernel
theorem dX10_numberHere_104 : decode cX10_numberHere 104 = .ok (.iload 4, 2) := by decide +kernel
theorem dX10_numberHere_106 : decode cX10_numberHere 106 = .ok (.i2l, 1) := by decide +kernel
theorem dX10_numberHere_107 : decode cX10_numberHere 107 = .ok (.iload_n 1, 1) := by decide +kernel
theorem dX10_numberHere_108 : decode cX10_numberHere 108 = .ok (.i2l, 1) := by decide +kernel
theorem dX10_numberHere_109 : decode cX10_numberHere 109 = .ok (.iload_n 2, 1) := by decide +kernel
theorem dX10_numberHere_110 : decode cX10_numberHere 110 = .ok (.i2l, 1) := by decide +kernel
theorem dX10_numberHere_111 : decode cX10_numberHere 111 = .ok (.invokestatic 121, 3) := by decide +kernel
theorem dX10_numberHere_114 : decode cX10_numberHere 114 = .ok (.ifCond .ne 12, 3) := by decide +kernel
theorem dX10_numberHere_117 : decode cX10_numberHere 117 = .ok (.aload_n 0, 1) := by decide +kernel
theorem dX10_numberHere_118 : decode cX10_numberHere 118 = .ok (.iconst 1, 1) := by decide +kernel
theorem dX10_numberHere_119 : decode cX10_numberHere 119 = .ok (.iload_n 3, 1) := by decide +kernel
theorem dX10_numberHere_120 : decode cX10_numberHere 120 = .ok (.invokevirtual 114, 3) := by decide +kernel
theorem dX10_numberHere_123 : decode cX10_numberHere 123 = .ok (.ifCond .eq 7, 3) := by decide +kernel
theorem dX10_numberHere_126 : decode cX10_numberHere 126 = .ok (.iconst 1, 1) := by decide +kernel
theorem dX10_numberHere_127 : decode cX10_numberHere 127 = .ok (.goto 4, 3) := by decide +kernel
theorem dX10_numberHere_130 : decode cX10_numberHere 130 = .ok (.iconst 0, 1) := by decide +kernel
theorem dX10_numberHere_131 : decode cX10_numberHere 131 = .ok (.ireturn, 1) := by decide +kernel
theorem dX10_wordHere_0 : decode cX10_wordHere 0 = .ok (.aload_n 0, 1) := by decide +kernel
theorem dX10_wordHere_1 : decode cX10_wordHere 1 = .ok (.ldc2_w 125, 3) := by decide +kernel
theorem dX10_wordHere_4 : decode cX10_wordHere 4 = .ok (.invokevirtual 104, 3) := by decide +kernel
theorem dX10_wordHere_7 : decode cX10_wordHere 7 = .ok (.ifCond .eq 5, 3) := by decide +kernel
theorem dX10_wordHere_10 : decode cX10_wordHere 10 = .ok (.iconst 0, 1) := by decide +kernel
theorem dX10_wordHere_11 : decode cX10_wordHere 11 = .ok (.ireturn, 1) := by decide +kernel
theorem dX10_wordHere_12 : decode cX10_wordHere 12 = .ok (.aload_n 0, 1) := by decide +kernel
theorem dX10_wordHere_13 : decode cX10_wordHere 13 = .ok (.ldc2_w 127, 3) := by decide +kernel
theorem dX10_wordHere_16 : decode cX10_wordHere 16 = .ok (.invokevirtual 104, 3) := by decide +kernel
theorem dX10_wordHere_19 : decode cX10_wordHere 19 = .ok (.ifCond .eq 5, 3) := by decide +kernel
theorem dX10_wordHere_22 : decode cX10_wordHere 22 = .ok (.iconst 1, 1) := by decide +kernel
theorem dX10_wordHere_23 : decode cX10_wordHere 23 = .ok (.ireturn, 1) := by decide +kernel
theorem dX10_wordHere_24 : decode cX10_wordHere 24 = .ok (.aload_n 0, 1) := by decide +kernel
theorem dX10_wordHere_25 : decode cX10_wordHere 25 = .ok (.ldc2_w 129, 3) := by decide +kernel
theorem dX10_wordHere_28 : decode cX10_wordHere 28 = .ok (.invokevirtual 104, 3) := by decide +kernel
theorem dX10_wordHere_31 : decode cX10_wordHere 31 = .ok (.ifCond .eq 5, 3) := by decide +kernel
theorem dX10_wordHere_34 : decode cX10_wordHere 34 = .ok (.iconst 2, 1) := by decide +kernel
theorem dX10_wordHere_35 : decode cX10_wordHere 35 = .ok (.ireturn, 1) := by decide +kernel
theorem dX10_wordHere_36 : decode cX10_wordHere 36 = .ok (.aload_n 0, 1) := by decide +kernel
theorem dX10_wordHere_37 : decode cX10_wordHere 37 = .ok (.ldc2_w 131, 3) := by decide +kernel
theorem dX10_wordHere_40 : decode cX10_wordHere 40 = .ok (.invokevirtual 104, 3) := by decide +kernel
theorem dX10_wordHere_43 : decode cX10_wordHere 43 = .ok (.ifCond .eq 5, 3) := by decide +kernel
theorem dX10_wordHere_46 : decode cX10_wordHere 46 = .ok (.iconst 3, 1) := by decide +kernel
theorem dX10_wordHere_47 : decode cX10_wordHere 47 = .ok (.ireturn, 1) := by decide +kernel
theorem dX10_wordHere_48 : decode cX10_wordHere 48 = .ok (.aload_n 0, 1) := by decide +kernel
theorem dX10_wordHere_49 : decode cX10_wordHere 49 = .ok (.ldc2_w 133, 3) := by decide +kernel
theorem dX10_wordHere_52 : decode cX10_wordHere 52 = .ok (.invokevirtual 104, 3) := by decide +kernel
theorem dX10_wordHere_55 : decode cX10_wordHere 55 = .ok (.ifCond .eq 5, 3) := by decide +kernel
theorem dX10_wordHere_58 : decode cX10_wordHere 58 = .ok (.iconst 4, 1) := by decide +kernel
theorem dX10_wordHere_59 : decode cX10_wordHere 59 = .ok (.ireturn, 1) := by decide +kernel
theorem dX10_wordHere_60 : decode cX10_wordHere 60 = .ok (.aload_n 0, 1) := by decide +kernel
theorem dX10_wordHere_61 : decode cX10_wordHere 61 = .ok (.ldc2_w 135, 3) := by decide +kernel
theorem dX10_wordHere_64 : decode cX10_wordHere 64 = .ok (.invokevirtual 104, 3) := by decide +kernel
theorem dX10_wordHere_67 : decode cX10_wordHere 67 = .ok (.ifCond .eq 5, 3) := by decide +kernel
theorem dX10_wordHere_70 : decode cX10_wordHere 70 = .ok (.iconst 5, 1) := by decide +kernel
theorem dX10_wordHere_71 : decode cX10_wordHere 71 = .ok (.ireturn, 1) := by decide +kernel
theorem dX10_wordHere_72 : decode cX10_wordHere 72 = .ok (.aload_n 0, 1) := by decide +kernel
theorem dX10_wordHere_73 : decode cX10_wordHere 73 = .ok (.ldc2_w 137, 3) := by decide +kernel
theorem dX10_wordHere_76 : decode cX10_wordHere 76 = .ok (.invokevirtual 104, 3) := by decide +kernel
theorem dX10_wordHere_79 : decode cX10_wordHere 79 = .ok (.ifCond .eq 6, 3) := by decide +kernel
theorem dX10_wordHere_82 : decode cX10_wordHere 82 = .ok (.bipush 6, 2) := by decide +kernel
theorem dX10_wordHere_84 : decode cX10_wordHere 84 = .ok (.ireturn, 1) := by decide +kernel
theorem dX10_wordHere_85 : decode cX10_wordHere 85 = .ok (.aload_n 0, 1) := by decide +kernel
theorem dX10_wordHere_86 : decode cX10_wordHere 86 = .ok (.ldc2_w 139, 3) := by decide +kernel
theorem dX10_wordHere_89 : decode cX10_wordHere 89 = .ok (.invokevirtual 104, 3) := by decide +kernel
theorem dX10_wordHere_92 : decode cX10_wordHere 92 = .ok (.ifCond .eq 6, 3) := by decide +kernel
theorem dX10_wordHere_95 : decode cX10_wordHere 95 = .ok (.bipush 7, 2) := by decide +kernel
theorem dX10_wordHere_97 : decode cX10_wordHere 97 = .ok (.ireturn, 1) := by decide +kernel
theorem dX10_wordHere_98 : decode cX10_wordHere 98 = .ok (.aload_n 0, 1) := by decide +kernel
theorem dX10_wordHere_99 : decode cX10_wordHere 99 = .ok (.ldc2_w 141, 3) := by decide +kernel
theorem dX10_wordHere_102 : decode cX10_wordHere 102 = .ok (.invokevirtual 104, 3) := by decide +kernel
theorem dX10_wordHere_105 : decode cX10_wordHere 105 = .ok (.ifCond .eq 8, 3) := by decide +kernel
theorem dX10_wordHere_108 : decode cX10_wordHere 108 = .ok (.bipush 8, 2) := by decide +kernel
theorem dX10_wordHere_110 : decode cX10_wordHere 110 = .ok (.goto 19, 3) := by decide +kernel
theorem dX10_wordHere_113 : decode cX10_wordHere 113 = .ok (.aload_n 0, 1) := by decide +kernel
theorem dX10_wordHere_114 : decode cX10_wordHere 114 = .ok (.ldc2_w 143, 3) := by decide +kernel
theorem dX10_wordHere_117 : decode cX10_wordHere 117 = .ok (.invokevirtual 104, 3) := by decide +kernel
theorem dX10_wordHere_120 : decode cX10_wordHere 120 = .ok (.ifCond .eq 8, 3) := by decide +kernel
theorem dX10_wordHere_123 : decode cX10_wordHere 123 = .ok (.bipush 9, 2) := by decide +kernel
theorem dX10_wordHere_125 : decode cX10_wordHere 125 = .ok (.goto 4, 3) := by decide +kernel
theorem dX10_wordHere_128 : decode cX10_wordHere 128 = .ok (.iconst (-1), 1) := by decide +kernel
theorem dX10_wordHere_129 : decode cX10_wordHere 129 = .ok (.ireturn, 1) := by decide +kernel
theorem dX10_puts_0 : decode cX10_puts 0 = .ok (.aload_n 0, 1) := by decide +kernel
theorem dX10_puts_1 : decode cX10_puts 1 = .ok (.getfield 13, 3) := by decide +kernel
theorem dX10_puts_4 : decode cX10_puts 4 = .ok (.sipush 400, 3) := by decide +kernel
theorem dX10_puts_7 : decode cX10_puts 7 = .ok (.aload_n 0, 1) := by decide +kernel
theorem dX10_puts_8 : decode cX10_puts 8 = .ok (.getfield 145, 3) := by decide +kernel
theorem dX10_puts_11 : decode cX10_puts 11 = .ok (.imul, 1) := by decide +kernel
theorem dX10_puts_12 : decode cX10_puts 12 = .ok (.aload_n 0, 1) := by decide +kernel
theorem dX10_puts_13 : decode cX10_puts 13 = .ok (.getfield 17, 3) := by decide +kernel
theorem dX10_puts_16 : decode cX10_puts 16 = .ok (.aload_n 0, 1) := by decide +kernel
theorem dX10_puts_17 : decode cX10_puts 17 = .ok (.getfield 145, 3) := by decide +kernel
theorem dX10_puts_20 : decode cX10_puts 20 = .ok (.iaload, 1) := by decide +kernel
theorem dX10_puts_21 : decode cX10_puts 21 = .ok (.iadd, 1) := by decide +kernel
theorem dX10_puts_22 : decode cX10_puts 22 = .ok (.iload_n 1, 1) := by decide +kernel
theorem dX10_puts_23 : decode cX10_puts 23 = .ok (.bipush 16, 2) := by decide +kernel
theorem dX10_puts_25 : decode cX10_puts 25 = .ok (.iload_n 2, 1) := by decide +kernel
theorem dX10_puts_26 : decode cX10_puts 26 = .ok (.imul, 1) := by decide +kernel
theorem dX10_puts_27 : decode cX10_puts 27 = .ok (.iadd, 1) := by decide +kernel
theorem dX10_puts_28 : decode cX10_puts 28 = .ok (.iastore, 1) := by decide +kernel
theorem dX10_puts_29 : decode cX10_puts 29 = .ok (.aload_n 0, 1) := by decide +kernel
theorem dX10_puts_30 : decode cX10_puts 30 = .ok (.getfield 17, 3) := by decide +kernel
theorem dX10_puts_33 : decode cX10_puts 33 = .ok (.aload_n 0, 1) := by decide +kernel
theorem dX10_puts_34 : decode cX10_puts 34 = .ok (.getfield 145, 3) := by decide +kernel
theorem dX10_puts_37 : decode cX10_puts 37 = .ok (.dup2, 1) := by decide +kernel
theorem dX10_puts_38 : decode cX10_puts 38 = .ok (.iaload, 1) := by decide +kernel
theorem dX10_puts_39 : decode cX10_puts 39 = .ok (.iconst 1, 1) := by decide +kernel
theorem dX10_puts_40 : decode cX10_puts 40 = .ok (.iadd, 1) := by decide +kernel
theorem dX10_puts_41 : decode cX10_puts 41 = .ok (.iastore, 1) := by decide +kernel
theorem dX10_puts_42 : decode cX10_puts 42 = .ok (.return_, 1) := by decide +kernel
theorem dX10_makes_0 : decode cX10_makes 0 = .ok (.aload_n 0, 1) := by decide +kernel
theorem dX10_makes_1 : decode cX10_makes 1 = .ok (.getfield 148, 3) := by decide +kernel
theorem dX10_makes_4 : decode cX10_makes 4 = .ok (.bipush 60, 2) := by decide +kernel
theorem dX10_makes_6 : decode cX10_makes 6 = .ok (.if_icmp .ne 10, 3) := by decide +kernel
theorem dX10_makes_9 : decode cX10_makes 9 = .ok (.aload_n 0, 1) := by decide +kernel
theorem dX10_makes_10 : decode cX10_makes 10 = .ok (.iconst 3, 1) := by decide +kernel
theorem dX10_makes_11 : decode cX10_makes 11 = .ok (.iload_n 1, 1) := by decide +kernel
theorem dX10_makes_12 : decode cX10_makes 12 = .ok (.invokevirtual 114, 3) := by decide +kernel
theorem dX10_makes_15 : decode cX10_makes 15 = .ok (.ireturn, 1) := by decide +kernel
theorem dX10_makes_16 : decode cX10_makes 16 = .ok (.aload_n 0, 1) := by decide +kernel
theorem dX10_makes_17 : decode cX10_makes 17 = .ok (.dup, 1) := by decide +kernel
theorem dX10_makes_18 : decode cX10_makes 18 = .ok (.getfield 148, 3) := by decide +kernel
theorem dX10_makes_21 : decode cX10_makes 21 = .ok (.iconst 1, 1) := by decide +kernel
theorem dX10_makes_22 : decode cX10_makes 22 = .ok (.iadd, 1) := by decide +kernel
theorem dX10_makes_23 : decode cX10_makes 23 = .ok (.putfield 148, 3) := by decide +kernel
theorem dX10_makes_26 : decode cX10_makes 26 = .ok (.iconst 1, 1) := by decide +kernel
theorem dX10_makes_27 : decode cX10_makes 27 = .ok (.ireturn, 1) := by decide +kernel
theorem dX10_opens_0 : decode cX10_opens 0 = .ok (.aload_n 0, 1) := by decide +kernel
theorem dX10_opens_1 : decode cX10_opens 1 = .ok (.getfield 151, 3) := by decide +kernel
theorem dX10_opens_4 : decode cX10_opens 4 = .ok (.bipush 10, 2) := by decide +kernel
theorem dX10_opens_6 : decode cX10_opens 6 = .ok (.if_icmp .ne 13, 3) := by decide +kernel
theorem dX10_opens_9 : decode cX10_opens 9 = .ok (.aload_n 0, 1) := by decide +kernel
theorem dX10_opens_10 : decode cX10_opens 10 = .ok (.iconst 2, 1) := by decide +kernel
theorem dX10_opens_11 : decode cX10_opens 11 = .ok (.aload_n 0, 1) := by decide +kernel
theorem dX10_opens_12 : decode cX10_opens 12 = .ok (.getfield 93, 3) := by decide +kernel
theorem dX10_opens_15 : decode cX10_opens 15 = .ok (.invokevirtual 114, 3) := by decide +kernel
theorem dX10_opens_18 : decode cX10_opens 18 = .ok (.ireturn, 1) := by decide +kernel
theorem dX10_opens_19 : decode cX10_opens 19 = .ok (.aload_n 0, 1) := by decide +kernel
theorem dX10_opens_20 : decode cX10_opens 20 = .ok (.dup, 1) := by decide +kernel
theorem dX10_opens_21 : decode cX10_opens 21 = .ok (.getfield 151, 3) := by decide +kernel
theorem dX10_opens_24 : decode cX10_opens 24 = .ok (.iconst 1, 1) := by decide +kernel
theorem dX10_opens_25 : decode cX10_opens 25 = .ok (.iadd, 1) := by decide +kernel
theorem dX10_opens_26 : decode cX10_opens 26 = .ok (.putfield 151, 3) := by decide +kernel
theorem dX10_opens_29 : decode cX10_opens 29 = .ok (.aload_n 0, 1) := by decide +kernel
theorem dX10_opens_30 : decode cX10_opens 30 = .ok (.getfield 29, 3) := by decide +kernel
theorem dX10_opens_33 : decode cX10_opens 33 = .ok (.aload_n 0, 1) := by decide +kernel
theorem dX10_opens_34 : decode cX10_opens 34 = .ok (.getfield 154, 3) := by decide +kernel
theorem dX10_opens_37 : decode cX10_opens 37 = .ok (.iload_n 1, 1) := by decide +kernel
theorem dX10_opens_38 : decode cX10_opens 38 = .ok (.iastore, 1) := by decide +kernel
theorem dX10_opens_39 : decode cX10_opens 39 = .ok (.aload_n 0, 1) := by decide +kernel
theorem dX10_opens_40 : decode cX10_opens 40 = .ok (.dup, 1) := by decide +kernel
theorem dX10_opens_41 : decode cX10_opens 41 = .ok (.getfield 154, 3) := by decide +kernel
theorem dX10_opens_44 : decode cX10_opens 44 = .ok (.iconst 1, 1) := by decide +kernel
theorem dX10_opens_45 : decode cX10_opens 45 = .ok (.iadd, 1) := by decide +kernel
theorem dX10_opens_46 : decode cX10_opens 46 = .ok (.putfield 154, 3) := by decide +kernel
theorem dX10_opens_49 : decode cX10_opens 49 = .ok (.iconst 1, 1) := by decide +kernel
theorem dX10_opens_50 : decode cX10_opens 50 = .ok (.ireturn, 1) := by decide +kernel
theorem dX10_strength_0 : decode cX10_strength 0 = .ok (.iload_n 0, 1) := by decide +kernel
theorem dX10_strength_1 : decode cX10_strength 1 = .ok (.bipush 13, 2) := by decide +kernel
theorem dX10_strength_3 : decode cX10_strength 3 = .ok (.if_icmp .ne 7, 3) := by decide +kernel
theorem dX10_strength_6 : decode cX10_strength 6 = .ok (.iconst 1, 1) := by decide +kernel
theorem dX10_strength_7 : decode cX10_strength 7 = .ok (.goto 24, 3) := by decide +kernel
theorem dX10_strength_10 : decode cX10_strength 10 = .ok (.iload_n 0, 1) := by decide +kernel
theorem dX10_strength_11 : decode cX10_strength 11 = .ok (.bipush 12, 2) := by decide +kernel
theorem dX10_strength_13 : decode cX10_strength 13 = .ok (.if_icmp .ne 7, 3) := by decide +kernel
theorem dX10_strength_16 : decode cX10_strength 16 = .ok (.iconst 2, 1) := by decide +kernel
theorem dX10_strength_17 : decode cX10_strength 17 = .ok (.goto 14, 3) := by decide +kernel
theorem dX10_strength_20 : decode cX10_strength 20 = .ok (.iload_n 0, 1) := by decide +kernel
theorem dX10_strength_21 : decode cX10_strength 21 = .ok (.bipush 11, 2) := by decide +kernel
theorem dX10_strength_23 : decode cX10_strength 23 = .ok (.if_icmp .ne 7, 3) := by decide +kernel
theorem dX10_strength_26 : decode cX10_strength 26 = .ok (.iconst 3, 1) := by decide +kernel
theorem dX10_strength_27 : decode cX10_strength 27 = .ok (.goto 4, 3) := by decide +kernel
theorem dX10_strength_30 : decode cX10_strength 30 = .ok (.iconst 0, 1) := by decide +kernel
theorem dX10_strength_31 : decode cX10_strength 31 = .ok (.ireturn, 1) := by decide +kernel
theorem dX10_layDown_0 : decode cX10_layDown 0 = .ok (.aload_n 0, 1) := by decide +kernel
theorem dX10_layDown_1 : decode cX10_layDown 1 = .ok (.getfield 154, 3) := by decide +kernel
theorem dX10_layDown_4 : decode cX10_layDown 4 = .ok (.ifCond .le 72, 3) := by decide +kernel
theorem dX10_layDown_7 : decode cX10_layDown 7 = .ok (.aload_n 0, 1) := by decide +kernel
theorem dX10_layDown_8 : decode cX10_layDown 8 = .ok (.getfield 29, 3) := by decide +kernel
theorem dX10_layDown_11 : decode cX10_layDown 11 = .ok (.aload_n 0, 1) := by decide +kernel
theorem dX10_layDown_12 : decode cX10_layDown 12 = .ok (.getfield 154, 3) := by decide +kernel
theorem dX10_layDown_15 : decode cX10_layDown 15 = .ok (.iconst 1, 1) := by decide +kernel
theorem dX10_layDown_16 : decode cX10_layDown 16 = .ok (.isub, 1) := by decide +kernel
theorem dX10_layDown_17 : decode cX10_layDown 17 = .ok (.iaload, 1) := by decide +kernel
theorem dX10_layDown_18 : decode cX10_layDown 18 = .ok (.invokestatic 157, 3) := by decide +kernel
theorem dX10_layDown_21 : decode cX10_layDown 21 = .ok (.iload_n 1, 1) := by decide +kernel
theorem dX10_layDown_22 : decode cX10_layDown 22 = .ok (.if_icmp .lt 54, 3) := by decide +kernel
theorem dX10_layDown_25 : decode cX10_layDown 25 = .ok (.aload_n 0, 1) := by decide +kernel
theorem dX10_layDown_26 : decode cX10_layDown 26 = .ok (.dup, 1) := by decide +kernel
theorem dX10_layDown_27 : decode cX10_layDown 27 = .ok (.getfield 154, 3) := by decide +kernel
theorem dX10_layDown_30 : decode cX10_layDown 30 = .ok (.iconst 1, 1) := by decide +kernel
theorem dX10_layDown_31 : decode cX10_layDown 31 = .ok (.isub, 1) := by decide +kernel
theorem dX10_layDown_32 : decode cX10_layDown 32 = .ok (.putfield 154, 3) := by decide +kernel
theorem dX10_layDown_35 : decode cX10_layDown 35 = .ok (.aload_n 0, 1) := by decide +kernel
theorem dX10_layDown_36 : decode cX10_layDown 36 = .ok (.aload_n 0, 1) := by decide +kernel
theorem dX10_layDown_37 : decode cX10_layDown 37 = .ok (.getfield 29, 3) := by decide +kernel
theorem dX10_layDown_40 : decode cX10_layDown 40 = .ok (.aload_n 0, 1) := by decide +kernel
theorem dX10_layDown_41 : decode cX10_layDown 41 = .ok (.getfield 154, 3) := by decide +kernel
theorem dX10_layDown_44 : decode cX10_layDown 44 = .ok (.iaload, 1) := by decide +kernel
theorem dX10_layDown_45 : decode cX10_layDown 45 = .ok (.iconst 0, 1) := by decide +kernel
theorem dX10_layDown_46 : decode cX10_layDown 46 = .ok (.invokevirtual 161, 3) := by decide +kernel
theorem dX10_layDown_49 : decode cX10_layDown 49 = .ok (.aload_n 0, 1) := by decide +kernel
theorem dX10_layDown_50 : decode cX10_layDown 50 = .ok (.getfield 29, 3) := by decide +kernel
theorem dX10_layDown_53 : decode cX10_layDown 53 = .ok (.aload_n 0, 1) := by decide +kernel
theorem dX10_layDown_54 : decode cX10_layDown 54 = .ok (.getfield 154, 3) := by decide +kernel
theorem dX10_layDown_57 : decode cX10_layDown 57 = .ok (.iaload, 1) := by decide +kernel
theorem dX10_layDown_58 : decode cX10_layDown 58 = .ok (.bipush 11, 2) := by decide +kernel
theorem dX10_layDown_60 : decode cX10_layDown 60 = .ok (.if_icmp .ne (-60), 3) := by decide +kernel
theorem dX10_layDown_63 : decode cX10_layDown 63 = .ok (.aload_n 0, 1) := by decide +kernel
theorem dX10_layDown_64 : decode cX10_layDown 64 = .ok (.dup, 1) := by decide +kernel
theorem dX10_layDown_65 : decode cX10_layDown 65 = .ok (.getfield 151, 3) := by decide +kernel
theorem dX10_layDown_68 : decode cX10_layDown 68 = .ok (.iconst 1, 1) := by decide +kernel
theorem dX10_layDown_69 : decode cX10_layDown 69 = .ok (.isub, 1) := by decide +kernel
theorem dX10_layDown_70 : decode cX10_layDown 70 = .ok (.putfield 151, 3) := by decide +kernel
theorem dX10_layDown_73 : decode cX10_layDown 73 = .ok (.goto (-73), 3) := by decide +kernel
theorem dX10_layDown_76 : decode cX10_layDown 76 = .ok (.return_, 1) := by decide +kernel
theorem dX10_value_0 : decode cX10_value 0 = .ok (.aload_n 0, 1) := by decide +kernel
theorem dX10_value_1 : decode cX10_value 1 = .ok (.invokevirtual 96, 3) := by decide +kernel
theorem dX10_value_4 : decode cX10_value 4 = .ok (.pop, 1) := by decide +kernel
theorem dX10_value_5 : decode cX10_value 5 = .ok (.aload_n 0, 1) := by decide +kernel
theorem dX10_value_6 : decode cX10_value 6 = .ok (.getfield 93, 3) := by decide +kernel
theorem dX10_value_9 : decode cX10_value 9 = .ok (.istore_n 1, 1) := by decide +kernel
theorem dX10_value_10 : decode cX10_value 10 = .ok (.aload_n 0, 1) := by decide +kernel
theorem dX10_value_11 : decode cX10_value 11 = .ok (.aload_n 0, 1) := by decide +kernel
theorem dX10_value_12 : decode cX10_value 12 = .ok (.getfield 93, 3) := by decide +kernel
theorem dX10_value_15 : decode cX10_value 15 = .ok (.invokevirtual 111, 3) := by decide +kernel
theorem dX10_value_18 : decode cX10_value 18 = .ok (.ifCond .eq 34, 3) := by decide +kernel
theorem dX10_value_21 : decode cX10_value 21 = .ok (.aload_n 0, 1) := by decide +kernel
theorem dX10_value_22 : decode cX10_value 22 = .ok (.iconst 0, 1) := by decide +kernel
theorem dX10_value_23 : decode cX10_value 23 = .ok (.ldc 165, 2) := by decide +kernel
theorem dX10_value_25 : decode cX10_value 25 = .ok (.invokevirtual 166, 3) := by decide +kernel
theorem dX10_value_28 : decode cX10_value 28 = .ok (.ifCond .eq 11, 3) := by decide +kernel
theorem dX10_value_31 : decode cX10_value 31 = .ok (.aload_n 0, 1) := by decide +kernel
theorem dX10_value_32 : decode cX10_value 32 = .ok (.iload_n 1, 1) := by decide +kernel
theorem dX10_value_33 : decode cX10_value 33 = .ok (.invokevirtual 169, 3) := by decide +kernel
theorem dX10_value_36 : decode cX10_value 36 = .ok (.ifCond .ne 5, 3) := by decide +kernel
theorem dX10_value_39 : decode cX10_value 39 = .ok (.iconst 0, 1) := by decide +kernel
theorem dX10_value_40 : decode cX10_value 40 = .ok (.ireturn, 1) := by decide +kernel
theorem dX10_value_41 : decode cX10_value 41 = .ok (.aload_n 0, 1) := by decide +kernel
theorem dX10_value_42 : decode cX10_value 42 = .ok (.iconst 0, 1) := by decide +kernel
theorem dX10_value_43 : decode cX10_value 43 = .ok (.aload_n 0, 1) := by decide +kernel
theorem dX10_value_44 : decode cX10_value 44 = .ok (.getfield 118, 3) := by decide +kernel
theorem dX10_value_47 : decode cX10_value 47 = .ok (.invokevirtual 161, 3) := by decide +kernel
theorem dX10_value_50 : decode cX10_value 50 = .ok (.iconst 1, 1) := by decide +kernel
theorem dX10_value_51 : decode cX10_value 51 = .ok (.ireturn, 1) := by decide +kernel
theorem dX10_value_52 : decode cX10_value 52 = .ok (.aload_n 0, 1) := by decide +kernel
theorem dX10_value_53 : decode cX10_value 53 = .ok (.invokevirtual 172, 3) := by decide +kernel
theorem dX10_value_56 : decode cX10_value 56 = .ok (.istore_n 2, 1) := by decide +kernel
theorem dX10_value_57 : decode cX10_value 57 = .ok (.iload_n 2, 1) := by decide +kernel
theorem dX10_value_58 : decode cX10_value 58 = .ok (.ifCond .ge 10, 3) := by decide +kernel
theorem dX10_value_61 : decode cX10_value 61 = .ok (.aload_n 0, 1) := by decide +kernel
theorem dX10_value_62 : decode cX10_value 62 = .ok (.iconst 0, 1) := by decide +kernel
theorem dX10_value_63 : decode cX10_value 63 = .ok (.iload_n 1, 1) := by decide +kernel
theorem dX10_value_64 : decode cX10_value 64 = .ok (.invokevirtual 114, 3) := by decide +kernel
theorem dX10_value_67 : decode cX10_value 67 = .ok (.ireturn, 1) := by decide +kernel
theorem dX10_value_68 : decode cX10_value 68 = .ok (.aload_n 0, 1) := by decide +kernel
theorem dX10_value_69 : decode cX10_value 69 = .ok (.iload_n 1, 1) := by decide +kernel
theorem dX10_value_70 : decode cX10_value 70 = .ok (.invokevirtual 169, 3) := by decide +kernel
theorem dX10_value_73 : decode cX10_value 73 = .ok (.ifCond .ne 5, 3) := by decide +kernel
theorem dX10_value_76 : decode cX10_value 76 = .ok (.iconst 0, 1) := by decide +kernel
theorem dX10_value_77 : decode cX10_value 77 = .ok (.ireturn, 1) := by decide +kernel
theorem dX10_value_78 : decode cX10_value 78 = .ok (.aload_n 0, 1) := by decide +kernel
theorem dX10_value_79 : decode cX10_value 79 = .ok (.invokevirtual 108, 3) := by decide +kernel
theorem dX10_value_82 : decode cX10_value 82 = .ok (.aload_n 0, 1) := by decide +kernel
theorem dX10_value_83 : decode cX10_value 83 = .ok (.iconst 1, 1) := by decide +kernel
theorem dX10_value_84 : decode cX10_value 84 = .ok (.iload_n 2, 1) := by decide +kernel
theorem dX10_value_85 : decode cX10_value 85 = .ok (.invokevirtual 161, 3) := by decide +kernel
theorem dX10_value_88 : decode cX10_value 88 = .ok (.iconst 1, 1) := by decide +kernel
theorem dX10_value_89 : decode cX10_value 89 = .ok (.ireturn, 1) := by decide +kernel
theorem dX10_term_0 : decode cX10_term 0 = .ok (.aload_n 0, 1) := by decide +kernel
theorem dX10_term_1 : decode cX10_term 1 = .ok (.invokevirtual 175, 3) := by decide +kernel
theorem dX10_term_4 : decode cX10_term 4 = .ok (.ifCond .ne 5, 3) := by decide +kernel
theorem dX10_term_7 : decode cX10_term 7 = .ok (.iconst 0, 1) := by decide +kernel
theorem dX10_term_8 : decode cX10_term 8 = .ok (.ireturn, 1) := by decide +kernel
theorem dX10_term_9 : decode cX10_term 9 = .ok (.aload_n 0, 1) := by decide +kernel
theorem dX10_term_10 : decode cX10_term 10 = .ok (.invokevirtual 96, 3) := by decide +kernel
theorem dX10_term_13 : decode cX10_term 13 = .ok (.bipush 42, 2) := by decide +kernel
theorem dX10_term_15 : decode cX10_term 15 = .ok (.if_icmp .eq 21, 3) := by decide +kernel
theorem dX10_term_18 : decode cX10_term 18 = .ok (.aload_n 0, 1) := by decide +kernel
theorem dX10_term_19 : decode cX10_term 19 = .ok (.invokevirtual 96, 3) := by decide +kernel
theorem dX10_term_22 : decode cX10_term 22 = .ok (.bipush 47, 2) := by decide +kernel
theorem dX10_term_24 : decode cX10_term 24 = .ok (.if_icmp .eq 12, 3) := by decide +kernel
theorem dX10_term_27 : decode cX10_term 27 = .ok (.aload_n 0, 1) := by decide +kernel
theorem dX10_term_28 : decode cX10_term 28 = .ok (.invokevirtual 96, 3) := by decide +kernel
theorem dX10_term_31 : decode cX10_term 31 = .ok (.bipush 37, 2) := by decide +kernel
theorem dX10_term_33 : decode cX10_term 33 = .ok (.if_icmp .ne 70, 3) := by decide +kernel
theorem dX10_term_36 : decode cX10_term 36 = .ok (.aload_n 0, 1) := by decide +kernel
theorem dX10_term_37 : decode cX10_term 37 = .ok (.getfield 7, 3) := by decide +kernel
theorem dX10_term_40 : decode cX10_term 40 = .ok (.aload_n 0, 1) := by decide +kernel
theorem dX10_term_41 : decode cX10_term 41 = .ok (.getfield 93, 3) := by decide +kernel
theorem dX10_term_44 : decode cX10_term 44 = .ok (.baload, 1) := by decide +kernel
theorem dX10_term_45 : decode cX10_term 45 = .ok (.bipush 42, 2) := by decide +kernel
theorem dX10_term_47 : decode cX10_term 47 = .ok (.if_icmp .ne 7, 3) := by decide +kernel
theorem dX10_term_50 : decode cX10_term 50 = .ok (.iconst 4, 1) := by decide +kernel
theorem dX10_term_51 : decode cX10_term 51 = .ok (.goto 23, 3) := by decide +kernel
theorem dX10_term_54 : decode cX10_term 54 = .ok (.aload_n 0, 1) := by decide +kernel
theorem dX10_term_55 : decode cX10_term 55 = .ok (.getfield 7, 3) := by decide +kernel
theorem dX10_term_58 : decode cX10_term 58 = .ok (.aload_n 0, 1) := by decide +kernel
theorem dX10_term_59 : decode cX10_term 59 = .ok (.getfield 93, 3) := by decide +kernel
theorem dX10_term_62 : decode cX10_term 62 = .ok (.baload, 1) := by decide +kernel
theorem dX10_term_63 : decode cX10_term 63 = .ok (.bipush 47, 2) := by decide +kernel
theorem dX10_term_65 : decode cX10_term 65 = .ok (.if_icmp .ne 7, 3) := by decide +kernel
theorem dX10_term_68 : decode cX10_term 68 = .ok (.iconst 5, 1) := by decide +kernel
theorem dX10_term_69 : decode cX10_term 69 = .ok (.goto 5, 3) := by decide +kernel
theorem dX10_term_72 : decode cX10_term 72 = .ok (.bipush 14, 2) := by decide +kernel
theorem dX10_term_74 : decode cX10_term 74 = .ok (.istore_n 1, 1) := by decide +kernel
theorem dX10_term_75 : decode cX10_term 75 = .ok (.aload_n 0, 1) := by decide +kernel
theorem dX10_term_76 : decode cX10_term 76 = .ok (.dup, 1) := by decide +kernel
theorem dX10_term_77 : decode cX10_term 77 = .ok (.getfield 93, 3) := by decide +kernel
theorem dX10_term_80 : decode cX10_term 80 = .ok (.iconst 1, 1) := by decide +kernel
theorem dX10_term_81 : decode cX10_term 81 = .ok (.iadd, 1) := by decide +kernel
theorem dX10_term_82 : decode cX10_term 82 = .ok (.putfield 93, 3) := by decide +kernel
theorem dX10_term_85 : decode cX10_term 85 = .ok (.aload_n 0, 1) := by decide +kernel
theorem dX10_term_86 : decode cX10_term 86 = .ok (.invokevirtual 175, 3) := by decide +kernel
theorem dX10_term_89 : decode cX10_term 89 = .ok (.ifCond .ne 5, 3) := by decide +kernel
theorem dX10_term_92 : decode cX10_term 92 = .ok (.iconst 0, 1) := by decide +kernel
theorem dX10_term_93 : decode cX10_term 93 = .ok (.ireturn, 1) := by decide +kernel
theorem dX10_term_94 : decode cX10_term 94 = .ok (.aload_n 0, 1) := by decide +kernel
theorem dX10_term_95 : decode cX10_term 95 = .ok (.iload_n 1, 1) := by decide +kernel
theorem dX10_term_96 : decode cX10_term 96 = .ok (.iconst 0, 1) := by decide +kernel
theorem dX10_term_97 : decode cX10_term 97 = .ok (.invokevirtual 161, 3) := by decide +kernel
theorem dX10_term_100 : decode cX10_term 100 = .ok (.goto (-91), 3) := by decide +kernel
theorem dX10_term_103 : decode cX10_term 103 = .ok (.iconst 1, 1) := by decide +kernel
theorem dX10_term_104 : decode cX10_term 104 = .ok (.ireturn, 1) := by decide +kernel
theorem dX10_sum_0 : decode cX10_sum 0 = .ok (.aload_n 0, 1) := by decide +kernel
theorem dX10_sum_1 : decode cX10_sum 1 = .ok (.invokevirtual 179, 3) := by decide +kernel
theorem dX10_sum_4 : decode cX10_sum 4 = .ok (.ifCond .ne 5, 3) := by decide +kernel
theorem dX10_sum_7 : decode cX10_sum 7 = .ok (.iconst 0, 1) := by decide +kernel
theorem dX10_sum_8 : decode cX10_sum 8 = .ok (.ireturn, 1) := by decide +kernel
theorem dX10_sum_9 : decode cX10_sum 9 = .ok (.aload_n 0, 1) := by decide +kernel
theorem dX10_sum_10 : decode cX10_sum 10 = .ok (.invokevirtual 96, 3) := by decide +kernel
theorem dX10_sum_13 : decode cX10_sum 13 = .ok (.bipush 43, 2) := by decide +kernel
theorem dX10_sum_15 : decode cX10_sum 15 = .ok (.if_icmp .eq 12, 3) := by decide +kernel
theorem dX10_sum_18 : decode cX10_sum 18 = .ok (.aload_n 0, 1) := by decide +kernel
theorem dX10_sum_19 : decode cX10_sum 19 = .ok (.invokevirtual 96, 3) := by decide +kernel
theorem dX10_sum_22 : decode cX10_sum 22 = .ok (.bipush 45, 2) := by decide +kernel
theorem dX10_sum_24 : decode cX10_sum 24 = .ok (.if_icmp .ne 51, 3) := by decide +kernel
theorem dX10_sum_27 : decode cX10_sum 27 = .ok (.aload_n 0, 1) := by decide +kernel
theorem dX10_sum_28 : decode cX10_sum 28 = .ok (.getfield 7, 3) := by decide +kernel
theorem dX10_sum_31 : decode cX10_sum 31 = .ok (.aload_n 0, 1) := by decide +kernel
theorem dX10_sum_32 : decode cX10_sum 32 = .ok (.getfield 93, 3) := by decide +kernel
theorem dX10_sum_35 : decode cX10_sum 35 = .ok (.baload, 1) := by decide +kernel
theorem dX10_sum_36 : decode cX10_sum 36 = .ok (.bipush 43, 2) := by decide +kernel
theorem dX10_sum_38 : decode cX10_sum 38 = .ok (.if_icmp .ne 7, 3) := by decide +kernel
theorem dX10_sum_41 : decode cX10_sum 41 = .ok (.iconst 2, 1) := by decide +kernel
theorem dX10_sum_42 : decode cX10_sum 42 = .ok (.goto 4, 3) := by decide +kernel
theorem dX10_sum_45 : decode cX10_sum 45 = .ok (.iconst 3, 1) := by decide +kernel
theorem dX10_sum_46 : decode cX10_sum 46 = .ok (.istore_n 1, 1) := by decide +kernel
theorem dX10_sum_47 : decode cX10_sum 47 = .ok (.aload_n 0, 1) := by decide +kernel
theorem dX10_sum_48 : decode cX10_sum 48 = .ok (.dup, 1) := by decide +kernel
theorem dX10_sum_49 : decode cX10_sum 49 = .ok (.getfield 93, 3) := by decide +kernel
theorem dX10_sum_52 : decode cX10_sum 52 = .ok (.iconst 1, 1) := by decide +kernel
theorem dX10_sum_53 : decode cX10_sum 53 = .ok (.iadd, 1) := by decide +kernel
theorem dX10_sum_54 : decode cX10_sum 54 = .ok (.putfield 93, 3) := by decide +kernel
theorem dX10_sum_57 : decode cX10_sum 57 = .ok (.aload_n 0, 1) := by decide +kernel
theorem dX10_sum_58 : decode cX10_sum 58 = .ok (.invokevirtual 179, 3) := by decide +kernel
theorem dX10_sum_61 : decode cX10_sum 61 = .ok (.ifCond .ne 5, 3) := by decide +kernel
theorem dX10_sum_64 : decode cX10_sum 64 = .ok (.iconst 0, 1) := by decide +kernel
theorem dX10_sum_65 : decode cX10_sum 65 = .ok (.ireturn, 1) := by decide +kernel
theorem dX10_sum_66 : decode cX10_sum 66 = .ok (.aload_n 0, 1) := by decide +kernel
theorem dX10_sum_67 : decode cX10_sum 67 = .ok (.iload_n 1, 1) := by decide +kernel
theorem dX10_sum_68 : decode cX10_sum 68 = .ok (.iconst 0, 1) := by decide +kernel
theorem dX10_sum_69 : decode cX10_sum 69 = .ok (.invokevirtual 161, 3) := by decide +kernel
theorem dX10_sum_72 : decode cX10_sum 72 = .ok (.goto (-63), 3) := by decide +kernel
theorem dX10_sum_75 : decode cX10_sum 75 = .ok (.iconst 1, 1) := by decide +kernel
theorem dX10_sum_76 : decode cX10_sum 76 = .ok (.ireturn, 1) := by decide +kernel
theorem dX10_compare_0 : decode cX10_compare 0 = .ok (.aload_n 0, 1) := by decide +kernel
theorem dX10_compare_1 : decode cX10_compare 1 = .ok (.invokevirtual 182, 3) := by decide +kernel
theorem dX10_compare_4 : decode cX10_compare 4 = .ok (.ifCond .ne 5, 3) := by decide +kernel
theorem dX10_compare_7 : decode cX10_compare 7 = .ok (.iconst 0, 1) := by decide +kernel
theorem dX10_compare_8 : decode cX10_compare 8 = .ok (.ireturn, 1) := by decide +kernel
theorem dX10_compare_9 : decode cX10_compare 9 = .ok (.aload_n 0, 1) := by decide +kernel
theorem dX10_compare_10 : decode cX10_compare 10 = .ok (.invokevirtual 96, 3) := by decide +kernel
theorem dX10_compare_13 : decode cX10_compare 13 = .ok (.istore_n 1, 1) := by decide +kernel
theorem dX10_compare_14 : decode cX10_compare 14 = .ok (.aload_n 0, 1) := by decide +kernel
theorem dX10_compare_15 : decode cX10_compare 15 = .ok (.getfield 93, 3) := by decide +kernel
theorem dX10_compare_18 : decode cX10_compare 18 = .ok (.istore_n 2, 1) := by decide +kernel
theorem dX10_compare_19 : decode cX10_compare 19 = .ok (.iload_n 1, 1) := by decide +kernel
theorem dX10_compare_20 : decode cX10_compare 20 = .ok (.bipush 60, 2) := by decide +kernel
theorem dX10_compare_22 : decode cX10_compare 22 = .ok (.if_icmp .eq 22, 3) := by decide +kernel
theorem dX10_compare_25 : decode cX10_compare 25 = .ok (.iload_n 1, 1) := by decide +kernel
theorem dX10_compare_26 : decode cX10_compare 26 = .ok (.bipush 61, 2) := by decide +kernel
theorem dX10_compare_28 : decode cX10_compare 28 = .ok (.if_icmp .eq 16, 3) := by decide +kernel
theorem dX10_compare_31 : decode cX10_compare 31 = .ok (.iload_n 1, 1) := by decide +kernel
theorem dX10_compare_32 : decode cX10_compare 32 = .ok (.bipush 62, 2) := by decide +kernel
theorem dX10_compare_34 : decode cX10_compare 34 = .ok (.if_icmp .eq 10, 3) := by decide +kernel
theorem dX10_compare_37 : decode cX10_compare 37 = .ok (.aload_n 0, 1) := by decide +kernel
theorem dX10_compare_38 : decode cX10_compare 38 = .ok (.iconst 0, 1) := by decide +kernel
theorem dX10_compare_39 : decode cX10_compare 39 = .ok (.iload_n 2, 1) := by decide +kernel
theorem dX10_compare_40 : decode cX10_compare 40 = .ok (.invokevirtual 114, 3) := by decide +kernel
theorem dX10_compare_43 : decode cX10_compare 43 = .ok (.ireturn, 1) := by decide +kernel
theorem dX10_compare_44 : decode cX10_compare 44 = .ok (.aload_n 0, 1) := by decide +kernel
theorem dX10_compare_45 : decode cX10_compare 45 = .ok (.dup, 1) := by decide +kernel
theorem dX10_compare_46 : decode cX10_compare 46 = .ok (.getfield 93, 3) := by decide +kernel
theorem dX10_compare_49 : decode cX10_compare 49 = .ok (.iconst 1, 1) := by decide +kernel
theorem dX10_compare_50 : decode cX10_compare 50 = .ok (.iadd, 1) := by decide +kernel
theorem dX10_compare_51 : decode cX10_compare 51 = .ok (.putfield 93, 3) := by decide +kernel
theorem dX10_compare_54 : decode cX10_compare 54 = .ok (.iload_n 1, 1) := by decide +kernel
theorem dX10_compare_55 : decode cX10_compare 55 = .ok (.bipush 61, 2) := by decide +kernel
theorem dX10_compare_57 : decode cX10_compare 57 = .ok (.if_icmp .eq 32, 3) := by decide +kernel
theorem dX10_compare_60 : decode cX10_compare 60 = .ok (.aload_n 0, 1) := by decide +kernel
theorem dX10_compare_61 : decode cX10_compare 61 = .ok (.getfield 93, 3) := by decide +kernel
theorem dX10_compare_64 : decode cX10_compare 64 = .ok (.aload_n 0, 1) := by decide +kernel
theorem dX10_compare_65 : decode cX10_compare 65 = .ok (.getfield 83, 3) := by decide +kernel
theorem dX10_compare_68 : decode cX10_compare 68 = .ok (.if_icmp .ge 21, 3) := by decide +kernel
theorem dX10_compare_71 : decode cX10_compare 71 = .ok (.aload_n 0, 1) := by decide +kernel
theorem dX10_compare_72 : decode cX10_compare 72 = .ok (.getfield 7, 3) := by decide +kernel
theorem dX10_compare_75 : decode cX10_compare 75 = .ok (.aload_n 0, 1) := by decide +kernel
theorem dX10_compare_76 : decode cX10_compare 76 = .ok (.getfield 93, 3) := by decide +kernel
theorem dX10_compare_79 : decode cX10_compare 79 = .ok (.baload, 1) := by decide +kernel
theorem dX10_compare_80 : decode cX10_compare 80 = .ok (.bipush 61, 2) := by decide +kernel
theorem dX10_compare_82 : decode cX10_compare 82 = .ok (.if_icmp .ne 7, 3) := by decide +kernel
theorem dX10_compare_85 : decode cX10_compare 85 = .ok (.iconst 1, 1) := by decide +kernel
theorem dX10_compare_86 : decode cX10_compare 86 = .ok (.goto 4, 3) := by decide +kernel
theorem dX10_compare_89 : decode cX10_compare 89 = .ok (.iconst 0, 1) := by decide +kernel
theorem dX10_compare_90 : decode cX10_compare 90 = .ok (.istore_n 3, 1) := by decide +kernel
theorem dX10_compare_91 : decode cX10_compare 91 = .ok (.iload_n 3, 1) := by decide +kernel
theorem dX10_compare_92 : decode cX10_compare 92 = .ok (.ifCond .eq 13, 3) := by decide +kernel
theorem dX10_compare_95 : decode cX10_compare 95 = .ok (.aload_n 0, 1) := by decide +kernel
theorem dX10_compare_96 : decode cX10_compare 96 = .ok (.dup, 1) := by decide +kernel
theorem dX10_compare_97 : decode cX10_compare 97 = .ok (.getfield 93, 3) := by decide +kernel
theorem dX10_compare_100 : decode cX10_compare 100 = .ok (.iconst 1, 1) := by decide +kernel
theorem dX10_compare_101 : decode cX10_compare 101 = .ok (.iadd, 1) := by decide +kernel
theorem dX10_compare_102 : decode cX10_compare 102 = .ok (.putfield 93, 3) := by decide +kernel
theorem dX10_compare_105 : decode cX10_compare 105 = .ok (.aload_n 0, 1) := by decide +kernel
theorem dX10_compare_106 : decode cX10_compare 106 = .ok (.iload_n 2, 1) := by decide +kernel
theorem dX10_compare_107 : decode cX10_compare 107 = .ok (.invokevirtual 169, 3) := by decide +kernel
theorem dX10_compare_110 : decode cX10_compare 110 = .ok (.ifCond .ne 5, 3) := by decide +kernel
theorem dX10_compare_113 : decode cX10_compare 113 = .ok (.iconst 0, 1) := by decide +kernel
theorem dX10_compare_114 : decode cX10_compare 114 = .ok (.ireturn, 1) := by decide +kernel
theorem dX10_compare_115 : decode cX10_compare 115 = .ok (.iload_n 1, 1) := by decide +kernel
theorem dX10_compare_116 : decode cX10_compare 116 = .ok (.bipush 60, 2) := by decide +kernel
theorem dX10_compare_118 : decode cX10_compare 118 = .ok (.if_icmp .ne 15, 3) := by decide +kernel
theorem dX10_compare_121 : decode cX10_compare 121 = .ok (.iload_n 3, 1) := by decide +kernel
theorem dX10_compare_122 : decode cX10_compare 122 = .ok (.ifCond .eq 7, 3) := by decide +kernel
theorem dX10_compare_125 : decode cX10_compare 125 = .ok (.iconst 1, 1) := by decide +kernel
theorem dX10_compare_126 : decode cX10_compare 126 = .ok (.goto 26, 3) := by decide +kernel
theorem dX10_compare_129 : decode cX10_compare 129 = .ok (.iconst 0, 1) := by decide +kernel
theorem dX10_compare_130 : decode cX10_compare 130 = .ok (.goto 22, 3) := by decide +kernel
theorem dX10_compare_133 : decode cX10_compare 133 = .ok (.iload_n 1, 1) := by decide +kernel
theorem dX10_compare_134 : decode cX10_compare 134 = .ok (.bipush 61, 2) := by decide +kernel
theorem dX10_compare_136 : decode cX10_compare 136 = .ok (.if_icmp .ne 7, 3) := by decide +kernel
