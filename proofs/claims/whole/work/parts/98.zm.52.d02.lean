theorem dX8_takeNumber_32 : decode cX8_takeNumber 32 = .ok (.iconst 0, 1) := by decide +kernel
theorem dX8_takeNumber_33 : decode cX8_takeNumber 33 = .ok (.istore 4, 2) := by decide +kernel
theorem dX8_takeNumber_35 : decode cX8_takeNumber 35 = .ok (.aload_n 0, 1) := by decide +kernel
theorem dX8_takeNumber_36 : decode cX8_takeNumber 36 = .ok (.getfield 19, 3) := by decide +kernel
theorem dX8_takeNumber_39 : decode cX8_takeNumber 39 = .ok (.aload_n 0, 1) := by decide +kernel
theorem dX8_takeNumber_40 : decode cX8_takeNumber 40 = .ok (.getfield 15, 3) := by decide +kernel
theorem dX8_takeNumber_43 : decode cX8_takeNumber 43 = .ok (.if_icmp .ge 64, 3) := by decide +kernel
theorem dX8_takeNumber_46 : decode cX8_takeNumber 46 = .ok (.aload_n 0, 1) := by decide +kernel
theorem dX8_takeNumber_47 : decode cX8_takeNumber 47 = .ok (.getfield 9, 3) := by decide +kernel
theorem dX8_takeNumber_50 : decode cX8_takeNumber 50 = .ok (.aload_n 0, 1) := by decide +kernel
theorem dX8_takeNumber_51 : decode cX8_takeNumber 51 = .ok (.getfield 19, 3) := by decide +kernel
theorem dX8_takeNumber_54 : decode cX8_takeNumber 54 = .ok (.iaload, 1) := by decide +kernel
theorem dX8_takeNumber_55 : decode cX8_takeNumber 55 = .ok (.invokestatic 44, 3) := by decide +kernel
theorem dX8_takeNumber_58 : decode cX8_takeNumber 58 = .ok (.ifCond .eq 49, 3) := by decide +kernel
theorem dX8_takeNumber_61 : decode cX8_takeNumber 61 = .ok (.aload_n 0, 1) := by decide +kernel
theorem dX8_takeNumber_62 : decode cX8_takeNumber 62 = .ok (.getfield 19, 3) := by decide +kernel
theorem dX8_takeNumber_65 : decode cX8_takeNumber 65 = .ok (.aload_n 0, 1) := by decide +kernel
theorem dX8_takeNumber_66 : decode cX8_takeNumber 66 = .ok (.getfield 41, 3) := by decide +kernel
theorem dX8_takeNumber_69 : decode cX8_takeNumber 69 = .ok (.isub, 1) := by decide +kernel
theorem dX8_takeNumber_70 : decode cX8_takeNumber 70 = .ok (.iconst 5, 1) := by decide +kernel
theorem dX8_takeNumber_71 : decode cX8_takeNumber 71 = .ok (.if_icmp .ge 23, 3) := by decide +kernel
theorem dX8_takeNumber_74 : decode cX8_takeNumber 74 = .ok (.iload 4, 2) := by decide +kernel
theorem dX8_takeNumber_76 : decode cX8_takeNumber 76 = .ok (.bipush 10, 2) := by decide +kernel
theorem dX8_takeNumber_78 : decode cX8_takeNumber 78 = .ok (.imul, 1) := by decide +kernel
theorem dX8_takeNumber_79 : decode cX8_takeNumber 79 = .ok (.aload_n 0, 1) := by decide +kernel
theorem dX8_takeNumber_80 : decode cX8_takeNumber 80 = .ok (.getfield 9, 3) := by decide +kernel
theorem dX8_takeNumber_83 : decode cX8_takeNumber 83 = .ok (.aload_n 0, 1) := by decide +kernel
theorem dX8_takeNumber_84 : decode cX8_takeNumber 84 = .ok (.getfield 19, 3) := by decide +kernel
theorem dX8_takeNumber_87 : decode cX8_takeNumber 87 = .ok (.iaload, 1) := by decide +kernel
theorem dX8_takeNumber_88 : decode cX8_takeNumber 88 = .ok (.iadd, 1) := by decide +kernel
theorem dX8_takeNumber_89 : decode cX8_takeNumber 89 = .ok (.bipush 48, 2) := by decide +kernel
theorem dX8_takeNumber_91 : decode cX8_takeNumber 91 = .ok (.isub, 1) := by decide +kernel
theorem dX8_takeNumber_92 : decode cX8_takeNumber 92 = .ok (.istore 4, 2) := by decide +kernel
theorem dX8_takeNumber_94 : decode cX8_takeNumber 94 = .ok (.aload_n 0, 1) := by decide +kernel
theorem dX8_takeNumber_95 : decode cX8_takeNumber 95 = .ok (.dup, 1) := by decide +kernel
theorem dX8_takeNumber_96 : decode cX8_takeNumber 96 = .ok (.getfield 19, 3) := by decide +kernel
theorem dX8_takeNumber_99 : decode cX8_takeNumber 99 = .ok (.iconst 1, 1) := by decide +kernel
theorem dX8_takeNumber_100 : decode cX8_takeNumber 100 = .ok (.iadd, 1) := by decide +kernel
theorem dX8_takeNumber_101 : decode cX8_takeNumber 101 = .ok (.putfield 19, 3) := by decide +kernel
theorem dX8_takeNumber_104 : decode cX8_takeNumber 104 = .ok (.goto (-69), 3) := by decide +kernel
theorem dX8_takeNumber_107 : decode cX8_takeNumber 107 = .ok (.aload_n 0, 1) := by decide +kernel
theorem dX8_takeNumber_108 : decode cX8_takeNumber 108 = .ok (.getfield 19, 3) := by decide +kernel
theorem dX8_takeNumber_111 : decode cX8_takeNumber 111 = .ok (.aload_n 0, 1) := by decide +kernel
theorem dX8_takeNumber_112 : decode cX8_takeNumber 112 = .ok (.getfield 41, 3) := by decide +kernel
theorem dX8_takeNumber_115 : decode cX8_takeNumber 115 = .ok (.isub, 1) := by decide +kernel
theorem dX8_takeNumber_116 : decode cX8_takeNumber 116 = .ok (.iconst 5, 1) := by decide +kernel
theorem dX8_takeNumber_117 : decode cX8_takeNumber 117 = .ok (.if_icmp .gt 15, 3) := by decide +kernel
theorem dX8_takeNumber_120 : decode cX8_takeNumber 120 = .ok (.iload 4, 2) := by decide +kernel
theorem dX8_takeNumber_122 : decode cX8_takeNumber 122 = .ok (.iload_n 1, 1) := by decide +kernel
theorem dX8_takeNumber_123 : decode cX8_takeNumber 123 = .ok (.if_icmp .lt 9, 3) := by decide +kernel
theorem dX8_takeNumber_126 : decode cX8_takeNumber 126 = .ok (.iload 4, 2) := by decide +kernel
theorem dX8_takeNumber_128 : decode cX8_takeNumber 128 = .ok (.iload_n 2, 1) := by decide +kernel
theorem dX8_takeNumber_129 : decode cX8_takeNumber 129 = .ok (.if_icmp .le 15, 3) := by decide +kernel
theorem dX8_takeNumber_132 : decode cX8_takeNumber 132 = .ok (.aload_n 0, 1) := by decide +kernel
theorem dX8_takeNumber_133 : decode cX8_takeNumber 133 = .ok (.aload_n 0, 1) := by decide +kernel
theorem dX8_takeNumber_134 : decode cX8_takeNumber 134 = .ok (.getfield 41, 3) := by decide +kernel
theorem dX8_takeNumber_137 : decode cX8_takeNumber 137 = .ok (.iconst 1, 1) := by decide +kernel
theorem dX8_takeNumber_138 : decode cX8_takeNumber 138 = .ok (.invokevirtual 48, 3) := by decide +kernel
theorem dX8_takeNumber_141 : decode cX8_takeNumber 141 = .ok (.pop, 1) := by decide +kernel
theorem dX8_takeNumber_142 : decode cX8_takeNumber 142 = .ok (.iconst (-1), 1) := by decide +kernel
theorem dX8_takeNumber_143 : decode cX8_takeNumber 143 = .ok (.ireturn, 1) := by decide +kernel
theorem dX8_takeNumber_144 : decode cX8_takeNumber 144 = .ok (.iload 4, 2) := by decide +kernel
theorem dX8_takeNumber_146 : decode cX8_takeNumber 146 = .ok (.ireturn, 1) := by decide +kernel
theorem dX8_isDigit_0 : decode cX8_isDigit 0 = .ok (.iload_n 0, 1) := by decide +kernel
theorem dX8_isDigit_1 : decode cX8_isDigit 1 = .ok (.bipush 48, 2) := by decide +kernel
theorem dX8_isDigit_3 : decode cX8_isDigit 3 = .ok (.if_icmp .lt 13, 3) := by decide +kernel
theorem dX8_isDigit_6 : decode cX8_isDigit 6 = .ok (.iload_n 0, 1) := by decide +kernel
theorem dX8_isDigit_7 : decode cX8_isDigit 7 = .ok (.bipush 57, 2) := by decide +kernel
theorem dX8_isDigit_9 : decode cX8_isDigit 9 = .ok (.if_icmp .gt 7, 3) := by decide +kernel
theorem dX8_isDigit_12 : decode cX8_isDigit 12 = .ok (.iconst 1, 1) := by decide +kernel
theorem dX8_isDigit_13 : decode cX8_isDigit 13 = .ok (.goto 4, 3) := by decide +kernel
theorem dX8_isDigit_16 : decode cX8_isDigit 16 = .ok (.iconst 0, 1) := by decide +kernel
theorem dX8_isDigit_17 : decode cX8_isDigit 17 = .ok (.ireturn, 1) := by decide +kernel
theorem dX9_init_0 : decode cX9_init 0 = .ok (.aload_n 0, 1) := by decide +kernel
theorem dX9_init_1 : decode cX9_init 1 = .ok (.invokespecial 1, 3) := by decide +kernel
theorem dX9_init_4 : decode cX9_init 4 = .ok (.aload_n 0, 1) := by decide +kernel
theorem dX9_init_5 : decode cX9_init 5 = .ok (.new 7, 3) := by decide +kernel
theorem dX9_init_8 : decode cX9_init 8 = .ok (.dup, 1) := by decide +kernel
theorem dX9_init_9 : decode cX9_init 9 = .ok (.invokespecial 9, 3) := by decide +kernel
theorem dX9_init_12 : decode cX9_init 12 = .ok (.putfield 10, 3) := by decide +kernel
theorem dX9_init_15 : decode cX9_init 15 = .ok (.aload_n 0, 1) := by decide +kernel
theorem dX9_init_16 : decode cX9_init 16 = .ok (.new 16, 3) := by decide +kernel
theorem dX9_init_19 : decode cX9_init 19 = .ok (.dup, 1) := by decide +kernel
theorem dX9_init_20 : decode cX9_init 20 = .ok (.aload_n 0, 1) := by decide +kernel
theorem dX9_init_21 : decode cX9_init 21 = .ok (.getfield 10, 3) := by decide +kernel
theorem dX9_init_24 : decode cX9_init 24 = .ok (.invokespecial 18, 3) := by decide +kernel
theorem dX9_init_27 : decode cX9_init 27 = .ok (.putfield 21, 3) := by decide +kernel
theorem dX9_init_30 : decode cX9_init 30 = .ok (.aload_n 0, 1) := by decide +kernel
theorem dX9_init_31 : decode cX9_init 31 = .ok (.new 25, 3) := by decide +kernel
theorem dX9_init_34 : decode cX9_init 34 = .ok (.dup, 1) := by decide +kernel
theorem dX9_init_35 : decode cX9_init 35 = .ok (.aload_n 0, 1) := by decide +kernel
theorem dX9_init_36 : decode cX9_init 36 = .ok (.getfield 10, 3) := by decide +kernel
theorem dX9_init_39 : decode cX9_init 39 = .ok (.invokespecial 27, 3) := by decide +kernel
theorem dX9_init_42 : decode cX9_init 42 = .ok (.putfield 28, 3) := by decide +kernel
theorem dX9_init_45 : decode cX9_init 45 = .ok (.aload_n 0, 1) := by decide +kernel
theorem dX9_init_46 : decode cX9_init 46 = .ok (.bipush 6, 2) := by decide +kernel
theorem dX9_init_48 : decode cX9_init 48 = .ok (.anewarray 32, 3) := by decide +kernel
theorem dX9_init_51 : decode cX9_init 51 = .ok (.putfield 34, 3) := by decide +kernel
theorem dX9_init_54 : decode cX9_init 54 = .ok (.aload_n 0, 1) := by decide +kernel
theorem dX9_init_55 : decode cX9_init 55 = .ok (.new 38, 3) := by decide +kernel
theorem dX9_init_58 : decode cX9_init 58 = .ok (.dup, 1) := by decide +kernel
theorem dX9_init_59 : decode cX9_init 59 = .ok (.invokespecial 40, 3) := by decide +kernel
theorem dX9_init_62 : decode cX9_init 62 = .ok (.putfield 41, 3) := by decide +kernel
theorem dX9_init_65 : decode cX9_init 65 = .ok (.aload_n 0, 1) := by decide +kernel
theorem dX9_init_66 : decode cX9_init 66 = .ok (.iconst 4, 1) := by decide +kernel
theorem dX9_init_67 : decode cX9_init 67 = .ok (.anewarray 38, 3) := by decide +kernel
theorem dX9_init_70 : decode cX9_init 70 = .ok (.putfield 45, 3) := by decide +kernel
theorem dX9_init_73 : decode cX9_init 73 = .ok (.aload_n 0, 1) := by decide +kernel
theorem dX9_init_74 : decode cX9_init 74 = .ok (.new 49, 3) := by decide +kernel
theorem dX9_init_77 : decode cX9_init 77 = .ok (.dup, 1) := by decide +kernel
theorem dX9_init_78 : decode cX9_init 78 = .ok (.invokespecial 51, 3) := by decide +kernel
theorem dX9_init_81 : decode cX9_init 81 = .ok (.putfield 52, 3) := by decide +kernel
theorem dX9_init_84 : decode cX9_init 84 = .ok (.aload_n 0, 1) := by decide +kernel
theorem dX9_init_85 : decode cX9_init 85 = .ok (.new 56, 3) := by decide +kernel
theorem dX9_init_88 : decode cX9_init 88 = .ok (.dup, 1) := by decide +kernel
theorem dX9_init_89 : decode cX9_init 89 = .ok (.invokespecial 58, 3) := by decide +kernel
theorem dX9_init_92 : decode cX9_init 92 = .ok (.putfield 59, 3) := by decide +kernel
theorem dX9_init_95 : decode cX9_init 95 = .ok (.aload_n 0, 1) := by decide +kernel
theorem dX9_init_96 : decode cX9_init 96 = .ok (.new 63, 3) := by decide +kernel
theorem dX9_init_99 : decode cX9_init 99 = .ok (.dup, 1) := by decide +kernel
theorem dX9_init_100 : decode cX9_init 100 = .ok (.invokespecial 65, 3) := by decide +kernel
theorem dX9_init_103 : decode cX9_init 103 = .ok (.putfield 66, 3) := by decide +kernel
theorem dX9_init_106 : decode cX9_init 106 = .ok (.aload_n 0, 1) := by decide +kernel
theorem dX9_init_107 : decode cX9_init 107 = .ok (.bipush 16, 2) := by decide +kernel
theorem dX9_init_109 : decode cX9_init 109 = .ok (.newarray .int, 2) := by decide +kernel
theorem dX9_init_111 : decode cX9_init 111 = .ok (.putfield 70, 3) := by decide +kernel
theorem dX9_init_114 : decode cX9_init 114 = .ok (.aload_n 0, 1) := by decide +kernel
theorem dX9_init_115 : decode cX9_init 115 = .ok (.bipush 16, 2) := by decide +kernel
theorem dX9_init_117 : decode cX9_init 117 = .ok (.newarray .int, 2) := by decide +kernel
theorem dX9_init_119 : decode cX9_init 119 = .ok (.putfield 74, 3) := by decide +kernel
theorem dX9_init_122 : decode cX9_init 122 = .ok (.aload_n 0, 1) := by decide +kernel
theorem dX9_init_123 : decode cX9_init 123 = .ok (.bipush 35, 2) := by decide +kernel
theorem dX9_init_125 : decode cX9_init 125 = .ok (.newarray .int, 2) := by decide +kernel
theorem dX9_init_127 : decode cX9_init 127 = .ok (.putfield 77, 3) := by decide +kernel
theorem dX9_init_130 : decode cX9_init 130 = .ok (.return_, 1) := by decide +kernel
theorem dX9_feed_0 : decode cX9_feed 0 = .ok (.aload_n 0, 1) := by decide +kernel
theorem dX9_feed_1 : decode cX9_feed 1 = .ok (.getfield 10, 3) := by decide +kernel
theorem dX9_feed_4 : decode cX9_feed 4 = .ok (.getfield 80, 3) := by decide +kernel
theorem dX9_feed_7 : decode cX9_feed 7 = .ok (.bipush 20, 2) := by decide +kernel
theorem dX9_feed_9 : decode cX9_feed 9 = .ok (.iadd, 1) := by decide +kernel
theorem dX9_feed_10 : decode cX9_feed 10 = .ok (.sipush 400, 3) := by decide +kernel
theorem dX9_feed_13 : decode cX9_feed 13 = .ok (.if_icmp .le 5, 3) := by decide +kernel
theorem dX9_feed_16 : decode cX9_feed 16 = .ok (.iconst (-1), 1) := by decide +kernel
theorem dX9_feed_17 : decode cX9_feed 17 = .ok (.ireturn, 1) := by decide +kernel
theorem dX9_feed_18 : decode cX9_feed 18 = .ok (.aload_n 0, 1) := by decide +kernel
theorem dX9_feed_19 : decode cX9_feed 19 = .ok (.getfield 10, 3) := by decide +kernel
theorem dX9_feed_22 : decode cX9_feed 22 = .ok (.iload_n 1, 1) := by decide +kernel
theorem dX9_feed_23 : decode cX9_feed 23 = .ok (.invokevirtual 84, 3) := by decide +kernel
theorem dX9_feed_26 : decode cX9_feed 26 = .ok (.aload_n 0, 1) := by decide +kernel
theorem dX9_feed_27 : decode cX9_feed 27 = .ok (.getfield 10, 3) := by decide +kernel
theorem dX9_feed_30 : decode cX9_feed 30 = .ok (.iload_n 2, 1) := by decide +kernel
theorem dX9_feed_31 : decode cX9_feed 31 = .ok (.invokevirtual 84, 3) := by decide +kernel
theorem dX9_feed_34 : decode cX9_feed 34 = .ok (.aload_n 0, 1) := by decide +kernel
theorem dX9_feed_35 : decode cX9_feed 35 = .ok (.getfield 10, 3) := by decide +kernel
theorem dX9_feed_38 : decode cX9_feed 38 = .ok (.iload_n 3, 1) := by decide +kernel
theorem dX9_feed_39 : decode cX9_feed 39 = .ok (.invokevirtual 84, 3) := by decide +kernel
theorem dX9_feed_42 : decode cX9_feed 42 = .ok (.aload_n 0, 1) := by decide +kernel
theorem dX9_feed_43 : decode cX9_feed 43 = .ok (.getfield 10, 3) := by decide +kernel
theorem dX9_feed_46 : decode cX9_feed 46 = .ok (.iload 4, 2) := by decide +kernel
theorem dX9_feed_48 : decode cX9_feed 48 = .ok (.invokevirtual 84, 3) := by decide +kernel
theorem dX9_feed_51 : decode cX9_feed 51 = .ok (.aload_n 0, 1) := by decide +kernel
theorem dX9_feed_52 : decode cX9_feed 52 = .ok (.getfield 10, 3) := by decide +kernel
theorem dX9_feed_55 : decode cX9_feed 55 = .ok (.iload 5, 2) := by decide +kernel
theorem dX9_feed_57 : decode cX9_feed 57 = .ok (.invokevirtual 84, 3) := by decide +kernel
theorem dX9_feed_60 : decode cX9_feed 60 = .ok (.aload_n 0, 1) := by decide +kernel
theorem dX9_feed_61 : decode cX9_feed 61 = .ok (.getfield 10, 3) := by decide +kernel
theorem dX9_feed_64 : decode cX9_feed 64 = .ok (.getfield 80, 3) := by decide +kernel
theorem dX9_feed_67 : decode cX9_feed 67 = .ok (.ireturn, 1) := by decide +kernel
theorem dX9_end_0 : decode cX9_end 0 = .ok (.iload_n 1, 1) := by decide +kernel
theorem dX9_end_1 : decode cX9_end 1 = .ok (.ifCond .lt 14, 3) := by decide +kernel
theorem dX9_end_4 : decode cX9_end 4 = .ok (.iload_n 1, 1) := by decide +kernel
theorem dX9_end_5 : decode cX9_end 5 = .ok (.aload_n 0, 1) := by decide +kernel
theorem dX9_end_6 : decode cX9_end 6 = .ok (.getfield 10, 3) := by decide +kernel
theorem dX9_end_9 : decode cX9_end 9 = .ok (.getfield 80, 3) := by decide +kernel
theorem dX9_end_12 : decode cX9_end 12 = .ok (.if_icmp .le 5, 3) := by decide +kernel
theorem dX9_end_15 : decode cX9_end 15 = .ok (.iconst (-1), 1) := by decide +kernel
theorem dX9_end_16 : decode cX9_end 16 = .ok (.ireturn, 1) := by decide +kernel
theorem dX9_end_17 : decode cX9_end 17 = .ok (.aload_n 0, 1) := by decide +kernel
theorem dX9_end_18 : decode cX9_end 18 = .ok (.getfield 10, 3) := by decide +kernel
theorem dX9_end_21 : decode cX9_end 21 = .ok (.iload_n 1, 1) := by decide +kernel
theorem dX9_end_22 : decode cX9_end 22 = .ok (.putfield 80, 3) := by decide +kernel
theorem dX9_end_25 : decode cX9_end 25 = .ok (.iload_n 1, 1) := by decide +kernel
theorem dX9_end_26 : decode cX9_end 26 = .ok (.ireturn, 1) := by decide +kernel
theorem dX9_election_0 : decode cX9_election 0 = .ok (.aload_n 0, 1) := by decide +kernel
theorem dX9_election_1 : decode cX9_election 1 = .ok (.getfield 21, 3) := by decide +kernel
theorem dX9_election_4 : decode cX9_election 4 = .ok (.invokevirtual 88, 3) := by decide +kernel
theorem dX9_election_7 : decode cX9_election 7 = .ok (.istore_n 1, 1) := by decide +kernel
theorem dX9_election_8 : decode cX9_election 8 = .ok (.aload_n 0, 1) := by decide +kernel
theorem dX9_election_9 : decode cX9_election 9 = .ok (.getfield 10, 3) := by decide +kernel
theorem dX9_election_12 : decode cX9_election 12 = .ok (.iconst 0, 1) := by decide +kernel
theorem dX9_election_13 : decode cX9_election 13 = .ok (.putfield 80, 3) := by decide +kernel
theorem dX9_election_16 : decode cX9_election 16 = .ok (.iload_n 1, 1) := by decide +kernel
theorem dX9_election_17 : decode cX9_election 17 = .ok (.ifCond .ne 14, 3) := by decide +kernel
theorem dX9_election_20 : decode cX9_election 20 = .ok (.bipush (-2), 2) := by decide +kernel
theorem dX9_election_22 : decode cX9_election 22 = .ok (.aload_n 0, 1) := by decide +kernel
theorem dX9_election_23 : decode cX9_election 23 = .ok (.getfield 10, 3) := by decide +kernel
theorem dX9_election_26 : decode cX9_election 26 = .ok (.getfield 92, 3) := by decide +kernel
theorem dX9_election_29 : decode cX9_election 29 = .ok (.isub, 1) := by decide +kernel
theorem dX9_election_30 : decode cX9_election 30 = .ok (.ireturn, 1) := by decide +kernel
theorem dX9_election_31 : decode cX9_election 31 = .ok (.aload_n 0, 1) := by decide +kernel
theorem dX9_election_32 : decode cX9_election 32 = .ok (.getfield 21, 3) := by decide +kernel
theorem dX9_election_35 : decode cX9_election 35 = .ok (.aload_n 0, 1) := by decide +kernel
theorem dX9_election_36 : decode cX9_election 36 = .ok (.getfield 41, 3) := by decide +kernel
theorem dX9_election_39 : decode cX9_election 39 = .ok (.getfield 95, 3) := by decide +kernel
theorem dX9_election_42 : decode cX9_election 42 = .ok (.invokevirtual 99, 3) := by decide +kernel
theorem dX9_election_45 : decode cX9_election 45 = .ok (.aload_n 0, 1) := by decide +kernel
theorem dX9_election_46 : decode cX9_election 46 = .ok (.getfield 41, 3) := by decide +kernel
theorem dX9_election_49 : decode cX9_election 49 = .ok (.getfield 103, 3) := by decide +kernel
theorem dX9_election_52 : decode cX9_election 52 = .ok (.aload_n 0, 1) := by decide +kernel
theorem dX9_election_53 : decode cX9_election 53 = .ok (.getfield 41, 3) := by decide +kernel
theorem dX9_election_56 : decode cX9_election 56 = .ok (.getfield 95, 3) := by decide +kernel
theorem dX9_election_59 : decode cX9_election 59 = .ok (.getfield 106, 3) := by decide +kernel
theorem dX9_election_62 : decode cX9_election 62 = .ok (.invokevirtual 111, 3) := by decide +kernel
theorem dX9_election_65 : decode cX9_election 65 = .ok (.aload_n 0, 1) := by decide +kernel
theorem dX9_election_66 : decode cX9_election 66 = .ok (.getfield 41, 3) := by decide +kernel
theorem dX9_election_69 : decode cX9_election 69 = .ok (.iconst 1, 1) := by decide +kernel
theorem dX9_election_70 : decode cX9_election 70 = .ok (.putfield 115, 3) := by decide +kernel
theorem dX9_election_73 : decode cX9_election 73 = .ok (.aload_n 0, 1) := by decide +kernel
theorem dX9_election_74 : decode cX9_election 74 = .ok (.getfield 41, 3) := by decide +kernel
theorem dX9_election_77 : decode cX9_election 77 = .ok (.iconst 0, 1) := by decide +kernel
theorem dX9_election_78 : decode cX9_election 78 = .ok (.putfield 119, 3) := by decide +kernel
theorem dX9_election_81 : decode cX9_election 81 = .ok (.aload_n 0, 1) := by decide +kernel
theorem dX9_election_82 : decode cX9_election 82 = .ok (.getfield 52, 3) := by decide +kernel
theorem dX9_election_85 : decode cX9_election 85 = .ok (.invokevirtual 122, 3) := by decide +kernel
theorem dX9_election_88 : decode cX9_election 88 = .ok (.aload_n 0, 1) := by decide +kernel
theorem dX9_election_89 : decode cX9_election 89 = .ok (.getfield 41, 3) := by decide +kernel
theorem dX9_election_92 : decode cX9_election 92 = .ok (.getfield 103, 3) := by decide +kernel
theorem dX9_election_95 : decode cX9_election 95 = .ok (.getfield 125, 3) := by decide +kernel
theorem dX9_election_98 : decode cX9_election 98 = .ok (.ireturn, 1) := by decide +kernel
theorem dX9_rule_0 : decode cX9_rule 0 = .ok (.aload_n 0, 1) := by decide +kernel
theorem dX9_rule_1 : decode cX9_rule 1 = .ok (.getfield 128, 3) := by decide +kernel
theorem dX9_rule_4 : decode cX9_rule 4 = .ok (.bipush 6, 2) := by decide +kernel
theorem dX9_rule_6 : decode cX9_rule 6 = .ok (.if_icmp .lt 5, 3) := by decide +kernel
theorem dX9_rule_9 : decode cX9_rule 9 = .ok (.iconst (-1), 1) := by decide +kernel
theorem dX9_rule_10 : decode cX9_rule 10 = .ok (.ireturn, 1) := by decide +kernel
theorem dX9_rule_11 : decode cX9_rule 11 = .ok (.aload_n 0, 1) := by decide +kernel
theorem dX9_rule_12 : decode cX9_rule 12 = .ok (.getfield 28, 3) := by decide +kernel
theorem dX9_rule_15 : decode cX9_rule 15 = .ok (.invokevirtual 131, 3) := by decide +kernel
theorem dX9_rule_18 : decode cX9_rule 18 = .ok (.astore_n 1, 1) := by decide +kernel
theorem dX9_rule_19 : decode cX9_rule 19 = .ok (.aload_n 0, 1) := by decide +kernel
theorem dX9_rule_20 : decode cX9_rule 20 = .ok (.getfield 10, 3) := by decide +kernel
theorem dX9_rule_23 : decode cX9_rule 23 = .ok (.iconst 0, 1) := by decide +kernel
theorem dX9_rule_24 : decode cX9_rule 24 = .ok (.putfield 80, 3) := by decide +kernel
theorem dX9_rule_27 : decode cX9_rule 27 = .ok (.aload_n 1, 1) := by decide +kernel
theorem dX9_rule_28 : decode cX9_rule 28 = .ok (.ifnonnull 14, 3) := by decide +kernel
theorem dX9_rule_31 : decode cX9_rule 31 = .ok (.bipush (-2), 2) := by decide +kernel
theorem dX9_rule_33 : decode cX9_rule 33 = .ok (.aload_n 0, 1) := by decide +kernel
theorem dX9_rule_34 : decode cX9_rule 34 = .ok (.getfield 10, 3) := by decide +kernel
theorem dX9_rule_37 : decode cX9_rule 37 = .ok (.getfield 92, 3) := by decide +kernel
theorem dX9_rule_40 : decode cX9_rule 40 = .ok (.isub, 1) := by decide +kernel
theorem dX9_rule_41 : decode cX9_rule 41 = .ok (.ireturn, 1) := by decide +kernel
theorem dX9_rule_42 : decode cX9_rule 42 = .ok (.aload_n 0, 1) := by decide +kernel
theorem dX9_rule_43 : decode cX9_rule 43 = .ok (.getfield 34, 3) := by decide +kernel
theorem dX9_rule_46 : decode cX9_rule 46 = .ok (.aload_n 0, 1) := by decide +kernel
theorem dX9_rule_47 : decode cX9_rule 47 = .ok (.getfield 128, 3) := by decide +kernel
theorem dX9_rule_50 : decode cX9_rule 50 = .ok (.aload_n 1, 1) := by decide +kernel
theorem dX9_rule_51 : decode cX9_rule 51 = .ok (.aastore, 1) := by decide +kernel
theorem dX9_rule_52 : decode cX9_rule 52 = .ok (.aload_n 0, 1) := by decide +kernel
theorem dX9_rule_53 : decode cX9_rule 53 = .ok (.dup, 1) := by decide +kernel
theorem dX9_rule_54 : decode cX9_rule 54 = .ok (.getfield 128, 3) := by decide +kernel
theorem dX9_rule_57 : decode cX9_rule 57 = .ok (.iconst 1, 1) := by decide +kernel
theorem dX9_rule_58 : decode cX9_rule 58 = .ok (.iadd, 1) := by decide +kernel
theorem dX9_rule_59 : decode cX9_rule 59 = .ok (.putfield 128, 3) := by decide +kernel
theorem dX9_rule_62 : decode cX9_rule 62 = .ok (.aload_n 0, 1) := by decide +kernel
theorem dX9_rule_63 : decode cX9_rule 63 = .ok (.getfield 128, 3) := by decide +kernel
theorem dX9_rule_66 : decode cX9_rule 66 = .ok (.iconst 1, 1) := by decide +kernel
theorem dX9_rule_67 : decode cX9_rule 67 = .ok (.isub, 1) := by decide +kernel
theorem dX9_rule_68 : decode cX9_rule 68 = .ok (.ireturn, 1) := by decide +kernel
theorem dX9_force_0 : decode cX9_force 0 = .ok (.iload_n 1, 1) := by decide +kernel
theorem dX9_force_1 : decode cX9_force 1 = .ok (.iconst (-1), 1) := by decide +kernel
theorem dX9_force_2 : decode cX9_force 2 = .ok (.if_icmp .lt 11, 3) := by decide +kernel
theorem dX9_force_5 : decode cX9_force 5 = .ok (.iload_n 1, 1) := by decide +kernel
theorem dX9_force_6 : decode cX9_force 6 = .ok (.aload_n 0, 1) := by decide +kernel
theorem dX9_force_7 : decode cX9_force 7 = .ok (.getfield 128, 3) := by decide +kernel
theorem dX9_force_10 : decode cX9_force 10 = .ok (.if_icmp .lt 6, 3) := by decide +kernel
theorem dX9_force_13 : decode cX9_force 13 = .ok (.bipush (-2), 2) := by decide +kernel
theorem dX9_force_15 : decode cX9_force 15 = .ok (.ireturn, 1) := by decide +kernel
theorem dX9_force_16 : decode cX9_force 16 = .ok (.aload_n 0, 1) := by decide +kernel
theorem dX9_force_17 : decode cX9_force 17 = .ok (.getfield 41, 3) := by decide +kernel
theorem dX9_force_20 : decode cX9_force 20 = .ok (.getfield 134, 3) := by decide +kernel
theorem dX9_force_23 : decode cX9_force 23 = .ok (.istore_n 2, 1) := by decide +kernel
theorem dX9_force_24 : decode cX9_force 24 = .ok (.aload_n 0, 1) := by decide +kernel
theorem dX9_force_25 : decode cX9_force 25 = .ok (.getfield 41, 3) := by decide +kernel
theorem dX9_force_28 : decode cX9_force 28 = .ok (.iload_n 1, 1) := by decide +kernel
theorem dX9_force_29 : decode cX9_force 29 = .ok (.putfield 134, 3) := by decide +kernel
theorem dX9_force_32 : decode cX9_force 32 = .ok (.iload_n 2, 1) := by decide +kernel
theorem dX9_force_33 : decode cX9_force 33 = .ok (.ireturn, 1) := by decide +kernel
theorem dX9_station_0 : decode cX9_station 0 = .ok (.aload_n 0, 1) := by decide +kernel
theorem dX9_station_1 : decode cX9_station 1 = .ok (.iload_n 1, 1) := by decide +kernel
theorem dX9_station_2 : decode cX9_station 2 = .ok (.invokevirtual 137, 3) := by decide +kernel
theorem dX9_station_5 : decode cX9_station 5 = .ok (.ifCond .ne 5, 3) := by decide +kernel
theorem dX9_station_8 : decode cX9_station 8 = .ok (.iconst (-1), 1) := by decide +kernel
theorem dX9_station_9 : decode cX9_station 9 = .ok (.ireturn, 1) := by decide +kernel
theorem dX9_station_10 : decode cX9_station 10 = .ok (.iload_n 2, 1) := by decide +kernel
theorem dX9_station_11 : decode cX9_station 11 = .ok (.iconst 4, 1) := by decide +kernel
theorem dX9_station_12 : decode cX9_station 12 = .ok (.if_icmp .ne 16, 3) := by decide +kernel
theorem dX9_station_15 : decode cX9_station 15 = .ok (.aload_n 0, 1) := by decide +kernel
theorem dX9_station_16 : decode cX9_station 16 = .ok (.getfield 41, 3) := by decide +kernel
theorem dX9_station_19 : decode cX9_station 19 = .ok (.getfield 95, 3) := by decide +kernel
theorem dX9_station_22 : decode cX9_station 22 = .ok (.getfield 141, 3) := by decide +kernel
theorem dX9_station_25 : decode cX9_station 25 = .ok (.iload_n 1, 1) := by decide +kernel
theorem dX9_station_26 : decode cX9_station 26 = .ok (.iaload, 1) := by decide +kernel
theorem dX9_station_27 : decode cX9_station 27 = .ok (.ireturn, 1) := by decide +kernel
theorem dX9_station_28 : decode cX9_station 28 = .ok (.iload_n 2, 1) := by decide +kernel
theorem dX9_station_29 : decode cX9_station 29 = .ok (.iconst 5, 1) := by decide +kernel
theorem dX9_station_30 : decode cX9_station 30 = .ok (.if_icmp .ne 23, 3) := by decide +kernel
theorem dX9_station_33 : decode cX9_station 33 = .ok (.aload_n 0, 1) := by decide +kernel
theorem dX9_station_34 : decode cX9_station 34 = .ok (.getfield 41, 3) := by decide +kernel
theorem dX9_station_37 : decode cX9_station 37 = .ok (.getfield 95, 3) := by decide +kernel
theorem dX9_station_40 : decode cX9_station 40 = .ok (.iload_n 1, 1) := by decide +kernel
theorem dX9_station_41 : decode cX9_station 41 = .ok (.invokevirtual 144, 3) := by decide +kernel
theorem dX9_station_44 : decode cX9_station 44 = .ok (.ifCond .eq 7, 3) := by decide +kernel
theorem dX9_station_47 : decode cX9_station 47 = .ok (.iconst 1, 1) := by decide +kernel
theorem dX9_station_48 : decode cX9_station 48 = .ok (.goto 4, 3) := by decide +kernel
theorem dX9_station_51 : decode cX9_station 51 = .ok (.iconst 0, 1) := by decide +kernel
theorem dX9_station_52 : decode cX9_station 52 = .ok (.ireturn, 1) := by decide +kernel
theorem dX9_station_53 : decode cX9_station 53 = .ok (.aload_n 0, 1) := by decide +kernel
theorem dX9_station_54 : decode cX9_station 54 = .ok (.getfield 41, 3) := by decide +kernel
theorem dX9_station_57 : decode cX9_station 57 = .ok (.getfield 95, 3) := by decide +kernel
theorem dX9_station_60 : decode cX9_station 60 = .ok (.getfield 106, 3) := by decide +kernel
theorem dX9_station_63 : decode cX9_station 63 = .ok (.iload_n 1, 1) := by decide +kernel
theorem dX9_station_64 : decode cX9_station 64 = .ok (.iload_n 2, 1) := by decide +kernel
theorem dX9_station_65 : decode cX9_station 65 = .ok (.invokevirtual 147, 3) := by decide +kernel
theorem dX9_station_68 : decode cX9_station 68 = .ok (.ireturn, 1) := by decide +kernel
theorem dX9_paper_0 : decode cX9_paper 0 = .ok (.aload_n 0, 1) := by decide +kernel
theorem dX9_paper_1 : decode cX9_paper 1 = .ok (.getfield 41, 3) := by decide +kernel
theorem dX9_paper_4 : decode cX9_paper 4 = .ok (.getfield 95, 3) := by decide +kernel
theorem dX9_paper_7 : decode cX9_paper 7 = .ok (.astore_n 3, 1) := by decide +kernel
theorem dX9_paper_8 : decode cX9_paper 8 = .ok (.aload_n 3, 1) := by decide +kernel
theorem dX9_paper_9 : decode cX9_paper 9 = .ok (.iload_n 1, 1) := by decide +kernel
theorem dX9_paper_10 : decode cX9_paper 10 = .ok (.invokevirtual 151, 3) := by decide +kernel
theorem dX9_paper_13 : decode cX9_paper 13 = .ok (.ifCond .ne 5, 3) := by decide +kernel
theorem dX9_paper_16 : decode cX9_paper 16 = .ok (.iconst (-1), 1) := by decide +kernel
theorem dX9_paper_17 : decode cX9_paper 17 = .ok (.ireturn, 1) := by decide +kernel
theorem dX9_paper_18 : decode cX9_paper 18 = .ok (.iload_n 2, 1) := by decide +kernel
theorem dX9_paper_19 : decode cX9_paper 19 = .ok (.tableswitch 43 0 2 #[25, 31, 37], 25) := by decide +kernel
theorem dX9_paper_44 : decode cX9_paper 44 = .ok (.aload_n 3, 1) := by decide +kernel
theorem dX9_paper_45 : decode cX9_paper 45 = .ok (.iload_n 1, 1) := by decide +kernel
theorem dX9_paper_46 : decode cX9_paper 46 = .ok (.invokevirtual 154, 3) := by decide +kernel
theorem dX9_paper_49 : decode cX9_paper 49 = .ok (.ireturn, 1) := by decide +kernel
theorem dX9_paper_50 : decode cX9_paper 50 = .ok (.aload_n 3, 1) := by decide +kernel
theorem dX9_paper_51 : decode cX9_paper 51 = .ok (.iload_n 1, 1) := by decide +kernel
theorem dX9_paper_52 : decode cX9_paper 52 = .ok (.invokevirtual 158, 3) := by decide +kernel
theorem dX9_paper_55 : decode cX9_paper 55 = .ok (.ireturn, 1) := by decide +kernel
theorem dX9_paper_56 : decode cX9_paper 56 = .ok (.aload_n 3, 1) := by decide +kernel
theorem dX9_paper_57 : decode cX9_paper 57 = .ok (.iload_n 1, 1) := by decide +kernel
theorem dX9_paper_58 : decode cX9_paper 58 = .ok (.invokevirtual 161, 3) := by decide +kernel
theorem dX9_paper_61 : decode cX9_paper 61 = .ok (.ireturn, 1) := by decide +kernel
theorem dX9_paper_62 : decode cX9_paper 62 = .ok (.iconst (-1), 1) := by decide +kernel
theorem dX9_paper_63 : decode cX9_paper 63 = .ok (.ireturn, 1) := by decide +kernel
theorem dX9_row_0 : decode cX9_row 0 = .ok (.aload_n 0, 1) := by decide +kernel
theorem dX9_row_1 : decode cX9_row 1 = .ok (.iload_n 1, 1) := by decide +kernel
theorem dX9_row_2 : decode cX9_row 2 = .ok (.invokevirtual 137, 3) := by decide +kernel
theorem dX9_row_5 : decode cX9_row 5 = .ok (.ifCond .eq 13, 3) := by decide +kernel
theorem dX9_row_8 : decode cX9_row 8 = .ok (.iload_n 2, 1) := by decide +kernel
theorem dX9_row_9 : decode cX9_row 9 = .ok (.iconst 1, 1) := by decide +kernel
theorem dX9_row_10 : decode cX9_row 10 = .ok (.if_icmp .eq 10, 3) := by decide +kernel
theorem dX9_row_13 : decode cX9_row 13 = .ok (.iload_n 2, 1) := by decide +kernel
theorem dX9_row_14 : decode cX9_row 14 = .ok (.iconst 2, 1) := by decide +kernel
theorem dX9_row_15 : decode cX9_row 15 = .ok (.if_icmp .eq 5, 3) := by decide +kernel
theorem dX9_row_18 : decode cX9_row 18 = .ok (.iconst (-1), 1) := by decide +kernel
theorem dX9_row_19 : decode cX9_row 19 = .ok (.ireturn, 1) := by decide +kernel
theorem dX9_row_20 : decode cX9_row 20 = .ok (.aload_n 0, 1) := by decide +kernel
theorem dX9_row_21 : decode cX9_row 21 = .ok (.getfield 41, 3) := by decide +kernel
theorem dX9_row_24 : decode cX9_row 24 = .ok (.getfield 95, 3) := by decide +kernel
theorem dX9_row_27 : decode cX9_row 27 = .ok (.iload_n 1, 1) := by decide +kernel
theorem dX9_row_28 : decode cX9_row 28 = .ok (.iload_n 2, 1) := by decide +kernel
theorem dX9_row_29 : decode cX9_row 29 = .ok (.iload_n 3, 1) := by decide +kernel
theorem dX9_row_30 : decode cX9_row 30 = .ok (.invokevirtual 164, 3) := by decide +kernel
theorem dX9_row_33 : decode cX9_row 33 = .ok (.ireturn, 1) := by decide +kernel
theorem dX9_runs_0 : decode cX9_runs 0 = .ok (.aload_n 0, 1) := by decide +kernel
theorem dX9_runs_1 : decode cX9_runs 1 = .ok (.iload_n 1, 1) := by decide +kernel
theorem dX9_runs_2 : decode cX9_runs 2 = .ok (.invokevirtual 137, 3) := by decide +kernel
theorem dX9_runs_5 : decode cX9_runs 5 = .ok (.ifCond .ne 6, 3) := by decide +kernel
theorem dX9_runs_8 : decode cX9_runs 8 = .ok (.bipush (-2), 2) := by decide +kernel
theorem dX9_runs_10 : decode cX9_runs 10 = .ok (.ireturn, 1) := by decide +kernel
theorem dX9_runs_11 : decode cX9_runs 11 = .ok (.aload_n 0, 1) := by decide +kernel
theorem dX9_runs_12 : decode cX9_runs 12 = .ok (.getfield 41, 3) := by decide +kernel
theorem dX9_runs_15 : decode cX9_runs 15 = .ok (.getfield 95, 3) := by decide +kernel
theorem dX9_runs_18 : decode cX9_runs 18 = .ok (.getfield 106, 3) := by decide +kernel
theorem dX9_runs_21 : decode cX9_runs 21 = .ok (.getfield 168, 3) := by decide +kernel
theorem dX9_runs_24 : decode cX9_runs 24 = .ok (.iload_n 1, 1) := by decide +kernel
theorem dX9_runs_25 : decode cX9_runs 25 = .ok (.laload, 1) := by decide +kernel
theorem dX9_runs_26 : decode cX9_runs 26 = .ok (.lstore 4, 2) := by decide +kernel
theorem dX9_runs_28 : decode cX9_runs 28 = .ok (.lload 4, 2) := by decide +kernel
theorem dX9_runs_30 : decode cX9_runs 30 = .ok (.lload 4, 2) := by decide +kernel
theorem dX9_runs_32 : decode cX9_runs 32 = .ok (.iconst 1, 1) := by decide +kernel
theorem dX9_runs_33 : decode cX9_runs 33 = .ok (.lshl, 1) := by decide +kernel
theorem dX9_runs_34 : decode cX9_runs 34 = .ok (.ldc2_w 172, 3) := by decide +kernel
theorem dX9_runs_37 : decode cX9_runs 37 = .ok (.lxor, 1) := by decide +kernel
theorem dX9_runs_38 : decode cX9_runs 38 = .ok (.land, 1) := by decide +kernel
theorem dX9_runs_39 : decode cX9_runs 39 = .ok (.lstore 6, 2) := by decide +kernel
theorem dX9_runs_41 : decode cX9_runs 41 = .ok (.lload 6, 2) := by decide +kernel
theorem dX9_runs_43 : decode cX9_runs 43 = .ok (.invokestatic 174, 3) := by decide +kernel
theorem dX9_runs_46 : decode cX9_runs 46 = .ok (.istore 8, 2) := by decide +kernel
theorem dX9_runs_48 : decode cX9_runs 48 = .ok (.iload_n 2, 1) := by decide +kernel
theorem dX9_runs_49 : decode cX9_runs 49 = .ok (.iconst (-1), 1) := by decide +kernel
theorem dX9_runs_50 : decode cX9_runs 50 = .ok (.if_icmp .ne 6, 3) := by decide +kernel
theorem dX9_runs_53 : decode cX9_runs 53 = .ok (.iload 8, 2) := by decide +kernel
theorem dX9_runs_55 : decode cX9_runs 55 = .ok (.ireturn, 1) := by decide +kernel
theorem dX9_runs_56 : decode cX9_runs 56 = .ok (.iload_n 2, 1) := by decide +kernel
theorem dX9_runs_57 : decode cX9_runs 57 = .ok (.ifCond .lt 18, 3) := by decide +kernel
theorem dX9_runs_60 : decode cX9_runs 60 = .ok (.iload_n 2, 1) := by decide +kernel
theorem dX9_runs_61 : decode cX9_runs 61 = .ok (.iload 8, 2) := by decide +kernel
theorem dX9_runs_63 : decode cX9_runs 63 = .ok (.if_icmp .ge 12, 3) := by decide +kernel
theorem dX9_runs_66 : decode cX9_runs 66 = .ok (.iload_n 3, 1) := by decide +kernel
theorem dX9_runs_67 : decode cX9_runs 67 = .ok (.ifCond .lt 8, 3) := by decide +kernel
theorem dX9_runs_70 : decode cX9_runs 70 = .ok (.iload_n 3, 1) := by decide +kernel
theorem dX9_runs_71 : decode cX9_runs 71 = .ok (.iconst 1, 1) := by decide +kernel
theorem dX9_runs_72 : decode cX9_runs 72 = .ok (.if_icmp .le 6, 3) := by decide +kernel
theorem dX9_runs_75 : decode cX9_runs 75 = .ok (.bipush (-2), 2) := by decide +kernel
theorem dX9_runs_77 : decode cX9_runs 77 = .ok (.ireturn, 1) := by decide +kernel
theorem dX9_runs_78 : decode cX9_runs 78 = .ok (.iload_n 3, 1) := by decide +kernel
theorem dX9_runs_79 : decode cX9_runs 79 = .ok (.ifCond .ne 8, 3) := by decide +kernel
theorem dX9_runs_82 : decode cX9_runs 82 = .ok (.lload 6, 2) := by decide +kernel
theorem dX9_runs_84 : decode cX9_runs 84 = .ok (.goto 14, 3) := by decide +kernel
theorem dX9_runs_87 : decode cX9_runs 87 = .ok (.lload 4, 2) := by decide +kernel
theorem dX9_runs_89 : decode cX9_runs 89 = .ok (.lload 4, 2) := by decide +kernel
theorem dX9_runs_91 : decode cX9_runs 91 = .ok (.iconst 1, 1) := by decide +kernel
theorem dX9_runs_92 : decode cX9_runs 92 = .ok (.lushr, 1) := by decide +kernel
theorem dX9_runs_93 : decode cX9_runs 93 = .ok (.ldc2_w 172, 3) := by decide +kernel
theorem dX9_runs_96 : decode cX9_runs 96 = .ok (.lxor, 1) := by decide +kernel
theorem dX9_runs_97 : decode cX9_runs 97 = .ok (.land, 1) := by decide +kernel
theorem dX9_runs_98 : decode cX9_runs 98 = .ok (.iload_n 2, 1) := by decide +kernel
theorem dX9_runs_99 : decode cX9_runs 99 = .ok (.invokestatic 180, 3) := by decide +kernel
theorem dX9_runs_102 : decode cX9_runs 102 = .ok (.ireturn, 1) := by decide +kernel
theorem dX9_moved_0 : decode cX9_moved 0 = .ok (.aload_n 0, 1) := by decide +kernel
theorem dX9_moved_1 : decode cX9_moved 1 = .ok (.iload_n 1, 1) := by decide +kernel
theorem dX9_moved_2 : decode cX9_moved 2 = .ok (.iload_n 2, 1) := by decide +kernel
theorem dX9_moved_3 : decode cX9_moved 3 = .ok (.invokevirtual 184, 3) := by decide +kernel
theorem dX9_moved_6 : decode cX9_moved 6 = .ok (.ifCond .eq 22, 3) := by decide +kernel
theorem dX9_moved_9 : decode cX9_moved 9 = .ok (.aload_n 0, 1) := by decide +kernel
theorem dX9_moved_10 : decode cX9_moved 10 = .ok (.getfield 41, 3) := by decide +kernel
theorem dX9_moved_13 : decode cX9_moved 13 = .ok (.getfield 95, 3) := by decide +kernel
theorem dX9_moved_16 : decode cX9_moved 16 = .ok (.getfield 188, 3) := by decide +kernel
theorem dX9_moved_19 : decode cX9_moved 19 = .ok (.iload_n 1, 1) := by decide +kernel
theorem dX9_moved_20 : decode cX9_moved 20 = .ok (.iconst 5, 1) := by decide +kernel
theorem dX9_moved_21 : decode cX9_moved 21 = .ok (.imul, 1) := by decide +kernel
theorem dX9_moved_22 : decode cX9_moved 22 = .ok (.iload_n 2, 1) := by decide +kernel
theorem dX9_moved_23 : decode cX9_moved 23 = .ok (.iadd, 1) := by decide +kernel
theorem dX9_moved_24 : decode cX9_moved 24 = .ok (.iaload, 1) := by decide +kernel
theorem dX9_moved_25 : decode cX9_moved 25 = .ok (.goto 4, 3) := by decide +kernel
theorem dX9_moved_28 : decode cX9_moved 28 = .ok (.iconst (-1), 1) := by decide +kernel
theorem dX9_moved_29 : decode cX9_moved 29 = .ok (.ireturn, 1) := by decide +kernel
theorem dX9_told_0 : decode cX9_told 0 = .ok (.aload_n 0, 1) := by decide +kernel
theorem dX9_told_1 : decode cX9_told 1 = .ok (.iload_n 1, 1) := by decide +kernel
theorem dX9_told_2 : decode cX9_told 2 = .ok (.invokevirtual 137, 3) := by decide +kernel
theorem dX9_told_5 : decode cX9_told 5 = .ok (.ifCond .eq 10, 3) := by decide +kernel
theorem dX9_told_8 : decode cX9_told 8 = .ok (.iload_n 2, 1) := by decide +kernel
theorem dX9_told_9 : decode cX9_told 9 = .ok (.invokestatic 191, 3) := by decide +kernel
theorem dX9_told_12 : decode cX9_told 12 = .ok (.ifCond .ne 5, 3) := by decide +kernel
theorem dX9_told_15 : decode cX9_told 15 = .ok (.iconst (-1), 1) := by decide +kernel
theorem dX9_told_16 : decode cX9_told 16 = .ok (.ireturn, 1) := by decide +kernel
theorem dX9_told_17 : decode cX9_told 17 = .ok (.aload_n 0, 1) := by decide +kernel
theorem dX9_told_18 : decode cX9_told 18 = .ok (.getfield 41, 3) := by decide +kernel
theorem dX9_told_21 : decode cX9_told 21 = .ok (.getfield 95, 3) := by decide +kernel
theorem dX9_told_24 : decode cX9_told 24 = .ok (.getfield 194, 3) := by decide +kernel
theorem dX9_told_27 : decode cX9_told 27 = .ok (.iload_n 1, 1) := by decide +kernel
theorem dX9_told_28 : decode cX9_told 28 = .ok (.iconst 3, 1) := by decide +kernel
theorem dX9_told_29 : decode cX9_told 29 = .ok (.imul, 1) := by decide +kernel
theorem dX9_told_30 : decode cX9_told 30 = .ok (.iload_n 2, 1) := by decide +kernel
theorem dX9_told_31 : decode cX9_told 31 = .ok (.iadd, 1) := by decide +kernel
theorem dX9_told_32 : decode cX9_told 32 = .ok (.iaload, 1) := by decide +kernel
theorem dX9_told_33 : decode cX9_told 33 = .ok (.ireturn, 1) := by decide +kernel
theorem dX9_hour_0 : decode cX9_hour 0 = .ok (.aload_n 0, 1) := by decide +kernel
theorem dX9_hour_1 : decode cX9_hour 1 = .ok (.getfield 41, 3) := by decide +kernel
theorem dX9_hour_4 : decode cX9_hour 4 = .ok (.getfield 115, 3) := by decide +kernel
theorem dX9_hour_7 : decode cX9_hour 7 = .ok (.ifCond .eq 22, 3) := by decide +kernel
theorem dX9_hour_10 : decode cX9_hour 10 = .ok (.aload_n 0, 1) := by decide +kernel
theorem dX9_hour_11 : decode cX9_hour 11 = .ok (.getfield 41, 3) := by decide +kernel
theorem dX9_hour_14 : decode cX9_hour 14 = .ok (.getfield 95, 3) := by decide +kernel
theorem dX9_hour_17 : decode cX9_hour 17 = .ok (.getfield 106, 3) := by decide +kernel
theorem dX9_hour_20 : decode cX9_hour 20 = .ok (.getfield 197, 3) := by decide +kernel
theorem dX9_hour_23 : decode cX9_hour 23 = .ok (.sipush 999, 3) := by decide +kernel
theorem dX9_hour_26 : decode cX9_hour 26 = .ok (.if_icmp .lt 5, 3) := by decide +kernel
theorem dX9_hour_29 : decode cX9_hour 29 = .ok (.iconst (-1), 1) := by decide +kernel
theorem dX9_hour_30 : decode cX9_hour 30 = .ok (.ireturn, 1) := by decide +kernel
theorem dX9_hour_31 : decode cX9_hour 31 = .ok (.aload_n 0, 1) := by decide +kernel
theorem dX9_hour_32 : decode cX9_hour 32 = .ok (.getfield 52, 3) := by decide +kernel
theorem dX9_hour_35 : decode cX9_hour 35 = .ok (.aload_n 0, 1) := by decide +kernel
theorem dX9_hour_36 : decode cX9_hour 36 = .ok (.getfield 41, 3) := by decide +kernel
theorem dX9_hour_39 : decode cX9_hour 39 = .ok (.getfield 95, 3) := by decide +kernel
theorem dX9_hour_42 : decode cX9_hour 42 = .ok (.invokevirtual 200, 3) := by decide +kernel
theorem dX9_hour_45 : decode cX9_hour 45 = .ok (.aload_n 0, 1) := by decide +kernel
theorem dX9_hour_46 : decode cX9_hour 46 = .ok (.getfield 41, 3) := by decide +kernel
theorem dX9_hour_49 : decode cX9_hour 49 = .ok (.getfield 95, 3) := by decide +kernel
theorem dX9_hour_52 : decode cX9_hour 52 = .ok (.aload_n 0, 1) := by decide +kernel
theorem dX9_hour_53 : decode cX9_hour 53 = .ok (.invokevirtual 203, 3) := by decide +kernel
theorem dX9_hour_56 : decode cX9_hour 56 = .ok (.invokevirtual 206, 3) := by decide +kernel
theorem dX9_hour_59 : decode cX9_hour 59 = .ok (.istore_n 1, 1) := by decide +kernel
theorem dX9_hour_60 : decode cX9_hour 60 = .ok (.iload_n 1, 1) := by decide +kernel
theorem dX9_hour_61 : decode cX9_hour 61 = .ok (.iconst (-1), 1) := by decide +kernel
theorem dX9_hour_62 : decode cX9_hour 62 = .ok (.if_icmp .ne 8, 3) := by decide +kernel
theorem dX9_hour_65 : decode cX9_hour 65 = .ok (.bipush (-2), 2) := by decide +kernel
theorem dX9_hour_67 : decode cX9_hour 67 = .ok (.goto 4, 3) := by decide +kernel
theorem dX9_hour_70 : decode cX9_hour 70 = .ok (.iload_n 1, 1) := by decide +kernel
theorem dX9_hour_71 : decode cX9_hour 71 = .ok (.ireturn, 1) := by decide +kernel
theorem dX9_move_0 : decode cX9_move 0 = .ok (.aload_n 0, 1) := by decide +kernel
theorem dX9_move_1 : decode cX9_move 1 = .ok (.getfield 41, 3) := by decide +kernel
theorem dX9_move_4 : decode cX9_move 4 = .ok (.getfield 95, 3) := by decide +kernel
theorem dX9_move_7 : decode cX9_move 7 = .ok (.astore 4, 2) := by decide +kernel
theorem dX9_move_9 : decode cX9_move 9 = .ok (.aload_n 0, 1) := by decide +kernel
theorem dX9_move_10 : decode cX9_move 10 = .ok (.iload_n 1, 1) := by decide +kernel
theorem dX9_move_11 : decode cX9_move 11 = .ok (.iload_n 2, 1) := by decide +kernel
theorem dX9_move_12 : decode cX9_move 12 = .ok (.invokevirtual 184, 3) := by decide +kernel
theorem dX9_move_15 : decode cX9_move 15 = .ok (.ifCond .eq 24, 3) := by decide +kernel
theorem dX9_move_18 : decode cX9_move 18 = .ok (.iload_n 3, 1) := by decide +kernel
theorem dX9_move_19 : decode cX9_move 19 = .ok (.invokestatic 210, 3) := by decide +kernel
theorem dX9_move_22 : decode cX9_move 22 = .ok (.ifCond .eq 17, 3) := by decide +kernel
theorem dX9_move_25 : decode cX9_move 25 = .ok (.iload_n 3, 1) := by decide +kernel
theorem dX9_move_26 : decode cX9_move 26 = .ok (.aload 4, 2) := by decide +kernel
theorem dX9_move_28 : decode cX9_move 28 = .ok (.getfield 106, 3) := by decide +kernel
theorem dX9_move_31 : decode cX9_move 31 = .ok (.getfield 213, 3) := by decide +kernel
theorem dX9_move_34 : decode cX9_move 34 = .ok (.iload_n 1, 1) := by decide +kernel
theorem dX9_move_35 : decode cX9_move 35 = .ok (.iaload, 1) := by decide +kernel
theorem dX9_move_36 : decode cX9_move 36 = .ok (.if_icmp .le 5, 3) := by decide +kernel
theorem dX9_move_39 : decode cX9_move 39 = .ok (.iconst (-1), 1) := by decide +kernel
theorem dX9_move_40 : decode cX9_move 40 = .ok (.ireturn, 1) := by decide +kernel
theorem dX9_move_41 : decode cX9_move 41 = .ok (.aload_n 0, 1) := by decide +kernel
theorem dX9_move_42 : decode cX9_move 42 = .ok (.getfield 52, 3) := by decide +kernel
theorem dX9_move_45 : decode cX9_move 45 = .ok (.aload 4, 2) := by decide +kernel
theorem dX9_move_47 : decode cX9_move 47 = .ok (.invokevirtual 200, 3) := by decide +kernel
theorem dX9_move_50 : decode cX9_move 50 = .ok (.iconst 0, 1) := by decide +kernel
theorem dX9_move_51 : decode cX9_move 51 = .ok (.istore 5, 2) := by decide +kernel
theorem dX9_move_53 : decode cX9_move 53 = .ok (.iload 5, 2) := by decide +kernel
theorem dX9_move_55 : decode cX9_move 55 = .ok (.iload_n 3, 1) := by decide +kernel
theorem dX9_move_56 : decode cX9_move 56 = .ok (.if_icmp .ge 24, 3) := by decide +kernel
theorem dX9_move_59 : decode cX9_move 59 = .ok (.aload 4, 2) := by decide +kernel
theorem dX9_move_61 : decode cX9_move 61 = .ok (.aload 4, 2) := by decide +kernel
theorem dX9_move_63 : decode cX9_move 63 = .ok (.iload_n 1, 1) := by decide +kernel
theorem dX9_move_64 : decode cX9_move 64 = .ok (.iconst 1, 1) := by decide +kernel
theorem dX9_move_65 : decode cX9_move 65 = .ok (.invokevirtual 216, 3) := by decide +kernel
theorem dX9_move_68 : decode cX9_move 68 = .ok (.iload_n 1, 1) := by decide +kernel
theorem dX9_move_69 : decode cX9_move 69 = .ok (.iload_n 2, 1) := by decide +kernel
theorem dX9_move_70 : decode cX9_move 70 = .ok (.iconst 1, 1) := by decide +kernel
theorem dX9_move_71 : decode cX9_move 71 = .ok (.invokevirtual 219, 3) := by decide +kernel
theorem dX9_move_74 : decode cX9_move 74 = .ok (.iinc 5 1, 3) := by decide +kernel
theorem dX9_move_77 : decode cX9_move 77 = .ok (.goto (-24), 3) := by decide +kernel
theorem dX9_move_80 : decode cX9_move 80 = .ok (.aload 4, 2) := by decide +kernel
theorem dX9_move_82 : decode cX9_move 82 = .ok (.getfield 106, 3) := by decide +kernel
theorem dX9_move_85 : decode cX9_move 85 = .ok (.getfield 213, 3) := by decide +kernel
theorem dX9_move_88 : decode cX9_move 88 = .ok (.iload_n 2, 1) := by decide +kernel
theorem dX9_move_89 : decode cX9_move 89 = .ok (.iaload, 1) := by decide +kernel
theorem dX9_move_90 : decode cX9_move 90 = .ok (.ireturn, 1) := by decide +kernel
theorem dX9_lend_0 : decode cX9_lend 0 = .ok (.aload_n 0, 1) := by decide +kernel
theorem dX9_lend_1 : decode cX9_lend 1 = .ok (.getfield 41, 3) := by decide +kernel
theorem dX9_lend_4 : decode cX9_lend 4 = .ok (.getfield 95, 3) := by decide +kernel
theorem dX9_lend_7 : decode cX9_lend 7 = .ok (.astore 4, 2) := by decide +kernel
theorem dX9_lend_9 : decode cX9_lend 9 = .ok (.aload_n 0, 1) := by decide +kernel
theorem dX9_lend_10 : decode cX9_lend 10 = .ok (.iload_n 1, 1) := by decide +kernel
theorem dX9_lend_11 : decode cX9_lend 11 = .ok (.iload_n 2, 1) := by decide +kernel
theorem dX9_lend_12 : decode cX9_lend 12 = .ok (.invokevirtual 184, 3) := by decide +kernel
theorem dX9_lend_15 : decode cX9_lend 15 = .ok (.ifCond .eq 24, 3) := by decide +kernel
theorem dX9_lend_18 : decode cX9_lend 18 = .ok (.iload_n 3, 1) := by decide +kernel
theorem dX9_lend_19 : decode cX9_lend 19 = .ok (.invokestatic 210, 3) := by decide +kernel
theorem dX9_lend_22 : decode cX9_lend 22 = .ok (.ifCond .eq 17, 3) := by decide +kernel
theorem dX9_lend_25 : decode cX9_lend 25 = .ok (.iload_n 3, 1) := by decide +kernel
theorem dX9_lend_26 : decode cX9_lend 26 = .ok (.aload 4, 2) := by decide +kernel
theorem dX9_lend_28 : decode cX9_lend 28 = .ok (.getfield 106, 3) := by decide +kernel
theorem dX9_lend_31 : decode cX9_lend 31 = .ok (.iload_n 1, 1) := by decide +kernel
theorem dX9_lend_32 : decode cX9_lend 32 = .ok (.iconst 0, 1) := by decide +kernel
theorem dX9_lend_33 : decode cX9_lend 33 = .ok (.invokevirtual 147, 3) := by decide +kernel
theorem dX9_lend_36 : decode cX9_lend 36 = .ok (.if_icmp .le 5, 3) := by decide +kernel
theorem dX9_lend_39 : decode cX9_lend 39 = .ok (.iconst (-1), 1) := by decide +kernel
theorem dX9_lend_40 : decode cX9_lend 40 = .ok (.ireturn, 1) := by decide +kernel
theorem dX9_lend_41 : decode cX9_lend 41 = .ok (.aload_n 0, 1) := by decide +kernel
theorem dX9_lend_42 : decode cX9_lend 42 = .ok (.getfield 52, 3) := by decide +kernel
theorem dX9_lend_45 : decode cX9_lend 45 = .ok (.aload 4, 2) := by decide +kernel
theorem dX9_lend_47 : decode cX9_lend 47 = .ok (.invokevirtual 200, 3) := by decide +kernel
theorem dX9_lend_50 : decode cX9_lend 50 = .ok (.iconst 0, 1) := by decide +kernel
theorem dX9_lend_51 : decode cX9_lend 51 = .ok (.istore 5, 2) := by decide +kernel
theorem dX9_lend_53 : decode cX9_lend 53 = .ok (.iload 5, 2) := by decide +kernel
theorem dX9_lend_55 : decode cX9_lend 55 = .ok (.iload_n 3, 1) := by decide +kernel
theorem dX9_lend_56 : decode cX9_lend 56 = .ok (.if_icmp .ge 30, 3) := by decide +kernel
theorem dX9_lend_59 : decode cX9_lend 59 = .ok (.aload 4, 2) := by decide +kernel
theorem dX9_lend_61 : decode cX9_lend 61 = .ok (.aload 4, 2) := by decide +kernel
theorem dX9_lend_63 : decode cX9_lend 63 = .ok (.getfield 106, 3) := by decide +kernel
theorem dX9_lend_66 : decode cX9_lend 66 = .ok (.getfield 168, 3) := by decide +kernel
theorem dX9_lend_69 : decode cX9_lend 69 = .ok (.iload_n 1, 1) := by decide +kernel
theorem dX9_lend_70 : decode cX9_lend 70 = .ok (.laload, 1) := by decide +kernel
theorem dX9_lend_71 : decode cX9_lend 71 = .ok (.invokestatic 223, 3) := by decide +kernel
theorem dX9_lend_74 : decode cX9_lend 74 = .ok (.iload_n 1, 1) := by decide +kernel
theorem dX9_lend_75 : decode cX9_lend 75 = .ok (.iload_n 2, 1) := by decide +kernel
theorem dX9_lend_76 : decode cX9_lend 76 = .ok (.iconst 0, 1) := by decide +kernel
theorem dX9_lend_77 : decode cX9_lend 77 = .ok (.invokevirtual 219, 3) := by decide +kernel
theorem dX9_lend_80 : decode cX9_lend 80 = .ok (.iinc 5 1, 3) := by decide +kernel
theorem dX9_lend_83 : decode cX9_lend 83 = .ok (.goto (-30), 3) := by decide +kernel
theorem dX9_lend_86 : decode cX9_lend 86 = .ok (.aload 4, 2) := by decide +kernel
theorem dX9_lend_88 : decode cX9_lend 88 = .ok (.getfield 106, 3) := by decide +kernel
theorem dX9_lend_91 : decode cX9_lend 91 = .ok (.iload_n 2, 1) := by decide +kernel
theorem dX9_lend_92 : decode cX9_lend 92 = .ok (.iconst 0, 1) := by decide +kernel
theorem dX9_lend_93 : decode cX9_lend 93 = .ok (.invokevirtual 147, 3) := by decide +kernel
theorem dX9_lend_96 : decode cX9_lend 96 = .ok (.ireturn, 1) := by decide +kernel
theorem dX9_spoil_0 : decode cX9_spoil 0 = .ok (.aload_n 0, 1) := by decide +kernel
theorem dX9_spoil_1 : decode cX9_spoil 1 = .ok (.getfield 41, 3) := by decide +kernel
theorem dX9_spoil_4 : decode cX9_spoil 4 = .ok (.getfield 95, 3) := by decide +kernel
theorem dX9_spoil_7 : decode cX9_spoil 7 = .ok (.astore_n 2, 1) := by decide +kernel
theorem dX9_spoil_8 : decode cX9_spoil 8 = .ok (.aload_n 2, 1) := by decide +kernel
theorem dX9_spoil_9 : decode cX9_spoil 9 = .ok (.iload_n 1, 1) := by decide +kernel
theorem dX9_spoil_10 : decode cX9_spoil 10 = .ok (.invokevirtual 151, 3) := by decide +kernel
theorem dX9_spoil_13 : decode cX9_spoil 13 = .ok (.ifCond .eq 12, 3) := by decide +kernel
theorem dX9_spoil_16 : decode cX9_spoil 16 = .ok (.aload_n 2, 1) := by decide +kernel
theorem dX9_spoil_17 : decode cX9_spoil 17 = .ok (.iload_n 1, 1) := by decide +kernel
theorem dX9_spoil_18 : decode cX9_spoil 18 = .ok (.invokevirtual 158, 3) := by decide +kernel
theorem dX9_spoil_21 : decode cX9_spoil 21 = .ok (.iconst 2, 1) := by decide +kernel
theorem dX9_spoil_22 : decode cX9_spoil 22 = .ok (.if_icmp .ne 5, 3) := by decide +kernel
theorem dX9_spoil_25 : decode cX9_spoil 25 = .ok (.iconst (-1), 1) := by decide +kernel
theorem dX9_spoil_26 : decode cX9_spoil 26 = .ok (.ireturn, 1) := by decide +kernel
theorem dX9_spoil_27 : decode cX9_spoil 27 = .ok (.aload_n 0, 1) := by decide +kernel
theorem dX9_spoil_28 : decode cX9_spoil 28 = .ok (.getfield 52, 3) := by decide +kernel
theorem dX9_spoil_31 : decode cX9_spoil 31 = .ok (.aload_n 2, 1) := by decide +kernel
theorem dX9_spoil_32 : decode cX9_spoil 32 = .ok (.invokevirtual 200, 3) := by decide +kernel
theorem dX9_spoil_35 : decode cX9_spoil 35 = .ok (.aload_n 2, 1) := by decide +kernel
theorem dX9_spoil_36 : decode cX9_spoil 36 = .ok (.iload_n 1, 1) := by decide +kernel
theorem dX9_spoil_37 : decode cX9_spoil 37 = .ok (.invokevirtual 154, 3) := by decide +kernel
theorem dX9_spoil_40 : decode cX9_spoil 40 = .ok (.istore_n 3, 1) := by decide +kernel
theorem dX9_spoil_41 : decode cX9_spoil 41 = .ok (.aload_n 2, 1) := by decide +kernel
theorem dX9_spoil_42 : decode cX9_spoil 42 = .ok (.iload_n 1, 1) := by decide +kernel
theorem dX9_spoil_43 : decode cX9_spoil 43 = .ok (.iload_n 3, 1) := by decide +kernel
theorem dX9_spoil_44 : decode cX9_spoil 44 = .ok (.iconst 2, 1) := by decide +kernel
theorem dX9_spoil_45 : decode cX9_spoil 45 = .ok (.invokevirtual 226, 3) := by decide +kernel
theorem dX9_spoil_48 : decode cX9_spoil 48 = .ok (.aload_n 2, 1) := by decide +kernel
theorem dX9_spoil_49 : decode cX9_spoil 49 = .ok (.getfield 106, 3) := by decide +kernel
theorem dX9_spoil_52 : decode cX9_spoil 52 = .ok (.getfield 230, 3) := by decide +kernel
theorem dX9_spoil_55 : decode cX9_spoil 55 = .ok (.iload_n 3, 1) := by decide +kernel
theorem dX9_spoil_56 : decode cX9_spoil 56 = .ok (.iaload, 1) := by decide +kernel
theorem dX9_spoil_57 : decode cX9_spoil 57 = .ok (.ireturn, 1) := by decide +kernel
theorem dX9_find_0 : decode cX9_find 0 = .ok (.aload_n 0, 1) := by decide +kernel
theorem dX9_find_1 : decode cX9_find 1 = .ok (.getfield 41, 3) := by decide +kernel
theorem dX9_find_4 : decode cX9_find 4 = .ok (.getfield 95, 3) := by decide +kernel
theorem dX9_find_7 : decode cX9_find 7 = .ok (.astore_n 2, 1) := by decide +kernel
theorem dX9_find_8 : decode cX9_find 8 = .ok (.aload_n 2, 1) := by decide +kernel
theorem dX9_find_9 : decode cX9_find 9 = .ok (.iload_n 1, 1) := by decide +kernel
theorem dX9_find_10 : decode cX9_find 10 = .ok (.invokevirtual 151, 3) := by decide +kernel
theorem dX9_find_13 : decode cX9_find 13 = .ok (.ifCond .eq 12, 3) := by decide +kernel
theorem dX9_find_16 : decode cX9_find 16 = .ok (.aload_n 2, 1) := by decide +kernel
theorem dX9_find_17 : decode cX9_find 17 = .ok (.iload_n 1, 1) := by decide +kernel
theorem dX9_find_18 : decode cX9_find 18 = .ok (.invokevirtual 158, 3) := by decide +kernel
theorem dX9_find_21 : decode cX9_find 21 = .ok (.iconst 2, 1) := by decide +kernel
theorem dX9_find_22 : decode cX9_find 22 = .ok (.if_icmp .eq 5, 3) := by decide +kernel
theorem dX9_find_25 : decode cX9_find 25 = .ok (.iconst (-1), 1) := by decide +kernel
theorem dX9_find_26 : decode cX9_find 26 = .ok (.ireturn, 1) := by decide +kernel
theorem dX9_find_27 : decode cX9_find 27 = .ok (.aload_n 0, 1) := by decide +kernel
theorem dX9_find_28 : decode cX9_find 28 = .ok (.getfield 52, 3) := by decide +kernel
theorem dX9_find_31 : decode cX9_find 31 = .ok (.aload_n 2, 1) := by decide +kernel
theorem dX9_find_32 : decode cX9_find 32 = .ok (.invokevirtual 200, 3) := by decide +kernel
theorem dX9_find_35 : decode cX9_find 35 = .ok (.aload_n 2, 1) := by decide +kernel
theorem dX9_find_36 : decode cX9_find 36 = .ok (.iload_n 1, 1) := by decide +kernel
theorem dX9_find_37 : decode cX9_find 37 = .ok (.invokevirtual 154, 3) := by decide +kernel
theorem dX9_find_40 : decode cX9_find 40 = .ok (.istore_n 3, 1) := by decide +kernel
theorem dX9_find_41 : decode cX9_find 41 = .ok (.aload_n 2, 1) := by decide +kernel
theorem dX9_find_42 : decode cX9_find 42 = .ok (.iload_n 1, 1) := by decide +kernel
theorem dX9_find_43 : decode cX9_find 43 = .ok (.iload_n 3, 1) := by decide +kernel
theorem dX9_find_44 : decode cX9_find 44 = .ok (.iconst 1, 1) := by decide +kernel
theorem dX9_find_45 : decode cX9_find 45 = .ok (.invokevirtual 226, 3) := by decide +kernel
theorem dX9_find_48 : decode cX9_find 48 = .ok (.aload_n 2, 1) := by decide +kernel
theorem dX9_find_49 : decode cX9_find 49 = .ok (.getfield 106, 3) := by decide +kernel
theorem dX9_find_52 : decode cX9_find 52 = .ok (.getfield 213, 3) := by decide +kernel
theorem dX9_find_55 : decode cX9_find 55 = .ok (.iload_n 3, 1) := by decide +kernel
theorem dX9_find_56 : decode cX9_find 56 = .ok (.iaload, 1) := by decide +kernel
theorem dX9_find_57 : decode cX9_find 57 = .ok (.ireturn, 1) := by decide +kernel
theorem dX9_send_0 : decode cX9_send 0 = .ok (.aload_n 0, 1) := by decide +kernel
theorem dX9_send_1 : decode cX9_send 1 = .ok (.getfield 41, 3) := by decide +kernel
theorem dX9_send_4 : decode cX9_send 4 = .ok (.getfield 95, 3) := by decide +kernel
theorem dX9_send_7 : decode cX9_send 7 = .ok (.getfield 106, 3) := by decide +kernel
theorem dX9_send_10 : decode cX9_send 10 = .ok (.astore 4, 2) := by decide +kernel
theorem dX9_send_12 : decode cX9_send 12 = .ok (.aload_n 0, 1) := by decide +kernel
theorem dX9_send_13 : decode cX9_send 13 = .ok (.iload_n 1, 1) := by decide +kernel
theorem dX9_send_14 : decode cX9_send 14 = .ok (.iload_n 2, 1) := by decide +kernel
theorem dX9_send_15 : decode cX9_send 15 = .ok (.invokevirtual 184, 3) := by decide +kernel
theorem dX9_send_18 : decode cX9_send 18 = .ok (.ifCond .eq 21, 3) := by decide +kernel
theorem dX9_send_21 : decode cX9_send 21 = .ok (.iload_n 3, 1) := by decide +kernel
theorem dX9_send_22 : decode cX9_send 22 = .ok (.invokestatic 210, 3) := by decide +kernel
theorem dX9_send_25 : decode cX9_send 25 = .ok (.ifCond .eq 14, 3) := by decide +kernel
theorem dX9_send_28 : decode cX9_send 28 = .ok (.iload_n 3, 1) := by decide +kernel
theorem dX9_send_29 : decode cX9_send 29 = .ok (.aload 4, 2) := by decide +kernel
theorem dX9_send_31 : decode cX9_send 31 = .ok (.getfield 233, 3) := by decide +kernel
theorem dX9_send_34 : decode cX9_send 34 = .ok (.iload_n 1, 1) := by decide +kernel
theorem dX9_send_35 : decode cX9_send 35 = .ok (.iaload, 1) := by decide +kernel
theorem dX9_send_36 : decode cX9_send 36 = .ok (.if_icmp .le 5, 3) := by decide +kernel
theorem dX9_send_39 : decode cX9_send 39 = .ok (.iconst (-1), 1) := by decide +kernel
theorem dX9_send_40 : decode cX9_send 40 = .ok (.ireturn, 1) := by decide +kernel
theorem dX9_send_41 : decode cX9_send 41 = .ok (.aload_n 0, 1) := by decide +kernel
theorem dX9_send_42 : decode cX9_send 42 = .ok (.getfield 52, 3) := by decide +kernel
theorem dX9_send_45 : decode cX9_send 45 = .ok (.aload_n 0, 1) := by decide +kernel
theorem dX9_send_46 : decode cX9_send 46 = .ok (.getfield 41, 3) := by decide +kernel
theorem dX9_send_49 : decode cX9_send 49 = .ok (.getfield 95, 3) := by decide +kernel
theorem dX9_send_52 : decode cX9_send 52 = .ok (.invokevirtual 200, 3) := by decide +kernel
theorem dX9_send_55 : decode cX9_send 55 = .ok (.aload 4, 2) := by decide +kernel
theorem dX9_send_57 : decode cX9_send 57 = .ok (.getfield 233, 3) := by decide +kernel
theorem dX9_send_60 : decode cX9_send 60 = .ok (.iload_n 1, 1) := by decide +kernel
theorem dX9_send_61 : decode cX9_send 61 = .ok (.dup2, 1) := by decide +kernel
theorem dX9_send_62 : decode cX9_send 62 = .ok (.iaload, 1) := by decide +kernel
theorem dX9_send_63 : decode cX9_send 63 = .ok (.iload_n 3, 1) := by decide +kernel
theorem dX9_send_64 : decode cX9_send 64 = .ok (.isub, 1) := by decide +kernel
theorem dX9_send_65 : decode cX9_send 65 = .ok (.iastore, 1) := by decide +kernel
theorem dX9_send_66 : decode cX9_send 66 = .ok (.aload 4, 2) := by decide +kernel
theorem dX9_send_68 : decode cX9_send 68 = .ok (.getfield 233, 3) := by decide +kernel
theorem dX9_send_71 : decode cX9_send 71 = .ok (.iload_n 2, 1) := by decide +kernel
theorem dX9_send_72 : decode cX9_send 72 = .ok (.dup2, 1) := by decide +kernel
theorem dX9_send_73 : decode cX9_send 73 = .ok (.iaload, 1) := by decide +kernel
theorem dX9_send_74 : decode cX9_send 74 = .ok (.iload_n 3, 1) := by decide +kernel
theorem dX9_send_75 : decode cX9_send 75 = .ok (.iadd, 1) := by decide +kernel
theorem dX9_send_76 : decode cX9_send 76 = .ok (.iastore, 1) := by decide +kernel
theorem dX9_send_77 : decode cX9_send 77 = .ok (.aload 4, 2) := by decide +kernel
theorem dX9_send_79 : decode cX9_send 79 = .ok (.getfield 233, 3) := by decide +kernel
theorem dX9_send_82 : decode cX9_send 82 = .ok (.iload_n 2, 1) := by decide +kernel
theorem dX9_send_83 : decode cX9_send 83 = .ok (.iaload, 1) := by decide +kernel
theorem dX9_send_84 : decode cX9_send 84 = .ok (.ireturn, 1) := by decide +kernel
theorem dX9_tell_0 : decode cX9_tell 0 = .ok (.aload_n 0, 1) := by decide +kernel
theorem dX9_tell_1 : decode cX9_tell 1 = .ok (.getfield 41, 3) := by decide +kernel
theorem dX9_tell_4 : decode cX9_tell 4 = .ok (.getfield 95, 3) := by decide +kernel
theorem dX9_tell_7 : decode cX9_tell 7 = .ok (.astore 4, 2) := by decide +kernel
theorem dX9_tell_9 : decode cX9_tell 9 = .ok (.aload_n 0, 1) := by decide +kernel
theorem dX9_tell_10 : decode cX9_tell 10 = .ok (.iload_n 1, 1) := by decide +kernel
theorem dX9_tell_11 : decode cX9_tell 11 = .ok (.invokevirtual 137, 3) := by decide +kernel
theorem dX9_tell_14 : decode cX9_tell 14 = .ok (.ifCond .eq 29, 3) := by decide +kernel
theorem dX9_tell_17 : decode cX9_tell 17 = .ok (.iload_n 2, 1) := by decide +kernel
theorem dX9_tell_18 : decode cX9_tell 18 = .ok (.invokestatic 191, 3) := by decide +kernel
theorem dX9_tell_21 : decode cX9_tell 21 = .ok (.ifCond .eq 22, 3) := by decide +kernel
theorem dX9_tell_24 : decode cX9_tell 24 = .ok (.iload_n 3, 1) := by decide +kernel
theorem dX9_tell_25 : decode cX9_tell 25 = .ok (.ifCond .lt 18, 3) := by decide +kernel
theorem dX9_tell_28 : decode cX9_tell 28 = .ok (.iload_n 3, 1) := by decide +kernel
theorem dX9_tell_29 : decode cX9_tell 29 = .ok (.bipush 60, 2) := by decide +kernel
theorem dX9_tell_31 : decode cX9_tell 31 = .ok (.if_icmp .gt 12, 3) := by decide +kernel
theorem dX9_tell_34 : decode cX9_tell 34 = .ok (.aload 4, 2) := by decide +kernel
theorem dX9_tell_36 : decode cX9_tell 36 = .ok (.iload_n 1, 1) := by decide +kernel
theorem dX9_tell_37 : decode cX9_tell 37 = .ok (.invokevirtual 144, 3) := by decide +kernel
theorem dX9_tell_40 : decode cX9_tell 40 = .ok (.ifCond .eq 5, 3) := by decide +kernel
theorem dX9_tell_43 : decode cX9_tell 43 = .ok (.iconst (-1), 1) := by decide +kernel
theorem dX9_tell_44 : decode cX9_tell 44 = .ok (.ireturn, 1) := by decide +kernel
theorem dX9_tell_45 : decode cX9_tell 45 = .ok (.aload_n 0, 1) := by decide +kernel
theorem dX9_tell_46 : decode cX9_tell 46 = .ok (.getfield 52, 3) := by decide +kernel
theorem dX9_tell_49 : decode cX9_tell 49 = .ok (.aload 4, 2) := by decide +kernel
theorem dX9_tell_51 : decode cX9_tell 51 = .ok (.invokevirtual 200, 3) := by decide +kernel
theorem dX9_tell_54 : decode cX9_tell 54 = .ok (.aload 4, 2) := by decide +kernel
theorem dX9_tell_56 : decode cX9_tell 56 = .ok (.getfield 194, 3) := by decide +kernel
theorem dX9_tell_59 : decode cX9_tell 59 = .ok (.iload_n 1, 1) := by decide +kernel
theorem dX9_tell_60 : decode cX9_tell 60 = .ok (.iconst 3, 1) := by decide +kernel
theorem dX9_tell_61 : decode cX9_tell 61 = .ok (.imul, 1) := by decide +kernel
theorem dX9_tell_62 : decode cX9_tell 62 = .ok (.iload_n 2, 1) := by decide +kernel
theorem dX9_tell_63 : decode cX9_tell 63 = .ok (.iadd, 1) := by decide +kernel
theorem dX9_tell_64 : decode cX9_tell 64 = .ok (.iload_n 3, 1) := by decide +kernel
theorem dX9_tell_65 : decode cX9_tell 65 = .ok (.iastore, 1) := by decide +kernel
theorem dX9_tell_66 : decode cX9_tell 66 = .ok (.aload 4, 2) := by decide +kernel
theorem dX9_tell_68 : decode cX9_tell 68 = .ok (.iload_n 1, 1) := by decide +kernel
theorem dX9_tell_69 : decode cX9_tell 69 = .ok (.invokevirtual 236, 3) := by decide +kernel
theorem dX9_tell_72 : decode cX9_tell 72 = .ok (.ireturn, 1) := by decide +kernel
theorem dX9_recount_0 : decode cX9_recount 0 = .ok (.aload_n 0, 1) := by decide +kernel
theorem dX9_recount_1 : decode cX9_recount 1 = .ok (.getfield 41, 3) := by decide +kernel
theorem dX9_recount_4 : decode cX9_recount 4 = .ok (.getfield 95, 3) := by decide +kernel
theorem dX9_recount_7 : decode cX9_recount 7 = .ok (.astore_n 2, 1) := by decide +kernel
theorem dX9_recount_8 : decode cX9_recount 8 = .ok (.aload_n 0, 1) := by decide +kernel
theorem dX9_recount_9 : decode cX9_recount 9 = .ok (.iload_n 1, 1) := by decide +kernel
theorem dX9_recount_10 : decode cX9_recount 10 = .ok (.invokevirtual 137, 3) := by decide +kernel
theorem dX9_recount_13 : decode cX9_recount 13 = .ok (.ifCond .eq 11, 3) := by decide +kernel
theorem dX9_recount_16 : decode cX9_recount 16 = .ok (.aload_n 2, 1) := by decide +kernel
theorem dX9_recount_17 : decode cX9_recount 17 = .ok (.iload_n 1, 1) := by decide +kernel
theorem dX9_recount_18 : decode cX9_recount 18 = .ok (.invokevirtual 144, 3) := by decide +kernel
theorem dX9_recount_21 : decode cX9_recount 21 = .ok (.ifCond .eq 5, 3) := by decide +kernel
theorem dX9_recount_24 : decode cX9_recount 24 = .ok (.iconst (-1), 1) := by decide +kernel
theorem dX9_recount_25 : decode cX9_recount 25 = .ok (.ireturn, 1) := by decide +kernel
theorem dX9_recount_26 : decode cX9_recount 26 = .ok (.aload_n 0, 1) := by decide +kernel
theorem dX9_recount_27 : decode cX9_recount 27 = .ok (.getfield 52, 3) := by decide +kernel
theorem dX9_recount_30 : decode cX9_recount 30 = .ok (.aload_n 2, 1) := by decide +kernel
theorem dX9_recount_31 : decode cX9_recount 31 = .ok (.invokevirtual 200, 3) := by decide +kernel
theorem dX9_recount_34 : decode cX9_recount 34 = .ok (.iconst 0, 1) := by decide +kernel
theorem dX9_recount_35 : decode cX9_recount 35 = .ok (.istore_n 3, 1) := by decide +kernel
theorem dX9_recount_36 : decode cX9_recount 36 = .ok (.iload_n 3, 1) := by decide +kernel
theorem dX9_recount_37 : decode cX9_recount 37 = .ok (.iconst 2, 1) := by decide +kernel
theorem dX9_recount_38 : decode cX9_recount 38 = .ok (.if_icmp .gt 28, 3) := by decide +kernel
theorem dX9_recount_41 : decode cX9_recount 41 = .ok (.aload_n 2, 1) := by decide +kernel
theorem dX9_recount_42 : decode cX9_recount 42 = .ok (.getfield 194, 3) := by decide +kernel
theorem dX9_recount_45 : decode cX9_recount 45 = .ok (.iload_n 1, 1) := by decide +kernel
theorem dX9_recount_46 : decode cX9_recount 46 = .ok (.iconst 3, 1) := by decide +kernel
theorem dX9_recount_47 : decode cX9_recount 47 = .ok (.imul, 1) := by decide +kernel
theorem dX9_recount_48 : decode cX9_recount 48 = .ok (.iload_n 3, 1) := by decide +kernel
theorem dX9_recount_49 : decode cX9_recount 49 = .ok (.iadd, 1) := by decide +kernel
theorem dX9_recount_50 : decode cX9_recount 50 = .ok (.aload_n 2, 1) := by decide +kernel
theorem dX9_recount_51 : decode cX9_recount 51 = .ok (.getfield 106, 3) := by decide +kernel
theorem dX9_recount_54 : decode cX9_recount 54 = .ok (.iload_n 1, 1) := by decide +kernel
theorem dX9_recount_55 : decode cX9_recount 55 = .ok (.iload_n 3, 1) := by decide +kernel
theorem dX9_recount_56 : decode cX9_recount 56 = .ok (.invokevirtual 147, 3) := by decide +kernel
theorem dX9_recount_59 : decode cX9_recount 59 = .ok (.iastore, 1) := by decide +kernel
theorem dX9_recount_60 : decode cX9_recount 60 = .ok (.iinc 3 1, 3) := by decide +kernel
theorem dX9_recount_63 : decode cX9_recount 63 = .ok (.goto (-27), 3) := by decide +kernel
theorem dX9_recount_66 : decode cX9_recount 66 = .ok (.aload_n 2, 1) := by decide +kernel
theorem dX9_recount_67 : decode cX9_recount 67 = .ok (.dup, 1) := by decide +kernel
theorem dX9_recount_68 : decode cX9_recount 68 = .ok (.getfield 239, 3) := by decide +kernel
theorem dX9_recount_71 : decode cX9_recount 71 = .ok (.iconst 1, 1) := by decide +kernel
theorem dX9_recount_72 : decode cX9_recount 72 = .ok (.iload_n 1, 1) := by decide +kernel
theorem dX9_recount_73 : decode cX9_recount 73 = .ok (.ishl, 1) := by decide +kernel
theorem dX9_recount_74 : decode cX9_recount 74 = .ok (.ior, 1) := by decide +kernel
theorem dX9_recount_75 : decode cX9_recount 75 = .ok (.putfield 239, 3) := by decide +kernel
theorem dX9_recount_78 : decode cX9_recount 78 = .ok (.aload_n 2, 1) := by decide +kernel
theorem dX9_recount_79 : decode cX9_recount 79 = .ok (.getfield 239, 3) := by decide +kernel
theorem dX9_recount_82 : decode cX9_recount 82 = .ok (.invokestatic 242, 3) := by decide +kernel
theorem dX9_recount_85 : decode cX9_recount 85 = .ok (.ireturn, 1) := by decide +kernel
theorem dX9_undo_0 : decode cX9_undo 0 = .ok (.aload_n 0, 1) := by decide +kernel
theorem dX9_undo_1 : decode cX9_undo 1 = .ok (.getfield 52, 3) := by decide +kernel
theorem dX9_undo_4 : decode cX9_undo 4 = .ok (.aload_n 0, 1) := by decide +kernel
theorem dX9_undo_5 : decode cX9_undo 5 = .ok (.getfield 41, 3) := by decide +kernel
theorem dX9_undo_8 : decode cX9_undo 8 = .ok (.getfield 95, 3) := by decide +kernel
theorem dX9_undo_11 : decode cX9_undo 11 = .ok (.invokevirtual 246, 3) := by decide +kernel
theorem dX9_undo_14 : decode cX9_undo 14 = .ok (.ifCond .eq 13, 3) := by decide +kernel
theorem dX9_undo_17 : decode cX9_undo 17 = .ok (.aload_n 0, 1) := by decide +kernel
theorem dX9_undo_18 : decode cX9_undo 18 = .ok (.getfield 52, 3) := by decide +kernel
theorem dX9_undo_21 : decode cX9_undo 21 = .ok (.getfield 250, 3) := by decide +kernel
theorem dX9_undo_24 : decode cX9_undo 24 = .ok (.goto 4, 3) := by decide +kernel
theorem dX9_undo_27 : decode cX9_undo 27 = .ok (.iconst (-1), 1) := by decide +kernel
theorem dX9_undo_28 : decode cX9_undo 28 = .ok (.ireturn, 1) := by decide +kernel
theorem dX9_way_0 : decode cX9_way 0 = .ok (.aload_n 0, 1) := by decide +kernel
theorem dX9_way_1 : decode cX9_way 1 = .ok (.getfield 41, 3) := by decide +kernel
theorem dX9_way_4 : decode cX9_way 4 = .ok (.getfield 95, 3) := by decide +kernel
theorem dX9_way_7 : decode cX9_way 7 = .ok (.iload_n 1, 1) := by decide +kernel
theorem dX9_way_8 : decode cX9_way 8 = .ok (.invokevirtual 151, 3) := by decide +kernel
theorem dX9_way_11 : decode cX9_way 11 = .ok (.ifCond .eq 7, 3) := by decide +kernel
theorem dX9_way_14 : decode cX9_way 14 = .ok (.iload_n 2, 1) := by decide +kernel
theorem dX9_way_15 : decode cX9_way 15 = .ok (.ifCond .ge 5, 3) := by decide +kernel
theorem dX9_way_18 : decode cX9_way 18 = .ok (.iconst (-1), 1) := by decide +kernel
theorem dX9_way_19 : decode cX9_way 19 = .ok (.ireturn, 1) := by decide +kernel
theorem dX9_way_20 : decode cX9_way 20 = .ok (.aload_n 0, 1) := by decide +kernel
theorem dX9_way_21 : decode cX9_way 21 = .ok (.getfield 41, 3) := by decide +kernel
theorem dX9_way_24 : decode cX9_way 24 = .ok (.getfield 95, 3) := by decide +kernel
theorem dX9_way_27 : decode cX9_way 27 = .ok (.iload_n 1, 1) := by decide +kernel
theorem dX9_way_28 : decode cX9_way 28 = .ok (.iload_n 2, 1) := by decide +kernel
theorem dX9_way_29 : decode cX9_way 29 = .ok (.invokevirtual 253, 3) := by decide +kernel
theorem dX9_way_32 : decode cX9_way 32 = .ok (.ireturn, 1) := by decide +kernel
theorem dX9_balance_0 : decode cX9_balance 0 = .ok (.aload_n 0, 1) := by decide +kernel
theorem dX9_balance_1 : decode cX9_balance 1 = .ok (.iload_n 1, 1) := by decide +kernel
theorem dX9_balance_2 : decode cX9_balance 2 = .ok (.invokevirtual 137, 3) := by decide +kernel
theorem dX9_balance_5 : decode cX9_balance 5 = .ok (.ifCond .ne 5, 3) := by decide +kernel
theorem dX9_balance_8 : decode cX9_balance 8 = .ok (.iconst (-1), 1) := by decide +kernel
theorem dX9_balance_9 : decode cX9_balance 9 = .ok (.ireturn, 1) := by decide +kernel
theorem dX9_balance_10 : decode cX9_balance 10 = .ok (.aload_n 0, 1) := by decide +kernel
theorem dX9_balance_11 : decode cX9_balance 11 = .ok (.getfield 41, 3) := by decide +kernel
theorem dX9_balance_14 : decode cX9_balance 14 = .ok (.getfield 95, 3) := by decide +kernel
theorem dX9_balance_17 : decode cX9_balance 17 = .ok (.iload_n 1, 1) := by decide +kernel
theorem dX9_balance_18 : decode cX9_balance 18 = .ok (.invokevirtual 236, 3) := by decide +kernel
theorem dX9_balance_21 : decode cX9_balance 21 = .ok (.iconst 3, 1) := by decide +kernel
theorem dX9_balance_22 : decode cX9_balance 22 = .ok (.if_icmp .ge 8, 3) := by decide +kernel
theorem dX9_balance_25 : decode cX9_balance 25 = .ok (.bipush (-2), 2) := by decide +kernel
theorem dX9_balance_27 : decode cX9_balance 27 = .ok (.goto 18, 3) := by decide +kernel
theorem dX9_balance_30 : decode cX9_balance 30 = .ok (.aload_n 0, 1) := by decide +kernel
theorem dX9_balance_31 : decode cX9_balance 31 = .ok (.getfield 41, 3) := by decide +kernel
theorem dX9_balance_34 : decode cX9_balance 34 = .ok (.getfield 95, 3) := by decide +kernel
theorem dX9_balance_37 : decode cX9_balance 37 = .ok (.iload_n 1, 1) := by decide +kernel
theorem dX9_balance_38 : decode cX9_balance 38 = .ok (.invokevirtual 256, 3) := by decide +kernel
theorem dX9_balance_41 : decode cX9_balance 41 = .ok (.sipush 1000, 3) := by decide +kernel
theorem dX9_balance_44 : decode cX9_balance 44 = .ok (.iadd, 1) := by decide +kernel
theorem dX9_balance_45 : decode cX9_balance 45 = .ok (.ireturn, 1) := by decide +kernel
theorem dX9_slips_0 : decode cX9_slips 0 = .ok (.aload_n 0, 1) := by decide +kernel
theorem dX9_slips_1 : decode cX9_slips 1 = .ok (.getfield 41, 3) := by decide +kernel
theorem dX9_slips_4 : decode cX9_slips 4 = .ok (.getfield 95, 3) := by decide +kernel
theorem dX9_slips_7 : decode cX9_slips 7 = .ok (.getfield 106, 3) := by decide +kernel
theorem dX9_slips_10 : decode cX9_slips 10 = .ok (.getfield 125, 3) := by decide +kernel
theorem dX9_slips_13 : decode cX9_slips 13 = .ok (.istore_n 2, 1) := by decide +kernel
theorem dX9_slips_14 : decode cX9_slips 14 = .ok (.iload_n 2, 1) := by decide +kernel
theorem dX9_slips_15 : decode cX9_slips 15 = .ok (.ifCond .eq 14, 3) := by decide +kernel
theorem dX9_slips_18 : decode cX9_slips 18 = .ok (.iload_n 1, 1) := by decide +kernel
theorem dX9_slips_19 : decode cX9_slips 19 = .ok (.ifCond .lt 10, 3) := by decide +kernel
theorem dX9_slips_22 : decode cX9_slips 22 = .ok (.iload_n 1, 1) := by decide +kernel
theorem dX9_slips_23 : decode cX9_slips 23 = .ok (.iconst 3, 1) := by decide +kernel
theorem dX9_slips_24 : decode cX9_slips 24 = .ok (.iload_n 2, 1) := by decide +kernel
theorem dX9_slips_25 : decode cX9_slips 25 = .ok (.iadd, 1) := by decide +kernel
theorem dX9_slips_26 : decode cX9_slips 26 = .ok (.if_icmp .lt 6, 3) := by decide +kernel
theorem dX9_slips_29 : decode cX9_slips 29 = .ok (.bipush (-3), 2) := by decide +kernel
theorem dX9_slips_31 : decode cX9_slips 31 = .ok (.ireturn, 1) := by decide +kernel
theorem dX9_slips_32 : decode cX9_slips 32 = .ok (.aload_n 0, 1) := by decide +kernel
theorem dX9_slips_33 : decode cX9_slips 33 = .ok (.iconst (-1), 1) := by decide +kernel
theorem dX9_slips_34 : decode cX9_slips 34 = .ok (.invokevirtual 259, 3) := by decide +kernel
theorem dX9_slips_37 : decode cX9_slips 37 = .ok (.ifCond .ne 6, 3) := by decide +kernel
theorem dX9_slips_40 : decode cX9_slips 40 = .ok (.bipush (-2), 2) := by decide +kernel
theorem dX9_slips_42 : decode cX9_slips 42 = .ok (.ireturn, 1) := by decide +kernel
theorem dX9_slips_43 : decode cX9_slips 43 = .ok (.iload_n 1, 1) := by decide +kernel
theorem dX9_slips_44 : decode cX9_slips 44 = .ok (.tableswitch 52 0 2 #[28, 36, 44], 28) := by decide +kernel
theorem dX9_slips_72 : decode cX9_slips 72 = .ok (.aload_n 0, 1) := by decide +kernel
theorem dX9_slips_73 : decode cX9_slips 73 = .ok (.getfield 66, 3) := by decide +kernel
theorem dX9_slips_76 : decode cX9_slips 76 = .ok (.getfield 262, 3) := by decide +kernel
theorem dX9_slips_79 : decode cX9_slips 79 = .ok (.ireturn, 1) := by decide +kernel
theorem dX9_slips_80 : decode cX9_slips 80 = .ok (.aload_n 0, 1) := by decide +kernel
theorem dX9_slips_81 : decode cX9_slips 81 = .ok (.getfield 66, 3) := by decide +kernel
theorem dX9_slips_84 : decode cX9_slips 84 = .ok (.getfield 265, 3) := by decide +kernel
theorem dX9_slips_87 : decode cX9_slips 87 = .ok (.ireturn, 1) := by decide +kernel
theorem dX9_slips_88 : decode cX9_slips 88 = .ok (.aload_n 0, 1) := by decide +kernel
theorem dX9_slips_89 : decode cX9_slips 89 = .ok (.getfield 66, 3) := by decide +kernel
theorem dX9_slips_92 : decode cX9_slips 92 = .ok (.getfield 268, 3) := by decide +kernel
theorem dX9_slips_95 : decode cX9_slips 95 = .ok (.ireturn, 1) := by decide +kernel
theorem dX9_slips_96 : decode cX9_slips 96 = .ok (.aload_n 0, 1) := by decide +kernel
theorem dX9_slips_97 : decode cX9_slips 97 = .ok (.getfield 66, 3) := by decide +kernel
theorem dX9_slips_100 : decode cX9_slips 100 = .ok (.getfield 271, 3) := by decide +kernel
theorem dX9_slips_103 : decode cX9_slips 103 = .ok (.iload_n 1, 1) := by decide +kernel
theorem dX9_slips_104 : decode cX9_slips 104 = .ok (.iconst 3, 1) := by decide +kernel
theorem dX9_slips_105 : decode cX9_slips 105 = .ok (.isub, 1) := by decide +kernel
theorem dX9_slips_106 : decode cX9_slips 106 = .ok (.iaload, 1) := by decide +kernel
theorem dX9_slips_107 : decode cX9_slips 107 = .ok (.bipush 100, 2) := by decide +kernel
theorem dX9_slips_109 : decode cX9_slips 109 = .ok (.iadd, 1) := by decide +kernel
theorem dX9_slips_110 : decode cX9_slips 110 = .ok (.ireturn, 1) := by decide +kernel
theorem dX9_must_0 : decode cX9_must 0 = .ok (.aload_n 0, 1) := by decide +kernel
theorem dX9_must_1 : decode cX9_must 1 = .ok (.getfield 41, 3) := by decide +kernel
theorem dX9_must_4 : decode cX9_must 4 = .ok (.getfield 95, 3) := by decide +kernel
theorem dX9_must_7 : decode cX9_must 7 = .ok (.getfield 106, 3) := by decide +kernel
theorem dX9_must_10 : decode cX9_must 10 = .ok (.getfield 125, 3) := by decide +kernel
theorem dX9_must_13 : decode cX9_must 13 = .ok (.ifCond .ne 6, 3) := by decide +kernel
theorem dX9_must_16 : decode cX9_must 16 = .ok (.bipush (-3), 2) := by decide +kernel
theorem dX9_must_18 : decode cX9_must 18 = .ok (.ireturn, 1) := by decide +kernel
theorem dX9_must_19 : decode cX9_must 19 = .ok (.aload_n 0, 1) := by decide +kernel
theorem dX9_must_20 : decode cX9_must 20 = .ok (.iconst (-1), 1) := by decide +kernel
theorem dX9_must_21 : decode cX9_must 21 = .ok (.invokevirtual 259, 3) := by decide +kernel
theorem dX9_must_24 : decode cX9_must 24 = .ok (.ifCond .eq 10, 3) := by decide +kernel
theorem dX9_must_27 : decode cX9_must 27 = .ok (.aload_n 0, 1) := by decide +kernel
theorem dX9_must_28 : decode cX9_must 28 = .ok (.invokevirtual 274, 3) := by decide +kernel
theorem dX9_must_31 : decode cX9_must 31 = .ok (.goto 5, 3) := by decide +kernel
theorem dX9_must_34 : decode cX9_must 34 = .ok (.bipush (-2), 2) := by decide +kernel
theorem dX9_must_36 : decode cX9_must 36 = .ok (.ireturn, 1) := by decide +kernel
theorem dX9_free_0 : decode cX9_free 0 = .ok (.aload_n 0, 1) := by decide +kernel
theorem dX9_free_1 : decode cX9_free 1 = .ok (.getfield 41, 3) := by decide +kernel
theorem dX9_free_4 : decode cX9_free 4 = .ok (.getfield 95, 3) := by decide +kernel
theorem dX9_free_7 : decode cX9_free 7 = .ok (.getfield 106, 3) := by decide +kernel
theorem dX9_free_10 : decode cX9_free 10 = .ok (.getfield 125, 3) := by decide +kernel
theorem dX9_free_13 : decode cX9_free 13 = .ok (.istore_n 1, 1) := by decide +kernel
theorem dX9_free_14 : decode cX9_free 14 = .ok (.iload_n 1, 1) := by decide +kernel
theorem dX9_free_15 : decode cX9_free 15 = .ok (.ifCond .ne 6, 3) := by decide +kernel
theorem dX9_free_18 : decode cX9_free 18 = .ok (.bipush (-3), 2) := by decide +kernel
theorem dX9_free_20 : decode cX9_free 20 = .ok (.ireturn, 1) := by decide +kernel
theorem dX9_free_21 : decode cX9_free 21 = .ok (.aload_n 0, 1) := by decide +kernel
theorem dX9_free_22 : decode cX9_free 22 = .ok (.iconst (-1), 1) := by decide +kernel
theorem dX9_free_23 : decode cX9_free 23 = .ok (.invokevirtual 259, 3) := by decide +kernel
theorem dX9_free_26 : decode cX9_free 26 = .ok (.ifCond .eq 18, 3) := by decide +kernel
theorem dX9_free_29 : decode cX9_free 29 = .ok (.iconst 1, 1) := by decide +kernel
theorem dX9_free_30 : decode cX9_free 30 = .ok (.iload_n 1, 1) := by decide +kernel
theorem dX9_free_31 : decode cX9_free 31 = .ok (.ishl, 1) := by decide +kernel
theorem dX9_free_32 : decode cX9_free 32 = .ok (.iconst 1, 1) := by decide +kernel
theorem dX9_free_33 : decode cX9_free 33 = .ok (.isub, 1) := by decide +kernel
theorem dX9_free_34 : decode cX9_free 34 = .ok (.aload_n 0, 1) := by decide +kernel
theorem dX9_free_35 : decode cX9_free 35 = .ok (.invokevirtual 274, 3) := by decide +kernel
theorem dX9_free_38 : decode cX9_free 38 = .ok (.iconst (-1), 1) := by decide +kernel
theorem dX9_free_39 : decode cX9_free 39 = .ok (.ixor, 1) := by decide +kernel
theorem dX9_free_40 : decode cX9_free 40 = .ok (.iand, 1) := by decide +kernel
theorem dX9_free_41 : decode cX9_free 41 = .ok (.goto 5, 3) := by decide +kernel
theorem dX9_free_44 : decode cX9_free 44 = .ok (.bipush (-2), 2) := by decide +kernel
theorem dX9_free_46 : decode cX9_free 46 = .ok (.ireturn, 1) := by decide +kernel
theorem dX9_leaves_0 : decode cX9_leaves 0 = .ok (.aload_n 0, 1) := by decide +kernel
theorem dX9_leaves_1 : decode cX9_leaves 1 = .ok (.iload_n 1, 1) := by decide +kernel
theorem dX9_leaves_2 : decode cX9_leaves 2 = .ok (.invokevirtual 137, 3) := by decide +kernel
theorem dX9_leaves_5 : decode cX9_leaves 5 = .ok (.ifCond .eq 17, 3) := by decide +kernel
theorem dX9_leaves_8 : decode cX9_leaves 8 = .ok (.aload_n 0, 1) := by decide +kernel
theorem dX9_leaves_9 : decode cX9_leaves 9 = .ok (.getfield 41, 3) := by decide +kernel
theorem dX9_leaves_12 : decode cX9_leaves 12 = .ok (.getfield 95, 3) := by decide +kernel
theorem dX9_leaves_15 : decode cX9_leaves 15 = .ok (.iload_n 1, 1) := by decide +kernel
theorem dX9_leaves_16 : decode cX9_leaves 16 = .ok (.invokevirtual 144, 3) := by decide +kernel
theorem dX9_leaves_19 : decode cX9_leaves 19 = .ok (.ifCond .eq 5, 3) := by decide +kernel
theorem dX9_leaves_22 : decode cX9_leaves 22 = .ok (.iconst (-1), 1) := by decide +kernel
theorem dX9_leaves_23 : decode cX9_leaves 23 = .ok (.ireturn, 1) := by decide +kernel
theorem dX9_leaves_24 : decode cX9_leaves 24 = .ok (.aload_n 0, 1) := by decide +kernel
theorem dX9_leaves_25 : decode cX9_leaves 25 = .ok (.iload_n 1, 1) := by decide +kernel
theorem dX9_leaves_26 : decode cX9_leaves 26 = .ok (.invokevirtual 259, 3) := by decide +kernel
theorem dX9_leaves_29 : decode cX9_leaves 29 = .ok (.ifCond .eq 13, 3) := by decide +kernel
theorem dX9_leaves_32 : decode cX9_leaves 32 = .ok (.aload_n 0, 1) := by decide +kernel
theorem dX9_leaves_33 : decode cX9_leaves 33 = .ok (.getfield 66, 3) := by decide +kernel
theorem dX9_leaves_36 : decode cX9_leaves 36 = .ok (.getfield 262, 3) := by decide +kernel
theorem dX9_leaves_39 : decode cX9_leaves 39 = .ok (.goto 5, 3) := by decide +kernel
theorem dX9_leaves_42 : decode cX9_leaves 42 = .ok (.bipush (-2), 2) := by decide +kernel
theorem dX9_leaves_44 : decode cX9_leaves 44 = .ok (.ireturn, 1) := by decide +kernel
theorem dX9_ahead_0 : decode cX9_ahead 0 = .ok (.aload_n 0, 1) := by decide +kernel
theorem dX9_ahead_1 : decode cX9_ahead 1 = .ok (.iload_n 1, 1) := by decide +kernel
theorem dX9_ahead_2 : decode cX9_ahead 2 = .ok (.invokevirtual 137, 3) := by decide +kernel
theorem dX9_ahead_5 : decode cX9_ahead 5 = .ok (.ifCond .eq 22, 3) := by decide +kernel
theorem dX9_ahead_8 : decode cX9_ahead 8 = .ok (.iload_n 2, 1) := by decide +kernel
theorem dX9_ahead_9 : decode cX9_ahead 9 = .ok (.ifCond .lt 18, 3) := by decide +kernel
theorem dX9_ahead_12 : decode cX9_ahead 12 = .ok (.iload_n 2, 1) := by decide +kernel
theorem dX9_ahead_13 : decode cX9_ahead 13 = .ok (.bipush 100, 2) := by decide +kernel
theorem dX9_ahead_15 : decode cX9_ahead 15 = .ok (.if_icmp .gt 12, 3) := by decide +kernel
theorem dX9_ahead_18 : decode cX9_ahead 18 = .ok (.iload_n 3, 1) := by decide +kernel
theorem dX9_ahead_19 : decode cX9_ahead 19 = .ok (.ifCond .lt 8, 3) := by decide +kernel
theorem dX9_ahead_22 : decode cX9_ahead 22 = .ok (.iload_n 3, 1) := by decide +kernel
theorem dX9_ahead_23 : decode cX9_ahead 23 = .ok (.iconst 3, 1) := by decide +kernel
theorem dX9_ahead_24 : decode cX9_ahead 24 = .ok (.if_icmp .le 5, 3) := by decide +kernel
theorem dX9_ahead_27 : decode cX9_ahead 27 = .ok (.iconst (-1), 1) := by decide +kernel
theorem dX9_ahead_28 : decode cX9_ahead 28 = .ok (.ireturn, 1) := by decide +kernel
theorem dX9_ahead_29 : decode cX9_ahead 29 = .ok (.aload_n 0, 1) := by decide +kernel
theorem dX9_ahead_30 : decode cX9_ahead 30 = .ok (.getfield 59, 3) := by decide +kernel
theorem dX9_ahead_33 : decode cX9_ahead 33 = .ok (.aload_n 0, 1) := by decide +kernel
theorem dX9_ahead_34 : decode cX9_ahead 34 = .ok (.getfield 41, 3) := by decide +kernel
theorem dX9_ahead_37 : decode cX9_ahead 37 = .ok (.getfield 95, 3) := by decide +kernel
theorem dX9_ahead_40 : decode cX9_ahead 40 = .ok (.getfield 106, 3) := by decide +kernel
theorem dX9_ahead_43 : decode cX9_ahead 43 = .ok (.invokevirtual 111, 3) := by decide +kernel
theorem dX9_ahead_46 : decode cX9_ahead 46 = .ok (.aload_n 0, 1) := by decide +kernel
theorem dX9_ahead_47 : decode cX9_ahead 47 = .ok (.getfield 59, 3) := by decide +kernel
theorem dX9_ahead_50 : decode cX9_ahead 50 = .ok (.aload_n 0, 1) := by decide +kernel
theorem dX9_ahead_51 : decode cX9_ahead 51 = .ok (.invokevirtual 203, 3) := by decide +kernel
theorem dX9_ahead_54 : decode cX9_ahead 54 = .ok (.iload_n 2, 1) := by decide +kernel
theorem dX9_ahead_55 : decode cX9_ahead 55 = .ok (.invokevirtual 278, 3) := by decide +kernel
theorem dX9_ahead_58 : decode cX9_ahead 58 = .ok (.aload_n 0, 1) := by decide +kernel
theorem dX9_ahead_59 : decode cX9_ahead 59 = .ok (.getfield 59, 3) := by decide +kernel
theorem dX9_ahead_62 : decode cX9_ahead 62 = .ok (.iload_n 1, 1) := by decide +kernel
theorem dX9_ahead_63 : decode cX9_ahead 63 = .ok (.iload_n 3, 1) := by decide +kernel
theorem dX9_ahead_64 : decode cX9_ahead 64 = .ok (.invokevirtual 147, 3) := by decide +kernel
theorem dX9_ahead_67 : decode cX9_ahead 67 = .ok (.ireturn, 1) := by decide +kernel
theorem dX9_dry_0 : decode cX9_dry 0 = .ok (.aload_n 0, 1) := by decide +kernel
theorem dX9_dry_1 : decode cX9_dry 1 = .ok (.iload_n 1, 1) := by decide +kernel
theorem dX9_dry_2 : decode cX9_dry 2 = .ok (.invokevirtual 137, 3) := by decide +kernel
theorem dX9_dry_5 : decode cX9_dry 5 = .ok (.ifCond .ne 5, 3) := by decide +kernel
theorem dX9_dry_8 : decode cX9_dry 8 = .ok (.iconst (-1), 1) := by decide +kernel
theorem dX9_dry_9 : decode cX9_dry 9 = .ok (.ireturn, 1) := by decide +kernel
theorem dX9_dry_10 : decode cX9_dry 10 = .ok (.aload_n 0, 1) := by decide +kernel
theorem dX9_dry_11 : decode cX9_dry 11 = .ok (.invokevirtual 203, 3) := by decide +kernel
theorem dX9_dry_14 : decode cX9_dry 14 = .ok (.astore_n 2, 1) := by decide +kernel
theorem dX9_dry_15 : decode cX9_dry 15 = .ok (.aload_n 0, 1) := by decide +kernel
theorem dX9_dry_16 : decode cX9_dry 16 = .ok (.getfield 59, 3) := by decide +kernel
theorem dX9_dry_19 : decode cX9_dry 19 = .ok (.aload_n 0, 1) := by decide +kernel
theorem dX9_dry_20 : decode cX9_dry 20 = .ok (.getfield 41, 3) := by decide +kernel
theorem dX9_dry_23 : decode cX9_dry 23 = .ok (.getfield 95, 3) := by decide +kernel
theorem dX9_dry_26 : decode cX9_dry 26 = .ok (.getfield 106, 3) := by decide +kernel
theorem dX9_dry_29 : decode cX9_dry 29 = .ok (.invokevirtual 111, 3) := by decide +kernel
theorem dX9_dry_32 : decode cX9_dry 32 = .ok (.iconst 0, 1) := by decide +kernel
theorem dX9_dry_33 : decode cX9_dry 33 = .ok (.istore_n 3, 1) := by decide +kernel
theorem dX9_dry_34 : decode cX9_dry 34 = .ok (.iload_n 3, 1) := by decide +kernel
theorem dX9_dry_35 : decode cX9_dry 35 = .ok (.sipush 200, 3) := by decide +kernel
theorem dX9_dry_38 : decode cX9_dry 38 = .ok (.if_icmp .ge 53, 3) := by decide +kernel
theorem dX9_dry_41 : decode cX9_dry 41 = .ok (.aload_n 0, 1) := by decide +kernel
theorem dX9_dry_42 : decode cX9_dry 42 = .ok (.getfield 59, 3) := by decide +kernel
theorem dX9_dry_45 : decode cX9_dry 45 = .ok (.aload_n 2, 1) := by decide +kernel
theorem dX9_dry_46 : decode cX9_dry 46 = .ok (.invokevirtual 282, 3) := by decide +kernel
theorem dX9_dry_49 : decode cX9_dry 49 = .ok (.aload_n 0, 1) := by decide +kernel
theorem dX9_dry_50 : decode cX9_dry 50 = .ok (.getfield 59, 3) := by decide +kernel
theorem dX9_dry_53 : decode cX9_dry 53 = .ok (.getfield 233, 3) := by decide +kernel
theorem dX9_dry_56 : decode cX9_dry 56 = .ok (.iload_n 1, 1) := by decide +kernel
theorem dX9_dry_57 : decode cX9_dry 57 = .ok (.iaload, 1) := by decide +kernel
theorem dX9_dry_58 : decode cX9_dry 58 = .ok (.ifCond .le 27, 3) := by decide +kernel
theorem dX9_dry_61 : decode cX9_dry 61 = .ok (.aload_n 0, 1) := by decide +kernel
theorem dX9_dry_62 : decode cX9_dry 62 = .ok (.getfield 59, 3) := by decide +kernel
theorem dX9_dry_65 : decode cX9_dry 65 = .ok (.getfield 168, 3) := by decide +kernel
theorem dX9_dry_68 : decode cX9_dry 68 = .ok (.iload_n 1, 1) := by decide +kernel
theorem dX9_dry_69 : decode cX9_dry 69 = .ok (.laload, 1) := by decide +kernel
theorem dX9_dry_70 : decode cX9_dry 70 = .ok (.lconst 0, 1) := by decide +kernel
theorem dX9_dry_71 : decode cX9_dry 71 = .ok (.lcmp, 1) := by decide +kernel
theorem dX9_dry_72 : decode cX9_dry 72 = .ok (.ifCond .ne 13, 3) := by decide +kernel
theorem dX9_dry_75 : decode cX9_dry 75 = .ok (.aload_n 0, 1) := by decide +kernel
theorem dX9_dry_76 : decode cX9_dry 76 = .ok (.getfield 59, 3) := by decide +kernel
theorem dX9_dry_79 : decode cX9_dry 79 = .ok (.getfield 197, 3) := by decide +kernel
theorem dX9_dry_82 : decode cX9_dry 82 = .ok (.iconst 1, 1) := by decide +kernel
theorem dX9_dry_83 : decode cX9_dry 83 = .ok (.isub, 1) := by decide +kernel
theorem dX9_dry_84 : decode cX9_dry 84 = .ok (.ireturn, 1) := by decide +kernel
theorem dX9_dry_85 : decode cX9_dry 85 = .ok (.iinc 3 1, 3) := by decide +kernel
theorem dX9_dry_88 : decode cX9_dry 88 = .ok (.goto (-54), 3) := by decide +kernel
theorem dX9_dry_91 : decode cX9_dry 91 = .ok (.bipush (-2), 2) := by decide +kernel
theorem dX9_dry_93 : decode cX9_dry 93 = .ok (.ireturn, 1) := by decide +kernel
theorem dX9_served_0 : decode cX9_served 0 = .ok (.aload_n 0, 1) := by decide +kernel
theorem dX9_served_1 : decode cX9_served 1 = .ok (.getfield 41, 3) := by decide +kernel
theorem dX9_served_4 : decode cX9_served 4 = .ok (.getfield 115, 3) := by decide +kernel
theorem dX9_served_7 : decode cX9_served 7 = .ok (.ifCond .ne 5, 3) := by decide +kernel
theorem dX9_served_10 : decode cX9_served 10 = .ok (.iconst (-1), 1) := by decide +kernel
theorem dX9_served_11 : decode cX9_served 11 = .ok (.ireturn, 1) := by decide +kernel
theorem dX9_served_12 : decode cX9_served 12 = .ok (.aload_n 0, 1) := by decide +kernel
theorem dX9_served_13 : decode cX9_served 13 = .ok (.invokevirtual 203, 3) := by decide +kernel
theorem dX9_served_16 : decode cX9_served 16 = .ok (.astore_n 1, 1) := by decide +kernel
theorem dX9_served_17 : decode cX9_served 17 = .ok (.aload_n 0, 1) := by decide +kernel
theorem dX9_served_18 : decode cX9_served 18 = .ok (.getfield 59, 3) := by decide +kernel
theorem dX9_served_21 : decode cX9_served 21 = .ok (.aload_n 0, 1) := by decide +kernel
theorem dX9_served_22 : decode cX9_served 22 = .ok (.getfield 41, 3) := by decide +kernel
theorem dX9_served_25 : decode cX9_served 25 = .ok (.getfield 95, 3) := by decide +kernel
theorem dX9_served_28 : decode cX9_served 28 = .ok (.getfield 106, 3) := by decide +kernel
theorem dX9_served_31 : decode cX9_served 31 = .ok (.invokevirtual 111, 3) := by decide +kernel
theorem dX9_served_34 : decode cX9_served 34 = .ok (.iconst 0, 1) := by decide +kernel
theorem dX9_served_35 : decode cX9_served 35 = .ok (.istore_n 2, 1) := by decide +kernel
theorem dX9_served_36 : decode cX9_served 36 = .ok (.iload_n 2, 1) := by decide +kernel
theorem dX9_served_37 : decode cX9_served 37 = .ok (.sipush 200, 3) := by decide +kernel
theorem dX9_served_40 : decode cX9_served 40 = .ok (.if_icmp .ge 38, 3) := by decide +kernel
theorem dX9_served_43 : decode cX9_served 43 = .ok (.aload_n 0, 1) := by decide +kernel
theorem dX9_served_44 : decode cX9_served 44 = .ok (.getfield 59, 3) := by decide +kernel
theorem dX9_served_47 : decode cX9_served 47 = .ok (.aload_n 1, 1) := by decide +kernel
theorem dX9_served_48 : decode cX9_served 48 = .ok (.invokevirtual 282, 3) := by decide +kernel
theorem dX9_served_51 : decode cX9_served 51 = .ok (.aload_n 0, 1) := by decide +kernel
theorem dX9_served_52 : decode cX9_served 52 = .ok (.getfield 59, 3) := by decide +kernel
theorem dX9_served_55 : decode cX9_served 55 = .ok (.iconst 3, 1) := by decide +kernel
theorem dX9_served_56 : decode cX9_served 56 = .ok (.invokevirtual 286, 3) := by decide +kernel
theorem dX9_served_59 : decode cX9_served 59 = .ok (.ifCond .ne 13, 3) := by decide +kernel
theorem dX9_served_62 : decode cX9_served 62 = .ok (.aload_n 0, 1) := by decide +kernel
theorem dX9_served_63 : decode cX9_served 63 = .ok (.getfield 59, 3) := by decide +kernel
theorem dX9_served_66 : decode cX9_served 66 = .ok (.getfield 197, 3) := by decide +kernel
theorem dX9_served_69 : decode cX9_served 69 = .ok (.iconst 1, 1) := by decide +kernel
theorem dX9_served_70 : decode cX9_served 70 = .ok (.isub, 1) := by decide +kernel
theorem dX9_served_71 : decode cX9_served 71 = .ok (.ireturn, 1) := by decide +kernel
theorem dX9_served_72 : decode cX9_served 72 = .ok (.iinc 2 1, 3) := by decide +kernel
theorem dX9_served_75 : decode cX9_served 75 = .ok (.goto (-39), 3) := by decide +kernel
theorem dX9_served_78 : decode cX9_served 78 = .ok (.bipush (-2), 2) := by decide +kernel
theorem dX9_served_80 : decode cX9_served 80 = .ok (.ireturn, 1) := by decide +kernel
theorem dX9_more_0 : decode cX9_more 0 = .ok (.aload_n 0, 1) := by decide +kernel
theorem dX9_more_1 : decode cX9_more 1 = .ok (.iload_n 1, 1) := by decide +kernel
theorem dX9_more_2 : decode cX9_more 2 = .ok (.invokevirtual 137, 3) := by decide +kernel
theorem dX9_more_5 : decode cX9_more 5 = .ok (.ifCond .eq 23, 3) := by decide +kernel
theorem dX9_more_8 : decode cX9_more 8 = .ok (.iload_n 2, 1) := by decide +kernel
theorem dX9_more_9 : decode cX9_more 9 = .ok (.iconst 1, 1) := by decide +kernel
theorem dX9_more_10 : decode cX9_more 10 = .ok (.if_icmp .lt 18, 3) := by decide +kernel
theorem dX9_more_13 : decode cX9_more 13 = .ok (.iload_n 2, 1) := by decide +kernel
theorem dX9_more_14 : decode cX9_more 14 = .ok (.bipush 60, 2) := by decide +kernel
theorem dX9_more_16 : decode cX9_more 16 = .ok (.if_icmp .gt 12, 3) := by decide +kernel
theorem dX9_more_19 : decode cX9_more 19 = .ok (.iload_n 3, 1) := by decide +kernel
theorem dX9_more_20 : decode cX9_more 20 = .ok (.ifCond .lt 8, 3) := by decide +kernel
theorem dX9_more_23 : decode cX9_more 23 = .ok (.iload_n 3, 1) := by decide +kernel
theorem dX9_more_24 : decode cX9_more 24 = .ok (.iconst 1, 1) := by decide +kernel
theorem dX9_more_25 : decode cX9_more 25 = .ok (.if_icmp .le 6, 3) := by decide +kernel
theorem dX9_more_28 : decode cX9_more 28 = .ok (.bipush (-2), 2) := by decide +kernel
theorem dX9_more_30 : decode cX9_more 30 = .ok (.ireturn, 1) := by decide +kernel
theorem dX9_more_31 : decode cX9_more 31 = .ok (.iconst (-1), 1) := by decide +kernel
theorem dX9_more_32 : decode cX9_more 32 = .ok (.istore 4, 2) := by decide +kernel
theorem dX9_more_34 : decode cX9_more 34 = .ok (.aload_n 0, 1) := by decide +kernel
theorem dX9_more_35 : decode cX9_more 35 = .ok (.iload_n 1, 1) := by decide +kernel
theorem dX9_more_36 : decode cX9_more 36 = .ok (.iconst (-1), 1) := by decide +kernel
theorem dX9_more_37 : decode cX9_more 37 = .ok (.iload_n 2, 1) := by decide +kernel
theorem dX9_more_38 : decode cX9_more 38 = .ok (.invokevirtual 289, 3) := by decide +kernel
theorem dX9_more_41 : decode cX9_more 41 = .ok (.istore 5, 2) := by decide +kernel
theorem dX9_more_43 : decode cX9_more 43 = .ok (.iconst 0, 1) := by decide +kernel
theorem dX9_more_44 : decode cX9_more 44 = .ok (.istore 6, 2) := by decide +kernel
theorem dX9_more_46 : decode cX9_more 46 = .ok (.iload 6, 2) := by decide +kernel
theorem dX9_more_48 : decode cX9_more 48 = .ok (.aload_n 0, 1) := by decide +kernel
theorem dX9_more_49 : decode cX9_more 49 = .ok (.getfield 41, 3) := by decide +kernel
theorem dX9_more_52 : decode cX9_more 52 = .ok (.getfield 95, 3) := by decide +kernel
theorem dX9_more_55 : decode cX9_more 55 = .ok (.getfield 106, 3) := by decide +kernel
theorem dX9_more_58 : decode cX9_more 58 = .ok (.getfield 125, 3) := by decide +kernel
theorem dX9_more_61 : decode cX9_more 61 = .ok (.if_icmp .ge 45, 3) := by decide +kernel
theorem dX9_more_64 : decode cX9_more 64 = .ok (.iload 6, 2) := by decide +kernel
theorem dX9_more_66 : decode cX9_more 66 = .ok (.iload_n 1, 1) := by decide +kernel
theorem dX9_more_67 : decode cX9_more 67 = .ok (.if_icmp .ne 8, 3) := by decide +kernel
theorem dX9_more_70 : decode cX9_more 70 = .ok (.iload 5, 2) := by decide +kernel
theorem dX9_more_72 : decode cX9_more 72 = .ok (.goto 11, 3) := by decide +kernel
theorem dX9_more_75 : decode cX9_more 75 = .ok (.aload_n 0, 1) := by decide +kernel
theorem dX9_more_76 : decode cX9_more 76 = .ok (.iload_n 1, 1) := by decide +kernel
theorem dX9_more_77 : decode cX9_more 77 = .ok (.iload 6, 2) := by decide +kernel
theorem dX9_more_79 : decode cX9_more 79 = .ok (.iload_n 2, 1) := by decide +kernel
theorem dX9_more_80 : decode cX9_more 80 = .ok (.invokevirtual 289, 3) := by decide +kernel
theorem dX9_more_83 : decode cX9_more 83 = .ok (.istore 7, 2) := by decide +kernel
theorem dX9_more_85 : decode cX9_more 85 = .ok (.iload 7, 2) := by decide +kernel
theorem dX9_more_87 : decode cX9_more 87 = .ok (.iload 5, 2) := by decide +kernel
theorem dX9_more_89 : decode cX9_more 89 = .ok (.if_icmp .ge 11, 3) := by decide +kernel
theorem dX9_more_92 : decode cX9_more 92 = .ok (.iload 7, 2) := by decide +kernel
theorem dX9_more_94 : decode cX9_more 94 = .ok (.istore 5, 2) := by decide +kernel
theorem dX9_more_96 : decode cX9_more 96 = .ok (.iload 6, 2) := by decide +kernel
theorem dX9_more_98 : decode cX9_more 98 = .ok (.istore 4, 2) := by decide +kernel
theorem dX9_more_100 : decode cX9_more 100 = .ok (.iinc 6 1, 3) := by decide +kernel
theorem dX9_more_103 : decode cX9_more 103 = .ok (.goto (-57), 3) := by decide +kernel
theorem dX9_more_106 : decode cX9_more 106 = .ok (.iload_n 3, 1) := by decide +kernel
theorem dX9_more_107 : decode cX9_more 107 = .ok (.ifCond .ne 8, 3) := by decide +kernel
theorem dX9_more_110 : decode cX9_more 110 = .ok (.iload 4, 2) := by decide +kernel
theorem dX9_more_112 : decode cX9_more 112 = .ok (.goto 5, 3) := by decide +kernel
theorem dX9_more_115 : decode cX9_more 115 = .ok (.iload 5, 2) := by decide +kernel
theorem dX9_more_117 : decode cX9_more 117 = .ok (.ireturn, 1) := by decide +kernel
theorem dX9_crowds_0 : decode cX9_crowds 0 = .ok (.aload_n 0, 1) := by decide +kernel
theorem dX9_crowds_1 : decode cX9_crowds 1 = .ok (.iload_n 1, 1) := by decide +kernel
theorem dX9_crowds_2 : decode cX9_crowds 2 = .ok (.invokevirtual 137, 3) := by decide +kernel
theorem dX9_crowds_5 : decode cX9_crowds 5 = .ok (.ifCond .eq 12, 3) := by decide +kernel
theorem dX9_crowds_8 : decode cX9_crowds 8 = .ok (.iload_n 2, 1) := by decide +kernel
theorem dX9_crowds_9 : decode cX9_crowds 9 = .ok (.ifCond .lt 8, 3) := by decide +kernel
theorem dX9_crowds_12 : decode cX9_crowds 12 = .ok (.iload_n 2, 1) := by decide +kernel
theorem dX9_crowds_13 : decode cX9_crowds 13 = .ok (.iconst 1, 1) := by decide +kernel
theorem dX9_crowds_14 : decode cX9_crowds 14 = .ok (.if_icmp .le 5, 3) := by decide +kernel
theorem dX9_crowds_17 : decode cX9_crowds 17 = .ok (.iconst (-1), 1) := by decide +kernel
theorem dX9_crowds_18 : decode cX9_crowds 18 = .ok (.ireturn, 1) := by decide +kernel
theorem dX9_crowds_19 : decode cX9_crowds 19 = .ok (.iconst 0, 1) := by decide +kernel
theorem dX9_crowds_20 : decode cX9_crowds 20 = .ok (.istore_n 3, 1) := by decide +kernel
theorem dX9_crowds_21 : decode cX9_crowds 21 = .ok (.bipush (-2), 2) := by decide +kernel
theorem dX9_crowds_23 : decode cX9_crowds 23 = .ok (.istore 4, 2) := by decide +kernel
theorem dX9_crowds_25 : decode cX9_crowds 25 = .ok (.iconst 0, 1) := by decide +kernel
theorem dX9_crowds_26 : decode cX9_crowds 26 = .ok (.istore 5, 2) := by decide +kernel
theorem dX9_crowds_28 : decode cX9_crowds 28 = .ok (.iload 5, 2) := by decide +kernel
theorem dX9_crowds_30 : decode cX9_crowds 30 = .ok (.bipush 60, 2) := by decide +kernel
theorem dX9_crowds_32 : decode cX9_crowds 32 = .ok (.if_icmp .gt 68, 3) := by decide +kernel
theorem dX9_crowds_35 : decode cX9_crowds 35 = .ok (.aload_n 0, 1) := by decide +kernel
theorem dX9_crowds_36 : decode cX9_crowds 36 = .ok (.getfield 59, 3) := by decide +kernel
theorem dX9_crowds_39 : decode cX9_crowds 39 = .ok (.aload_n 0, 1) := by decide +kernel
theorem dX9_crowds_40 : decode cX9_crowds 40 = .ok (.getfield 41, 3) := by decide +kernel
theorem dX9_crowds_43 : decode cX9_crowds 43 = .ok (.getfield 103, 3) := by decide +kernel
theorem dX9_crowds_46 : decode cX9_crowds 46 = .ok (.invokevirtual 111, 3) := by decide +kernel
theorem dX9_crowds_49 : decode cX9_crowds 49 = .ok (.aload_n 0, 1) := by decide +kernel
theorem dX9_crowds_50 : decode cX9_crowds 50 = .ok (.getfield 59, 3) := by decide +kernel
theorem dX9_crowds_53 : decode cX9_crowds 53 = .ok (.getfield 233, 3) := by decide +kernel
theorem dX9_crowds_56 : decode cX9_crowds 56 = .ok (.iload_n 1, 1) := by decide +kernel
theorem dX9_crowds_57 : decode cX9_crowds 57 = .ok (.iload 5, 2) := by decide +kernel
theorem dX9_crowds_59 : decode cX9_crowds 59 = .ok (.iastore, 1) := by decide +kernel
theorem dX9_crowds_60 : decode cX9_crowds 60 = .ok (.aload_n 0, 1) := by decide +kernel
theorem dX9_crowds_61 : decode cX9_crowds 61 = .ok (.getfield 41, 3) := by decide +kernel
theorem dX9_crowds_64 : decode cX9_crowds 64 = .ok (.aload_n 0, 1) := by decide +kernel
theorem dX9_crowds_65 : decode cX9_crowds 65 = .ok (.getfield 59, 3) := by decide +kernel
theorem dX9_crowds_68 : decode cX9_crowds 68 = .ok (.aload_n 0, 1) := by decide +kernel
theorem dX9_crowds_69 : decode cX9_crowds 69 = .ok (.invokevirtual 203, 3) := by decide +kernel
theorem dX9_crowds_72 : decode cX9_crowds 72 = .ok (.invokevirtual 292, 3) := by decide +kernel
theorem dX9_crowds_75 : decode cX9_crowds 75 = .ok (.ifCond .eq 19, 3) := by decide +kernel
theorem dX9_crowds_78 : decode cX9_crowds 78 = .ok (.iload_n 3, 1) := by decide +kernel
theorem dX9_crowds_79 : decode cX9_crowds 79 = .ok (.ifCond .ne 8, 3) := by decide +kernel
theorem dX9_crowds_82 : decode cX9_crowds 82 = .ok (.iload 5, 2) := by decide +kernel
theorem dX9_crowds_84 : decode cX9_crowds 84 = .ok (.goto 5, 3) := by decide +kernel
theorem dX9_crowds_87 : decode cX9_crowds 87 = .ok (.iload 4, 2) := by decide +kernel
theorem dX9_crowds_89 : decode cX9_crowds 89 = .ok (.istore 4, 2) := by decide +kernel
theorem dX9_crowds_91 : decode cX9_crowds 91 = .ok (.iinc 3 1, 3) := by decide +kernel
theorem dX9_crowds_94 : decode cX9_crowds 94 = .ok (.iinc 5 1, 3) := by decide +kernel
theorem dX9_crowds_97 : decode cX9_crowds 97 = .ok (.goto (-69), 3) := by decide +kernel
theorem dX9_crowds_100 : decode cX9_crowds 100 = .ok (.iload_n 2, 1) := by decide +kernel
theorem dX9_crowds_101 : decode cX9_crowds 101 = .ok (.ifCond .ne 7, 3) := by decide +kernel
theorem dX9_crowds_104 : decode cX9_crowds 104 = .ok (.iload_n 3, 1) := by decide +kernel
theorem dX9_crowds_105 : decode cX9_crowds 105 = .ok (.goto 5, 3) := by decide +kernel
theorem dX9_crowds_108 : decode cX9_crowds 108 = .ok (.iload 4, 2) := by decide +kernel
theorem dX9_crowds_110 : decode cX9_crowds 110 = .ok (.ireturn, 1) := by decide +kernel
theorem dX9_rests_0 : decode cX9_rests 0 = .ok (.aload_n 0, 1) := by decide +kernel
theorem dX9_rests_1 : decode cX9_rests 1 = .ok (.iload_n 1, 1) := by decide +kernel
theorem dX9_rests_2 : decode cX9_rests 2 = .ok (.iload_n 2, 1) := by decide +kernel
theorem dX9_rests_3 : decode cX9_rests 3 = .ok (.invokevirtual 184, 3) := by decide +kernel
theorem dX9_rests_6 : decode cX9_rests 6 = .ok (.ifCond .eq 25, 3) := by decide +kernel
theorem dX9_rests_9 : decode cX9_rests 9 = .ok (.iload_n 3, 1) := by decide +kernel
theorem dX9_rests_10 : decode cX9_rests 10 = .ok (.iconst 1, 1) := by decide +kernel
theorem dX9_rests_11 : decode cX9_rests 11 = .ok (.if_icmp .lt 20, 3) := by decide +kernel
theorem dX9_rests_14 : decode cX9_rests 14 = .ok (.iload_n 3, 1) := by decide +kernel
theorem dX9_rests_15 : decode cX9_rests 15 = .ok (.bipush 20, 2) := by decide +kernel
theorem dX9_rests_17 : decode cX9_rests 17 = .ok (.if_icmp .gt 14, 3) := by decide +kernel
theorem dX9_rests_20 : decode cX9_rests 20 = .ok (.iload 4, 2) := by decide +kernel
theorem dX9_rests_22 : decode cX9_rests 22 = .ok (.ifCond .lt 9, 3) := by decide +kernel
theorem dX9_rests_25 : decode cX9_rests 25 = .ok (.iload 4, 2) := by decide +kernel
theorem dX9_rests_27 : decode cX9_rests 27 = .ok (.iconst 2, 1) := by decide +kernel
theorem dX9_rests_28 : decode cX9_rests 28 = .ok (.if_icmp .le 5, 3) := by decide +kernel
theorem dX9_rests_31 : decode cX9_rests 31 = .ok (.iconst (-1), 1) := by decide +kernel
theorem dX9_rests_32 : decode cX9_rests 32 = .ok (.ireturn, 1) := by decide +kernel
theorem dX9_rests_33 : decode cX9_rests 33 = .ok (.aload_n 0, 1) := by decide +kernel
theorem dX9_rests_34 : decode cX9_rests 34 = .ok (.iload_n 1, 1) := by decide +kernel
theorem dX9_rests_35 : decode cX9_rests 35 = .ok (.iload_n 2, 1) := by decide +kernel
theorem dX9_rests_36 : decode cX9_rests 36 = .ok (.iload_n 3, 1) := by decide +kernel
theorem dX9_rests_37 : decode cX9_rests 37 = .ok (.invokevirtual 296, 3) := by decide +kernel
theorem dX9_rests_40 : decode cX9_rests 40 = .ok (.iconst 0, 1) := by decide +kernel
theorem dX9_rests_41 : decode cX9_rests 41 = .ok (.istore 5, 2) := by decide +kernel
theorem dX9_rests_43 : decode cX9_rests 43 = .ok (.iconst (-1), 1) := by decide +kernel
theorem dX9_rests_44 : decode cX9_rests 44 = .ok (.istore 6, 2) := by decide +kernel
theorem dX9_rests_46 : decode cX9_rests 46 = .ok (.iconst 0, 1) := by decide +kernel
theorem dX9_rests_47 : decode cX9_rests 47 = .ok (.istore 7, 2) := by decide +kernel
theorem dX9_rests_49 : decode cX9_rests 49 = .ok (.iload 7, 2) := by decide +kernel
theorem dX9_rests_51 : decode cX9_rests 51 = .ok (.bipush 16, 2) := by decide +kernel
theorem dX9_rests_53 : decode cX9_rests 53 = .ok (.if_icmp .ge 35, 3) := by decide +kernel
theorem dX9_rests_56 : decode cX9_rests 56 = .ok (.aload_n 0, 1) := by decide +kernel
theorem dX9_rests_57 : decode cX9_rests 57 = .ok (.iload 7, 2) := by decide +kernel
theorem dX9_rests_59 : decode cX9_rests 59 = .ok (.invokevirtual 299, 3) := by decide +kernel
theorem dX9_rests_62 : decode cX9_rests 62 = .ok (.ifCond .eq 20, 3) := by decide +kernel
theorem dX9_rests_65 : decode cX9_rests 65 = .ok (.iload 5, 2) := by decide +kernel
theorem dX9_rests_67 : decode cX9_rests 67 = .ok (.ifCond .ne 8, 3) := by decide +kernel
theorem dX9_rests_70 : decode cX9_rests 70 = .ok (.iload 7, 2) := by decide +kernel
theorem dX9_rests_72 : decode cX9_rests 72 = .ok (.goto 5, 3) := by decide +kernel
theorem dX9_rests_75 : decode cX9_rests 75 = .ok (.iload 6, 2) := by decide +kernel
theorem dX9_rests_77 : decode cX9_rests 77 = .ok (.istore 6, 2) := by decide +kernel
theorem dX9_rests_79 : decode cX9_rests 79 = .ok (.iinc 5 1, 3) := by decide +kernel
theorem dX9_rests_82 : decode cX9_rests 82 = .ok (.iinc 7 1, 3) := by decide +kernel
theorem dX9_rests_85 : decode cX9_rests 85 = .ok (.goto (-36), 3) := by decide +kernel
theorem dX9_rests_88 : decode cX9_rests 88 = .ok (.iload 4, 2) := by decide +kernel
theorem dX9_rests_90 : decode cX9_rests 90 = .ok (.ifCond .ne 6, 3) := by decide +kernel
theorem dX9_rests_93 : decode cX9_rests 93 = .ok (.iload 5, 2) := by decide +kernel
theorem dX9_rests_95 : decode cX9_rests 95 = .ok (.ireturn, 1) := by decide +kernel
theorem dX9_rests_96 : decode cX9_rests 96 = .ok (.iload 5, 2) := by decide +kernel
theorem dX9_rests_98 : decode cX9_rests 98 = .ok (.ifCond .ne 6, 3) := by decide +kernel
theorem dX9_rests_101 : decode cX9_rests 101 = .ok (.bipush (-2), 2) := by decide +kernel
theorem dX9_rests_103 : decode cX9_rests 103 = .ok (.ireturn, 1) := by decide +kernel
theorem dX9_rests_104 : decode cX9_rests 104 = .ok (.iload 4, 2) := by decide +kernel
theorem dX9_rests_106 : decode cX9_rests 106 = .ok (.iconst 1, 1) := by decide +kernel
theorem dX9_rests_107 : decode cX9_rests 107 = .ok (.if_icmp .ne 10, 3) := by decide +kernel
theorem dX9_rests_110 : decode cX9_rests 110 = .ok (.iload 6, 2) := by decide +kernel
theorem dX9_rests_112 : decode cX9_rests 112 = .ok (.iconst 4, 1) := by decide +kernel
theorem dX9_rests_113 : decode cX9_rests 113 = .ok (.idiv, 1) := by decide +kernel
theorem dX9_rests_114 : decode cX9_rests 114 = .ok (.goto 7, 3) := by decide +kernel
theorem dX9_rests_117 : decode cX9_rests 117 = .ok (.iload 6, 2) := by decide +kernel
theorem dX9_rests_119 : decode cX9_rests 119 = .ok (.iconst 4, 1) := by decide +kernel
theorem dX9_rests_120 : decode cX9_rests 120 = .ok (.irem, 1) := by decide +kernel
theorem dX9_rests_121 : decode cX9_rests 121 = .ok (.ireturn, 1) := by decide +kernel
theorem dX9_pence_0 : decode cX9_pence 0 = .ok (.aload_n 0, 1) := by decide +kernel
theorem dX9_pence_1 : decode cX9_pence 1 = .ok (.iload_n 2, 1) := by decide +kernel
theorem dX9_pence_2 : decode cX9_pence 2 = .ok (.invokevirtual 137, 3) := by decide +kernel
theorem dX9_pence_5 : decode cX9_pence 5 = .ok (.ifCond .eq 14, 3) := by decide +kernel
theorem dX9_pence_8 : decode cX9_pence 8 = .ok (.iload_n 1, 1) := by decide +kernel
theorem dX9_pence_9 : decode cX9_pence 9 = .ok (.ifCond .lt 10, 3) := by decide +kernel
theorem dX9_pence_12 : decode cX9_pence 12 = .ok (.iload_n 1, 1) := by decide +kernel
theorem dX9_pence_13 : decode cX9_pence 13 = .ok (.sipush 9999, 3) := by decide +kernel
theorem dX9_pence_16 : decode cX9_pence 16 = .ok (.if_icmp .le 5, 3) := by decide +kernel
theorem dX9_pence_19 : decode cX9_pence 19 = .ok (.iconst (-1), 1) := by decide +kernel
theorem dX9_pence_20 : decode cX9_pence 20 = .ok (.ireturn, 1) := by decide +kernel
theorem dX9_pence_21 : decode cX9_pence 21 = .ok (.aload_n 0, 1) := by decide +kernel
theorem dX9_pence_22 : decode cX9_pence 22 = .ok (.getfield 41, 3) := by decide +kernel
theorem dX9_pence_25 : decode cX9_pence 25 = .ok (.getfield 95, 3) := by decide +kernel
theorem dX9_pence_28 : decode cX9_pence 28 = .ok (.getfield 106, 3) := by decide +kernel
theorem dX9_pence_31 : decode cX9_pence 31 = .ok (.astore_n 3, 1) := by decide +kernel
theorem dX9_pence_32 : decode cX9_pence 32 = .ok (.aload_n 3, 1) := by decide +kernel
theorem dX9_pence_33 : decode cX9_pence 33 = .ok (.iconst 1, 1) := by decide +kernel
theorem dX9_pence_34 : decode cX9_pence 34 = .ok (.invokevirtual 286, 3) := by decide +kernel
theorem dX9_pence_37 : decode cX9_pence 37 = .ok (.istore 4, 2) := by decide +kernel
theorem dX9_pence_39 : decode cX9_pence 39 = .ok (.iload 4, 2) := by decide +kernel
theorem dX9_pence_41 : decode cX9_pence 41 = .ok (.ifCond .ne 5, 3) := by decide +kernel
theorem dX9_pence_44 : decode cX9_pence 44 = .ok (.iconst 0, 1) := by decide +kernel
theorem dX9_pence_45 : decode cX9_pence 45 = .ok (.ireturn, 1) := by decide +kernel
theorem dX9_pence_46 : decode cX9_pence 46 = .ok (.iload_n 1, 1) := by decide +kernel
theorem dX9_pence_47 : decode cX9_pence 47 = .ok (.istore 5, 2) := by decide +kernel
theorem dX9_pence_49 : decode cX9_pence 49 = .ok (.iload_n 1, 1) := by decide +kernel
theorem dX9_pence_50 : decode cX9_pence 50 = .ok (.aload_n 3, 1) := by decide +kernel
theorem dX9_pence_51 : decode cX9_pence 51 = .ok (.getfield 213, 3) := by decide +kernel
theorem dX9_pence_54 : decode cX9_pence 54 = .ok (.iload_n 2, 1) := by decide +kernel
theorem dX9_pence_55 : decode cX9_pence 55 = .ok (.iaload, 1) := by decide +kernel
theorem dX9_pence_56 : decode cX9_pence 56 = .ok (.imul, 1) := by decide +kernel
theorem dX9_pence_57 : decode cX9_pence 57 = .ok (.iload 4, 2) := by decide +kernel
theorem dX9_pence_59 : decode cX9_pence 59 = .ok (.irem, 1) := by decide +kernel
theorem dX9_pence_60 : decode cX9_pence 60 = .ok (.istore 6, 2) := by decide +kernel
theorem dX9_pence_62 : decode cX9_pence 62 = .ok (.iconst 0, 1) := by decide +kernel
theorem dX9_pence_63 : decode cX9_pence 63 = .ok (.istore 7, 2) := by decide +kernel
theorem dX9_pence_65 : decode cX9_pence 65 = .ok (.iconst 0, 1) := by decide +kernel
theorem dX9_pence_66 : decode cX9_pence 66 = .ok (.istore 8, 2) := by decide +kernel
theorem dX9_pence_68 : decode cX9_pence 68 = .ok (.iload 8, 2) := by decide +kernel
theorem dX9_pence_70 : decode cX9_pence 70 = .ok (.aload_n 3, 1) := by decide +kernel
theorem dX9_pence_71 : decode cX9_pence 71 = .ok (.getfield 125, 3) := by decide +kernel
theorem dX9_pence_74 : decode cX9_pence 74 = .ok (.if_icmp .ge 63, 3) := by decide +kernel
theorem dX9_pence_77 : decode cX9_pence 77 = .ok (.iload_n 1, 1) := by decide +kernel
theorem dX9_pence_78 : decode cX9_pence 78 = .ok (.aload_n 3, 1) := by decide +kernel
theorem dX9_pence_79 : decode cX9_pence 79 = .ok (.getfield 213, 3) := by decide +kernel
theorem dX9_pence_82 : decode cX9_pence 82 = .ok (.iload 8, 2) := by decide +kernel
theorem dX9_pence_84 : decode cX9_pence 84 = .ok (.iaload, 1) := by decide +kernel
theorem dX9_pence_85 : decode cX9_pence 85 = .ok (.imul, 1) := by decide +kernel
theorem dX9_pence_86 : decode cX9_pence 86 = .ok (.iload 4, 2) := by decide +kernel
theorem dX9_pence_88 : decode cX9_pence 88 = .ok (.irem, 1) := by decide +kernel
theorem dX9_pence_89 : decode cX9_pence 89 = .ok (.istore 9, 2) := by decide +kernel
theorem dX9_pence_91 : decode cX9_pence 91 = .ok (.iload 5, 2) := by decide +kernel
theorem dX9_pence_93 : decode cX9_pence 93 = .ok (.iload_n 1, 1) := by decide +kernel
theorem dX9_pence_94 : decode cX9_pence 94 = .ok (.aload_n 3, 1) := by decide +kernel
theorem dX9_pence_95 : decode cX9_pence 95 = .ok (.getfield 213, 3) := by decide +kernel
theorem dX9_pence_98 : decode cX9_pence 98 = .ok (.iload 8, 2) := by decide +kernel
theorem dX9_pence_100 : decode cX9_pence 100 = .ok (.iaload, 1) := by decide +kernel
theorem dX9_pence_101 : decode cX9_pence 101 = .ok (.imul, 1) := by decide +kernel
theorem dX9_pence_102 : decode cX9_pence 102 = .ok (.iload 4, 2) := by decide +kernel
theorem dX9_pence_104 : decode cX9_pence 104 = .ok (.idiv, 1) := by decide +kernel
theorem dX9_pence_105 : decode cX9_pence 105 = .ok (.isub, 1) := by decide +kernel
theorem dX9_pence_106 : decode cX9_pence 106 = .ok (.istore 5, 2) := by decide +kernel
theorem dX9_pence_108 : decode cX9_pence 108 = .ok (.iload 9, 2) := by decide +kernel
theorem dX9_pence_110 : decode cX9_pence 110 = .ok (.iload 6, 2) := by decide +kernel
theorem dX9_pence_112 : decode cX9_pence 112 = .ok (.if_icmp .gt 16, 3) := by decide +kernel
theorem dX9_pence_115 : decode cX9_pence 115 = .ok (.iload 9, 2) := by decide +kernel
theorem dX9_pence_117 : decode cX9_pence 117 = .ok (.iload 6, 2) := by decide +kernel
theorem dX9_pence_119 : decode cX9_pence 119 = .ok (.if_icmp .ne 12, 3) := by decide +kernel
theorem dX9_pence_122 : decode cX9_pence 122 = .ok (.iload 8, 2) := by decide +kernel
theorem dX9_pence_124 : decode cX9_pence 124 = .ok (.iload_n 2, 1) := by decide +kernel
theorem dX9_pence_125 : decode cX9_pence 125 = .ok (.if_icmp .ge 6, 3) := by decide +kernel
theorem dX9_pence_128 : decode cX9_pence 128 = .ok (.iinc 7 1, 3) := by decide +kernel
theorem dX9_pence_131 : decode cX9_pence 131 = .ok (.iinc 8 1, 3) := by decide +kernel
theorem dX9_pence_134 : decode cX9_pence 134 = .ok (.goto (-66), 3) := by decide +kernel
theorem dX9_pence_137 : decode cX9_pence 137 = .ok (.iload_n 1, 1) := by decide +kernel
theorem dX9_pence_138 : decode cX9_pence 138 = .ok (.aload_n 3, 1) := by decide +kernel
theorem dX9_pence_139 : decode cX9_pence 139 = .ok (.getfield 213, 3) := by decide +kernel
theorem dX9_pence_142 : decode cX9_pence 142 = .ok (.iload_n 2, 1) := by decide +kernel
theorem dX9_pence_143 : decode cX9_pence 143 = .ok (.iaload, 1) := by decide +kernel
theorem dX9_pence_144 : decode cX9_pence 144 = .ok (.imul, 1) := by decide +kernel
theorem dX9_pence_145 : decode cX9_pence 145 = .ok (.iload 4, 2) := by decide +kernel
theorem dX9_pence_147 : decode cX9_pence 147 = .ok (.idiv, 1) := by decide +kernel
theorem dX9_pence_148 : decode cX9_pence 148 = .ok (.iload 7, 2) := by decide +kernel
theorem dX9_pence_150 : decode cX9_pence 150 = .ok (.iload 5, 2) := by decide +kernel
theorem dX9_pence_152 : decode cX9_pence 152 = .ok (.if_icmp .ge 7, 3) := by decide +kernel
theorem dX9_pence_155 : decode cX9_pence 155 = .ok (.iconst 1, 1) := by decide +kernel
theorem dX9_pence_156 : decode cX9_pence 156 = .ok (.goto 4, 3) := by decide +kernel
theorem dX9_pence_159 : decode cX9_pence 159 = .ok (.iconst 0, 1) := by decide +kernel
theorem dX9_pence_160 : decode cX9_pence 160 = .ok (.iadd, 1) := by decide +kernel
theorem dX9_pence_161 : decode cX9_pence 161 = .ok (.ireturn, 1) := by decide +kernel
theorem dX9_note_0 : decode cX9_note 0 = .ok (.iload_n 1, 1) := by decide +kernel
theorem dX9_note_1 : decode cX9_note 1 = .ok (.iconst (-1), 1) := by decide +kernel
theorem dX9_note_2 : decode cX9_note 2 = .ok (.if_icmp .ne 13, 3) := by decide +kernel
theorem dX9_note_5 : decode cX9_note 5 = .ok (.aload_n 0, 1) := by decide +kernel
theorem dX9_note_6 : decode cX9_note 6 = .ok (.getfield 41, 3) := by decide +kernel
theorem dX9_note_9 : decode cX9_note 9 = .ok (.iconst 0, 1) := by decide +kernel
theorem dX9_note_10 : decode cX9_note 10 = .ok (.putfield 119, 3) := by decide +kernel
theorem dX9_note_13 : decode cX9_note 13 = .ok (.iconst 0, 1) := by decide +kernel
theorem dX9_note_14 : decode cX9_note 14 = .ok (.ireturn, 1) := by decide +kernel
theorem dX9_note_15 : decode cX9_note 15 = .ok (.aload_n 0, 1) := by decide +kernel
theorem dX9_note_16 : decode cX9_note 16 = .ok (.iload_n 2, 1) := by decide +kernel
theorem dX9_note_17 : decode cX9_note 17 = .ok (.invokevirtual 137, 3) := by decide +kernel
theorem dX9_note_20 : decode cX9_note 20 = .ok (.ifCond .eq 23, 3) := by decide +kernel
theorem dX9_note_23 : decode cX9_note 23 = .ok (.iload_n 1, 1) := by decide +kernel
theorem dX9_note_24 : decode cX9_note 24 = .ok (.ifCond .lt 19, 3) := by decide +kernel
theorem dX9_note_27 : decode cX9_note 27 = .ok (.iload_n 1, 1) := by decide +kernel
theorem dX9_note_28 : decode cX9_note 28 = .ok (.bipush 60, 2) := by decide +kernel
theorem dX9_note_30 : decode cX9_note 30 = .ok (.if_icmp .gt 13, 3) := by decide +kernel
theorem dX9_note_33 : decode cX9_note 33 = .ok (.iload_n 3, 1) := by decide +kernel
theorem dX9_note_34 : decode cX9_note 34 = .ok (.ifCond .lt 9, 3) := by decide +kernel
theorem dX9_note_37 : decode cX9_note 37 = .ok (.iload_n 3, 1) := by decide +kernel
theorem dX9_note_38 : decode cX9_note 38 = .ok (.bipush 60, 2) := by decide +kernel
theorem dX9_note_40 : decode cX9_note 40 = .ok (.if_icmp .le 6, 3) := by decide +kernel
theorem dX9_note_43 : decode cX9_note 43 = .ok (.bipush (-2), 2) := by decide +kernel
theorem dX9_note_45 : decode cX9_note 45 = .ok (.ireturn, 1) := by decide +kernel
theorem dX9_note_46 : decode cX9_note 46 = .ok (.aload_n 0, 1) := by decide +kernel
theorem dX9_note_47 : decode cX9_note 47 = .ok (.getfield 41, 3) := by decide +kernel
theorem dX9_note_50 : decode cX9_note 50 = .ok (.iload_n 1, 1) := by decide +kernel
theorem dX9_note_51 : decode cX9_note 51 = .ok (.iload_n 2, 1) := by decide +kernel
theorem dX9_note_52 : decode cX9_note 52 = .ok (.iload_n 3, 1) := by decide +kernel
theorem dX9_note_53 : decode cX9_note 53 = .ok (.invokevirtual 302, 3) := by decide +kernel
theorem dX9_note_56 : decode cX9_note 56 = .ok (.ifCond .eq 13, 3) := by decide +kernel
theorem dX9_note_59 : decode cX9_note 59 = .ok (.aload_n 0, 1) := by decide +kernel
theorem dX9_note_60 : decode cX9_note 60 = .ok (.getfield 41, 3) := by decide +kernel
theorem dX9_note_63 : decode cX9_note 63 = .ok (.getfield 119, 3) := by decide +kernel
theorem dX9_note_66 : decode cX9_note 66 = .ok (.goto 5, 3) := by decide +kernel
theorem dX9_note_69 : decode cX9_note 69 = .ok (.bipush (-2), 2) := by decide +kernel
theorem dX9_note_71 : decode cX9_note 71 = .ok (.ireturn, 1) := by decide +kernel
theorem dX9_ruled_0 : decode cX9_ruled 0 = .ok (.aload_n 0, 1) := by decide +kernel
theorem dX9_ruled_1 : decode cX9_ruled 1 = .ok (.getfield 41, 3) := by decide +kernel
theorem dX9_ruled_4 : decode cX9_ruled 4 = .ok (.getfield 115, 3) := by decide +kernel
theorem dX9_ruled_7 : decode cX9_ruled 7 = .ok (.ifCond .eq 12, 3) := by decide +kernel
theorem dX9_ruled_10 : decode cX9_ruled 10 = .ok (.iload_n 1, 1) := by decide +kernel
theorem dX9_ruled_11 : decode cX9_ruled 11 = .ok (.ifCond .lt 8, 3) := by decide +kernel
theorem dX9_ruled_14 : decode cX9_ruled 14 = .ok (.iload_n 1, 1) := by decide +kernel
theorem dX9_ruled_15 : decode cX9_ruled 15 = .ok (.iconst 1, 1) := by decide +kernel
theorem dX9_ruled_16 : decode cX9_ruled 16 = .ok (.if_icmp .le 6, 3) := by decide +kernel
theorem dX9_ruled_19 : decode cX9_ruled 19 = .ok (.bipush (-3), 2) := by decide +kernel
theorem dX9_ruled_21 : decode cX9_ruled 21 = .ok (.ireturn, 1) := by decide +kernel
theorem dX9_ruled_22 : decode cX9_ruled 22 = .ok (.iconst 0, 1) := by decide +kernel
theorem dX9_ruled_23 : decode cX9_ruled 23 = .ok (.istore_n 2, 1) := by decide +kernel
theorem dX9_ruled_24 : decode cX9_ruled 24 = .ok (.bipush (-2), 2) := by decide +kernel
theorem dX9_ruled_26 : decode cX9_ruled 26 = .ok (.istore_n 3, 1) := by decide +kernel
theorem dX9_ruled_27 : decode cX9_ruled 27 = .ok (.iconst (-1), 1) := by decide +kernel
theorem dX9_ruled_28 : decode cX9_ruled 28 = .ok (.istore 4, 2) := by decide +kernel
theorem dX9_ruled_30 : decode cX9_ruled 30 = .ok (.iload 4, 2) := by decide +kernel
theorem dX9_ruled_32 : decode cX9_ruled 32 = .ok (.aload_n 0, 1) := by decide +kernel
theorem dX9_ruled_33 : decode cX9_ruled 33 = .ok (.getfield 128, 3) := by decide +kernel
theorem dX9_ruled_36 : decode cX9_ruled 36 = .ok (.if_icmp .ge 57, 3) := by decide +kernel
theorem dX9_ruled_39 : decode cX9_ruled 39 = .ok (.aload_n 0, 1) := by decide +kernel
theorem dX9_ruled_40 : decode cX9_ruled 40 = .ok (.getfield 59, 3) := by decide +kernel
theorem dX9_ruled_43 : decode cX9_ruled 43 = .ok (.aload_n 0, 1) := by decide +kernel
theorem dX9_ruled_44 : decode cX9_ruled 44 = .ok (.getfield 41, 3) := by decide +kernel
theorem dX9_ruled_47 : decode cX9_ruled 47 = .ok (.getfield 103, 3) := by decide +kernel
theorem dX9_ruled_50 : decode cX9_ruled 50 = .ok (.invokevirtual 111, 3) := by decide +kernel
theorem dX9_ruled_53 : decode cX9_ruled 53 = .ok (.aload_n 0, 1) := by decide +kernel
theorem dX9_ruled_54 : decode cX9_ruled 54 = .ok (.getfield 41, 3) := by decide +kernel
theorem dX9_ruled_57 : decode cX9_ruled 57 = .ok (.aload_n 0, 1) := by decide +kernel
theorem dX9_ruled_58 : decode cX9_ruled 58 = .ok (.getfield 59, 3) := by decide +kernel
theorem dX9_ruled_61 : decode cX9_ruled 61 = .ok (.aload_n 0, 1) := by decide +kernel
theorem dX9_ruled_62 : decode cX9_ruled 62 = .ok (.iload 4, 2) := by decide +kernel
theorem dX9_ruled_64 : decode cX9_ruled 64 = .ok (.invokevirtual 306, 3) := by decide +kernel
theorem dX9_ruled_67 : decode cX9_ruled 67 = .ok (.invokevirtual 292, 3) := by decide +kernel
theorem dX9_ruled_70 : decode cX9_ruled 70 = .ok (.ifCond .eq 17, 3) := by decide +kernel
theorem dX9_ruled_73 : decode cX9_ruled 73 = .ok (.iload_n 2, 1) := by decide +kernel
theorem dX9_ruled_74 : decode cX9_ruled 74 = .ok (.ifCond .ne 8, 3) := by decide +kernel
theorem dX9_ruled_77 : decode cX9_ruled 77 = .ok (.iload 4, 2) := by decide +kernel
theorem dX9_ruled_79 : decode cX9_ruled 79 = .ok (.goto 4, 3) := by decide +kernel
theorem dX9_ruled_82 : decode cX9_ruled 82 = .ok (.iload_n 3, 1) := by decide +kernel
theorem dX9_ruled_83 : decode cX9_ruled 83 = .ok (.istore_n 3, 1) := by decide +kernel
theorem dX9_ruled_84 : decode cX9_ruled 84 = .ok (.iinc 2 1, 3) := by decide +kernel
theorem dX9_ruled_87 : decode cX9_ruled 87 = .ok (.iinc 4 1, 3) := by decide +kernel
theorem dX9_ruled_90 : decode cX9_ruled 90 = .ok (.goto (-60), 3) := by decide +kernel
theorem dX9_ruled_93 : decode cX9_ruled 93 = .ok (.iload_n 1, 1) := by decide +kernel
theorem dX9_ruled_94 : decode cX9_ruled 94 = .ok (.ifCond .ne 7, 3) := by decide +kernel
theorem dX9_ruled_97 : decode cX9_ruled 97 = .ok (.iload_n 2, 1) := by decide +kernel
theorem dX9_ruled_98 : decode cX9_ruled 98 = .ok (.goto 4, 3) := by decide +kernel
theorem dX9_ruled_101 : decode cX9_ruled 101 = .ok (.iload_n 3, 1) := by decide +kernel
theorem dX9_ruled_102 : decode cX9_ruled 102 = .ok (.ireturn, 1) := by decide +kernel
theorem dX9_look_0 : decode cX9_look 0 = .ok (.aload_n 0, 1) := by decide +kernel
theorem dX9_look_1 : decode cX9_look 1 = .ok (.getfield 41, 3) := by decide +kernel
theorem dX9_look_4 : decode cX9_look 4 = .ok (.getfield 115, 3) := by decide +kernel
theorem dX9_look_7 : decode cX9_look 7 = .ok (.ifCond .eq 22, 3) := by decide +kernel
theorem dX9_look_10 : decode cX9_look 10 = .ok (.iload_n 1, 1) := by decide +kernel
theorem dX9_look_11 : decode cX9_look 11 = .ok (.ifCond .lt 18, 3) := by decide +kernel
theorem dX9_look_14 : decode cX9_look 14 = .ok (.iload_n 1, 1) := by decide +kernel
theorem dX9_look_15 : decode cX9_look 15 = .ok (.bipush 60, 2) := by decide +kernel
theorem dX9_look_17 : decode cX9_look 17 = .ok (.if_icmp .gt 12, 3) := by decide +kernel
theorem dX9_look_20 : decode cX9_look 20 = .ok (.iload_n 2, 1) := by decide +kernel
theorem dX9_look_21 : decode cX9_look 21 = .ok (.ifCond .lt 8, 3) := by decide +kernel
theorem dX9_look_24 : decode cX9_look 24 = .ok (.iload_n 2, 1) := by decide +kernel
theorem dX9_look_25 : decode cX9_look 25 = .ok (.iconst 1, 1) := by decide +kernel
theorem dX9_look_26 : decode cX9_look 26 = .ok (.if_icmp .le 5, 3) := by decide +kernel
theorem dX9_look_29 : decode cX9_look 29 = .ok (.iconst (-1), 1) := by decide +kernel
theorem dX9_look_30 : decode cX9_look 30 = .ok (.ireturn, 1) := by decide +kernel
theorem dX9_look_31 : decode cX9_look 31 = .ok (.aload_n 0, 1) := by decide +kernel
theorem dX9_look_32 : decode cX9_look 32 = .ok (.iload_n 1, 1) := by decide +kernel
theorem dX9_look_33 : decode cX9_look 33 = .ok (.invokevirtual 310, 3) := by decide +kernel
theorem dX9_look_36 : decode cX9_look 36 = .ok (.istore_n 3, 1) := by decide +kernel
theorem dX9_look_37 : decode cX9_look 37 = .ok (.iload_n 3, 1) := by decide +kernel
theorem dX9_look_38 : decode cX9_look 38 = .ok (.ifCond .ne 6, 3) := by decide +kernel
theorem dX9_look_41 : decode cX9_look 41 = .ok (.bipush (-2), 2) := by decide +kernel
theorem dX9_look_43 : decode cX9_look 43 = .ok (.ireturn, 1) := by decide +kernel
theorem dX9_look_44 : decode cX9_look 44 = .ok (.bipush (-2), 2) := by decide +kernel
theorem dX9_look_46 : decode cX9_look 46 = .ok (.istore 4, 2) := by decide +kernel
theorem dX9_look_48 : decode cX9_look 48 = .ok (.iload_n 3, 1) := by decide +kernel
theorem dX9_look_49 : decode cX9_look 49 = .ok (.iconst 1, 1) := by decide +kernel
theorem dX9_look_50 : decode cX9_look 50 = .ok (.iadd, 1) := by decide +kernel
theorem dX9_look_51 : decode cX9_look 51 = .ok (.istore 5, 2) := by decide +kernel
theorem dX9_look_53 : decode cX9_look 53 = .ok (.iconst 0, 1) := by decide +kernel
theorem dX9_look_54 : decode cX9_look 54 = .ok (.istore 6, 2) := by decide +kernel
theorem dX9_look_56 : decode cX9_look 56 = .ok (.iload 6, 2) := by decide +kernel
theorem dX9_look_58 : decode cX9_look 58 = .ok (.aload_n 0, 1) := by decide +kernel
theorem dX9_look_59 : decode cX9_look 59 = .ok (.getfield 41, 3) := by decide +kernel
theorem dX9_look_62 : decode cX9_look 62 = .ok (.getfield 103, 3) := by decide +kernel
theorem dX9_look_65 : decode cX9_look 65 = .ok (.getfield 125, 3) := by decide +kernel
theorem dX9_look_68 : decode cX9_look 68 = .ok (.if_icmp .ge 33, 3) := by decide +kernel
theorem dX9_look_71 : decode cX9_look 71 = .ok (.aload_n 0, 1) := by decide +kernel
theorem dX9_look_72 : decode cX9_look 72 = .ok (.iload 6, 2) := by decide +kernel
theorem dX9_look_74 : decode cX9_look 74 = .ok (.iload_n 3, 1) := by decide +kernel
theorem dX9_look_75 : decode cX9_look 75 = .ok (.invokevirtual 313, 3) := by decide +kernel
theorem dX9_look_78 : decode cX9_look 78 = .ok (.istore 7, 2) := by decide +kernel
theorem dX9_look_80 : decode cX9_look 80 = .ok (.iload 7, 2) := by decide +kernel
theorem dX9_look_82 : decode cX9_look 82 = .ok (.iload 5, 2) := by decide +kernel
theorem dX9_look_84 : decode cX9_look 84 = .ok (.if_icmp .ge 11, 3) := by decide +kernel
theorem dX9_look_87 : decode cX9_look 87 = .ok (.iload 7, 2) := by decide +kernel
theorem dX9_look_89 : decode cX9_look 89 = .ok (.istore 5, 2) := by decide +kernel
theorem dX9_look_91 : decode cX9_look 91 = .ok (.iload 6, 2) := by decide +kernel
theorem dX9_look_93 : decode cX9_look 93 = .ok (.istore 4, 2) := by decide +kernel
theorem dX9_look_95 : decode cX9_look 95 = .ok (.iinc 6 1, 3) := by decide +kernel
theorem dX9_look_98 : decode cX9_look 98 = .ok (.goto (-42), 3) := by decide +kernel
theorem dX9_look_101 : decode cX9_look 101 = .ok (.iload_n 2, 1) := by decide +kernel
