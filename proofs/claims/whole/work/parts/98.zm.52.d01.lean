theorem dX5_clear_40 : decode cX5_clear 40 = .ok (.getfield 32, 3) := by decide +kernel
theorem dX5_clear_43 : decode cX5_clear 43 = .ok (.iconst 0, 1) := by decide +kernel
theorem dX5_clear_44 : decode cX5_clear 44 = .ok (.invokestatic 38, 3) := by decide +kernel
theorem dX5_clear_47 : decode cX5_clear 47 = .ok (.aload_n 0, 1) := by decide +kernel
theorem dX5_clear_48 : decode cX5_clear 48 = .ok (.getfield 35, 3) := by decide +kernel
theorem dX5_clear_51 : decode cX5_clear 51 = .ok (.bipush (-2), 2) := by decide +kernel
theorem dX5_clear_53 : decode cX5_clear 53 = .ok (.invokestatic 38, 3) := by decide +kernel
theorem dX5_clear_56 : decode cX5_clear 56 = .ok (.aload_n 0, 1) := by decide +kernel
theorem dX5_clear_57 : decode cX5_clear 57 = .ok (.iconst 0, 1) := by decide +kernel
theorem dX5_clear_58 : decode cX5_clear 58 = .ok (.putfield 50, 3) := by decide +kernel
theorem dX5_clear_61 : decode cX5_clear 61 = .ok (.aload_n 0, 1) := by decide +kernel
theorem dX5_clear_62 : decode cX5_clear 62 = .ok (.iconst 0, 1) := by decide +kernel
theorem dX5_clear_63 : decode cX5_clear 63 = .ok (.putfield 54, 3) := by decide +kernel
theorem dX5_clear_66 : decode cX5_clear 66 = .ok (.aload_n 0, 1) := by decide +kernel
theorem dX5_clear_67 : decode cX5_clear 67 = .ok (.iconst 0, 1) := by decide +kernel
theorem dX5_clear_68 : decode cX5_clear 68 = .ok (.putfield 57, 3) := by decide +kernel
theorem dX5_clear_71 : decode cX5_clear 71 = .ok (.return_, 1) := by decide +kernel
theorem dX5_copyFrom_0 : decode cX5_copyFrom 0 = .ok (.aload_n 0, 1) := by decide +kernel
theorem dX5_copyFrom_1 : decode cX5_copyFrom 1 = .ok (.getfield 12, 3) := by decide +kernel
theorem dX5_copyFrom_4 : decode cX5_copyFrom 4 = .ok (.aload_n 1, 1) := by decide +kernel
theorem dX5_copyFrom_5 : decode cX5_copyFrom 5 = .ok (.getfield 12, 3) := by decide +kernel
theorem dX5_copyFrom_8 : decode cX5_copyFrom 8 = .ok (.invokevirtual 60, 3) := by decide +kernel
theorem dX5_copyFrom_11 : decode cX5_copyFrom 11 = .ok (.aload_n 1, 1) := by decide +kernel
theorem dX5_copyFrom_12 : decode cX5_copyFrom 12 = .ok (.getfield 18, 3) := by decide +kernel
theorem dX5_copyFrom_15 : decode cX5_copyFrom 15 = .ok (.iconst 0, 1) := by decide +kernel
theorem dX5_copyFrom_16 : decode cX5_copyFrom 16 = .ok (.aload_n 0, 1) := by decide +kernel
theorem dX5_copyFrom_17 : decode cX5_copyFrom 17 = .ok (.getfield 18, 3) := by decide +kernel
theorem dX5_copyFrom_20 : decode cX5_copyFrom 20 = .ok (.iconst 0, 1) := by decide +kernel
theorem dX5_copyFrom_21 : decode cX5_copyFrom 21 = .ok (.aload_n 0, 1) := by decide +kernel
theorem dX5_copyFrom_22 : decode cX5_copyFrom 22 = .ok (.getfield 18, 3) := by decide +kernel
theorem dX5_copyFrom_25 : decode cX5_copyFrom 25 = .ok (.arraylength, 1) := by decide +kernel
theorem dX5_copyFrom_26 : decode cX5_copyFrom 26 = .ok (.invokestatic 64, 3) := by decide +kernel
theorem dX5_copyFrom_29 : decode cX5_copyFrom 29 = .ok (.aload_n 1, 1) := by decide +kernel
theorem dX5_copyFrom_30 : decode cX5_copyFrom 30 = .ok (.getfield 22, 3) := by decide +kernel
theorem dX5_copyFrom_33 : decode cX5_copyFrom 33 = .ok (.iconst 0, 1) := by decide +kernel
theorem dX5_copyFrom_34 : decode cX5_copyFrom 34 = .ok (.aload_n 0, 1) := by decide +kernel
theorem dX5_copyFrom_35 : decode cX5_copyFrom 35 = .ok (.getfield 22, 3) := by decide +kernel
theorem dX5_copyFrom_38 : decode cX5_copyFrom 38 = .ok (.iconst 0, 1) := by decide +kernel
theorem dX5_copyFrom_39 : decode cX5_copyFrom 39 = .ok (.aload_n 0, 1) := by decide +kernel
theorem dX5_copyFrom_40 : decode cX5_copyFrom 40 = .ok (.getfield 22, 3) := by decide +kernel
theorem dX5_copyFrom_43 : decode cX5_copyFrom 43 = .ok (.arraylength, 1) := by decide +kernel
theorem dX5_copyFrom_44 : decode cX5_copyFrom 44 = .ok (.invokestatic 64, 3) := by decide +kernel
theorem dX5_copyFrom_47 : decode cX5_copyFrom 47 = .ok (.aload_n 1, 1) := by decide +kernel
theorem dX5_copyFrom_48 : decode cX5_copyFrom 48 = .ok (.getfield 25, 3) := by decide +kernel
theorem dX5_copyFrom_51 : decode cX5_copyFrom 51 = .ok (.iconst 0, 1) := by decide +kernel
theorem dX5_copyFrom_52 : decode cX5_copyFrom 52 = .ok (.aload_n 0, 1) := by decide +kernel
theorem dX5_copyFrom_53 : decode cX5_copyFrom 53 = .ok (.getfield 25, 3) := by decide +kernel
theorem dX5_copyFrom_56 : decode cX5_copyFrom 56 = .ok (.iconst 0, 1) := by decide +kernel
theorem dX5_copyFrom_57 : decode cX5_copyFrom 57 = .ok (.aload_n 0, 1) := by decide +kernel
theorem dX5_copyFrom_58 : decode cX5_copyFrom 58 = .ok (.getfield 25, 3) := by decide +kernel
theorem dX5_copyFrom_61 : decode cX5_copyFrom 61 = .ok (.arraylength, 1) := by decide +kernel
theorem dX5_copyFrom_62 : decode cX5_copyFrom 62 = .ok (.invokestatic 64, 3) := by decide +kernel
theorem dX5_copyFrom_65 : decode cX5_copyFrom 65 = .ok (.aload_n 1, 1) := by decide +kernel
theorem dX5_copyFrom_66 : decode cX5_copyFrom 66 = .ok (.getfield 28, 3) := by decide +kernel
theorem dX5_copyFrom_69 : decode cX5_copyFrom 69 = .ok (.iconst 0, 1) := by decide +kernel
theorem dX5_copyFrom_70 : decode cX5_copyFrom 70 = .ok (.aload_n 0, 1) := by decide +kernel
theorem dX5_copyFrom_71 : decode cX5_copyFrom 71 = .ok (.getfield 28, 3) := by decide +kernel
theorem dX5_copyFrom_74 : decode cX5_copyFrom 74 = .ok (.iconst 0, 1) := by decide +kernel
theorem dX5_copyFrom_75 : decode cX5_copyFrom 75 = .ok (.aload_n 0, 1) := by decide +kernel
theorem dX5_copyFrom_76 : decode cX5_copyFrom 76 = .ok (.getfield 28, 3) := by decide +kernel
theorem dX5_copyFrom_79 : decode cX5_copyFrom 79 = .ok (.arraylength, 1) := by decide +kernel
theorem dX5_copyFrom_80 : decode cX5_copyFrom 80 = .ok (.invokestatic 64, 3) := by decide +kernel
theorem dX5_copyFrom_83 : decode cX5_copyFrom 83 = .ok (.aload_n 1, 1) := by decide +kernel
theorem dX5_copyFrom_84 : decode cX5_copyFrom 84 = .ok (.getfield 32, 3) := by decide +kernel
theorem dX5_copyFrom_87 : decode cX5_copyFrom 87 = .ok (.iconst 0, 1) := by decide +kernel
theorem dX5_copyFrom_88 : decode cX5_copyFrom 88 = .ok (.aload_n 0, 1) := by decide +kernel
theorem dX5_copyFrom_89 : decode cX5_copyFrom 89 = .ok (.getfield 32, 3) := by decide +kernel
theorem dX5_copyFrom_92 : decode cX5_copyFrom 92 = .ok (.iconst 0, 1) := by decide +kernel
theorem dX5_copyFrom_93 : decode cX5_copyFrom 93 = .ok (.aload_n 0, 1) := by decide +kernel
theorem dX5_copyFrom_94 : decode cX5_copyFrom 94 = .ok (.getfield 32, 3) := by decide +kernel
theorem dX5_copyFrom_97 : decode cX5_copyFrom 97 = .ok (.arraylength, 1) := by decide +kernel
theorem dX5_copyFrom_98 : decode cX5_copyFrom 98 = .ok (.invokestatic 64, 3) := by decide +kernel
theorem dX5_copyFrom_101 : decode cX5_copyFrom 101 = .ok (.aload_n 1, 1) := by decide +kernel
theorem dX5_copyFrom_102 : decode cX5_copyFrom 102 = .ok (.getfield 35, 3) := by decide +kernel
theorem dX5_copyFrom_105 : decode cX5_copyFrom 105 = .ok (.iconst 0, 1) := by decide +kernel
theorem dX5_copyFrom_106 : decode cX5_copyFrom 106 = .ok (.aload_n 0, 1) := by decide +kernel
theorem dX5_copyFrom_107 : decode cX5_copyFrom 107 = .ok (.getfield 35, 3) := by decide +kernel
theorem dX5_copyFrom_110 : decode cX5_copyFrom 110 = .ok (.iconst 0, 1) := by decide +kernel
theorem dX5_copyFrom_111 : decode cX5_copyFrom 111 = .ok (.aload_n 0, 1) := by decide +kernel
theorem dX5_copyFrom_112 : decode cX5_copyFrom 112 = .ok (.getfield 35, 3) := by decide +kernel
theorem dX5_copyFrom_115 : decode cX5_copyFrom 115 = .ok (.arraylength, 1) := by decide +kernel
theorem dX5_copyFrom_116 : decode cX5_copyFrom 116 = .ok (.invokestatic 64, 3) := by decide +kernel
theorem dX5_copyFrom_119 : decode cX5_copyFrom 119 = .ok (.aload_n 0, 1) := by decide +kernel
theorem dX5_copyFrom_120 : decode cX5_copyFrom 120 = .ok (.aload_n 1, 1) := by decide +kernel
theorem dX5_copyFrom_121 : decode cX5_copyFrom 121 = .ok (.getfield 50, 3) := by decide +kernel
theorem dX5_copyFrom_124 : decode cX5_copyFrom 124 = .ok (.putfield 50, 3) := by decide +kernel
theorem dX5_copyFrom_127 : decode cX5_copyFrom 127 = .ok (.aload_n 0, 1) := by decide +kernel
theorem dX5_copyFrom_128 : decode cX5_copyFrom 128 = .ok (.aload_n 1, 1) := by decide +kernel
theorem dX5_copyFrom_129 : decode cX5_copyFrom 129 = .ok (.getfield 54, 3) := by decide +kernel
theorem dX5_copyFrom_132 : decode cX5_copyFrom 132 = .ok (.putfield 54, 3) := by decide +kernel
theorem dX5_copyFrom_135 : decode cX5_copyFrom 135 = .ok (.aload_n 0, 1) := by decide +kernel
theorem dX5_copyFrom_136 : decode cX5_copyFrom 136 = .ok (.aload_n 1, 1) := by decide +kernel
theorem dX5_copyFrom_137 : decode cX5_copyFrom 137 = .ok (.getfield 57, 3) := by decide +kernel
theorem dX5_copyFrom_140 : decode cX5_copyFrom 140 = .ok (.putfield 57, 3) := by decide +kernel
theorem dX5_copyFrom_143 : decode cX5_copyFrom 143 = .ok (.return_, 1) := by decide +kernel
theorem dX5_isPaper_0 : decode cX5_isPaper 0 = .ok (.iload_n 1, 1) := by decide +kernel
theorem dX5_isPaper_1 : decode cX5_isPaper 1 = .ok (.ifCond .lt 23, 3) := by decide +kernel
theorem dX5_isPaper_4 : decode cX5_isPaper 4 = .ok (.iload_n 1, 1) := by decide +kernel
theorem dX5_isPaper_5 : decode cX5_isPaper 5 = .ok (.bipush 60, 2) := by decide +kernel
theorem dX5_isPaper_7 : decode cX5_isPaper 7 = .ok (.if_icmp .ge 17, 3) := by decide +kernel
theorem dX5_isPaper_10 : decode cX5_isPaper 10 = .ok (.aload_n 0, 1) := by decide +kernel
theorem dX5_isPaper_11 : decode cX5_isPaper 11 = .ok (.getfield 22, 3) := by decide +kernel
theorem dX5_isPaper_14 : decode cX5_isPaper 14 = .ok (.iload_n 1, 1) := by decide +kernel
theorem dX5_isPaper_15 : decode cX5_isPaper 15 = .ok (.iaload, 1) := by decide +kernel
theorem dX5_isPaper_16 : decode cX5_isPaper 16 = .ok (.iconst (-1), 1) := by decide +kernel
theorem dX5_isPaper_17 : decode cX5_isPaper 17 = .ok (.if_icmp .eq 7, 3) := by decide +kernel
theorem dX5_isPaper_20 : decode cX5_isPaper 20 = .ok (.iconst 1, 1) := by decide +kernel
theorem dX5_isPaper_21 : decode cX5_isPaper 21 = .ok (.goto 4, 3) := by decide +kernel
theorem dX5_isPaper_24 : decode cX5_isPaper 24 = .ok (.iconst 0, 1) := by decide +kernel
theorem dX5_isPaper_25 : decode cX5_isPaper 25 = .ok (.ireturn, 1) := by decide +kernel
theorem dX5_stationOf_0 : decode cX5_stationOf 0 = .ok (.aload_n 0, 1) := by decide +kernel
theorem dX5_stationOf_1 : decode cX5_stationOf 1 = .ok (.getfield 22, 3) := by decide +kernel
theorem dX5_stationOf_4 : decode cX5_stationOf 4 = .ok (.iload_n 1, 1) := by decide +kernel
theorem dX5_stationOf_5 : decode cX5_stationOf 5 = .ok (.iaload, 1) := by decide +kernel
theorem dX5_stationOf_6 : decode cX5_stationOf 6 = .ok (.iconst 3, 1) := by decide +kernel
theorem dX5_stationOf_7 : decode cX5_stationOf 7 = .ok (.idiv, 1) := by decide +kernel
theorem dX5_stationOf_8 : decode cX5_stationOf 8 = .ok (.ireturn, 1) := by decide +kernel
theorem dX5_kindOf_0 : decode cX5_kindOf 0 = .ok (.aload_n 0, 1) := by decide +kernel
theorem dX5_kindOf_1 : decode cX5_kindOf 1 = .ok (.getfield 22, 3) := by decide +kernel
theorem dX5_kindOf_4 : decode cX5_kindOf 4 = .ok (.iload_n 1, 1) := by decide +kernel
theorem dX5_kindOf_5 : decode cX5_kindOf 5 = .ok (.iaload, 1) := by decide +kernel
theorem dX5_kindOf_6 : decode cX5_kindOf 6 = .ok (.iconst 3, 1) := by decide +kernel
theorem dX5_kindOf_7 : decode cX5_kindOf 7 = .ok (.irem, 1) := by decide +kernel
theorem dX5_kindOf_8 : decode cX5_kindOf 8 = .ok (.ireturn, 1) := by decide +kernel
theorem dX5_placeOf_0 : decode cX5_placeOf 0 = .ok (.aload_n 0, 1) := by decide +kernel
theorem dX5_placeOf_1 : decode cX5_placeOf 1 = .ok (.iload_n 1, 1) := by decide +kernel
theorem dX5_placeOf_2 : decode cX5_placeOf 2 = .ok (.invokevirtual 70, 3) := by decide +kernel
theorem dX5_placeOf_5 : decode cX5_placeOf 5 = .ok (.ifCond .ne 26, 3) := by decide +kernel
theorem dX5_placeOf_8 : decode cX5_placeOf 8 = .ok (.aload_n 0, 1) := by decide +kernel
theorem dX5_placeOf_9 : decode cX5_placeOf 9 = .ok (.getfield 12, 3) := by decide +kernel
theorem dX5_placeOf_12 : decode cX5_placeOf 12 = .ok (.getfield 74, 3) := by decide +kernel
theorem dX5_placeOf_15 : decode cX5_placeOf 15 = .ok (.aload_n 0, 1) := by decide +kernel
theorem dX5_placeOf_16 : decode cX5_placeOf 16 = .ok (.iload_n 1, 1) := by decide +kernel
theorem dX5_placeOf_17 : decode cX5_placeOf 17 = .ok (.invokevirtual 77, 3) := by decide +kernel
theorem dX5_placeOf_20 : decode cX5_placeOf 20 = .ok (.laload, 1) := by decide +kernel
theorem dX5_placeOf_21 : decode cX5_placeOf 21 = .ok (.lconst 1, 1) := by decide +kernel
theorem dX5_placeOf_22 : decode cX5_placeOf 22 = .ok (.iload_n 1, 1) := by decide +kernel
theorem dX5_placeOf_23 : decode cX5_placeOf 23 = .ok (.lshl, 1) := by decide +kernel
theorem dX5_placeOf_24 : decode cX5_placeOf 24 = .ok (.lconst 1, 1) := by decide +kernel
theorem dX5_placeOf_25 : decode cX5_placeOf 25 = .ok (.lsub, 1) := by decide +kernel
theorem dX5_placeOf_26 : decode cX5_placeOf 26 = .ok (.land, 1) := by decide +kernel
theorem dX5_placeOf_27 : decode cX5_placeOf 27 = .ok (.invokestatic 80, 3) := by decide +kernel
theorem dX5_placeOf_30 : decode cX5_placeOf 30 = .ok (.ireturn, 1) := by decide +kernel
theorem dX5_placeOf_31 : decode cX5_placeOf 31 = .ok (.iconst 0, 1) := by decide +kernel
theorem dX5_placeOf_32 : decode cX5_placeOf 32 = .ok (.istore_n 2, 1) := by decide +kernel
theorem dX5_placeOf_33 : decode cX5_placeOf 33 = .ok (.iconst 0, 1) := by decide +kernel
theorem dX5_placeOf_34 : decode cX5_placeOf 34 = .ok (.istore_n 3, 1) := by decide +kernel
theorem dX5_placeOf_35 : decode cX5_placeOf 35 = .ok (.iload_n 3, 1) := by decide +kernel
theorem dX5_placeOf_36 : decode cX5_placeOf 36 = .ok (.bipush 60, 2) := by decide +kernel
theorem dX5_placeOf_38 : decode cX5_placeOf 38 = .ok (.if_icmp .ge 42, 3) := by decide +kernel
theorem dX5_placeOf_41 : decode cX5_placeOf 41 = .ok (.aload_n 0, 1) := by decide +kernel
theorem dX5_placeOf_42 : decode cX5_placeOf 42 = .ok (.getfield 22, 3) := by decide +kernel
theorem dX5_placeOf_45 : decode cX5_placeOf 45 = .ok (.iload_n 3, 1) := by decide +kernel
theorem dX5_placeOf_46 : decode cX5_placeOf 46 = .ok (.iaload, 1) := by decide +kernel
theorem dX5_placeOf_47 : decode cX5_placeOf 47 = .ok (.aload_n 0, 1) := by decide +kernel
theorem dX5_placeOf_48 : decode cX5_placeOf 48 = .ok (.getfield 22, 3) := by decide +kernel
theorem dX5_placeOf_51 : decode cX5_placeOf 51 = .ok (.iload_n 1, 1) := by decide +kernel
theorem dX5_placeOf_52 : decode cX5_placeOf 52 = .ok (.iaload, 1) := by decide +kernel
theorem dX5_placeOf_53 : decode cX5_placeOf 53 = .ok (.if_icmp .ne 21, 3) := by decide +kernel
theorem dX5_placeOf_56 : decode cX5_placeOf 56 = .ok (.aload_n 0, 1) := by decide +kernel
theorem dX5_placeOf_57 : decode cX5_placeOf 57 = .ok (.getfield 25, 3) := by decide +kernel
theorem dX5_placeOf_60 : decode cX5_placeOf 60 = .ok (.iload_n 3, 1) := by decide +kernel
theorem dX5_placeOf_61 : decode cX5_placeOf 61 = .ok (.iaload, 1) := by decide +kernel
theorem dX5_placeOf_62 : decode cX5_placeOf 62 = .ok (.aload_n 0, 1) := by decide +kernel
theorem dX5_placeOf_63 : decode cX5_placeOf 63 = .ok (.getfield 25, 3) := by decide +kernel
theorem dX5_placeOf_66 : decode cX5_placeOf 66 = .ok (.iload_n 1, 1) := by decide +kernel
theorem dX5_placeOf_67 : decode cX5_placeOf 67 = .ok (.iaload, 1) := by decide +kernel
theorem dX5_placeOf_68 : decode cX5_placeOf 68 = .ok (.if_icmp .ge 6, 3) := by decide +kernel
theorem dX5_placeOf_71 : decode cX5_placeOf 71 = .ok (.iinc 2 1, 3) := by decide +kernel
theorem dX5_placeOf_74 : decode cX5_placeOf 74 = .ok (.iinc 3 1, 3) := by decide +kernel
theorem dX5_placeOf_77 : decode cX5_placeOf 77 = .ok (.goto (-42), 3) := by decide +kernel
theorem dX5_placeOf_80 : decode cX5_placeOf 80 = .ok (.iload_n 2, 1) := by decide +kernel
theorem dX5_placeOf_81 : decode cX5_placeOf 81 = .ok (.ireturn, 1) := by decide +kernel
theorem dX5_paperAt_0 : decode cX5_paperAt 0 = .ok (.iconst 0, 1) := by decide +kernel
theorem dX5_paperAt_1 : decode cX5_paperAt 1 = .ok (.istore 4, 2) := by decide +kernel
theorem dX5_paperAt_3 : decode cX5_paperAt 3 = .ok (.iload 4, 2) := by decide +kernel
theorem dX5_paperAt_5 : decode cX5_paperAt 5 = .ok (.bipush 60, 2) := by decide +kernel
theorem dX5_paperAt_7 : decode cX5_paperAt 7 = .ok (.if_icmp .ge 37, 3) := by decide +kernel
theorem dX5_paperAt_10 : decode cX5_paperAt 10 = .ok (.aload_n 0, 1) := by decide +kernel
theorem dX5_paperAt_11 : decode cX5_paperAt 11 = .ok (.getfield 22, 3) := by decide +kernel
theorem dX5_paperAt_14 : decode cX5_paperAt 14 = .ok (.iload 4, 2) := by decide +kernel
theorem dX5_paperAt_16 : decode cX5_paperAt 16 = .ok (.iaload, 1) := by decide +kernel
theorem dX5_paperAt_17 : decode cX5_paperAt 17 = .ok (.iload_n 1, 1) := by decide +kernel
theorem dX5_paperAt_18 : decode cX5_paperAt 18 = .ok (.iconst 3, 1) := by decide +kernel
theorem dX5_paperAt_19 : decode cX5_paperAt 19 = .ok (.imul, 1) := by decide +kernel
theorem dX5_paperAt_20 : decode cX5_paperAt 20 = .ok (.iload_n 2, 1) := by decide +kernel
theorem dX5_paperAt_21 : decode cX5_paperAt 21 = .ok (.iadd, 1) := by decide +kernel
theorem dX5_paperAt_22 : decode cX5_paperAt 22 = .ok (.if_icmp .ne 16, 3) := by decide +kernel
theorem dX5_paperAt_25 : decode cX5_paperAt 25 = .ok (.aload_n 0, 1) := by decide +kernel
theorem dX5_paperAt_26 : decode cX5_paperAt 26 = .ok (.iload 4, 2) := by decide +kernel
theorem dX5_paperAt_28 : decode cX5_paperAt 28 = .ok (.invokevirtual 86, 3) := by decide +kernel
theorem dX5_paperAt_31 : decode cX5_paperAt 31 = .ok (.iload_n 3, 1) := by decide +kernel
theorem dX5_paperAt_32 : decode cX5_paperAt 32 = .ok (.if_icmp .ne 6, 3) := by decide +kernel
theorem dX5_paperAt_35 : decode cX5_paperAt 35 = .ok (.iload 4, 2) := by decide +kernel
theorem dX5_paperAt_37 : decode cX5_paperAt 37 = .ok (.ireturn, 1) := by decide +kernel
theorem dX5_paperAt_38 : decode cX5_paperAt 38 = .ok (.iinc 4 1, 3) := by decide +kernel
theorem dX5_paperAt_41 : decode cX5_paperAt 41 = .ok (.goto (-38), 3) := by decide +kernel
theorem dX5_paperAt_44 : decode cX5_paperAt 44 = .ok (.iconst (-1), 1) := by decide +kernel
theorem dX5_paperAt_45 : decode cX5_paperAt 45 = .ok (.ireturn, 1) := by decide +kernel
theorem dX5_firstOf_0 : decode cX5_firstOf 0 = .ok (.iconst (-1), 1) := by decide +kernel
theorem dX5_firstOf_1 : decode cX5_firstOf 1 = .ok (.istore_n 3, 1) := by decide +kernel
theorem dX5_firstOf_2 : decode cX5_firstOf 2 = .ok (.iconst 0, 1) := by decide +kernel
theorem dX5_firstOf_3 : decode cX5_firstOf 3 = .ok (.istore 4, 2) := by decide +kernel
theorem dX5_firstOf_5 : decode cX5_firstOf 5 = .ok (.iload 4, 2) := by decide +kernel
theorem dX5_firstOf_7 : decode cX5_firstOf 7 = .ok (.bipush 60, 2) := by decide +kernel
theorem dX5_firstOf_9 : decode cX5_firstOf 9 = .ok (.if_icmp .ge 48, 3) := by decide +kernel
theorem dX5_firstOf_12 : decode cX5_firstOf 12 = .ok (.aload_n 0, 1) := by decide +kernel
theorem dX5_firstOf_13 : decode cX5_firstOf 13 = .ok (.getfield 22, 3) := by decide +kernel
theorem dX5_firstOf_16 : decode cX5_firstOf 16 = .ok (.iload 4, 2) := by decide +kernel
theorem dX5_firstOf_18 : decode cX5_firstOf 18 = .ok (.iaload, 1) := by decide +kernel
theorem dX5_firstOf_19 : decode cX5_firstOf 19 = .ok (.iload_n 1, 1) := by decide +kernel
theorem dX5_firstOf_20 : decode cX5_firstOf 20 = .ok (.iconst 3, 1) := by decide +kernel
theorem dX5_firstOf_21 : decode cX5_firstOf 21 = .ok (.imul, 1) := by decide +kernel
theorem dX5_firstOf_22 : decode cX5_firstOf 22 = .ok (.iload_n 2, 1) := by decide +kernel
theorem dX5_firstOf_23 : decode cX5_firstOf 23 = .ok (.iadd, 1) := by decide +kernel
theorem dX5_firstOf_24 : decode cX5_firstOf 24 = .ok (.if_icmp .ne 27, 3) := by decide +kernel
theorem dX5_firstOf_27 : decode cX5_firstOf 27 = .ok (.iload_n 3, 1) := by decide +kernel
theorem dX5_firstOf_28 : decode cX5_firstOf 28 = .ok (.iconst (-1), 1) := by decide +kernel
theorem dX5_firstOf_29 : decode cX5_firstOf 29 = .ok (.if_icmp .eq 19, 3) := by decide +kernel
theorem dX5_firstOf_32 : decode cX5_firstOf 32 = .ok (.aload_n 0, 1) := by decide +kernel
theorem dX5_firstOf_33 : decode cX5_firstOf 33 = .ok (.getfield 25, 3) := by decide +kernel
theorem dX5_firstOf_36 : decode cX5_firstOf 36 = .ok (.iload 4, 2) := by decide +kernel
theorem dX5_firstOf_38 : decode cX5_firstOf 38 = .ok (.iaload, 1) := by decide +kernel
theorem dX5_firstOf_39 : decode cX5_firstOf 39 = .ok (.aload_n 0, 1) := by decide +kernel
theorem dX5_firstOf_40 : decode cX5_firstOf 40 = .ok (.getfield 25, 3) := by decide +kernel
theorem dX5_firstOf_43 : decode cX5_firstOf 43 = .ok (.iload_n 3, 1) := by decide +kernel
theorem dX5_firstOf_44 : decode cX5_firstOf 44 = .ok (.iaload, 1) := by decide +kernel
theorem dX5_firstOf_45 : decode cX5_firstOf 45 = .ok (.if_icmp .ge 6, 3) := by decide +kernel
theorem dX5_firstOf_48 : decode cX5_firstOf 48 = .ok (.iload 4, 2) := by decide +kernel
theorem dX5_firstOf_50 : decode cX5_firstOf 50 = .ok (.istore_n 3, 1) := by decide +kernel
theorem dX5_firstOf_51 : decode cX5_firstOf 51 = .ok (.iinc 4 1, 3) := by decide +kernel
theorem dX5_firstOf_54 : decode cX5_firstOf 54 = .ok (.goto (-49), 3) := by decide +kernel
theorem dX5_firstOf_57 : decode cX5_firstOf 57 = .ok (.iload_n 3, 1) := by decide +kernel
theorem dX5_firstOf_58 : decode cX5_firstOf 58 = .ok (.ireturn, 1) := by decide +kernel
theorem dX5_put_0 : decode cX5_put 0 = .ok (.aload_n 0, 1) := by decide +kernel
theorem dX5_put_1 : decode cX5_put 1 = .ok (.getfield 22, 3) := by decide +kernel
theorem dX5_put_4 : decode cX5_put 4 = .ok (.iload_n 1, 1) := by decide +kernel
theorem dX5_put_5 : decode cX5_put 5 = .ok (.iaload, 1) := by decide +kernel
theorem dX5_put_6 : decode cX5_put 6 = .ok (.iconst (-1), 1) := by decide +kernel
theorem dX5_put_7 : decode cX5_put 7 = .ok (.if_icmp .eq 19, 3) := by decide +kernel
theorem dX5_put_10 : decode cX5_put 10 = .ok (.aload_n 0, 1) := by decide +kernel
theorem dX5_put_11 : decode cX5_put 11 = .ok (.iload_n 1, 1) := by decide +kernel
theorem dX5_put_12 : decode cX5_put 12 = .ok (.aload_n 0, 1) := by decide +kernel
theorem dX5_put_13 : decode cX5_put 13 = .ok (.iload_n 1, 1) := by decide +kernel
theorem dX5_put_14 : decode cX5_put 14 = .ok (.invokevirtual 77, 3) := by decide +kernel
theorem dX5_put_17 : decode cX5_put 17 = .ok (.aload_n 0, 1) := by decide +kernel
theorem dX5_put_18 : decode cX5_put 18 = .ok (.iload_n 1, 1) := by decide +kernel
theorem dX5_put_19 : decode cX5_put 19 = .ok (.invokevirtual 70, 3) := by decide +kernel
theorem dX5_put_22 : decode cX5_put 22 = .ok (.iconst (-1), 1) := by decide +kernel
theorem dX5_put_23 : decode cX5_put 23 = .ok (.invokevirtual 89, 3) := by decide +kernel
theorem dX5_put_26 : decode cX5_put 26 = .ok (.aload_n 0, 1) := by decide +kernel
theorem dX5_put_27 : decode cX5_put 27 = .ok (.iload_n 1, 1) := by decide +kernel
theorem dX5_put_28 : decode cX5_put 28 = .ok (.iload_n 2, 1) := by decide +kernel
theorem dX5_put_29 : decode cX5_put 29 = .ok (.iload_n 3, 1) := by decide +kernel
theorem dX5_put_30 : decode cX5_put 30 = .ok (.iconst 1, 1) := by decide +kernel
theorem dX5_put_31 : decode cX5_put 31 = .ok (.invokevirtual 89, 3) := by decide +kernel
theorem dX5_put_34 : decode cX5_put 34 = .ok (.aload_n 0, 1) := by decide +kernel
theorem dX5_put_35 : decode cX5_put 35 = .ok (.iload_n 1, 1) := by decide +kernel
theorem dX5_put_36 : decode cX5_put 36 = .ok (.iload_n 2, 1) := by decide +kernel
theorem dX5_put_37 : decode cX5_put 37 = .ok (.iload_n 3, 1) := by decide +kernel
theorem dX5_put_38 : decode cX5_put 38 = .ok (.invokevirtual 93, 3) := by decide +kernel
theorem dX5_put_41 : decode cX5_put 41 = .ok (.return_, 1) := by decide +kernel
theorem dX5_addToTally_0 : decode cX5_addToTally 0 = .ok (.iload_n 3, 1) := by decide +kernel
theorem dX5_addToTally_1 : decode cX5_addToTally 1 = .ok (.ifCond .ne 21, 3) := by decide +kernel
theorem dX5_addToTally_4 : decode cX5_addToTally 4 = .ok (.aload_n 0, 1) := by decide +kernel
theorem dX5_addToTally_5 : decode cX5_addToTally 5 = .ok (.getfield 12, 3) := by decide +kernel
theorem dX5_addToTally_8 : decode cX5_addToTally 8 = .ok (.getfield 74, 3) := by decide +kernel
theorem dX5_addToTally_11 : decode cX5_addToTally 11 = .ok (.iload_n 2, 1) := by decide +kernel
theorem dX5_addToTally_12 : decode cX5_addToTally 12 = .ok (.dup2, 1) := by decide +kernel
theorem dX5_addToTally_13 : decode cX5_addToTally 13 = .ok (.laload, 1) := by decide +kernel
theorem dX5_addToTally_14 : decode cX5_addToTally 14 = .ok (.lconst 1, 1) := by decide +kernel
theorem dX5_addToTally_15 : decode cX5_addToTally 15 = .ok (.iload_n 1, 1) := by decide +kernel
theorem dX5_addToTally_16 : decode cX5_addToTally 16 = .ok (.lshl, 1) := by decide +kernel
theorem dX5_addToTally_17 : decode cX5_addToTally 17 = .ok (.lxor, 1) := by decide +kernel
theorem dX5_addToTally_18 : decode cX5_addToTally 18 = .ok (.lastore, 1) := by decide +kernel
theorem dX5_addToTally_19 : decode cX5_addToTally 19 = .ok (.goto 39, 3) := by decide +kernel
theorem dX5_addToTally_22 : decode cX5_addToTally 22 = .ok (.iload_n 3, 1) := by decide +kernel
theorem dX5_addToTally_23 : decode cX5_addToTally 23 = .ok (.iconst 1, 1) := by decide +kernel
theorem dX5_addToTally_24 : decode cX5_addToTally 24 = .ok (.if_icmp .ne 20, 3) := by decide +kernel
theorem dX5_addToTally_27 : decode cX5_addToTally 27 = .ok (.aload_n 0, 1) := by decide +kernel
theorem dX5_addToTally_28 : decode cX5_addToTally 28 = .ok (.getfield 12, 3) := by decide +kernel
theorem dX5_addToTally_31 : decode cX5_addToTally 31 = .ok (.getfield 97, 3) := by decide +kernel
theorem dX5_addToTally_34 : decode cX5_addToTally 34 = .ok (.iload_n 2, 1) := by decide +kernel
theorem dX5_addToTally_35 : decode cX5_addToTally 35 = .ok (.dup2, 1) := by decide +kernel
theorem dX5_addToTally_36 : decode cX5_addToTally 36 = .ok (.iaload, 1) := by decide +kernel
theorem dX5_addToTally_37 : decode cX5_addToTally 37 = .ok (.iload 4, 2) := by decide +kernel
theorem dX5_addToTally_39 : decode cX5_addToTally 39 = .ok (.iadd, 1) := by decide +kernel
theorem dX5_addToTally_40 : decode cX5_addToTally 40 = .ok (.iastore, 1) := by decide +kernel
theorem dX5_addToTally_41 : decode cX5_addToTally 41 = .ok (.goto 17, 3) := by decide +kernel
theorem dX5_addToTally_44 : decode cX5_addToTally 44 = .ok (.aload_n 0, 1) := by decide +kernel
theorem dX5_addToTally_45 : decode cX5_addToTally 45 = .ok (.getfield 12, 3) := by decide +kernel
theorem dX5_addToTally_48 : decode cX5_addToTally 48 = .ok (.getfield 100, 3) := by decide +kernel
theorem dX5_addToTally_51 : decode cX5_addToTally 51 = .ok (.iload_n 2, 1) := by decide +kernel
theorem dX5_addToTally_52 : decode cX5_addToTally 52 = .ok (.dup2, 1) := by decide +kernel
theorem dX5_addToTally_53 : decode cX5_addToTally 53 = .ok (.iaload, 1) := by decide +kernel
theorem dX5_addToTally_54 : decode cX5_addToTally 54 = .ok (.iload 4, 2) := by decide +kernel
theorem dX5_addToTally_56 : decode cX5_addToTally 56 = .ok (.iadd, 1) := by decide +kernel
theorem dX5_addToTally_57 : decode cX5_addToTally 57 = .ok (.iastore, 1) := by decide +kernel
theorem dX5_addToTally_58 : decode cX5_addToTally 58 = .ok (.return_, 1) := by decide +kernel
theorem dX5_mark_0 : decode cX5_mark 0 = .ok (.aload_n 0, 1) := by decide +kernel
theorem dX5_mark_1 : decode cX5_mark 1 = .ok (.getfield 22, 3) := by decide +kernel
theorem dX5_mark_4 : decode cX5_mark 4 = .ok (.iload_n 1, 1) := by decide +kernel
theorem dX5_mark_5 : decode cX5_mark 5 = .ok (.iload_n 2, 1) := by decide +kernel
theorem dX5_mark_6 : decode cX5_mark 6 = .ok (.iconst 3, 1) := by decide +kernel
theorem dX5_mark_7 : decode cX5_mark 7 = .ok (.imul, 1) := by decide +kernel
theorem dX5_mark_8 : decode cX5_mark 8 = .ok (.iload_n 3, 1) := by decide +kernel
theorem dX5_mark_9 : decode cX5_mark 9 = .ok (.iadd, 1) := by decide +kernel
theorem dX5_mark_10 : decode cX5_mark 10 = .ok (.iastore, 1) := by decide +kernel
theorem dX5_mark_11 : decode cX5_mark 11 = .ok (.aload_n 0, 1) := by decide +kernel
theorem dX5_mark_12 : decode cX5_mark 12 = .ok (.getfield 25, 3) := by decide +kernel
theorem dX5_mark_15 : decode cX5_mark 15 = .ok (.iload_n 1, 1) := by decide +kernel
theorem dX5_mark_16 : decode cX5_mark 16 = .ok (.aload_n 0, 1) := by decide +kernel
theorem dX5_mark_17 : decode cX5_mark 17 = .ok (.getfield 57, 3) := by decide +kernel
theorem dX5_mark_20 : decode cX5_mark 20 = .ok (.iastore, 1) := by decide +kernel
theorem dX5_mark_21 : decode cX5_mark 21 = .ok (.aload_n 0, 1) := by decide +kernel
theorem dX5_mark_22 : decode cX5_mark 22 = .ok (.dup, 1) := by decide +kernel
theorem dX5_mark_23 : decode cX5_mark 23 = .ok (.getfield 57, 3) := by decide +kernel
theorem dX5_mark_26 : decode cX5_mark 26 = .ok (.iconst 1, 1) := by decide +kernel
theorem dX5_mark_27 : decode cX5_mark 27 = .ok (.iadd, 1) := by decide +kernel
theorem dX5_mark_28 : decode cX5_mark 28 = .ok (.putfield 57, 3) := by decide +kernel
theorem dX5_mark_31 : decode cX5_mark 31 = .ok (.return_, 1) := by decide +kernel
theorem dX5_shift_0 : decode cX5_shift 0 = .ok (.aload_n 0, 1) := by decide +kernel
theorem dX5_shift_1 : decode cX5_shift 1 = .ok (.iload_n 1, 1) := by decide +kernel
theorem dX5_shift_2 : decode cX5_shift 2 = .ok (.invokevirtual 103, 3) := by decide +kernel
theorem dX5_shift_5 : decode cX5_shift 5 = .ok (.ifCond .ne 4, 3) := by decide +kernel
theorem dX5_shift_8 : decode cX5_shift 8 = .ok (.return_, 1) := by decide +kernel
theorem dX5_shift_9 : decode cX5_shift 9 = .ok (.aload_n 0, 1) := by decide +kernel
theorem dX5_shift_10 : decode cX5_shift 10 = .ok (.iload_n 1, 1) := by decide +kernel
theorem dX5_shift_11 : decode cX5_shift 11 = .ok (.iload_n 3, 1) := by decide +kernel
theorem dX5_shift_12 : decode cX5_shift 12 = .ok (.iload 4, 2) := by decide +kernel
theorem dX5_shift_14 : decode cX5_shift 14 = .ok (.invokevirtual 107, 3) := by decide +kernel
theorem dX5_shift_17 : decode cX5_shift 17 = .ok (.aload_n 0, 1) := by decide +kernel
theorem dX5_shift_18 : decode cX5_shift 18 = .ok (.getfield 32, 3) := by decide +kernel
theorem dX5_shift_21 : decode cX5_shift 21 = .ok (.iload_n 2, 1) := by decide +kernel
theorem dX5_shift_22 : decode cX5_shift 22 = .ok (.iconst 5, 1) := by decide +kernel
theorem dX5_shift_23 : decode cX5_shift 23 = .ok (.imul, 1) := by decide +kernel
theorem dX5_shift_24 : decode cX5_shift 24 = .ok (.iload_n 3, 1) := by decide +kernel
theorem dX5_shift_25 : decode cX5_shift 25 = .ok (.iadd, 1) := by decide +kernel
theorem dX5_shift_26 : decode cX5_shift 26 = .ok (.dup2, 1) := by decide +kernel
theorem dX5_shift_27 : decode cX5_shift 27 = .ok (.iaload, 1) := by decide +kernel
theorem dX5_shift_28 : decode cX5_shift 28 = .ok (.iconst 1, 1) := by decide +kernel
theorem dX5_shift_29 : decode cX5_shift 29 = .ok (.iadd, 1) := by decide +kernel
theorem dX5_shift_30 : decode cX5_shift 30 = .ok (.iastore, 1) := by decide +kernel
theorem dX5_shift_31 : decode cX5_shift 31 = .ok (.aload_n 0, 1) := by decide +kernel
theorem dX5_shift_32 : decode cX5_shift 32 = .ok (.getfield 28, 3) := by decide +kernel
theorem dX5_shift_35 : decode cX5_shift 35 = .ok (.iload_n 1, 1) := by decide +kernel
theorem dX5_shift_36 : decode cX5_shift 36 = .ok (.laload, 1) := by decide +kernel
theorem dX5_shift_37 : decode cX5_shift 37 = .ok (.ldc2_w 110, 3) := by decide +kernel
theorem dX5_shift_40 : decode cX5_shift 40 = .ok (.land, 1) := by decide +kernel
theorem dX5_shift_41 : decode cX5_shift 41 = .ok (.l2i, 1) := by decide +kernel
theorem dX5_shift_42 : decode cX5_shift 42 = .ok (.istore 5, 2) := by decide +kernel
theorem dX5_shift_44 : decode cX5_shift 44 = .ok (.iload 5, 2) := by decide +kernel
theorem dX5_shift_46 : decode cX5_shift 46 = .ok (.bipush 12, 2) := by decide +kernel
theorem dX5_shift_48 : decode cX5_shift 48 = .ok (.if_icmp .ge 23, 3) := by decide +kernel
theorem dX5_shift_51 : decode cX5_shift 51 = .ok (.aload_n 0, 1) := by decide +kernel
theorem dX5_shift_52 : decode cX5_shift 52 = .ok (.getfield 28, 3) := by decide +kernel
theorem dX5_shift_55 : decode cX5_shift 55 = .ok (.iload_n 1, 1) := by decide +kernel
theorem dX5_shift_56 : decode cX5_shift 56 = .ok (.dup2, 1) := by decide +kernel
theorem dX5_shift_57 : decode cX5_shift 57 = .ok (.laload, 1) := by decide +kernel
theorem dX5_shift_58 : decode cX5_shift 58 = .ok (.iload_n 3, 1) := by decide +kernel
theorem dX5_shift_59 : decode cX5_shift 59 = .ok (.i2l, 1) := by decide +kernel
theorem dX5_shift_60 : decode cX5_shift 60 = .ok (.iconst 4, 1) := by decide +kernel
theorem dX5_shift_61 : decode cX5_shift 61 = .ok (.iconst 3, 1) := by decide +kernel
theorem dX5_shift_62 : decode cX5_shift 62 = .ok (.iload 5, 2) := by decide +kernel
theorem dX5_shift_64 : decode cX5_shift 64 = .ok (.imul, 1) := by decide +kernel
theorem dX5_shift_65 : decode cX5_shift 65 = .ok (.iadd, 1) := by decide +kernel
theorem dX5_shift_66 : decode cX5_shift 66 = .ok (.lshl, 1) := by decide +kernel
theorem dX5_shift_67 : decode cX5_shift 67 = .ok (.lconst 1, 1) := by decide +kernel
theorem dX5_shift_68 : decode cX5_shift 68 = .ok (.ladd, 1) := by decide +kernel
theorem dX5_shift_69 : decode cX5_shift 69 = .ok (.ladd, 1) := by decide +kernel
theorem dX5_shift_70 : decode cX5_shift 70 = .ok (.lastore, 1) := by decide +kernel
theorem dX5_shift_71 : decode cX5_shift 71 = .ok (.return_, 1) := by decide +kernel
theorem dX5_stepOf_0 : decode cX5_stepOf 0 = .ok (.aload_n 0, 1) := by decide +kernel
theorem dX5_stepOf_1 : decode cX5_stepOf 1 = .ok (.getfield 28, 3) := by decide +kernel
theorem dX5_stepOf_4 : decode cX5_stepOf 4 = .ok (.iload_n 1, 1) := by decide +kernel
theorem dX5_stepOf_5 : decode cX5_stepOf 5 = .ok (.laload, 1) := by decide +kernel
theorem dX5_stepOf_6 : decode cX5_stepOf 6 = .ok (.ldc2_w 110, 3) := by decide +kernel
theorem dX5_stepOf_9 : decode cX5_stepOf 9 = .ok (.land, 1) := by decide +kernel
theorem dX5_stepOf_10 : decode cX5_stepOf 10 = .ok (.l2i, 1) := by decide +kernel
theorem dX5_stepOf_11 : decode cX5_stepOf 11 = .ok (.istore_n 3, 1) := by decide +kernel
theorem dX5_stepOf_12 : decode cX5_stepOf 12 = .ok (.iload_n 2, 1) := by decide +kernel
theorem dX5_stepOf_13 : decode cX5_stepOf 13 = .ok (.ifCond .ne 5, 3) := by decide +kernel
theorem dX5_stepOf_16 : decode cX5_stepOf 16 = .ok (.iload_n 3, 1) := by decide +kernel
theorem dX5_stepOf_17 : decode cX5_stepOf 17 = .ok (.ireturn, 1) := by decide +kernel
theorem dX5_stepOf_18 : decode cX5_stepOf 18 = .ok (.iload_n 2, 1) := by decide +kernel
theorem dX5_stepOf_19 : decode cX5_stepOf 19 = .ok (.iload_n 3, 1) := by decide +kernel
theorem dX5_stepOf_20 : decode cX5_stepOf 20 = .ok (.if_icmp .le 8, 3) := by decide +kernel
theorem dX5_stepOf_23 : decode cX5_stepOf 23 = .ok (.bipush (-2), 2) := by decide +kernel
theorem dX5_stepOf_25 : decode cX5_stepOf 25 = .ok (.goto 19, 3) := by decide +kernel
theorem dX5_stepOf_28 : decode cX5_stepOf 28 = .ok (.aload_n 0, 1) := by decide +kernel
theorem dX5_stepOf_29 : decode cX5_stepOf 29 = .ok (.getfield 28, 3) := by decide +kernel
theorem dX5_stepOf_32 : decode cX5_stepOf 32 = .ok (.iload_n 1, 1) := by decide +kernel
theorem dX5_stepOf_33 : decode cX5_stepOf 33 = .ok (.laload, 1) := by decide +kernel
theorem dX5_stepOf_34 : decode cX5_stepOf 34 = .ok (.iconst 1, 1) := by decide +kernel
theorem dX5_stepOf_35 : decode cX5_stepOf 35 = .ok (.iconst 3, 1) := by decide +kernel
theorem dX5_stepOf_36 : decode cX5_stepOf 36 = .ok (.iload_n 2, 1) := by decide +kernel
theorem dX5_stepOf_37 : decode cX5_stepOf 37 = .ok (.imul, 1) := by decide +kernel
theorem dX5_stepOf_38 : decode cX5_stepOf 38 = .ok (.iadd, 1) := by decide +kernel
theorem dX5_stepOf_39 : decode cX5_stepOf 39 = .ok (.lushr, 1) := by decide +kernel
theorem dX5_stepOf_40 : decode cX5_stepOf 40 = .ok (.l2i, 1) := by decide +kernel
theorem dX5_stepOf_41 : decode cX5_stepOf 41 = .ok (.bipush 7, 2) := by decide +kernel
theorem dX5_stepOf_43 : decode cX5_stepOf 43 = .ok (.iand, 1) := by decide +kernel
theorem dX5_stepOf_44 : decode cX5_stepOf 44 = .ok (.ireturn, 1) := by decide +kernel
theorem dX5_passHourByHand_0 : decode cX5_passHourByHand 0 = .ok (.aload_n 0, 1) := by decide +kernel
theorem dX5_passHourByHand_1 : decode cX5_passHourByHand 1 = .ok (.getfield 12, 3) := by decide +kernel
theorem dX5_passHourByHand_4 : decode cX5_passHourByHand 4 = .ok (.aload_n 1, 1) := by decide +kernel
theorem dX5_passHourByHand_5 : decode cX5_passHourByHand 5 = .ok (.invokevirtual 112, 3) := by decide +kernel
theorem dX5_passHourByHand_8 : decode cX5_passHourByHand 8 = .ok (.istore_n 2, 1) := by decide +kernel
theorem dX5_passHourByHand_9 : decode cX5_passHourByHand 9 = .ok (.iload_n 2, 1) := by decide +kernel
theorem dX5_passHourByHand_10 : decode cX5_passHourByHand 10 = .ok (.iconst (-1), 1) := by decide +kernel
theorem dX5_passHourByHand_11 : decode cX5_passHourByHand 11 = .ok (.if_icmp .eq 96, 3) := by decide +kernel
theorem dX5_passHourByHand_14 : decode cX5_passHourByHand 14 = .ok (.aload_n 0, 1) := by decide +kernel
theorem dX5_passHourByHand_15 : decode cX5_passHourByHand 15 = .ok (.getfield 12, 3) := by decide +kernel
theorem dX5_passHourByHand_18 : decode cX5_passHourByHand 18 = .ok (.getfield 74, 3) := by decide +kernel
theorem dX5_passHourByHand_21 : decode cX5_passHourByHand 21 = .ok (.iload_n 2, 1) := by decide +kernel
theorem dX5_passHourByHand_22 : decode cX5_passHourByHand 22 = .ok (.laload, 1) := by decide +kernel
theorem dX5_passHourByHand_23 : decode cX5_passHourByHand 23 = .ok (.lstore_n 3, 1) := by decide +kernel
theorem dX5_passHourByHand_24 : decode cX5_passHourByHand 24 = .ok (.aload_n 0, 1) := by decide +kernel
theorem dX5_passHourByHand_25 : decode cX5_passHourByHand 25 = .ok (.getfield 12, 3) := by decide +kernel
theorem dX5_passHourByHand_28 : decode cX5_passHourByHand 28 = .ok (.getfield 100, 3) := by decide +kernel
theorem dX5_passHourByHand_31 : decode cX5_passHourByHand 31 = .ok (.iload_n 2, 1) := by decide +kernel
theorem dX5_passHourByHand_32 : decode cX5_passHourByHand 32 = .ok (.iaload, 1) := by decide +kernel
theorem dX5_passHourByHand_33 : decode cX5_passHourByHand 33 = .ok (.istore 5, 2) := by decide +kernel
theorem dX5_passHourByHand_35 : decode cX5_passHourByHand 35 = .ok (.aload_n 0, 1) := by decide +kernel
theorem dX5_passHourByHand_36 : decode cX5_passHourByHand 36 = .ok (.getfield 12, 3) := by decide +kernel
theorem dX5_passHourByHand_39 : decode cX5_passHourByHand 39 = .ok (.iload_n 2, 1) := by decide +kernel
theorem dX5_passHourByHand_40 : decode cX5_passHourByHand 40 = .ok (.invokevirtual 116, 3) := by decide +kernel
theorem dX5_passHourByHand_43 : decode cX5_passHourByHand 43 = .ok (.lload_n 3, 1) := by decide +kernel
theorem dX5_passHourByHand_44 : decode cX5_passHourByHand 44 = .ok (.aload_n 0, 1) := by decide +kernel
theorem dX5_passHourByHand_45 : decode cX5_passHourByHand 45 = .ok (.getfield 12, 3) := by decide +kernel
theorem dX5_passHourByHand_48 : decode cX5_passHourByHand 48 = .ok (.getfield 74, 3) := by decide +kernel
theorem dX5_passHourByHand_51 : decode cX5_passHourByHand 51 = .ok (.iload_n 2, 1) := by decide +kernel
theorem dX5_passHourByHand_52 : decode cX5_passHourByHand 52 = .ok (.laload, 1) := by decide +kernel
theorem dX5_passHourByHand_53 : decode cX5_passHourByHand 53 = .ok (.lxor, 1) := by decide +kernel
theorem dX5_passHourByHand_54 : decode cX5_passHourByHand 54 = .ok (.lstore_n 3, 1) := by decide +kernel
theorem dX5_passHourByHand_55 : decode cX5_passHourByHand 55 = .ok (.lload_n 3, 1) := by decide +kernel
theorem dX5_passHourByHand_56 : decode cX5_passHourByHand 56 = .ok (.lconst 0, 1) := by decide +kernel
theorem dX5_passHourByHand_57 : decode cX5_passHourByHand 57 = .ok (.lcmp, 1) := by decide +kernel
theorem dX5_passHourByHand_58 : decode cX5_passHourByHand 58 = .ok (.ifCond .eq 33, 3) := by decide +kernel
theorem dX5_passHourByHand_61 : decode cX5_passHourByHand 61 = .ok (.aload_n 0, 1) := by decide +kernel
theorem dX5_passHourByHand_62 : decode cX5_passHourByHand 62 = .ok (.getfield 12, 3) := by decide +kernel
theorem dX5_passHourByHand_65 : decode cX5_passHourByHand 65 = .ok (.getfield 100, 3) := by decide +kernel
theorem dX5_passHourByHand_68 : decode cX5_passHourByHand 68 = .ok (.iload_n 2, 1) := by decide +kernel
theorem dX5_passHourByHand_69 : decode cX5_passHourByHand 69 = .ok (.iaload, 1) := by decide +kernel
theorem dX5_passHourByHand_70 : decode cX5_passHourByHand 70 = .ok (.iload 5, 2) := by decide +kernel
theorem dX5_passHourByHand_72 : decode cX5_passHourByHand 72 = .ok (.if_icmp .le 19, 3) := by decide +kernel
theorem dX5_passHourByHand_75 : decode cX5_passHourByHand 75 = .ok (.aload_n 0, 1) := by decide +kernel
theorem dX5_passHourByHand_76 : decode cX5_passHourByHand 76 = .ok (.lload_n 3, 1) := by decide +kernel
theorem dX5_passHourByHand_77 : decode cX5_passHourByHand 77 = .ok (.invokestatic 120, 3) := by decide +kernel
theorem dX5_passHourByHand_80 : decode cX5_passHourByHand 80 = .ok (.iload_n 2, 1) := by decide +kernel
theorem dX5_passHourByHand_81 : decode cX5_passHourByHand 81 = .ok (.iconst 2, 1) := by decide +kernel
theorem dX5_passHourByHand_82 : decode cX5_passHourByHand 82 = .ok (.invokevirtual 93, 3) := by decide +kernel
theorem dX5_passHourByHand_85 : decode cX5_passHourByHand 85 = .ok (.lload_n 3, 1) := by decide +kernel
theorem dX5_passHourByHand_86 : decode cX5_passHourByHand 86 = .ok (.lload_n 3, 1) := by decide +kernel
theorem dX5_passHourByHand_87 : decode cX5_passHourByHand 87 = .ok (.lconst 1, 1) := by decide +kernel
theorem dX5_passHourByHand_88 : decode cX5_passHourByHand 88 = .ok (.lsub, 1) := by decide +kernel
theorem dX5_passHourByHand_89 : decode cX5_passHourByHand 89 = .ok (.land, 1) := by decide +kernel
theorem dX5_passHourByHand_90 : decode cX5_passHourByHand 90 = .ok (.lstore_n 3, 1) := by decide +kernel
theorem dX5_passHourByHand_91 : decode cX5_passHourByHand 91 = .ok (.lload_n 3, 1) := by decide +kernel
theorem dX5_passHourByHand_92 : decode cX5_passHourByHand 92 = .ok (.lconst 0, 1) := by decide +kernel
theorem dX5_passHourByHand_93 : decode cX5_passHourByHand 93 = .ok (.lcmp, 1) := by decide +kernel
theorem dX5_passHourByHand_94 : decode cX5_passHourByHand 94 = .ok (.ifCond .eq 13, 3) := by decide +kernel
theorem dX5_passHourByHand_97 : decode cX5_passHourByHand 97 = .ok (.aload_n 0, 1) := by decide +kernel
theorem dX5_passHourByHand_98 : decode cX5_passHourByHand 98 = .ok (.lload_n 3, 1) := by decide +kernel
theorem dX5_passHourByHand_99 : decode cX5_passHourByHand 99 = .ok (.invokestatic 120, 3) := by decide +kernel
theorem dX5_passHourByHand_102 : decode cX5_passHourByHand 102 = .ok (.iload_n 2, 1) := by decide +kernel
theorem dX5_passHourByHand_103 : decode cX5_passHourByHand 103 = .ok (.iconst 1, 1) := by decide +kernel
theorem dX5_passHourByHand_104 : decode cX5_passHourByHand 104 = .ok (.invokevirtual 93, 3) := by decide +kernel
theorem dX5_passHourByHand_107 : decode cX5_passHourByHand 107 = .ok (.aload_n 0, 1) := by decide +kernel
theorem dX5_passHourByHand_108 : decode cX5_passHourByHand 108 = .ok (.getfield 12, 3) := by decide +kernel
theorem dX5_passHourByHand_111 : decode cX5_passHourByHand 111 = .ok (.dup, 1) := by decide +kernel
theorem dX5_passHourByHand_112 : decode cX5_passHourByHand 112 = .ok (.getfield 123, 3) := by decide +kernel
theorem dX5_passHourByHand_115 : decode cX5_passHourByHand 115 = .ok (.iconst 1, 1) := by decide +kernel
theorem dX5_passHourByHand_116 : decode cX5_passHourByHand 116 = .ok (.iadd, 1) := by decide +kernel
theorem dX5_passHourByHand_117 : decode cX5_passHourByHand 117 = .ok (.putfield 123, 3) := by decide +kernel
theorem dX5_passHourByHand_120 : decode cX5_passHourByHand 120 = .ok (.iload_n 2, 1) := by decide +kernel
theorem dX5_passHourByHand_121 : decode cX5_passHourByHand 121 = .ok (.ireturn, 1) := by decide +kernel
theorem dX5_isRecounted_0 : decode cX5_isRecounted 0 = .ok (.aload_n 0, 1) := by decide +kernel
theorem dX5_isRecounted_1 : decode cX5_isRecounted 1 = .ok (.getfield 54, 3) := by decide +kernel
theorem dX5_isRecounted_4 : decode cX5_isRecounted 4 = .ok (.iload_n 1, 1) := by decide +kernel
theorem dX5_isRecounted_5 : decode cX5_isRecounted 5 = .ok (.ishr, 1) := by decide +kernel
theorem dX5_isRecounted_6 : decode cX5_isRecounted 6 = .ok (.iconst 1, 1) := by decide +kernel
theorem dX5_isRecounted_7 : decode cX5_isRecounted 7 = .ok (.iand, 1) := by decide +kernel
theorem dX5_isRecounted_8 : decode cX5_isRecounted 8 = .ok (.ifCond .eq 7, 3) := by decide +kernel
theorem dX5_isRecounted_11 : decode cX5_isRecounted 11 = .ok (.iconst 1, 1) := by decide +kernel
theorem dX5_isRecounted_12 : decode cX5_isRecounted 12 = .ok (.goto 4, 3) := by decide +kernel
theorem dX5_isRecounted_15 : decode cX5_isRecounted 15 = .ok (.iconst 0, 1) := by decide +kernel
theorem dX5_isRecounted_16 : decode cX5_isRecounted 16 = .ok (.ireturn, 1) := by decide +kernel
theorem dX5_saidCount_0 : decode cX5_saidCount 0 = .ok (.iconst 0, 1) := by decide +kernel
theorem dX5_saidCount_1 : decode cX5_saidCount 1 = .ok (.istore_n 2, 1) := by decide +kernel
theorem dX5_saidCount_2 : decode cX5_saidCount 2 = .ok (.iconst 0, 1) := by decide +kernel
theorem dX5_saidCount_3 : decode cX5_saidCount 3 = .ok (.istore_n 3, 1) := by decide +kernel
theorem dX5_saidCount_4 : decode cX5_saidCount 4 = .ok (.iload_n 3, 1) := by decide +kernel
theorem dX5_saidCount_5 : decode cX5_saidCount 5 = .ok (.iconst 2, 1) := by decide +kernel
theorem dX5_saidCount_6 : decode cX5_saidCount 6 = .ok (.if_icmp .gt 27, 3) := by decide +kernel
theorem dX5_saidCount_9 : decode cX5_saidCount 9 = .ok (.aload_n 0, 1) := by decide +kernel
theorem dX5_saidCount_10 : decode cX5_saidCount 10 = .ok (.getfield 35, 3) := by decide +kernel
theorem dX5_saidCount_13 : decode cX5_saidCount 13 = .ok (.iload_n 1, 1) := by decide +kernel
theorem dX5_saidCount_14 : decode cX5_saidCount 14 = .ok (.iconst 3, 1) := by decide +kernel
theorem dX5_saidCount_15 : decode cX5_saidCount 15 = .ok (.imul, 1) := by decide +kernel
theorem dX5_saidCount_16 : decode cX5_saidCount 16 = .ok (.iload_n 3, 1) := by decide +kernel
theorem dX5_saidCount_17 : decode cX5_saidCount 17 = .ok (.iadd, 1) := by decide +kernel
theorem dX5_saidCount_18 : decode cX5_saidCount 18 = .ok (.iaload, 1) := by decide +kernel
theorem dX5_saidCount_19 : decode cX5_saidCount 19 = .ok (.bipush (-2), 2) := by decide +kernel
theorem dX5_saidCount_21 : decode cX5_saidCount 21 = .ok (.if_icmp .eq 6, 3) := by decide +kernel
theorem dX5_saidCount_24 : decode cX5_saidCount 24 = .ok (.iinc 2 1, 3) := by decide +kernel
theorem dX5_saidCount_27 : decode cX5_saidCount 27 = .ok (.iinc 3 1, 3) := by decide +kernel
theorem dX5_saidCount_30 : decode cX5_saidCount 30 = .ok (.goto (-26), 3) := by decide +kernel
theorem dX5_saidCount_33 : decode cX5_saidCount 33 = .ok (.iload_n 2, 1) := by decide +kernel
theorem dX5_saidCount_34 : decode cX5_saidCount 34 = .ok (.ireturn, 1) := by decide +kernel
theorem dX5_gapOf_0 : decode cX5_gapOf 0 = .ok (.aload_n 0, 1) := by decide +kernel
theorem dX5_gapOf_1 : decode cX5_gapOf 1 = .ok (.getfield 18, 3) := by decide +kernel
theorem dX5_gapOf_4 : decode cX5_gapOf 4 = .ok (.iload_n 1, 1) := by decide +kernel
theorem dX5_gapOf_5 : decode cX5_gapOf 5 = .ok (.iaload, 1) := by decide +kernel
theorem dX5_gapOf_6 : decode cX5_gapOf 6 = .ok (.istore_n 2, 1) := by decide +kernel
theorem dX5_gapOf_7 : decode cX5_gapOf 7 = .ok (.iconst 0, 1) := by decide +kernel
theorem dX5_gapOf_8 : decode cX5_gapOf 8 = .ok (.istore_n 3, 1) := by decide +kernel
theorem dX5_gapOf_9 : decode cX5_gapOf 9 = .ok (.iload_n 3, 1) := by decide +kernel
theorem dX5_gapOf_10 : decode cX5_gapOf 10 = .ok (.iconst 5, 1) := by decide +kernel
theorem dX5_gapOf_11 : decode cX5_gapOf 11 = .ok (.if_icmp .ge 33, 3) := by decide +kernel
theorem dX5_gapOf_14 : decode cX5_gapOf 14 = .ok (.iload_n 2, 1) := by decide +kernel
theorem dX5_gapOf_15 : decode cX5_gapOf 15 = .ok (.aload_n 0, 1) := by decide +kernel
theorem dX5_gapOf_16 : decode cX5_gapOf 16 = .ok (.getfield 32, 3) := by decide +kernel
theorem dX5_gapOf_19 : decode cX5_gapOf 19 = .ok (.iload_n 3, 1) := by decide +kernel
theorem dX5_gapOf_20 : decode cX5_gapOf 20 = .ok (.iconst 5, 1) := by decide +kernel
theorem dX5_gapOf_21 : decode cX5_gapOf 21 = .ok (.imul, 1) := by decide +kernel
theorem dX5_gapOf_22 : decode cX5_gapOf 22 = .ok (.iload_n 1, 1) := by decide +kernel
theorem dX5_gapOf_23 : decode cX5_gapOf 23 = .ok (.iadd, 1) := by decide +kernel
theorem dX5_gapOf_24 : decode cX5_gapOf 24 = .ok (.iaload, 1) := by decide +kernel
theorem dX5_gapOf_25 : decode cX5_gapOf 25 = .ok (.aload_n 0, 1) := by decide +kernel
theorem dX5_gapOf_26 : decode cX5_gapOf 26 = .ok (.getfield 32, 3) := by decide +kernel
theorem dX5_gapOf_29 : decode cX5_gapOf 29 = .ok (.iload_n 1, 1) := by decide +kernel
theorem dX5_gapOf_30 : decode cX5_gapOf 30 = .ok (.iconst 5, 1) := by decide +kernel
theorem dX5_gapOf_31 : decode cX5_gapOf 31 = .ok (.imul, 1) := by decide +kernel
theorem dX5_gapOf_32 : decode cX5_gapOf 32 = .ok (.iload_n 3, 1) := by decide +kernel
theorem dX5_gapOf_33 : decode cX5_gapOf 33 = .ok (.iadd, 1) := by decide +kernel
theorem dX5_gapOf_34 : decode cX5_gapOf 34 = .ok (.iaload, 1) := by decide +kernel
theorem dX5_gapOf_35 : decode cX5_gapOf 35 = .ok (.isub, 1) := by decide +kernel
theorem dX5_gapOf_36 : decode cX5_gapOf 36 = .ok (.iadd, 1) := by decide +kernel
theorem dX5_gapOf_37 : decode cX5_gapOf 37 = .ok (.istore_n 2, 1) := by decide +kernel
theorem dX5_gapOf_38 : decode cX5_gapOf 38 = .ok (.iinc 3 1, 3) := by decide +kernel
theorem dX5_gapOf_41 : decode cX5_gapOf 41 = .ok (.goto (-32), 3) := by decide +kernel
theorem dX5_gapOf_44 : decode cX5_gapOf 44 = .ok (.iconst 0, 1) := by decide +kernel
theorem dX5_gapOf_45 : decode cX5_gapOf 45 = .ok (.istore_n 3, 1) := by decide +kernel
theorem dX5_gapOf_46 : decode cX5_gapOf 46 = .ok (.iload_n 3, 1) := by decide +kernel
theorem dX5_gapOf_47 : decode cX5_gapOf 47 = .ok (.iconst 2, 1) := by decide +kernel
theorem dX5_gapOf_48 : decode cX5_gapOf 48 = .ok (.if_icmp .gt 22, 3) := by decide +kernel
theorem dX5_gapOf_51 : decode cX5_gapOf 51 = .ok (.iload_n 2, 1) := by decide +kernel
theorem dX5_gapOf_52 : decode cX5_gapOf 52 = .ok (.aload_n 0, 1) := by decide +kernel
theorem dX5_gapOf_53 : decode cX5_gapOf 53 = .ok (.getfield 35, 3) := by decide +kernel
theorem dX5_gapOf_56 : decode cX5_gapOf 56 = .ok (.iload_n 1, 1) := by decide +kernel
theorem dX5_gapOf_57 : decode cX5_gapOf 57 = .ok (.iconst 3, 1) := by decide +kernel
theorem dX5_gapOf_58 : decode cX5_gapOf 58 = .ok (.imul, 1) := by decide +kernel
theorem dX5_gapOf_59 : decode cX5_gapOf 59 = .ok (.iload_n 3, 1) := by decide +kernel
theorem dX5_gapOf_60 : decode cX5_gapOf 60 = .ok (.iadd, 1) := by decide +kernel
theorem dX5_gapOf_61 : decode cX5_gapOf 61 = .ok (.iaload, 1) := by decide +kernel
theorem dX5_gapOf_62 : decode cX5_gapOf 62 = .ok (.isub, 1) := by decide +kernel
theorem dX5_gapOf_63 : decode cX5_gapOf 63 = .ok (.istore_n 2, 1) := by decide +kernel
theorem dX5_gapOf_64 : decode cX5_gapOf 64 = .ok (.iinc 3 1, 3) := by decide +kernel
theorem dX5_gapOf_67 : decode cX5_gapOf 67 = .ok (.goto (-21), 3) := by decide +kernel
theorem dX5_gapOf_70 : decode cX5_gapOf 70 = .ok (.iload_n 2, 1) := by decide +kernel
theorem dX5_gapOf_71 : decode cX5_gapOf 71 = .ok (.ireturn, 1) := by decide +kernel
theorem dX6_init_0 : decode cX6_init 0 = .ok (.aload_n 0, 1) := by decide +kernel
theorem dX6_init_1 : decode cX6_init 1 = .ok (.invokespecial 3, 3) := by decide +kernel
theorem dX6_init_4 : decode cX6_init 4 = .ok (.aload_n 0, 1) := by decide +kernel
theorem dX6_init_5 : decode cX6_init 5 = .ok (.iconst 5, 1) := by decide +kernel
theorem dX6_init_6 : decode cX6_init 6 = .ok (.newarray .int, 2) := by decide +kernel
theorem dX6_init_8 : decode cX6_init 8 = .ok (.putfield 9, 3) := by decide +kernel
theorem dX6_init_11 : decode cX6_init 11 = .ok (.aload_n 0, 1) := by decide +kernel
theorem dX6_init_12 : decode cX6_init 12 = .ok (.iconst 5, 1) := by decide +kernel
theorem dX6_init_13 : decode cX6_init 13 = .ok (.newarray .int, 2) := by decide +kernel
theorem dX6_init_15 : decode cX6_init 15 = .ok (.putfield 15, 3) := by decide +kernel
theorem dX6_init_18 : decode cX6_init 18 = .ok (.aload_n 0, 1) := by decide +kernel
theorem dX6_init_19 : decode cX6_init 19 = .ok (.iconst 5, 1) := by decide +kernel
theorem dX6_init_20 : decode cX6_init 20 = .ok (.newarray .int, 2) := by decide +kernel
theorem dX6_init_22 : decode cX6_init 22 = .ok (.putfield 18, 3) := by decide +kernel
theorem dX6_init_25 : decode cX6_init 25 = .ok (.return_, 1) := by decide +kernel
theorem dX6_run_0 : decode cX6_run 0 = .ok (.aload_n 0, 1) := by decide +kernel
theorem dX6_run_1 : decode cX6_run 1 = .ok (.iload_n 1, 1) := by decide +kernel
theorem dX6_run_2 : decode cX6_run 2 = .ok (.iconst 5, 1) := by decide +kernel
theorem dX6_run_3 : decode cX6_run 3 = .ok (.invokestatic 21, 3) := by decide +kernel
theorem dX6_run_6 : decode cX6_run 6 = .ok (.putfield 27, 3) := by decide +kernel
theorem dX6_run_9 : decode cX6_run 9 = .ok (.aload_n 0, 1) := by decide +kernel
theorem dX6_run_10 : decode cX6_run 10 = .ok (.iload_n 2, 1) := by decide +kernel
theorem dX6_run_11 : decode cX6_run 11 = .ok (.putfield 31, 3) := by decide +kernel
theorem dX6_run_14 : decode cX6_run 14 = .ok (.aload_n 0, 1) := by decide +kernel
theorem dX6_run_15 : decode cX6_run 15 = .ok (.iload_n 3, 1) := by decide +kernel
theorem dX6_run_16 : decode cX6_run 16 = .ok (.putfield 34, 3) := by decide +kernel
theorem dX6_run_19 : decode cX6_run 19 = .ok (.aload_n 0, 1) := by decide +kernel
theorem dX6_run_20 : decode cX6_run 20 = .ok (.iconst (-1), 1) := by decide +kernel
theorem dX6_run_21 : decode cX6_run 21 = .ok (.putfield 37, 3) := by decide +kernel
theorem dX6_run_24 : decode cX6_run 24 = .ok (.aload_n 0, 1) := by decide +kernel
theorem dX6_run_25 : decode cX6_run 25 = .ok (.iconst 0, 1) := by decide +kernel
theorem dX6_run_26 : decode cX6_run 26 = .ok (.putfield 40, 3) := by decide +kernel
theorem dX6_run_29 : decode cX6_run 29 = .ok (.aload_n 0, 1) := by decide +kernel
theorem dX6_run_30 : decode cX6_run 30 = .ok (.iconst 0, 1) := by decide +kernel
theorem dX6_run_31 : decode cX6_run 31 = .ok (.iconst 0, 1) := by decide +kernel
theorem dX6_run_32 : decode cX6_run 32 = .ok (.iconst 0, 1) := by decide +kernel
theorem dX6_run_33 : decode cX6_run 33 = .ok (.iconst 0, 1) := by decide +kernel
theorem dX6_run_34 : decode cX6_run 34 = .ok (.iconst 0, 1) := by decide +kernel
theorem dX6_run_35 : decode cX6_run 35 = .ok (.iconst 0, 1) := by decide +kernel
theorem dX6_run_36 : decode cX6_run 36 = .ok (.invokestatic 43, 3) := by decide +kernel
theorem dX6_run_39 : decode cX6_run 39 = .ok (.aload_n 0, 1) := by decide +kernel
theorem dX6_run_40 : decode cX6_run 40 = .ok (.iconst 3, 1) := by decide +kernel
theorem dX6_run_41 : decode cX6_run 41 = .ok (.putfield 40, 3) := by decide +kernel
theorem dX6_run_44 : decode cX6_run 44 = .ok (.aload_n 0, 1) := by decide +kernel
theorem dX6_run_45 : decode cX6_run 45 = .ok (.iconst 0, 1) := by decide +kernel
theorem dX6_run_46 : decode cX6_run 46 = .ok (.iconst 0, 1) := by decide +kernel
theorem dX6_run_47 : decode cX6_run 47 = .ok (.iconst 0, 1) := by decide +kernel
theorem dX6_run_48 : decode cX6_run 48 = .ok (.iconst 0, 1) := by decide +kernel
theorem dX6_run_49 : decode cX6_run 49 = .ok (.iconst 0, 1) := by decide +kernel
theorem dX6_run_50 : decode cX6_run 50 = .ok (.iconst 0, 1) := by decide +kernel
theorem dX6_run_51 : decode cX6_run 51 = .ok (.invokestatic 43, 3) := by decide +kernel
theorem dX6_run_54 : decode cX6_run 54 = .ok (.aload_n 0, 1) := by decide +kernel
theorem dX6_run_55 : decode cX6_run 55 = .ok (.getfield 37, 3) := by decide +kernel
theorem dX6_run_58 : decode cX6_run 58 = .ok (.iconst (-1), 1) := by decide +kernel
theorem dX6_run_59 : decode cX6_run 59 = .ok (.if_icmp .eq 7, 3) := by decide +kernel
theorem dX6_run_62 : decode cX6_run 62 = .ok (.iconst 1, 1) := by decide +kernel
theorem dX6_run_63 : decode cX6_run 63 = .ok (.goto 4, 3) := by decide +kernel
theorem dX6_run_66 : decode cX6_run 66 = .ok (.iconst 0, 1) := by decide +kernel
theorem dX6_run_67 : decode cX6_run 67 = .ok (.ireturn, 1) := by decide +kernel
theorem dX6_descend_0 : decode cX6_descend 0 = .ok (.iload_n 2, 1) := by decide +kernel
theorem dX6_descend_1 : decode cX6_descend 1 = .ok (.iload_n 3, 1) := by decide +kernel
theorem dX6_descend_2 : decode cX6_descend 2 = .ok (.iload 4, 2) := by decide +kernel
theorem dX6_descend_4 : decode cX6_descend 4 = .ok (.invokestatic 47, 3) := by decide +kernel
theorem dX6_descend_7 : decode cX6_descend 7 = .ok (.iadd, 1) := by decide +kernel
theorem dX6_descend_8 : decode cX6_descend 8 = .ok (.aload_n 0, 1) := by decide +kernel
theorem dX6_descend_9 : decode cX6_descend 9 = .ok (.getfield 34, 3) := by decide +kernel
theorem dX6_descend_12 : decode cX6_descend 12 = .ok (.if_icmp .le 4, 3) := by decide +kernel
theorem dX6_descend_15 : decode cX6_descend 15 = .ok (.return_, 1) := by decide +kernel
theorem dX6_descend_16 : decode cX6_descend 16 = .ok (.iload_n 1, 1) := by decide +kernel
theorem dX6_descend_17 : decode cX6_descend 17 = .ok (.aload_n 0, 1) := by decide +kernel
theorem dX6_descend_18 : decode cX6_descend 18 = .ok (.getfield 27, 3) := by decide +kernel
theorem dX6_descend_21 : decode cX6_descend 21 = .ok (.if_icmp .lt 16, 3) := by decide +kernel
theorem dX6_descend_24 : decode cX6_descend 24 = .ok (.aload_n 0, 1) := by decide +kernel
theorem dX6_descend_25 : decode cX6_descend 25 = .ok (.iload_n 2, 1) := by decide +kernel
theorem dX6_descend_26 : decode cX6_descend 26 = .ok (.iload_n 3, 1) := by decide +kernel
theorem dX6_descend_27 : decode cX6_descend 27 = .ok (.iload 4, 2) := by decide +kernel
theorem dX6_descend_29 : decode cX6_descend 29 = .ok (.iload 5, 2) := by decide +kernel
theorem dX6_descend_31 : decode cX6_descend 31 = .ok (.iload 6, 2) := by decide +kernel
theorem dX6_descend_33 : decode cX6_descend 33 = .ok (.invokevirtual 50, 3) := by decide +kernel
theorem dX6_descend_36 : decode cX6_descend 36 = .ok (.return_, 1) := by decide +kernel
theorem dX6_descend_37 : decode cX6_descend 37 = .ok (.aload_n 0, 1) := by decide +kernel
theorem dX6_descend_38 : decode cX6_descend 38 = .ok (.getfield 31, 3) := by decide +kernel
theorem dX6_descend_41 : decode cX6_descend 41 = .ok (.iload_n 1, 1) := by decide +kernel
theorem dX6_descend_42 : decode cX6_descend 42 = .ok (.ishr, 1) := by decide +kernel
theorem dX6_descend_43 : decode cX6_descend 43 = .ok (.iconst 1, 1) := by decide +kernel
theorem dX6_descend_44 : decode cX6_descend 44 = .ok (.iand, 1) := by decide +kernel
theorem dX6_descend_45 : decode cX6_descend 45 = .ok (.ifCond .ne 7, 3) := by decide +kernel
theorem dX6_descend_48 : decode cX6_descend 48 = .ok (.iconst 1, 1) := by decide +kernel
theorem dX6_descend_49 : decode cX6_descend 49 = .ok (.goto 4, 3) := by decide +kernel
theorem dX6_descend_52 : decode cX6_descend 52 = .ok (.iconst 0, 1) := by decide +kernel
theorem dX6_descend_53 : decode cX6_descend 53 = .ok (.istore 7, 2) := by decide +kernel
theorem dX6_descend_55 : decode cX6_descend 55 = .ok (.iload 7, 2) := by decide +kernel
theorem dX6_descend_57 : decode cX6_descend 57 = .ok (.ifCond .eq 10, 3) := by decide +kernel
theorem dX6_descend_60 : decode cX6_descend 60 = .ok (.aload_n 0, 1) := by decide +kernel
theorem dX6_descend_61 : decode cX6_descend 61 = .ok (.getfield 40, 3) := by decide +kernel
theorem dX6_descend_64 : decode cX6_descend 64 = .ok (.goto 4, 3) := by decide +kernel
theorem dX6_descend_67 : decode cX6_descend 67 = .ok (.iconst 0, 1) := by decide +kernel
theorem dX6_descend_68 : decode cX6_descend 68 = .ok (.istore 8, 2) := by decide +kernel
theorem dX6_descend_70 : decode cX6_descend 70 = .ok (.iload 8, 2) := by decide +kernel
theorem dX6_descend_72 : decode cX6_descend 72 = .ok (.ineg, 1) := by decide +kernel
theorem dX6_descend_73 : decode cX6_descend 73 = .ok (.istore 9, 2) := by decide +kernel
theorem dX6_descend_75 : decode cX6_descend 75 = .ok (.iload 9, 2) := by decide +kernel
theorem dX6_descend_77 : decode cX6_descend 77 = .ok (.iload 8, 2) := by decide +kernel
theorem dX6_descend_79 : decode cX6_descend 79 = .ok (.if_icmp .gt 101, 3) := by decide +kernel
theorem dX6_descend_82 : decode cX6_descend 82 = .ok (.aload_n 0, 1) := by decide +kernel
theorem dX6_descend_83 : decode cX6_descend 83 = .ok (.getfield 9, 3) := by decide +kernel
theorem dX6_descend_86 : decode cX6_descend 86 = .ok (.iload_n 1, 1) := by decide +kernel
theorem dX6_descend_87 : decode cX6_descend 87 = .ok (.iaload, 1) := by decide +kernel
theorem dX6_descend_88 : decode cX6_descend 88 = .ok (.bipush 10, 2) := by decide +kernel
theorem dX6_descend_90 : decode cX6_descend 90 = .ok (.iload 9, 2) := by decide +kernel
theorem dX6_descend_92 : decode cX6_descend 92 = .ok (.imul, 1) := by decide +kernel
theorem dX6_descend_93 : decode cX6_descend 93 = .ok (.isub, 1) := by decide +kernel
theorem dX6_descend_94 : decode cX6_descend 94 = .ok (.istore 10, 2) := by decide +kernel
theorem dX6_descend_96 : decode cX6_descend 96 = .ok (.iload 10, 2) := by decide +kernel
theorem dX6_descend_98 : decode cX6_descend 98 = .ok (.iconst 0, 1) := by decide +kernel
theorem dX6_descend_99 : decode cX6_descend 99 = .ok (.invokestatic 47, 3) := by decide +kernel
theorem dX6_descend_102 : decode cX6_descend 102 = .ok (.istore 11, 2) := by decide +kernel
theorem dX6_descend_104 : decode cX6_descend 104 = .ok (.iload 10, 2) := by decide +kernel
theorem dX6_descend_106 : decode cX6_descend 106 = .ok (.ineg, 1) := by decide +kernel
theorem dX6_descend_107 : decode cX6_descend 107 = .ok (.iconst 0, 1) := by decide +kernel
theorem dX6_descend_108 : decode cX6_descend 108 = .ok (.invokestatic 47, 3) := by decide +kernel
theorem dX6_descend_111 : decode cX6_descend 111 = .ok (.istore 12, 2) := by decide +kernel
theorem dX6_descend_113 : decode cX6_descend 113 = .ok (.aload_n 0, 1) := by decide +kernel
theorem dX6_descend_114 : decode cX6_descend 114 = .ok (.getfield 18, 3) := by decide +kernel
theorem dX6_descend_117 : decode cX6_descend 117 = .ok (.iload_n 1, 1) := by decide +kernel
theorem dX6_descend_118 : decode cX6_descend 118 = .ok (.iload 9, 2) := by decide +kernel
theorem dX6_descend_120 : decode cX6_descend 120 = .ok (.iastore, 1) := by decide +kernel
theorem dX6_descend_121 : decode cX6_descend 121 = .ok (.aload_n 0, 1) := by decide +kernel
theorem dX6_descend_122 : decode cX6_descend 122 = .ok (.iload_n 1, 1) := by decide +kernel
theorem dX6_descend_123 : decode cX6_descend 123 = .ok (.iconst 1, 1) := by decide +kernel
theorem dX6_descend_124 : decode cX6_descend 124 = .ok (.iadd, 1) := by decide +kernel
theorem dX6_descend_125 : decode cX6_descend 125 = .ok (.iload_n 2, 1) := by decide +kernel
theorem dX6_descend_126 : decode cX6_descend 126 = .ok (.iload 9, 2) := by decide +kernel
theorem dX6_descend_128 : decode cX6_descend 128 = .ok (.invokestatic 54, 3) := by decide +kernel
theorem dX6_descend_131 : decode cX6_descend 131 = .ok (.iadd, 1) := by decide +kernel
theorem dX6_descend_132 : decode cX6_descend 132 = .ok (.iload_n 3, 1) := by decide +kernel
theorem dX6_descend_133 : decode cX6_descend 133 = .ok (.iload 11, 2) := by decide +kernel
theorem dX6_descend_135 : decode cX6_descend 135 = .ok (.iadd, 1) := by decide +kernel
theorem dX6_descend_136 : decode cX6_descend 136 = .ok (.iload 4, 2) := by decide +kernel
theorem dX6_descend_138 : decode cX6_descend 138 = .ok (.iload 12, 2) := by decide +kernel
theorem dX6_descend_140 : decode cX6_descend 140 = .ok (.iadd, 1) := by decide +kernel
theorem dX6_descend_141 : decode cX6_descend 141 = .ok (.iload 7, 2) := by decide +kernel
theorem dX6_descend_143 : decode cX6_descend 143 = .ok (.ifCond .eq 11, 3) := by decide +kernel
theorem dX6_descend_146 : decode cX6_descend 146 = .ok (.iload 5, 2) := by decide +kernel
theorem dX6_descend_148 : decode cX6_descend 148 = .ok (.iload 11, 2) := by decide +kernel
theorem dX6_descend_150 : decode cX6_descend 150 = .ok (.iadd, 1) := by decide +kernel
theorem dX6_descend_151 : decode cX6_descend 151 = .ok (.goto 5, 3) := by decide +kernel
theorem dX6_descend_154 : decode cX6_descend 154 = .ok (.iload 5, 2) := by decide +kernel
theorem dX6_descend_156 : decode cX6_descend 156 = .ok (.iload 7, 2) := by decide +kernel
theorem dX6_descend_158 : decode cX6_descend 158 = .ok (.ifCond .eq 11, 3) := by decide +kernel
theorem dX6_descend_161 : decode cX6_descend 161 = .ok (.iload 6, 2) := by decide +kernel
theorem dX6_descend_163 : decode cX6_descend 163 = .ok (.iload 12, 2) := by decide +kernel
theorem dX6_descend_165 : decode cX6_descend 165 = .ok (.iadd, 1) := by decide +kernel
theorem dX6_descend_166 : decode cX6_descend 166 = .ok (.goto 5, 3) := by decide +kernel
theorem dX6_descend_169 : decode cX6_descend 169 = .ok (.iload 6, 2) := by decide +kernel
theorem dX6_descend_171 : decode cX6_descend 171 = .ok (.invokestatic 43, 3) := by decide +kernel
theorem dX6_descend_174 : decode cX6_descend 174 = .ok (.iinc 9 1, 3) := by decide +kernel
theorem dX6_descend_177 : decode cX6_descend 177 = .ok (.goto (-102), 3) := by decide +kernel
theorem dX6_descend_180 : decode cX6_descend 180 = .ok (.return_, 1) := by decide +kernel
theorem dX6_weigh_0 : decode cX6_weigh 0 = .ok (.iload_n 2, 1) := by decide +kernel
theorem dX6_weigh_1 : decode cX6_weigh 1 = .ok (.iload_n 3, 1) := by decide +kernel
theorem dX6_weigh_2 : decode cX6_weigh 2 = .ok (.isub, 1) := by decide +kernel
theorem dX6_weigh_3 : decode cX6_weigh 3 = .ok (.istore 6, 2) := by decide +kernel
theorem dX6_weigh_5 : decode cX6_weigh 5 = .ok (.aload_n 0, 1) := by decide +kernel
theorem dX6_weigh_6 : decode cX6_weigh 6 = .ok (.getfield 31, 3) := by decide +kernel
theorem dX6_weigh_9 : decode cX6_weigh 9 = .ok (.iconst (-1), 1) := by decide +kernel
theorem dX6_weigh_10 : decode cX6_weigh 10 = .ok (.ixor, 1) := by decide +kernel
theorem dX6_weigh_11 : decode cX6_weigh 11 = .ok (.iconst 1, 1) := by decide +kernel
theorem dX6_weigh_12 : decode cX6_weigh 12 = .ok (.aload_n 0, 1) := by decide +kernel
theorem dX6_weigh_13 : decode cX6_weigh 13 = .ok (.getfield 27, 3) := by decide +kernel
theorem dX6_weigh_16 : decode cX6_weigh 16 = .ok (.ishl, 1) := by decide +kernel
theorem dX6_weigh_17 : decode cX6_weigh 17 = .ok (.iconst 1, 1) := by decide +kernel
theorem dX6_weigh_18 : decode cX6_weigh 18 = .ok (.isub, 1) := by decide +kernel
theorem dX6_weigh_19 : decode cX6_weigh 19 = .ok (.iand, 1) := by decide +kernel
theorem dX6_weigh_20 : decode cX6_weigh 20 = .ok (.ifCond .ne 7, 3) := by decide +kernel
theorem dX6_weigh_23 : decode cX6_weigh 23 = .ok (.iconst 1, 1) := by decide +kernel
theorem dX6_weigh_24 : decode cX6_weigh 24 = .ok (.goto 4, 3) := by decide +kernel
theorem dX6_weigh_27 : decode cX6_weigh 27 = .ok (.iconst 0, 1) := by decide +kernel
theorem dX6_weigh_28 : decode cX6_weigh 28 = .ok (.istore 7, 2) := by decide +kernel
theorem dX6_weigh_30 : decode cX6_weigh 30 = .ok (.iload 7, 2) := by decide +kernel
theorem dX6_weigh_32 : decode cX6_weigh 32 = .ok (.ifCond .eq 9, 3) := by decide +kernel
theorem dX6_weigh_35 : decode cX6_weigh 35 = .ok (.iload 6, 2) := by decide +kernel
theorem dX6_weigh_37 : decode cX6_weigh 37 = .ok (.ifCond .eq 4, 3) := by decide +kernel
theorem dX6_weigh_40 : decode cX6_weigh 40 = .ok (.return_, 1) := by decide +kernel
theorem dX6_weigh_41 : decode cX6_weigh 41 = .ok (.iload 6, 2) := by decide +kernel
theorem dX6_weigh_43 : decode cX6_weigh 43 = .ok (.ifCond .lt 15, 3) := by decide +kernel
theorem dX6_weigh_46 : decode cX6_weigh 46 = .ok (.iload_n 2, 1) := by decide +kernel
theorem dX6_weigh_47 : decode cX6_weigh 47 = .ok (.iload 6, 2) := by decide +kernel
theorem dX6_weigh_49 : decode cX6_weigh 49 = .ok (.iload 4, 2) := by decide +kernel
theorem dX6_weigh_51 : decode cX6_weigh 51 = .ok (.invokestatic 21, 3) := by decide +kernel
theorem dX6_weigh_54 : decode cX6_weigh 54 = .ok (.isub, 1) := by decide +kernel
theorem dX6_weigh_55 : decode cX6_weigh 55 = .ok (.goto 13, 3) := by decide +kernel
theorem dX6_weigh_58 : decode cX6_weigh 58 = .ok (.iload_n 3, 1) := by decide +kernel
theorem dX6_weigh_59 : decode cX6_weigh 59 = .ok (.iload 6, 2) := by decide +kernel
theorem dX6_weigh_61 : decode cX6_weigh 61 = .ok (.ineg, 1) := by decide +kernel
theorem dX6_weigh_62 : decode cX6_weigh 62 = .ok (.iload 5, 2) := by decide +kernel
theorem dX6_weigh_64 : decode cX6_weigh 64 = .ok (.invokestatic 21, 3) := by decide +kernel
theorem dX6_weigh_67 : decode cX6_weigh 67 = .ok (.isub, 1) := by decide +kernel
theorem dX6_weigh_68 : decode cX6_weigh 68 = .ok (.istore 8, 2) := by decide +kernel
theorem dX6_weigh_70 : decode cX6_weigh 70 = .ok (.iload_n 1, 1) := by decide +kernel
theorem dX6_weigh_71 : decode cX6_weigh 71 = .ok (.iload 6, 2) := by decide +kernel
theorem dX6_weigh_73 : decode cX6_weigh 73 = .ok (.invokestatic 54, 3) := by decide +kernel
theorem dX6_weigh_76 : decode cX6_weigh 76 = .ok (.iadd, 1) := by decide +kernel
theorem dX6_weigh_77 : decode cX6_weigh 77 = .ok (.iload 8, 2) := by decide +kernel
theorem dX6_weigh_79 : decode cX6_weigh 79 = .ok (.iadd, 1) := by decide +kernel
theorem dX6_weigh_80 : decode cX6_weigh 80 = .ok (.istore 9, 2) := by decide +kernel
theorem dX6_weigh_82 : decode cX6_weigh 82 = .ok (.iload 9, 2) := by decide +kernel
theorem dX6_weigh_84 : decode cX6_weigh 84 = .ok (.aload_n 0, 1) := by decide +kernel
theorem dX6_weigh_85 : decode cX6_weigh 85 = .ok (.getfield 34, 3) := by decide +kernel
theorem dX6_weigh_88 : decode cX6_weigh 88 = .ok (.if_icmp .gt 20, 3) := by decide +kernel
theorem dX6_weigh_91 : decode cX6_weigh 91 = .ok (.iload 9, 2) := by decide +kernel
theorem dX6_weigh_93 : decode cX6_weigh 93 = .ok (.aload_n 0, 1) := by decide +kernel
theorem dX6_weigh_94 : decode cX6_weigh 94 = .ok (.getfield 37, 3) := by decide +kernel
theorem dX6_weigh_97 : decode cX6_weigh 97 = .ok (.if_icmp .ne 12, 3) := by decide +kernel
theorem dX6_weigh_100 : decode cX6_weigh 100 = .ok (.iload_n 1, 1) := by decide +kernel
theorem dX6_weigh_101 : decode cX6_weigh 101 = .ok (.aload_n 0, 1) := by decide +kernel
theorem dX6_weigh_102 : decode cX6_weigh 102 = .ok (.getfield 58, 3) := by decide +kernel
theorem dX6_weigh_105 : decode cX6_weigh 105 = .ok (.if_icmp .lt 4, 3) := by decide +kernel
theorem dX6_weigh_108 : decode cX6_weigh 108 = .ok (.return_, 1) := by decide +kernel
theorem dX6_weigh_109 : decode cX6_weigh 109 = .ok (.aload_n 0, 1) := by decide +kernel
theorem dX6_weigh_110 : decode cX6_weigh 110 = .ok (.iload 9, 2) := by decide +kernel
theorem dX6_weigh_112 : decode cX6_weigh 112 = .ok (.putfield 34, 3) := by decide +kernel
theorem dX6_weigh_115 : decode cX6_weigh 115 = .ok (.aload_n 0, 1) := by decide +kernel
theorem dX6_weigh_116 : decode cX6_weigh 116 = .ok (.iload 9, 2) := by decide +kernel
theorem dX6_weigh_118 : decode cX6_weigh 118 = .ok (.putfield 37, 3) := by decide +kernel
theorem dX6_weigh_121 : decode cX6_weigh 121 = .ok (.aload_n 0, 1) := by decide +kernel
theorem dX6_weigh_122 : decode cX6_weigh 122 = .ok (.iload_n 1, 1) := by decide +kernel
theorem dX6_weigh_123 : decode cX6_weigh 123 = .ok (.putfield 58, 3) := by decide +kernel
theorem dX6_weigh_126 : decode cX6_weigh 126 = .ok (.aload_n 0, 1) := by decide +kernel
theorem dX6_weigh_127 : decode cX6_weigh 127 = .ok (.iload 8, 2) := by decide +kernel
theorem dX6_weigh_129 : decode cX6_weigh 129 = .ok (.putfield 61, 3) := by decide +kernel
theorem dX6_weigh_132 : decode cX6_weigh 132 = .ok (.aload_n 0, 1) := by decide +kernel
theorem dX6_weigh_133 : decode cX6_weigh 133 = .ok (.getfield 18, 3) := by decide +kernel
theorem dX6_weigh_136 : decode cX6_weigh 136 = .ok (.iconst 0, 1) := by decide +kernel
theorem dX6_weigh_137 : decode cX6_weigh 137 = .ok (.aload_n 0, 1) := by decide +kernel
theorem dX6_weigh_138 : decode cX6_weigh 138 = .ok (.getfield 15, 3) := by decide +kernel
theorem dX6_weigh_141 : decode cX6_weigh 141 = .ok (.iconst 0, 1) := by decide +kernel
theorem dX6_weigh_142 : decode cX6_weigh 142 = .ok (.iconst 5, 1) := by decide +kernel
theorem dX6_weigh_143 : decode cX6_weigh 143 = .ok (.invokestatic 64, 3) := by decide +kernel
theorem dX6_weigh_146 : decode cX6_weigh 146 = .ok (.return_, 1) := by decide +kernel
theorem dX7_init_0 : decode cX7_init 0 = .ok (.aload_n 0, 1) := by decide +kernel
theorem dX7_init_1 : decode cX7_init 1 = .ok (.invokespecial 3, 3) := by decide +kernel
theorem dX7_init_4 : decode cX7_init 4 = .ok (.aload_n 0, 1) := by decide +kernel
theorem dX7_init_5 : decode cX7_init 5 = .ok (.iconst 5, 1) := by decide +kernel
theorem dX7_init_6 : decode cX7_init 6 = .ok (.newarray .long, 2) := by decide +kernel
theorem dX7_init_8 : decode cX7_init 8 = .ok (.putfield 9, 3) := by decide +kernel
theorem dX7_init_11 : decode cX7_init 11 = .ok (.aload_n 0, 1) := by decide +kernel
theorem dX7_init_12 : decode cX7_init 12 = .ok (.iconst 5, 1) := by decide +kernel
theorem dX7_init_13 : decode cX7_init 13 = .ok (.newarray .int, 2) := by decide +kernel
theorem dX7_init_15 : decode cX7_init 15 = .ok (.putfield 15, 3) := by decide +kernel
theorem dX7_init_18 : decode cX7_init 18 = .ok (.aload_n 0, 1) := by decide +kernel
theorem dX7_init_19 : decode cX7_init 19 = .ok (.iconst 5, 1) := by decide +kernel
theorem dX7_init_20 : decode cX7_init 20 = .ok (.newarray .int, 2) := by decide +kernel
theorem dX7_init_22 : decode cX7_init 22 = .ok (.putfield 19, 3) := by decide +kernel
theorem dX7_init_25 : decode cX7_init 25 = .ok (.aload_n 0, 1) := by decide +kernel
theorem dX7_init_26 : decode cX7_init 26 = .ok (.iconst 5, 1) := by decide +kernel
theorem dX7_init_27 : decode cX7_init 27 = .ok (.newarray .int, 2) := by decide +kernel
theorem dX7_init_29 : decode cX7_init 29 = .ok (.putfield 22, 3) := by decide +kernel
theorem dX7_init_32 : decode cX7_init 32 = .ok (.return_, 1) := by decide +kernel
theorem dX7_clear_0 : decode cX7_clear 0 = .ok (.aload_n 0, 1) := by decide +kernel
theorem dX7_clear_1 : decode cX7_clear 1 = .ok (.getfield 9, 3) := by decide +kernel
theorem dX7_clear_4 : decode cX7_clear 4 = .ok (.lconst 0, 1) := by decide +kernel
theorem dX7_clear_5 : decode cX7_clear 5 = .ok (.invokestatic 25, 3) := by decide +kernel
theorem dX7_clear_8 : decode cX7_clear 8 = .ok (.aload_n 0, 1) := by decide +kernel
theorem dX7_clear_9 : decode cX7_clear 9 = .ok (.getfield 15, 3) := by decide +kernel
theorem dX7_clear_12 : decode cX7_clear 12 = .ok (.iconst 0, 1) := by decide +kernel
theorem dX7_clear_13 : decode cX7_clear 13 = .ok (.invokestatic 31, 3) := by decide +kernel
theorem dX7_clear_16 : decode cX7_clear 16 = .ok (.aload_n 0, 1) := by decide +kernel
theorem dX7_clear_17 : decode cX7_clear 17 = .ok (.getfield 19, 3) := by decide +kernel
theorem dX7_clear_20 : decode cX7_clear 20 = .ok (.iconst 0, 1) := by decide +kernel
theorem dX7_clear_21 : decode cX7_clear 21 = .ok (.invokestatic 31, 3) := by decide +kernel
theorem dX7_clear_24 : decode cX7_clear 24 = .ok (.aload_n 0, 1) := by decide +kernel
theorem dX7_clear_25 : decode cX7_clear 25 = .ok (.getfield 22, 3) := by decide +kernel
theorem dX7_clear_28 : decode cX7_clear 28 = .ok (.iconst 0, 1) := by decide +kernel
theorem dX7_clear_29 : decode cX7_clear 29 = .ok (.invokestatic 31, 3) := by decide +kernel
theorem dX7_clear_32 : decode cX7_clear 32 = .ok (.aload_n 0, 1) := by decide +kernel
theorem dX7_clear_33 : decode cX7_clear 33 = .ok (.iconst 0, 1) := by decide +kernel
theorem dX7_clear_34 : decode cX7_clear 34 = .ok (.putfield 34, 3) := by decide +kernel
theorem dX7_clear_37 : decode cX7_clear 37 = .ok (.aload_n 0, 1) := by decide +kernel
theorem dX7_clear_38 : decode cX7_clear 38 = .ok (.iconst 0, 1) := by decide +kernel
theorem dX7_clear_39 : decode cX7_clear 39 = .ok (.putfield 38, 3) := by decide +kernel
theorem dX7_clear_42 : decode cX7_clear 42 = .ok (.return_, 1) := by decide +kernel
theorem dX7_copyFrom_0 : decode cX7_copyFrom 0 = .ok (.iconst 0, 1) := by decide +kernel
theorem dX7_copyFrom_1 : decode cX7_copyFrom 1 = .ok (.istore_n 2, 1) := by decide +kernel
theorem dX7_copyFrom_2 : decode cX7_copyFrom 2 = .ok (.iload_n 2, 1) := by decide +kernel
theorem dX7_copyFrom_3 : decode cX7_copyFrom 3 = .ok (.iconst 5, 1) := by decide +kernel
theorem dX7_copyFrom_4 : decode cX7_copyFrom 4 = .ok (.if_icmp .ge 57, 3) := by decide +kernel
theorem dX7_copyFrom_7 : decode cX7_copyFrom 7 = .ok (.aload_n 0, 1) := by decide +kernel
theorem dX7_copyFrom_8 : decode cX7_copyFrom 8 = .ok (.getfield 9, 3) := by decide +kernel
theorem dX7_copyFrom_11 : decode cX7_copyFrom 11 = .ok (.iload_n 2, 1) := by decide +kernel
theorem dX7_copyFrom_12 : decode cX7_copyFrom 12 = .ok (.aload_n 1, 1) := by decide +kernel
theorem dX7_copyFrom_13 : decode cX7_copyFrom 13 = .ok (.getfield 9, 3) := by decide +kernel
theorem dX7_copyFrom_16 : decode cX7_copyFrom 16 = .ok (.iload_n 2, 1) := by decide +kernel
theorem dX7_copyFrom_17 : decode cX7_copyFrom 17 = .ok (.laload, 1) := by decide +kernel
theorem dX7_copyFrom_18 : decode cX7_copyFrom 18 = .ok (.lastore, 1) := by decide +kernel
theorem dX7_copyFrom_19 : decode cX7_copyFrom 19 = .ok (.aload_n 0, 1) := by decide +kernel
theorem dX7_copyFrom_20 : decode cX7_copyFrom 20 = .ok (.getfield 15, 3) := by decide +kernel
theorem dX7_copyFrom_23 : decode cX7_copyFrom 23 = .ok (.iload_n 2, 1) := by decide +kernel
theorem dX7_copyFrom_24 : decode cX7_copyFrom 24 = .ok (.aload_n 1, 1) := by decide +kernel
theorem dX7_copyFrom_25 : decode cX7_copyFrom 25 = .ok (.getfield 15, 3) := by decide +kernel
theorem dX7_copyFrom_28 : decode cX7_copyFrom 28 = .ok (.iload_n 2, 1) := by decide +kernel
theorem dX7_copyFrom_29 : decode cX7_copyFrom 29 = .ok (.iaload, 1) := by decide +kernel
theorem dX7_copyFrom_30 : decode cX7_copyFrom 30 = .ok (.iastore, 1) := by decide +kernel
theorem dX7_copyFrom_31 : decode cX7_copyFrom 31 = .ok (.aload_n 0, 1) := by decide +kernel
theorem dX7_copyFrom_32 : decode cX7_copyFrom 32 = .ok (.getfield 19, 3) := by decide +kernel
theorem dX7_copyFrom_35 : decode cX7_copyFrom 35 = .ok (.iload_n 2, 1) := by decide +kernel
theorem dX7_copyFrom_36 : decode cX7_copyFrom 36 = .ok (.aload_n 1, 1) := by decide +kernel
theorem dX7_copyFrom_37 : decode cX7_copyFrom 37 = .ok (.getfield 19, 3) := by decide +kernel
theorem dX7_copyFrom_40 : decode cX7_copyFrom 40 = .ok (.iload_n 2, 1) := by decide +kernel
theorem dX7_copyFrom_41 : decode cX7_copyFrom 41 = .ok (.iaload, 1) := by decide +kernel
theorem dX7_copyFrom_42 : decode cX7_copyFrom 42 = .ok (.iastore, 1) := by decide +kernel
theorem dX7_copyFrom_43 : decode cX7_copyFrom 43 = .ok (.aload_n 0, 1) := by decide +kernel
theorem dX7_copyFrom_44 : decode cX7_copyFrom 44 = .ok (.getfield 22, 3) := by decide +kernel
theorem dX7_copyFrom_47 : decode cX7_copyFrom 47 = .ok (.iload_n 2, 1) := by decide +kernel
theorem dX7_copyFrom_48 : decode cX7_copyFrom 48 = .ok (.aload_n 1, 1) := by decide +kernel
theorem dX7_copyFrom_49 : decode cX7_copyFrom 49 = .ok (.getfield 22, 3) := by decide +kernel
theorem dX7_copyFrom_52 : decode cX7_copyFrom 52 = .ok (.iload_n 2, 1) := by decide +kernel
theorem dX7_copyFrom_53 : decode cX7_copyFrom 53 = .ok (.iaload, 1) := by decide +kernel
theorem dX7_copyFrom_54 : decode cX7_copyFrom 54 = .ok (.iastore, 1) := by decide +kernel
theorem dX7_copyFrom_55 : decode cX7_copyFrom 55 = .ok (.iinc 2 1, 3) := by decide +kernel
theorem dX7_copyFrom_58 : decode cX7_copyFrom 58 = .ok (.goto (-56), 3) := by decide +kernel
theorem dX7_copyFrom_61 : decode cX7_copyFrom 61 = .ok (.aload_n 0, 1) := by decide +kernel
theorem dX7_copyFrom_62 : decode cX7_copyFrom 62 = .ok (.aload_n 1, 1) := by decide +kernel
theorem dX7_copyFrom_63 : decode cX7_copyFrom 63 = .ok (.getfield 34, 3) := by decide +kernel
theorem dX7_copyFrom_66 : decode cX7_copyFrom 66 = .ok (.putfield 34, 3) := by decide +kernel
theorem dX7_copyFrom_69 : decode cX7_copyFrom 69 = .ok (.aload_n 0, 1) := by decide +kernel
theorem dX7_copyFrom_70 : decode cX7_copyFrom 70 = .ok (.aload_n 1, 1) := by decide +kernel
theorem dX7_copyFrom_71 : decode cX7_copyFrom 71 = .ok (.getfield 38, 3) := by decide +kernel
theorem dX7_copyFrom_74 : decode cX7_copyFrom 74 = .ok (.putfield 38, 3) := by decide +kernel
theorem dX7_copyFrom_77 : decode cX7_copyFrom 77 = .ok (.return_, 1) := by decide +kernel
theorem dX7_numberOf_0 : decode cX7_numberOf 0 = .ok (.iload_n 2, 1) := by decide +kernel
theorem dX7_numberOf_1 : decode cX7_numberOf 1 = .ok (.tableswitch 62 0 3 #[31, 41, 48, 55], 31) := by decide +kernel
theorem dX7_numberOf_32 : decode cX7_numberOf 32 = .ok (.aload_n 0, 1) := by decide +kernel
theorem dX7_numberOf_33 : decode cX7_numberOf 33 = .ok (.getfield 9, 3) := by decide +kernel
theorem dX7_numberOf_36 : decode cX7_numberOf 36 = .ok (.iload_n 1, 1) := by decide +kernel
theorem dX7_numberOf_37 : decode cX7_numberOf 37 = .ok (.laload, 1) := by decide +kernel
theorem dX7_numberOf_38 : decode cX7_numberOf 38 = .ok (.invokestatic 41, 3) := by decide +kernel
theorem dX7_numberOf_41 : decode cX7_numberOf 41 = .ok (.ireturn, 1) := by decide +kernel
theorem dX7_numberOf_42 : decode cX7_numberOf 42 = .ok (.aload_n 0, 1) := by decide +kernel
theorem dX7_numberOf_43 : decode cX7_numberOf 43 = .ok (.getfield 15, 3) := by decide +kernel
theorem dX7_numberOf_46 : decode cX7_numberOf 46 = .ok (.iload_n 1, 1) := by decide +kernel
theorem dX7_numberOf_47 : decode cX7_numberOf 47 = .ok (.iaload, 1) := by decide +kernel
theorem dX7_numberOf_48 : decode cX7_numberOf 48 = .ok (.ireturn, 1) := by decide +kernel
theorem dX7_numberOf_49 : decode cX7_numberOf 49 = .ok (.aload_n 0, 1) := by decide +kernel
theorem dX7_numberOf_50 : decode cX7_numberOf 50 = .ok (.getfield 19, 3) := by decide +kernel
theorem dX7_numberOf_53 : decode cX7_numberOf 53 = .ok (.iload_n 1, 1) := by decide +kernel
theorem dX7_numberOf_54 : decode cX7_numberOf 54 = .ok (.iaload, 1) := by decide +kernel
theorem dX7_numberOf_55 : decode cX7_numberOf 55 = .ok (.ireturn, 1) := by decide +kernel
theorem dX7_numberOf_56 : decode cX7_numberOf 56 = .ok (.aload_n 0, 1) := by decide +kernel
theorem dX7_numberOf_57 : decode cX7_numberOf 57 = .ok (.getfield 22, 3) := by decide +kernel
theorem dX7_numberOf_60 : decode cX7_numberOf 60 = .ok (.iload_n 1, 1) := by decide +kernel
theorem dX7_numberOf_61 : decode cX7_numberOf 61 = .ok (.iaload, 1) := by decide +kernel
theorem dX7_numberOf_62 : decode cX7_numberOf 62 = .ok (.ireturn, 1) := by decide +kernel
theorem dX7_numberOf_63 : decode cX7_numberOf 63 = .ok (.iconst (-1), 1) := by decide +kernel
theorem dX7_numberOf_64 : decode cX7_numberOf 64 = .ok (.ireturn, 1) := by decide +kernel
theorem dX7_sumOf_0 : decode cX7_sumOf 0 = .ok (.iconst 0, 1) := by decide +kernel
theorem dX7_sumOf_1 : decode cX7_sumOf 1 = .ok (.istore_n 2, 1) := by decide +kernel
theorem dX7_sumOf_2 : decode cX7_sumOf 2 = .ok (.iconst 0, 1) := by decide +kernel
theorem dX7_sumOf_3 : decode cX7_sumOf 3 = .ok (.istore_n 3, 1) := by decide +kernel
theorem dX7_sumOf_4 : decode cX7_sumOf 4 = .ok (.iload_n 3, 1) := by decide +kernel
theorem dX7_sumOf_5 : decode cX7_sumOf 5 = .ok (.aload_n 0, 1) := by decide +kernel
theorem dX7_sumOf_6 : decode cX7_sumOf 6 = .ok (.getfield 34, 3) := by decide +kernel
theorem dX7_sumOf_9 : decode cX7_sumOf 9 = .ok (.if_icmp .ge 18, 3) := by decide +kernel
theorem dX7_sumOf_12 : decode cX7_sumOf 12 = .ok (.iload_n 2, 1) := by decide +kernel
theorem dX7_sumOf_13 : decode cX7_sumOf 13 = .ok (.aload_n 0, 1) := by decide +kernel
theorem dX7_sumOf_14 : decode cX7_sumOf 14 = .ok (.iload_n 3, 1) := by decide +kernel
theorem dX7_sumOf_15 : decode cX7_sumOf 15 = .ok (.iload_n 1, 1) := by decide +kernel
theorem dX7_sumOf_16 : decode cX7_sumOf 16 = .ok (.invokevirtual 47, 3) := by decide +kernel
theorem dX7_sumOf_19 : decode cX7_sumOf 19 = .ok (.iadd, 1) := by decide +kernel
theorem dX7_sumOf_20 : decode cX7_sumOf 20 = .ok (.istore_n 2, 1) := by decide +kernel
theorem dX7_sumOf_21 : decode cX7_sumOf 21 = .ok (.iinc 3 1, 3) := by decide +kernel
theorem dX7_sumOf_24 : decode cX7_sumOf 24 = .ok (.goto (-20), 3) := by decide +kernel
theorem dX7_sumOf_27 : decode cX7_sumOf 27 = .ok (.iload_n 2, 1) := by decide +kernel
theorem dX7_sumOf_28 : decode cX7_sumOf 28 = .ok (.ireturn, 1) := by decide +kernel
theorem dX7_wordValue_0 : decode cX7_wordValue 0 = .ok (.iload_n 1, 1) := by decide +kernel
theorem dX7_wordValue_1 : decode cX7_wordValue 1 = .ok (.tableswitch 136 0 8 #[51, 54, 62, 73, 81, 89, 100, 124, 130], 51) := by decide +kernel
theorem dX7_wordValue_52 : decode cX7_wordValue 52 = .ok (.iload_n 2, 1) := by decide +kernel
theorem dX7_wordValue_53 : decode cX7_wordValue 53 = .ok (.i2l, 1) := by decide +kernel
theorem dX7_wordValue_54 : decode cX7_wordValue 54 = .ok (.lreturn, 1) := by decide +kernel
theorem dX7_wordValue_55 : decode cX7_wordValue 55 = .ok (.aload_n 0, 1) := by decide +kernel
theorem dX7_wordValue_56 : decode cX7_wordValue 56 = .ok (.getfield 22, 3) := by decide +kernel
theorem dX7_wordValue_59 : decode cX7_wordValue 59 = .ok (.iload_n 2, 1) := by decide +kernel
theorem dX7_wordValue_60 : decode cX7_wordValue 60 = .ok (.iaload, 1) := by decide +kernel
theorem dX7_wordValue_61 : decode cX7_wordValue 61 = .ok (.i2l, 1) := by decide +kernel
theorem dX7_wordValue_62 : decode cX7_wordValue 62 = .ok (.lreturn, 1) := by decide +kernel
theorem dX7_wordValue_63 : decode cX7_wordValue 63 = .ok (.aload_n 0, 1) := by decide +kernel
theorem dX7_wordValue_64 : decode cX7_wordValue 64 = .ok (.getfield 9, 3) := by decide +kernel
theorem dX7_wordValue_67 : decode cX7_wordValue 67 = .ok (.iload_n 2, 1) := by decide +kernel
theorem dX7_wordValue_68 : decode cX7_wordValue 68 = .ok (.laload, 1) := by decide +kernel
theorem dX7_wordValue_69 : decode cX7_wordValue 69 = .ok (.invokestatic 41, 3) := by decide +kernel
theorem dX7_wordValue_72 : decode cX7_wordValue 72 = .ok (.i2l, 1) := by decide +kernel
theorem dX7_wordValue_73 : decode cX7_wordValue 73 = .ok (.lreturn, 1) := by decide +kernel
theorem dX7_wordValue_74 : decode cX7_wordValue 74 = .ok (.aload_n 0, 1) := by decide +kernel
theorem dX7_wordValue_75 : decode cX7_wordValue 75 = .ok (.getfield 15, 3) := by decide +kernel
theorem dX7_wordValue_78 : decode cX7_wordValue 78 = .ok (.iload_n 2, 1) := by decide +kernel
theorem dX7_wordValue_79 : decode cX7_wordValue 79 = .ok (.iaload, 1) := by decide +kernel
theorem dX7_wordValue_80 : decode cX7_wordValue 80 = .ok (.i2l, 1) := by decide +kernel
theorem dX7_wordValue_81 : decode cX7_wordValue 81 = .ok (.lreturn, 1) := by decide +kernel
theorem dX7_wordValue_82 : decode cX7_wordValue 82 = .ok (.aload_n 0, 1) := by decide +kernel
theorem dX7_wordValue_83 : decode cX7_wordValue 83 = .ok (.getfield 19, 3) := by decide +kernel
theorem dX7_wordValue_86 : decode cX7_wordValue 86 = .ok (.iload_n 2, 1) := by decide +kernel
theorem dX7_wordValue_87 : decode cX7_wordValue 87 = .ok (.iaload, 1) := by decide +kernel
theorem dX7_wordValue_88 : decode cX7_wordValue 88 = .ok (.i2l, 1) := by decide +kernel
theorem dX7_wordValue_89 : decode cX7_wordValue 89 = .ok (.lreturn, 1) := by decide +kernel
theorem dX7_wordValue_90 : decode cX7_wordValue 90 = .ok (.aload_n 0, 1) := by decide +kernel
theorem dX7_wordValue_91 : decode cX7_wordValue 91 = .ok (.getfield 9, 3) := by decide +kernel
theorem dX7_wordValue_94 : decode cX7_wordValue 94 = .ok (.iload_n 2, 1) := by decide +kernel
theorem dX7_wordValue_95 : decode cX7_wordValue 95 = .ok (.laload, 1) := by decide +kernel
theorem dX7_wordValue_96 : decode cX7_wordValue 96 = .ok (.invokestatic 51, 3) := by decide +kernel
theorem dX7_wordValue_99 : decode cX7_wordValue 99 = .ok (.i2l, 1) := by decide +kernel
theorem dX7_wordValue_100 : decode cX7_wordValue 100 = .ok (.lreturn, 1) := by decide +kernel
theorem dX7_wordValue_101 : decode cX7_wordValue 101 = .ok (.aload_n 0, 1) := by decide +kernel
theorem dX7_wordValue_102 : decode cX7_wordValue 102 = .ok (.getfield 9, 3) := by decide +kernel
theorem dX7_wordValue_105 : decode cX7_wordValue 105 = .ok (.iload_n 2, 1) := by decide +kernel
theorem dX7_wordValue_106 : decode cX7_wordValue 106 = .ok (.laload, 1) := by decide +kernel
theorem dX7_wordValue_107 : decode cX7_wordValue 107 = .ok (.aload_n 0, 1) := by decide +kernel
theorem dX7_wordValue_108 : decode cX7_wordValue 108 = .ok (.getfield 9, 3) := by decide +kernel
theorem dX7_wordValue_111 : decode cX7_wordValue 111 = .ok (.iload_n 2, 1) := by decide +kernel
theorem dX7_wordValue_112 : decode cX7_wordValue 112 = .ok (.laload, 1) := by decide +kernel
theorem dX7_wordValue_113 : decode cX7_wordValue 113 = .ok (.iconst 1, 1) := by decide +kernel
theorem dX7_wordValue_114 : decode cX7_wordValue 114 = .ok (.lshl, 1) := by decide +kernel
theorem dX7_wordValue_115 : decode cX7_wordValue 115 = .ok (.ldc2_w 54, 3) := by decide +kernel
theorem dX7_wordValue_118 : decode cX7_wordValue 118 = .ok (.lxor, 1) := by decide +kernel
theorem dX7_wordValue_119 : decode cX7_wordValue 119 = .ok (.land, 1) := by decide +kernel
theorem dX7_wordValue_120 : decode cX7_wordValue 120 = .ok (.invokestatic 41, 3) := by decide +kernel
theorem dX7_wordValue_123 : decode cX7_wordValue 123 = .ok (.i2l, 1) := by decide +kernel
theorem dX7_wordValue_124 : decode cX7_wordValue 124 = .ok (.lreturn, 1) := by decide +kernel
theorem dX7_wordValue_125 : decode cX7_wordValue 125 = .ok (.aload_n 0, 1) := by decide +kernel
theorem dX7_wordValue_126 : decode cX7_wordValue 126 = .ok (.getfield 56, 3) := by decide +kernel
theorem dX7_wordValue_129 : decode cX7_wordValue 129 = .ok (.i2l, 1) := by decide +kernel
theorem dX7_wordValue_130 : decode cX7_wordValue 130 = .ok (.lreturn, 1) := by decide +kernel
theorem dX7_wordValue_131 : decode cX7_wordValue 131 = .ok (.aload_n 0, 1) := by decide +kernel
theorem dX7_wordValue_132 : decode cX7_wordValue 132 = .ok (.getfield 59, 3) := by decide +kernel
theorem dX7_wordValue_135 : decode cX7_wordValue 135 = .ok (.i2l, 1) := by decide +kernel
theorem dX7_wordValue_136 : decode cX7_wordValue 136 = .ok (.lreturn, 1) := by decide +kernel
theorem dX7_wordValue_137 : decode cX7_wordValue 137 = .ok (.aload_n 0, 1) := by decide +kernel
theorem dX7_wordValue_138 : decode cX7_wordValue 138 = .ok (.getfield 38, 3) := by decide +kernel
theorem dX7_wordValue_141 : decode cX7_wordValue 141 = .ok (.i2l, 1) := by decide +kernel
theorem dX7_wordValue_142 : decode cX7_wordValue 142 = .ok (.lreturn, 1) := by decide +kernel
theorem dX7_canServe_0 : decode cX7_canServe 0 = .ok (.aload_n 0, 1) := by decide +kernel
theorem dX7_canServe_1 : decode cX7_canServe 1 = .ok (.getfield 22, 3) := by decide +kernel
theorem dX7_canServe_4 : decode cX7_canServe 4 = .ok (.iload_n 1, 1) := by decide +kernel
theorem dX7_canServe_5 : decode cX7_canServe 5 = .ok (.iaload, 1) := by decide +kernel
theorem dX7_canServe_6 : decode cX7_canServe 6 = .ok (.ifCond .le 18, 3) := by decide +kernel
theorem dX7_canServe_9 : decode cX7_canServe 9 = .ok (.aload_n 0, 1) := by decide +kernel
theorem dX7_canServe_10 : decode cX7_canServe 10 = .ok (.getfield 9, 3) := by decide +kernel
theorem dX7_canServe_13 : decode cX7_canServe 13 = .ok (.iload_n 1, 1) := by decide +kernel
theorem dX7_canServe_14 : decode cX7_canServe 14 = .ok (.laload, 1) := by decide +kernel
theorem dX7_canServe_15 : decode cX7_canServe 15 = .ok (.lconst 0, 1) := by decide +kernel
theorem dX7_canServe_16 : decode cX7_canServe 16 = .ok (.lcmp, 1) := by decide +kernel
theorem dX7_canServe_17 : decode cX7_canServe 17 = .ok (.ifCond .eq 7, 3) := by decide +kernel
theorem dX7_canServe_20 : decode cX7_canServe 20 = .ok (.iconst 1, 1) := by decide +kernel
theorem dX7_canServe_21 : decode cX7_canServe 21 = .ok (.goto 4, 3) := by decide +kernel
theorem dX7_canServe_24 : decode cX7_canServe 24 = .ok (.iconst 0, 1) := by decide +kernel
theorem dX7_canServe_25 : decode cX7_canServe 25 = .ok (.ireturn, 1) := by decide +kernel
theorem dX7_serverBits_0 : decode cX7_serverBits 0 = .ok (.iconst 0, 1) := by decide +kernel
theorem dX7_serverBits_1 : decode cX7_serverBits 1 = .ok (.istore_n 1, 1) := by decide +kernel
theorem dX7_serverBits_2 : decode cX7_serverBits 2 = .ok (.iconst 0, 1) := by decide +kernel
theorem dX7_serverBits_3 : decode cX7_serverBits 3 = .ok (.istore_n 2, 1) := by decide +kernel
theorem dX7_serverBits_4 : decode cX7_serverBits 4 = .ok (.iload_n 2, 1) := by decide +kernel
theorem dX7_serverBits_5 : decode cX7_serverBits 5 = .ok (.aload_n 0, 1) := by decide +kernel
theorem dX7_serverBits_6 : decode cX7_serverBits 6 = .ok (.getfield 34, 3) := by decide +kernel
theorem dX7_serverBits_9 : decode cX7_serverBits 9 = .ok (.if_icmp .ge 23, 3) := by decide +kernel
theorem dX7_serverBits_12 : decode cX7_serverBits 12 = .ok (.aload_n 0, 1) := by decide +kernel
theorem dX7_serverBits_13 : decode cX7_serverBits 13 = .ok (.iload_n 2, 1) := by decide +kernel
theorem dX7_serverBits_14 : decode cX7_serverBits 14 = .ok (.invokevirtual 62, 3) := by decide +kernel
theorem dX7_serverBits_17 : decode cX7_serverBits 17 = .ok (.ifCond .eq 9, 3) := by decide +kernel
theorem dX7_serverBits_20 : decode cX7_serverBits 20 = .ok (.iload_n 1, 1) := by decide +kernel
theorem dX7_serverBits_21 : decode cX7_serverBits 21 = .ok (.iconst 1, 1) := by decide +kernel
theorem dX7_serverBits_22 : decode cX7_serverBits 22 = .ok (.iload_n 2, 1) := by decide +kernel
theorem dX7_serverBits_23 : decode cX7_serverBits 23 = .ok (.ishl, 1) := by decide +kernel
theorem dX7_serverBits_24 : decode cX7_serverBits 24 = .ok (.ior, 1) := by decide +kernel
theorem dX7_serverBits_25 : decode cX7_serverBits 25 = .ok (.istore_n 1, 1) := by decide +kernel
theorem dX7_serverBits_26 : decode cX7_serverBits 26 = .ok (.iinc 2 1, 3) := by decide +kernel
theorem dX7_serverBits_29 : decode cX7_serverBits 29 = .ok (.goto (-25), 3) := by decide +kernel
theorem dX7_serverBits_32 : decode cX7_serverBits 32 = .ok (.iload_n 1, 1) := by decide +kernel
theorem dX7_serverBits_33 : decode cX7_serverBits 33 = .ok (.ireturn, 1) := by decide +kernel
theorem dX7_passHour_0 : decode cX7_passHour 0 = .ok (.aload_n 0, 1) := by decide +kernel
theorem dX7_passHour_1 : decode cX7_passHour 1 = .ok (.aload_n 1, 1) := by decide +kernel
theorem dX7_passHour_2 : decode cX7_passHour 2 = .ok (.invokevirtual 66, 3) := by decide +kernel
theorem dX7_passHour_5 : decode cX7_passHour 5 = .ok (.istore_n 2, 1) := by decide +kernel
theorem dX7_passHour_6 : decode cX7_passHour 6 = .ok (.iload_n 2, 1) := by decide +kernel
theorem dX7_passHour_7 : decode cX7_passHour 7 = .ok (.iconst (-1), 1) := by decide +kernel
theorem dX7_passHour_8 : decode cX7_passHour 8 = .ok (.if_icmp .eq 8, 3) := by decide +kernel
theorem dX7_passHour_11 : decode cX7_passHour 11 = .ok (.aload_n 0, 1) := by decide +kernel
theorem dX7_passHour_12 : decode cX7_passHour 12 = .ok (.iload_n 2, 1) := by decide +kernel
theorem dX7_passHour_13 : decode cX7_passHour 13 = .ok (.invokevirtual 70, 3) := by decide +kernel
theorem dX7_passHour_16 : decode cX7_passHour 16 = .ok (.aload_n 0, 1) := by decide +kernel
theorem dX7_passHour_17 : decode cX7_passHour 17 = .ok (.dup, 1) := by decide +kernel
theorem dX7_passHour_18 : decode cX7_passHour 18 = .ok (.getfield 38, 3) := by decide +kernel
theorem dX7_passHour_21 : decode cX7_passHour 21 = .ok (.iconst 1, 1) := by decide +kernel
theorem dX7_passHour_22 : decode cX7_passHour 22 = .ok (.iadd, 1) := by decide +kernel
theorem dX7_passHour_23 : decode cX7_passHour 23 = .ok (.putfield 38, 3) := by decide +kernel
theorem dX7_passHour_26 : decode cX7_passHour 26 = .ok (.return_, 1) := by decide +kernel
theorem dX7_passHours_0 : decode cX7_passHours 0 = .ok (.iconst 0, 1) := by decide +kernel
theorem dX7_passHours_1 : decode cX7_passHours 1 = .ok (.istore_n 3, 1) := by decide +kernel
theorem dX7_passHours_2 : decode cX7_passHours 2 = .ok (.iload_n 3, 1) := by decide +kernel
theorem dX7_passHours_3 : decode cX7_passHours 3 = .ok (.iload_n 2, 1) := by decide +kernel
theorem dX7_passHours_4 : decode cX7_passHours 4 = .ok (.if_icmp .ge 14, 3) := by decide +kernel
theorem dX7_passHours_7 : decode cX7_passHours 7 = .ok (.aload_n 0, 1) := by decide +kernel
theorem dX7_passHours_8 : decode cX7_passHours 8 = .ok (.aload_n 1, 1) := by decide +kernel
theorem dX7_passHours_9 : decode cX7_passHours 9 = .ok (.invokevirtual 74, 3) := by decide +kernel
theorem dX7_passHours_12 : decode cX7_passHours 12 = .ok (.iinc 3 1, 3) := by decide +kernel
theorem dX7_passHours_15 : decode cX7_passHours 15 = .ok (.goto (-13), 3) := by decide +kernel
theorem dX7_passHours_18 : decode cX7_passHours 18 = .ok (.return_, 1) := by decide +kernel
theorem dX7_choose_0 : decode cX7_choose 0 = .ok (.aload_n 1, 1) := by decide +kernel
theorem dX7_choose_1 : decode cX7_choose 1 = .ok (.ifnonnull 21, 3) := by decide +kernel
theorem dX7_choose_4 : decode cX7_choose 4 = .ok (.aload_n 0, 1) := by decide +kernel
theorem dX7_choose_5 : decode cX7_choose 5 = .ok (.invokevirtual 78, 3) := by decide +kernel
theorem dX7_choose_8 : decode cX7_choose 8 = .ok (.istore_n 2, 1) := by decide +kernel
theorem dX7_choose_9 : decode cX7_choose 9 = .ok (.iload_n 2, 1) := by decide +kernel
theorem dX7_choose_10 : decode cX7_choose 10 = .ok (.ifCond .ne 7, 3) := by decide +kernel
theorem dX7_choose_13 : decode cX7_choose 13 = .ok (.iconst (-1), 1) := by decide +kernel
theorem dX7_choose_14 : decode cX7_choose 14 = .ok (.goto 7, 3) := by decide +kernel
theorem dX7_choose_17 : decode cX7_choose 17 = .ok (.iload_n 2, 1) := by decide +kernel
theorem dX7_choose_18 : decode cX7_choose 18 = .ok (.invokestatic 82, 3) := by decide +kernel
theorem dX7_choose_21 : decode cX7_choose 21 = .ok (.ireturn, 1) := by decide +kernel
theorem dX7_choose_22 : decode cX7_choose 22 = .ok (.aload_n 0, 1) := by decide +kernel
theorem dX7_choose_23 : decode cX7_choose 23 = .ok (.aload_n 0, 1) := by decide +kernel
theorem dX7_choose_24 : decode cX7_choose 24 = .ok (.iconst 3, 1) := by decide +kernel
theorem dX7_choose_25 : decode cX7_choose 25 = .ok (.invokevirtual 87, 3) := by decide +kernel
theorem dX7_choose_28 : decode cX7_choose 28 = .ok (.putfield 56, 3) := by decide +kernel
theorem dX7_choose_31 : decode cX7_choose 31 = .ok (.aload_n 0, 1) := by decide +kernel
theorem dX7_choose_32 : decode cX7_choose 32 = .ok (.aload_n 0, 1) := by decide +kernel
theorem dX7_choose_33 : decode cX7_choose 33 = .ok (.iconst 0, 1) := by decide +kernel
theorem dX7_choose_34 : decode cX7_choose 34 = .ok (.invokevirtual 87, 3) := by decide +kernel
theorem dX7_choose_37 : decode cX7_choose 37 = .ok (.putfield 59, 3) := by decide +kernel
theorem dX7_choose_40 : decode cX7_choose 40 = .ok (.iconst (-1), 1) := by decide +kernel
theorem dX7_choose_41 : decode cX7_choose 41 = .ok (.istore_n 2, 1) := by decide +kernel
theorem dX7_choose_42 : decode cX7_choose 42 = .ok (.lconst 0, 1) := by decide +kernel
theorem dX7_choose_43 : decode cX7_choose 43 = .ok (.lstore_n 3, 1) := by decide +kernel
theorem dX7_choose_44 : decode cX7_choose 44 = .ok (.iconst 0, 1) := by decide +kernel
theorem dX7_choose_45 : decode cX7_choose 45 = .ok (.istore 5, 2) := by decide +kernel
theorem dX7_choose_47 : decode cX7_choose 47 = .ok (.iload 5, 2) := by decide +kernel
theorem dX7_choose_49 : decode cX7_choose 49 = .ok (.aload_n 0, 1) := by decide +kernel
theorem dX7_choose_50 : decode cX7_choose 50 = .ok (.getfield 34, 3) := by decide +kernel
theorem dX7_choose_53 : decode cX7_choose 53 = .ok (.if_icmp .ge 40, 3) := by decide +kernel
theorem dX7_choose_56 : decode cX7_choose 56 = .ok (.aload_n 0, 1) := by decide +kernel
theorem dX7_choose_57 : decode cX7_choose 57 = .ok (.iload 5, 2) := by decide +kernel
theorem dX7_choose_59 : decode cX7_choose 59 = .ok (.invokevirtual 62, 3) := by decide +kernel
theorem dX7_choose_62 : decode cX7_choose 62 = .ok (.ifCond .eq 25, 3) := by decide +kernel
theorem dX7_choose_65 : decode cX7_choose 65 = .ok (.aload_n 1, 1) := by decide +kernel
theorem dX7_choose_66 : decode cX7_choose 66 = .ok (.aload_n 0, 1) := by decide +kernel
theorem dX7_choose_67 : decode cX7_choose 67 = .ok (.iload 5, 2) := by decide +kernel
theorem dX7_choose_69 : decode cX7_choose 69 = .ok (.invokevirtual 90, 3) := by decide +kernel
theorem dX7_choose_72 : decode cX7_choose 72 = .ok (.lstore 6, 2) := by decide +kernel
theorem dX7_choose_74 : decode cX7_choose 74 = .ok (.lload 6, 2) := by decide +kernel
theorem dX7_choose_76 : decode cX7_choose 76 = .ok (.lload_n 3, 1) := by decide +kernel
theorem dX7_choose_77 : decode cX7_choose 77 = .ok (.lcmp, 1) := by decide +kernel
theorem dX7_choose_78 : decode cX7_choose 78 = .ok (.ifCond .le 9, 3) := by decide +kernel
theorem dX7_choose_81 : decode cX7_choose 81 = .ok (.lload 6, 2) := by decide +kernel
theorem dX7_choose_83 : decode cX7_choose 83 = .ok (.lstore_n 3, 1) := by decide +kernel
theorem dX7_choose_84 : decode cX7_choose 84 = .ok (.iload 5, 2) := by decide +kernel
theorem dX7_choose_86 : decode cX7_choose 86 = .ok (.istore_n 2, 1) := by decide +kernel
theorem dX7_choose_87 : decode cX7_choose 87 = .ok (.iinc 5 1, 3) := by decide +kernel
theorem dX7_choose_90 : decode cX7_choose 90 = .ok (.goto (-43), 3) := by decide +kernel
theorem dX7_choose_93 : decode cX7_choose 93 = .ok (.iload_n 2, 1) := by decide +kernel
theorem dX7_choose_94 : decode cX7_choose 94 = .ok (.ireturn, 1) := by decide +kernel
theorem dX7_serve_0 : decode cX7_serve 0 = .ok (.aload_n 0, 1) := by decide +kernel
theorem dX7_serve_1 : decode cX7_serve 1 = .ok (.getfield 9, 3) := by decide +kernel
theorem dX7_serve_4 : decode cX7_serve 4 = .ok (.iload_n 1, 1) := by decide +kernel
theorem dX7_serve_5 : decode cX7_serve 5 = .ok (.laload, 1) := by decide +kernel
theorem dX7_serve_6 : decode cX7_serve 6 = .ok (.invokestatic 96, 3) := by decide +kernel
theorem dX7_serve_9 : decode cX7_serve 9 = .ok (.lstore_n 2, 1) := by decide +kernel
theorem dX7_serve_10 : decode cX7_serve 10 = .ok (.aload_n 0, 1) := by decide +kernel
theorem dX7_serve_11 : decode cX7_serve 11 = .ok (.getfield 9, 3) := by decide +kernel
theorem dX7_serve_14 : decode cX7_serve 14 = .ok (.iload_n 1, 1) := by decide +kernel
theorem dX7_serve_15 : decode cX7_serve 15 = .ok (.dup2, 1) := by decide +kernel
theorem dX7_serve_16 : decode cX7_serve 16 = .ok (.laload, 1) := by decide +kernel
theorem dX7_serve_17 : decode cX7_serve 17 = .ok (.lload_n 2, 1) := by decide +kernel
theorem dX7_serve_18 : decode cX7_serve 18 = .ok (.lxor, 1) := by decide +kernel
theorem dX7_serve_19 : decode cX7_serve 19 = .ok (.lastore, 1) := by decide +kernel
theorem dX7_serve_20 : decode cX7_serve 20 = .ok (.lload_n 2, 1) := by decide +kernel
theorem dX7_serve_21 : decode cX7_serve 21 = .ok (.invokestatic 51, 3) := by decide +kernel
theorem dX7_serve_24 : decode cX7_serve 24 = .ok (.bipush 7, 2) := by decide +kernel
theorem dX7_serve_26 : decode cX7_serve 26 = .ok (.irem, 1) := by decide +kernel
theorem dX7_serve_27 : decode cX7_serve 27 = .ok (.iconst 3, 1) := by decide +kernel
theorem dX7_serve_28 : decode cX7_serve 28 = .ok (.if_icmp .ne 40, 3) := by decide +kernel
theorem dX7_serve_31 : decode cX7_serve 31 = .ok (.aload_n 0, 1) := by decide +kernel
theorem dX7_serve_32 : decode cX7_serve 32 = .ok (.getfield 19, 3) := by decide +kernel
theorem dX7_serve_35 : decode cX7_serve 35 = .ok (.iload_n 1, 1) := by decide +kernel
theorem dX7_serve_36 : decode cX7_serve 36 = .ok (.dup2, 1) := by decide +kernel
theorem dX7_serve_37 : decode cX7_serve 37 = .ok (.iaload, 1) := by decide +kernel
theorem dX7_serve_38 : decode cX7_serve 38 = .ok (.iconst 1, 1) := by decide +kernel
theorem dX7_serve_39 : decode cX7_serve 39 = .ok (.iadd, 1) := by decide +kernel
theorem dX7_serve_40 : decode cX7_serve 40 = .ok (.iastore, 1) := by decide +kernel
theorem dX7_serve_41 : decode cX7_serve 41 = .ok (.aload_n 0, 1) := by decide +kernel
theorem dX7_serve_42 : decode cX7_serve 42 = .ok (.getfield 9, 3) := by decide +kernel
theorem dX7_serve_45 : decode cX7_serve 45 = .ok (.iload_n 1, 1) := by decide +kernel
theorem dX7_serve_46 : decode cX7_serve 46 = .ok (.laload, 1) := by decide +kernel
theorem dX7_serve_47 : decode cX7_serve 47 = .ok (.invokestatic 96, 3) := by decide +kernel
theorem dX7_serve_50 : decode cX7_serve 50 = .ok (.lstore_n 2, 1) := by decide +kernel
theorem dX7_serve_51 : decode cX7_serve 51 = .ok (.lload_n 2, 1) := by decide +kernel
theorem dX7_serve_52 : decode cX7_serve 52 = .ok (.lconst 0, 1) := by decide +kernel
theorem dX7_serve_53 : decode cX7_serve 53 = .ok (.lcmp, 1) := by decide +kernel
theorem dX7_serve_54 : decode cX7_serve 54 = .ok (.ifCond .ne 4, 3) := by decide +kernel
theorem dX7_serve_57 : decode cX7_serve 57 = .ok (.return_, 1) := by decide +kernel
theorem dX7_serve_58 : decode cX7_serve 58 = .ok (.aload_n 0, 1) := by decide +kernel
theorem dX7_serve_59 : decode cX7_serve 59 = .ok (.getfield 9, 3) := by decide +kernel
theorem dX7_serve_62 : decode cX7_serve 62 = .ok (.iload_n 1, 1) := by decide +kernel
theorem dX7_serve_63 : decode cX7_serve 63 = .ok (.dup2, 1) := by decide +kernel
theorem dX7_serve_64 : decode cX7_serve 64 = .ok (.laload, 1) := by decide +kernel
theorem dX7_serve_65 : decode cX7_serve 65 = .ok (.lload_n 2, 1) := by decide +kernel
theorem dX7_serve_66 : decode cX7_serve 66 = .ok (.lxor, 1) := by decide +kernel
theorem dX7_serve_67 : decode cX7_serve 67 = .ok (.lastore, 1) := by decide +kernel
theorem dX7_serve_68 : decode cX7_serve 68 = .ok (.aload_n 0, 1) := by decide +kernel
theorem dX7_serve_69 : decode cX7_serve 69 = .ok (.getfield 15, 3) := by decide +kernel
theorem dX7_serve_72 : decode cX7_serve 72 = .ok (.iload_n 1, 1) := by decide +kernel
theorem dX7_serve_73 : decode cX7_serve 73 = .ok (.dup2, 1) := by decide +kernel
theorem dX7_serve_74 : decode cX7_serve 74 = .ok (.iaload, 1) := by decide +kernel
theorem dX7_serve_75 : decode cX7_serve 75 = .ok (.iconst 1, 1) := by decide +kernel
theorem dX7_serve_76 : decode cX7_serve 76 = .ok (.iadd, 1) := by decide +kernel
theorem dX7_serve_77 : decode cX7_serve 77 = .ok (.iastore, 1) := by decide +kernel
theorem dX7_serve_78 : decode cX7_serve 78 = .ok (.aload_n 0, 1) := by decide +kernel
theorem dX7_serve_79 : decode cX7_serve 79 = .ok (.getfield 22, 3) := by decide +kernel
theorem dX7_serve_82 : decode cX7_serve 82 = .ok (.iload_n 1, 1) := by decide +kernel
theorem dX7_serve_83 : decode cX7_serve 83 = .ok (.dup2, 1) := by decide +kernel
theorem dX7_serve_84 : decode cX7_serve 84 = .ok (.iaload, 1) := by decide +kernel
theorem dX7_serve_85 : decode cX7_serve 85 = .ok (.iconst 1, 1) := by decide +kernel
theorem dX7_serve_86 : decode cX7_serve 86 = .ok (.isub, 1) := by decide +kernel
theorem dX7_serve_87 : decode cX7_serve 87 = .ok (.iastore, 1) := by decide +kernel
theorem dX7_serve_88 : decode cX7_serve 88 = .ok (.return_, 1) := by decide +kernel
theorem dX7_give_0 : decode cX7_give 0 = .ok (.iconst 0, 1) := by decide +kernel
theorem dX7_give_1 : decode cX7_give 1 = .ok (.istore 4, 2) := by decide +kernel
theorem dX7_give_3 : decode cX7_give 3 = .ok (.iload 4, 2) := by decide +kernel
theorem dX7_give_5 : decode cX7_give 5 = .ok (.iload_n 3, 1) := by decide +kernel
theorem dX7_give_6 : decode cX7_give 6 = .ok (.if_icmp .ge 42, 3) := by decide +kernel
theorem dX7_give_9 : decode cX7_give 9 = .ok (.aload_n 0, 1) := by decide +kernel
theorem dX7_give_10 : decode cX7_give 10 = .ok (.getfield 9, 3) := by decide +kernel
theorem dX7_give_13 : decode cX7_give 13 = .ok (.iload_n 1, 1) := by decide +kernel
theorem dX7_give_14 : decode cX7_give 14 = .ok (.laload, 1) := by decide +kernel
theorem dX7_give_15 : decode cX7_give 15 = .ok (.invokestatic 100, 3) := by decide +kernel
theorem dX7_give_18 : decode cX7_give 18 = .ok (.lstore 5, 2) := by decide +kernel
theorem dX7_give_20 : decode cX7_give 20 = .ok (.aload_n 0, 1) := by decide +kernel
theorem dX7_give_21 : decode cX7_give 21 = .ok (.getfield 9, 3) := by decide +kernel
theorem dX7_give_24 : decode cX7_give 24 = .ok (.iload_n 1, 1) := by decide +kernel
theorem dX7_give_25 : decode cX7_give 25 = .ok (.dup2, 1) := by decide +kernel
theorem dX7_give_26 : decode cX7_give 26 = .ok (.laload, 1) := by decide +kernel
theorem dX7_give_27 : decode cX7_give 27 = .ok (.lload 5, 2) := by decide +kernel
theorem dX7_give_29 : decode cX7_give 29 = .ok (.lxor, 1) := by decide +kernel
theorem dX7_give_30 : decode cX7_give 30 = .ok (.lastore, 1) := by decide +kernel
theorem dX7_give_31 : decode cX7_give 31 = .ok (.aload_n 0, 1) := by decide +kernel
theorem dX7_give_32 : decode cX7_give 32 = .ok (.getfield 9, 3) := by decide +kernel
theorem dX7_give_35 : decode cX7_give 35 = .ok (.iload_n 2, 1) := by decide +kernel
theorem dX7_give_36 : decode cX7_give 36 = .ok (.dup2, 1) := by decide +kernel
theorem dX7_give_37 : decode cX7_give 37 = .ok (.laload, 1) := by decide +kernel
theorem dX7_give_38 : decode cX7_give 38 = .ok (.lload 5, 2) := by decide +kernel
theorem dX7_give_40 : decode cX7_give 40 = .ok (.lor, 1) := by decide +kernel
theorem dX7_give_41 : decode cX7_give 41 = .ok (.lastore, 1) := by decide +kernel
theorem dX7_give_42 : decode cX7_give 42 = .ok (.iinc 4 1, 3) := by decide +kernel
theorem dX7_give_45 : decode cX7_give 45 = .ok (.goto (-42), 3) := by decide +kernel
theorem dX7_give_48 : decode cX7_give 48 = .ok (.return_, 1) := by decide +kernel
theorem dX7_drawVoter_0 : decode cX7_drawVoter 0 = .ok (.iload_n 1, 1) := by decide +kernel
theorem dX7_drawVoter_1 : decode cX7_drawVoter 1 = .ok (.invokestatic 103, 3) := by decide +kernel
theorem dX7_drawVoter_4 : decode cX7_drawVoter 4 = .ok (.istore_n 3, 1) := by decide +kernel
theorem dX7_drawVoter_5 : decode cX7_drawVoter 5 = .ok (.iload_n 3, 1) := by decide +kernel
theorem dX7_drawVoter_6 : decode cX7_drawVoter 6 = .ok (.bipush 16, 2) := by decide +kernel
theorem dX7_drawVoter_8 : decode cX7_drawVoter 8 = .ok (.ishr, 1) := by decide +kernel
theorem dX7_drawVoter_9 : decode cX7_drawVoter 9 = .ok (.bipush 100, 2) := by decide +kernel
theorem dX7_drawVoter_11 : decode cX7_drawVoter 11 = .ok (.irem, 1) := by decide +kernel
theorem dX7_drawVoter_12 : decode cX7_drawVoter 12 = .ok (.iload_n 2, 1) := by decide +kernel
theorem dX7_drawVoter_13 : decode cX7_drawVoter 13 = .ok (.if_icmp .ge 10, 3) := by decide +kernel
theorem dX7_drawVoter_16 : decode cX7_drawVoter 16 = .ok (.aload_n 0, 1) := by decide +kernel
theorem dX7_drawVoter_17 : decode cX7_drawVoter 17 = .ok (.getfield 34, 3) := by decide +kernel
theorem dX7_drawVoter_20 : decode cX7_drawVoter 20 = .ok (.ifCond .ne 5, 3) := by decide +kernel
theorem dX7_drawVoter_23 : decode cX7_drawVoter 23 = .ok (.iload_n 3, 1) := by decide +kernel
theorem dX7_drawVoter_24 : decode cX7_drawVoter 24 = .ok (.ireturn, 1) := by decide +kernel
theorem dX7_drawVoter_25 : decode cX7_drawVoter 25 = .ok (.iload_n 3, 1) := by decide +kernel
theorem dX7_drawVoter_26 : decode cX7_drawVoter 26 = .ok (.invokestatic 103, 3) := by decide +kernel
theorem dX7_drawVoter_29 : decode cX7_drawVoter 29 = .ok (.istore_n 3, 1) := by decide +kernel
theorem dX7_drawVoter_30 : decode cX7_drawVoter 30 = .ok (.iload_n 3, 1) := by decide +kernel
theorem dX7_drawVoter_31 : decode cX7_drawVoter 31 = .ok (.bipush 16, 2) := by decide +kernel
theorem dX7_drawVoter_33 : decode cX7_drawVoter 33 = .ok (.ishr, 1) := by decide +kernel
theorem dX7_drawVoter_34 : decode cX7_drawVoter 34 = .ok (.aload_n 0, 1) := by decide +kernel
theorem dX7_drawVoter_35 : decode cX7_drawVoter 35 = .ok (.getfield 34, 3) := by decide +kernel
theorem dX7_drawVoter_38 : decode cX7_drawVoter 38 = .ok (.irem, 1) := by decide +kernel
theorem dX7_drawVoter_39 : decode cX7_drawVoter 39 = .ok (.istore 4, 2) := by decide +kernel
theorem dX7_drawVoter_41 : decode cX7_drawVoter 41 = .ok (.aload_n 0, 1) := by decide +kernel
theorem dX7_drawVoter_42 : decode cX7_drawVoter 42 = .ok (.getfield 22, 3) := by decide +kernel
theorem dX7_drawVoter_45 : decode cX7_drawVoter 45 = .ok (.iload 4, 2) := by decide +kernel
theorem dX7_drawVoter_47 : decode cX7_drawVoter 47 = .ok (.iaload, 1) := by decide +kernel
theorem dX7_drawVoter_48 : decode cX7_drawVoter 48 = .ok (.bipush 99, 2) := by decide +kernel
theorem dX7_drawVoter_50 : decode cX7_drawVoter 50 = .ok (.if_icmp .ge 14, 3) := by decide +kernel
theorem dX7_drawVoter_53 : decode cX7_drawVoter 53 = .ok (.aload_n 0, 1) := by decide +kernel
theorem dX7_drawVoter_54 : decode cX7_drawVoter 54 = .ok (.getfield 22, 3) := by decide +kernel
theorem dX7_drawVoter_57 : decode cX7_drawVoter 57 = .ok (.iload 4, 2) := by decide +kernel
theorem dX7_drawVoter_59 : decode cX7_drawVoter 59 = .ok (.dup2, 1) := by decide +kernel
theorem dX7_drawVoter_60 : decode cX7_drawVoter 60 = .ok (.iaload, 1) := by decide +kernel
theorem dX7_drawVoter_61 : decode cX7_drawVoter 61 = .ok (.iconst 1, 1) := by decide +kernel
theorem dX7_drawVoter_62 : decode cX7_drawVoter 62 = .ok (.iadd, 1) := by decide +kernel
theorem dX7_drawVoter_63 : decode cX7_drawVoter 63 = .ok (.iastore, 1) := by decide +kernel
theorem dX7_drawVoter_64 : decode cX7_drawVoter 64 = .ok (.iload_n 3, 1) := by decide +kernel
theorem dX7_drawVoter_65 : decode cX7_drawVoter 65 = .ok (.ireturn, 1) := by decide +kernel
theorem dX7_nextDrawn_0 : decode cX7_nextDrawn 0 = .ok (.iload_n 0, 1) := by decide +kernel
theorem dX7_nextDrawn_1 : decode cX7_nextDrawn 1 = .ok (.ldc 106, 2) := by decide +kernel
theorem dX7_nextDrawn_3 : decode cX7_nextDrawn 3 = .ok (.imul, 1) := by decide +kernel
theorem dX7_nextDrawn_4 : decode cX7_nextDrawn 4 = .ok (.sipush 12345, 3) := by decide +kernel
theorem dX7_nextDrawn_7 : decode cX7_nextDrawn 7 = .ok (.iadd, 1) := by decide +kernel
theorem dX7_nextDrawn_8 : decode cX7_nextDrawn 8 = .ok (.ldc 107, 2) := by decide +kernel
theorem dX7_nextDrawn_10 : decode cX7_nextDrawn 10 = .ok (.iand, 1) := by decide +kernel
theorem dX7_nextDrawn_11 : decode cX7_nextDrawn 11 = .ok (.ireturn, 1) := by decide +kernel
theorem dX7_greatest_0 : decode cX7_greatest 0 = .ok (.bipush 63, 2) := by decide +kernel
theorem dX7_greatest_2 : decode cX7_greatest 2 = .ok (.lload_n 0, 1) := by decide +kernel
theorem dX7_greatest_3 : decode cX7_greatest 3 = .ok (.invokestatic 108, 3) := by decide +kernel
theorem dX7_greatest_6 : decode cX7_greatest 6 = .ok (.isub, 1) := by decide +kernel
theorem dX7_greatest_7 : decode cX7_greatest 7 = .ok (.ireturn, 1) := by decide +kernel
theorem dX7_bitAt_0 : decode cX7_bitAt 0 = .ok (.lload_n 0, 1) := by decide +kernel
theorem dX7_bitAt_1 : decode cX7_bitAt 1 = .ok (.lstore_n 3, 1) := by decide +kernel
theorem dX7_bitAt_2 : decode cX7_bitAt 2 = .ok (.iconst 0, 1) := by decide +kernel
theorem dX7_bitAt_3 : decode cX7_bitAt 3 = .ok (.istore 5, 2) := by decide +kernel
theorem dX7_bitAt_5 : decode cX7_bitAt 5 = .ok (.iload 5, 2) := by decide +kernel
theorem dX7_bitAt_7 : decode cX7_bitAt 7 = .ok (.iload_n 2, 1) := by decide +kernel
theorem dX7_bitAt_8 : decode cX7_bitAt 8 = .ok (.if_icmp .ge 15, 3) := by decide +kernel
theorem dX7_bitAt_11 : decode cX7_bitAt 11 = .ok (.lload_n 3, 1) := by decide +kernel
theorem dX7_bitAt_12 : decode cX7_bitAt 12 = .ok (.lload_n 3, 1) := by decide +kernel
theorem dX7_bitAt_13 : decode cX7_bitAt 13 = .ok (.lconst 1, 1) := by decide +kernel
theorem dX7_bitAt_14 : decode cX7_bitAt 14 = .ok (.lsub, 1) := by decide +kernel
theorem dX7_bitAt_15 : decode cX7_bitAt 15 = .ok (.land, 1) := by decide +kernel
theorem dX7_bitAt_16 : decode cX7_bitAt 16 = .ok (.lstore_n 3, 1) := by decide +kernel
theorem dX7_bitAt_17 : decode cX7_bitAt 17 = .ok (.iinc 5 1, 3) := by decide +kernel
theorem dX7_bitAt_20 : decode cX7_bitAt 20 = .ok (.goto (-15), 3) := by decide +kernel
theorem dX7_bitAt_23 : decode cX7_bitAt 23 = .ok (.lload_n 3, 1) := by decide +kernel
theorem dX7_bitAt_24 : decode cX7_bitAt 24 = .ok (.invokestatic 51, 3) := by decide +kernel
theorem dX7_bitAt_27 : decode cX7_bitAt 27 = .ok (.ireturn, 1) := by decide +kernel
theorem dX8_init_0 : decode cX8_init 0 = .ok (.aload_n 0, 1) := by decide +kernel
theorem dX8_init_1 : decode cX8_init 1 = .ok (.invokespecial 3, 3) := by decide +kernel
theorem dX8_init_4 : decode cX8_init 4 = .ok (.aload_n 0, 1) := by decide +kernel
theorem dX8_init_5 : decode cX8_init 5 = .ok (.sipush 400, 3) := by decide +kernel
theorem dX8_init_8 : decode cX8_init 8 = .ok (.newarray .int, 2) := by decide +kernel
theorem dX8_init_10 : decode cX8_init 10 = .ok (.putfield 9, 3) := by decide +kernel
theorem dX8_init_13 : decode cX8_init 13 = .ok (.return_, 1) := by decide +kernel
theorem dX8_addBytes_0 : decode cX8_addBytes 0 = .ok (.bipush 24, 2) := by decide +kernel
theorem dX8_addBytes_2 : decode cX8_addBytes 2 = .ok (.istore_n 2, 1) := by decide +kernel
theorem dX8_addBytes_3 : decode cX8_addBytes 3 = .ok (.iload_n 2, 1) := by decide +kernel
theorem dX8_addBytes_4 : decode cX8_addBytes 4 = .ok (.ifCond .lt 45, 3) := by decide +kernel
theorem dX8_addBytes_7 : decode cX8_addBytes 7 = .ok (.aload_n 0, 1) := by decide +kernel
theorem dX8_addBytes_8 : decode cX8_addBytes 8 = .ok (.getfield 15, 3) := by decide +kernel
theorem dX8_addBytes_11 : decode cX8_addBytes 11 = .ok (.sipush 400, 3) := by decide +kernel
theorem dX8_addBytes_14 : decode cX8_addBytes 14 = .ok (.if_icmp .ge 29, 3) := by decide +kernel
theorem dX8_addBytes_17 : decode cX8_addBytes 17 = .ok (.aload_n 0, 1) := by decide +kernel
theorem dX8_addBytes_18 : decode cX8_addBytes 18 = .ok (.getfield 9, 3) := by decide +kernel
theorem dX8_addBytes_21 : decode cX8_addBytes 21 = .ok (.aload_n 0, 1) := by decide +kernel
theorem dX8_addBytes_22 : decode cX8_addBytes 22 = .ok (.getfield 15, 3) := by decide +kernel
theorem dX8_addBytes_25 : decode cX8_addBytes 25 = .ok (.iload_n 1, 1) := by decide +kernel
theorem dX8_addBytes_26 : decode cX8_addBytes 26 = .ok (.iload_n 2, 1) := by decide +kernel
theorem dX8_addBytes_27 : decode cX8_addBytes 27 = .ok (.iushr, 1) := by decide +kernel
theorem dX8_addBytes_28 : decode cX8_addBytes 28 = .ok (.sipush 255, 3) := by decide +kernel
theorem dX8_addBytes_31 : decode cX8_addBytes 31 = .ok (.iand, 1) := by decide +kernel
theorem dX8_addBytes_32 : decode cX8_addBytes 32 = .ok (.iastore, 1) := by decide +kernel
theorem dX8_addBytes_33 : decode cX8_addBytes 33 = .ok (.aload_n 0, 1) := by decide +kernel
theorem dX8_addBytes_34 : decode cX8_addBytes 34 = .ok (.dup, 1) := by decide +kernel
theorem dX8_addBytes_35 : decode cX8_addBytes 35 = .ok (.getfield 15, 3) := by decide +kernel
theorem dX8_addBytes_38 : decode cX8_addBytes 38 = .ok (.iconst 1, 1) := by decide +kernel
theorem dX8_addBytes_39 : decode cX8_addBytes 39 = .ok (.iadd, 1) := by decide +kernel
theorem dX8_addBytes_40 : decode cX8_addBytes 40 = .ok (.putfield 15, 3) := by decide +kernel
theorem dX8_addBytes_43 : decode cX8_addBytes 43 = .ok (.iinc 2 (-8), 3) := by decide +kernel
theorem dX8_addBytes_46 : decode cX8_addBytes 46 = .ok (.goto (-43), 3) := by decide +kernel
theorem dX8_addBytes_49 : decode cX8_addBytes 49 = .ok (.return_, 1) := by decide +kernel
theorem dX8_rewind_0 : decode cX8_rewind 0 = .ok (.aload_n 0, 1) := by decide +kernel
theorem dX8_rewind_1 : decode cX8_rewind 1 = .ok (.iconst 0, 1) := by decide +kernel
theorem dX8_rewind_2 : decode cX8_rewind 2 = .ok (.putfield 19, 3) := by decide +kernel
theorem dX8_rewind_5 : decode cX8_rewind 5 = .ok (.aload_n 0, 1) := by decide +kernel
theorem dX8_rewind_6 : decode cX8_rewind 6 = .ok (.iconst 0, 1) := by decide +kernel
theorem dX8_rewind_7 : decode cX8_rewind 7 = .ok (.putfield 22, 3) := by decide +kernel
theorem dX8_rewind_10 : decode cX8_rewind 10 = .ok (.return_, 1) := by decide +kernel
theorem dX8_blame_0 : decode cX8_blame 0 = .ok (.aload_n 0, 1) := by decide +kernel
theorem dX8_blame_1 : decode cX8_blame 1 = .ok (.iconst 1, 1) := by decide +kernel
theorem dX8_blame_2 : decode cX8_blame 2 = .ok (.bipush 8, 2) := by decide +kernel
theorem dX8_blame_4 : decode cX8_blame 4 = .ok (.iload_n 1, 1) := by decide +kernel
theorem dX8_blame_5 : decode cX8_blame 5 = .ok (.imul, 1) := by decide +kernel
theorem dX8_blame_6 : decode cX8_blame 6 = .ok (.iadd, 1) := by decide +kernel
theorem dX8_blame_7 : decode cX8_blame 7 = .ok (.iload_n 2, 1) := by decide +kernel
theorem dX8_blame_8 : decode cX8_blame 8 = .ok (.iadd, 1) := by decide +kernel
theorem dX8_blame_9 : decode cX8_blame 9 = .ok (.putfield 22, 3) := by decide +kernel
theorem dX8_blame_12 : decode cX8_blame 12 = .ok (.iconst 0, 1) := by decide +kernel
theorem dX8_blame_13 : decode cX8_blame 13 = .ok (.ireturn, 1) := by decide +kernel
theorem dX8_upcoming_0 : decode cX8_upcoming 0 = .ok (.aload_n 0, 1) := by decide +kernel
theorem dX8_upcoming_1 : decode cX8_upcoming 1 = .ok (.getfield 19, 3) := by decide +kernel
theorem dX8_upcoming_4 : decode cX8_upcoming 4 = .ok (.aload_n 0, 1) := by decide +kernel
theorem dX8_upcoming_5 : decode cX8_upcoming 5 = .ok (.getfield 15, 3) := by decide +kernel
theorem dX8_upcoming_8 : decode cX8_upcoming 8 = .ok (.if_icmp .ge 30, 3) := by decide +kernel
theorem dX8_upcoming_11 : decode cX8_upcoming 11 = .ok (.aload_n 0, 1) := by decide +kernel
theorem dX8_upcoming_12 : decode cX8_upcoming 12 = .ok (.getfield 9, 3) := by decide +kernel
theorem dX8_upcoming_15 : decode cX8_upcoming 15 = .ok (.aload_n 0, 1) := by decide +kernel
theorem dX8_upcoming_16 : decode cX8_upcoming 16 = .ok (.getfield 19, 3) := by decide +kernel
theorem dX8_upcoming_19 : decode cX8_upcoming 19 = .ok (.iaload, 1) := by decide +kernel
theorem dX8_upcoming_20 : decode cX8_upcoming 20 = .ok (.bipush 32, 2) := by decide +kernel
theorem dX8_upcoming_22 : decode cX8_upcoming 22 = .ok (.if_icmp .ne 16, 3) := by decide +kernel
theorem dX8_upcoming_25 : decode cX8_upcoming 25 = .ok (.aload_n 0, 1) := by decide +kernel
theorem dX8_upcoming_26 : decode cX8_upcoming 26 = .ok (.dup, 1) := by decide +kernel
theorem dX8_upcoming_27 : decode cX8_upcoming 27 = .ok (.getfield 19, 3) := by decide +kernel
theorem dX8_upcoming_30 : decode cX8_upcoming 30 = .ok (.iconst 1, 1) := by decide +kernel
theorem dX8_upcoming_31 : decode cX8_upcoming 31 = .ok (.iadd, 1) := by decide +kernel
theorem dX8_upcoming_32 : decode cX8_upcoming 32 = .ok (.putfield 19, 3) := by decide +kernel
theorem dX8_upcoming_35 : decode cX8_upcoming 35 = .ok (.goto (-35), 3) := by decide +kernel
theorem dX8_upcoming_38 : decode cX8_upcoming 38 = .ok (.aload_n 0, 1) := by decide +kernel
theorem dX8_upcoming_39 : decode cX8_upcoming 39 = .ok (.getfield 19, 3) := by decide +kernel
theorem dX8_upcoming_42 : decode cX8_upcoming 42 = .ok (.aload_n 0, 1) := by decide +kernel
theorem dX8_upcoming_43 : decode cX8_upcoming 43 = .ok (.getfield 15, 3) := by decide +kernel
theorem dX8_upcoming_46 : decode cX8_upcoming 46 = .ok (.if_icmp .ge 15, 3) := by decide +kernel
theorem dX8_upcoming_49 : decode cX8_upcoming 49 = .ok (.aload_n 0, 1) := by decide +kernel
theorem dX8_upcoming_50 : decode cX8_upcoming 50 = .ok (.getfield 9, 3) := by decide +kernel
theorem dX8_upcoming_53 : decode cX8_upcoming 53 = .ok (.aload_n 0, 1) := by decide +kernel
theorem dX8_upcoming_54 : decode cX8_upcoming 54 = .ok (.getfield 19, 3) := by decide +kernel
theorem dX8_upcoming_57 : decode cX8_upcoming 57 = .ok (.iaload, 1) := by decide +kernel
theorem dX8_upcoming_58 : decode cX8_upcoming 58 = .ok (.goto 4, 3) := by decide +kernel
theorem dX8_upcoming_61 : decode cX8_upcoming 61 = .ok (.iconst (-1), 1) := by decide +kernel
theorem dX8_upcoming_62 : decode cX8_upcoming 62 = .ok (.ireturn, 1) := by decide +kernel
theorem dX8_takeSign_0 : decode cX8_takeSign 0 = .ok (.aload_n 0, 1) := by decide +kernel
theorem dX8_takeSign_1 : decode cX8_takeSign 1 = .ok (.invokevirtual 25, 3) := by decide +kernel
theorem dX8_takeSign_4 : decode cX8_takeSign 4 = .ok (.iload_n 1, 1) := by decide +kernel
theorem dX8_takeSign_5 : decode cX8_takeSign 5 = .ok (.if_icmp .eq 5, 3) := by decide +kernel
theorem dX8_takeSign_8 : decode cX8_takeSign 8 = .ok (.iconst 0, 1) := by decide +kernel
theorem dX8_takeSign_9 : decode cX8_takeSign 9 = .ok (.ireturn, 1) := by decide +kernel
theorem dX8_takeSign_10 : decode cX8_takeSign 10 = .ok (.aload_n 0, 1) := by decide +kernel
theorem dX8_takeSign_11 : decode cX8_takeSign 11 = .ok (.dup, 1) := by decide +kernel
theorem dX8_takeSign_12 : decode cX8_takeSign 12 = .ok (.getfield 19, 3) := by decide +kernel
theorem dX8_takeSign_15 : decode cX8_takeSign 15 = .ok (.iconst 1, 1) := by decide +kernel
theorem dX8_takeSign_16 : decode cX8_takeSign 16 = .ok (.iadd, 1) := by decide +kernel
theorem dX8_takeSign_17 : decode cX8_takeSign 17 = .ok (.putfield 19, 3) := by decide +kernel
theorem dX8_takeSign_20 : decode cX8_takeSign 20 = .ok (.iconst 1, 1) := by decide +kernel
theorem dX8_takeSign_21 : decode cX8_takeSign 21 = .ok (.ireturn, 1) := by decide +kernel
theorem dX8_takeWord_0 : decode cX8_takeWord 0 = .ok (.aload_n 0, 1) := by decide +kernel
theorem dX8_takeWord_1 : decode cX8_takeWord 1 = .ok (.invokevirtual 25, 3) := by decide +kernel
theorem dX8_takeWord_4 : decode cX8_takeWord 4 = .ok (.pop, 1) := by decide +kernel
theorem dX8_takeWord_5 : decode cX8_takeWord 5 = .ok (.aload_n 0, 1) := by decide +kernel
theorem dX8_takeWord_6 : decode cX8_takeWord 6 = .ok (.getfield 19, 3) := by decide +kernel
theorem dX8_takeWord_9 : decode cX8_takeWord 9 = .ok (.istore_n 2, 1) := by decide +kernel
theorem dX8_takeWord_10 : decode cX8_takeWord 10 = .ok (.iload_n 2, 1) := by decide +kernel
theorem dX8_takeWord_11 : decode cX8_takeWord 11 = .ok (.aload_n 0, 1) := by decide +kernel
theorem dX8_takeWord_12 : decode cX8_takeWord 12 = .ok (.getfield 15, 3) := by decide +kernel
theorem dX8_takeWord_15 : decode cX8_takeWord 15 = .ok (.if_icmp .ge 31, 3) := by decide +kernel
theorem dX8_takeWord_18 : decode cX8_takeWord 18 = .ok (.aload_n 0, 1) := by decide +kernel
theorem dX8_takeWord_19 : decode cX8_takeWord 19 = .ok (.getfield 9, 3) := by decide +kernel
theorem dX8_takeWord_22 : decode cX8_takeWord 22 = .ok (.iload_n 2, 1) := by decide +kernel
theorem dX8_takeWord_23 : decode cX8_takeWord 23 = .ok (.iaload, 1) := by decide +kernel
theorem dX8_takeWord_24 : decode cX8_takeWord 24 = .ok (.bipush 97, 2) := by decide +kernel
theorem dX8_takeWord_26 : decode cX8_takeWord 26 = .ok (.if_icmp .lt 20, 3) := by decide +kernel
theorem dX8_takeWord_29 : decode cX8_takeWord 29 = .ok (.aload_n 0, 1) := by decide +kernel
theorem dX8_takeWord_30 : decode cX8_takeWord 30 = .ok (.getfield 9, 3) := by decide +kernel
theorem dX8_takeWord_33 : decode cX8_takeWord 33 = .ok (.iload_n 2, 1) := by decide +kernel
theorem dX8_takeWord_34 : decode cX8_takeWord 34 = .ok (.iaload, 1) := by decide +kernel
theorem dX8_takeWord_35 : decode cX8_takeWord 35 = .ok (.bipush 122, 2) := by decide +kernel
theorem dX8_takeWord_37 : decode cX8_takeWord 37 = .ok (.if_icmp .gt 9, 3) := by decide +kernel
theorem dX8_takeWord_40 : decode cX8_takeWord 40 = .ok (.iinc 2 1, 3) := by decide +kernel
theorem dX8_takeWord_43 : decode cX8_takeWord 43 = .ok (.goto (-33), 3) := by decide +kernel
theorem dX8_takeWord_46 : decode cX8_takeWord 46 = .ok (.iconst 0, 1) := by decide +kernel
theorem dX8_takeWord_47 : decode cX8_takeWord 47 = .ok (.istore_n 3, 1) := by decide +kernel
theorem dX8_takeWord_48 : decode cX8_takeWord 48 = .ok (.iconst 0, 1) := by decide +kernel
theorem dX8_takeWord_49 : decode cX8_takeWord 49 = .ok (.istore 4, 2) := by decide +kernel
theorem dX8_takeWord_51 : decode cX8_takeWord 51 = .ok (.iconst 0, 1) := by decide +kernel
theorem dX8_takeWord_52 : decode cX8_takeWord 52 = .ok (.istore 5, 2) := by decide +kernel
theorem dX8_takeWord_54 : decode cX8_takeWord 54 = .ok (.iload 5, 2) := by decide +kernel
theorem dX8_takeWord_56 : decode cX8_takeWord 56 = .ok (.aload_n 1, 1) := by decide +kernel
theorem dX8_takeWord_57 : decode cX8_takeWord 57 = .ok (.invokevirtual 29, 3) := by decide +kernel
theorem dX8_takeWord_60 : decode cX8_takeWord 60 = .ok (.if_icmp .gt 58, 3) := by decide +kernel
theorem dX8_takeWord_63 : decode cX8_takeWord 63 = .ok (.iload 5, 2) := by decide +kernel
theorem dX8_takeWord_65 : decode cX8_takeWord 65 = .ok (.aload_n 1, 1) := by decide +kernel
theorem dX8_takeWord_66 : decode cX8_takeWord 66 = .ok (.invokevirtual 29, 3) := by decide +kernel
theorem dX8_takeWord_69 : decode cX8_takeWord 69 = .ok (.if_icmp .eq 14, 3) := by decide +kernel
theorem dX8_takeWord_72 : decode cX8_takeWord 72 = .ok (.aload_n 1, 1) := by decide +kernel
theorem dX8_takeWord_73 : decode cX8_takeWord 73 = .ok (.iload 5, 2) := by decide +kernel
theorem dX8_takeWord_75 : decode cX8_takeWord 75 = .ok (.invokevirtual 33, 3) := by decide +kernel
theorem dX8_takeWord_78 : decode cX8_takeWord 78 = .ok (.bipush 32, 2) := by decide +kernel
theorem dX8_takeWord_80 : decode cX8_takeWord 80 = .ok (.if_icmp .ne 32, 3) := by decide +kernel
theorem dX8_takeWord_83 : decode cX8_takeWord 83 = .ok (.aload_n 0, 1) := by decide +kernel
theorem dX8_takeWord_84 : decode cX8_takeWord 84 = .ok (.aload_n 1, 1) := by decide +kernel
theorem dX8_takeWord_85 : decode cX8_takeWord 85 = .ok (.iload 4, 2) := by decide +kernel
theorem dX8_takeWord_87 : decode cX8_takeWord 87 = .ok (.iload 5, 2) := by decide +kernel
theorem dX8_takeWord_89 : decode cX8_takeWord 89 = .ok (.iload_n 2, 1) := by decide +kernel
theorem dX8_takeWord_90 : decode cX8_takeWord 90 = .ok (.invokevirtual 37, 3) := by decide +kernel
theorem dX8_takeWord_93 : decode cX8_takeWord 93 = .ok (.ifCond .eq 10, 3) := by decide +kernel
theorem dX8_takeWord_96 : decode cX8_takeWord 96 = .ok (.aload_n 0, 1) := by decide +kernel
theorem dX8_takeWord_97 : decode cX8_takeWord 97 = .ok (.iload_n 2, 1) := by decide +kernel
theorem dX8_takeWord_98 : decode cX8_takeWord 98 = .ok (.putfield 19, 3) := by decide +kernel
theorem dX8_takeWord_101 : decode cX8_takeWord 101 = .ok (.iload_n 3, 1) := by decide +kernel
theorem dX8_takeWord_102 : decode cX8_takeWord 102 = .ok (.ireturn, 1) := by decide +kernel
theorem dX8_takeWord_103 : decode cX8_takeWord 103 = .ok (.iinc 3 1, 3) := by decide +kernel
theorem dX8_takeWord_106 : decode cX8_takeWord 106 = .ok (.iload 5, 2) := by decide +kernel
theorem dX8_takeWord_108 : decode cX8_takeWord 108 = .ok (.iconst 1, 1) := by decide +kernel
theorem dX8_takeWord_109 : decode cX8_takeWord 109 = .ok (.iadd, 1) := by decide +kernel
theorem dX8_takeWord_110 : decode cX8_takeWord 110 = .ok (.istore 4, 2) := by decide +kernel
theorem dX8_takeWord_112 : decode cX8_takeWord 112 = .ok (.iinc 5 1, 3) := by decide +kernel
theorem dX8_takeWord_115 : decode cX8_takeWord 115 = .ok (.goto (-61), 3) := by decide +kernel
theorem dX8_takeWord_118 : decode cX8_takeWord 118 = .ok (.iconst (-1), 1) := by decide +kernel
theorem dX8_takeWord_119 : decode cX8_takeWord 119 = .ok (.ireturn, 1) := by decide +kernel
theorem dX8_isWord_0 : decode cX8_isWord 0 = .ok (.iload_n 3, 1) := by decide +kernel
theorem dX8_isWord_1 : decode cX8_isWord 1 = .ok (.iload_n 2, 1) := by decide +kernel
theorem dX8_isWord_2 : decode cX8_isWord 2 = .ok (.isub, 1) := by decide +kernel
theorem dX8_isWord_3 : decode cX8_isWord 3 = .ok (.iload 4, 2) := by decide +kernel
theorem dX8_isWord_5 : decode cX8_isWord 5 = .ok (.aload_n 0, 1) := by decide +kernel
theorem dX8_isWord_6 : decode cX8_isWord 6 = .ok (.getfield 19, 3) := by decide +kernel
theorem dX8_isWord_9 : decode cX8_isWord 9 = .ok (.isub, 1) := by decide +kernel
theorem dX8_isWord_10 : decode cX8_isWord 10 = .ok (.if_icmp .eq 5, 3) := by decide +kernel
theorem dX8_isWord_13 : decode cX8_isWord 13 = .ok (.iconst 0, 1) := by decide +kernel
theorem dX8_isWord_14 : decode cX8_isWord 14 = .ok (.ireturn, 1) := by decide +kernel
theorem dX8_isWord_15 : decode cX8_isWord 15 = .ok (.iload_n 2, 1) := by decide +kernel
theorem dX8_isWord_16 : decode cX8_isWord 16 = .ok (.istore 5, 2) := by decide +kernel
theorem dX8_isWord_18 : decode cX8_isWord 18 = .ok (.iload 5, 2) := by decide +kernel
theorem dX8_isWord_20 : decode cX8_isWord 20 = .ok (.iload_n 3, 1) := by decide +kernel
theorem dX8_isWord_21 : decode cX8_isWord 21 = .ok (.if_icmp .ge 34, 3) := by decide +kernel
theorem dX8_isWord_24 : decode cX8_isWord 24 = .ok (.aload_n 1, 1) := by decide +kernel
theorem dX8_isWord_25 : decode cX8_isWord 25 = .ok (.iload 5, 2) := by decide +kernel
theorem dX8_isWord_27 : decode cX8_isWord 27 = .ok (.invokevirtual 33, 3) := by decide +kernel
theorem dX8_isWord_30 : decode cX8_isWord 30 = .ok (.aload_n 0, 1) := by decide +kernel
theorem dX8_isWord_31 : decode cX8_isWord 31 = .ok (.getfield 9, 3) := by decide +kernel
theorem dX8_isWord_34 : decode cX8_isWord 34 = .ok (.aload_n 0, 1) := by decide +kernel
theorem dX8_isWord_35 : decode cX8_isWord 35 = .ok (.getfield 19, 3) := by decide +kernel
theorem dX8_isWord_38 : decode cX8_isWord 38 = .ok (.iload 5, 2) := by decide +kernel
theorem dX8_isWord_40 : decode cX8_isWord 40 = .ok (.iadd, 1) := by decide +kernel
theorem dX8_isWord_41 : decode cX8_isWord 41 = .ok (.iload_n 2, 1) := by decide +kernel
theorem dX8_isWord_42 : decode cX8_isWord 42 = .ok (.isub, 1) := by decide +kernel
theorem dX8_isWord_43 : decode cX8_isWord 43 = .ok (.iaload, 1) := by decide +kernel
theorem dX8_isWord_44 : decode cX8_isWord 44 = .ok (.if_icmp .eq 5, 3) := by decide +kernel
theorem dX8_isWord_47 : decode cX8_isWord 47 = .ok (.iconst 0, 1) := by decide +kernel
theorem dX8_isWord_48 : decode cX8_isWord 48 = .ok (.ireturn, 1) := by decide +kernel
theorem dX8_isWord_49 : decode cX8_isWord 49 = .ok (.iinc 5 1, 3) := by decide +kernel
theorem dX8_isWord_52 : decode cX8_isWord 52 = .ok (.goto (-34), 3) := by decide +kernel
theorem dX8_isWord_55 : decode cX8_isWord 55 = .ok (.iconst 1, 1) := by decide +kernel
theorem dX8_isWord_56 : decode cX8_isWord 56 = .ok (.ireturn, 1) := by decide +kernel
theorem dX8_takeNumber_0 : decode cX8_takeNumber 0 = .ok (.aload_n 0, 1) := by decide +kernel
theorem dX8_takeNumber_1 : decode cX8_takeNumber 1 = .ok (.invokevirtual 25, 3) := by decide +kernel
theorem dX8_takeNumber_4 : decode cX8_takeNumber 4 = .ok (.istore_n 3, 1) := by decide +kernel
theorem dX8_takeNumber_5 : decode cX8_takeNumber 5 = .ok (.aload_n 0, 1) := by decide +kernel
theorem dX8_takeNumber_6 : decode cX8_takeNumber 6 = .ok (.aload_n 0, 1) := by decide +kernel
theorem dX8_takeNumber_7 : decode cX8_takeNumber 7 = .ok (.getfield 19, 3) := by decide +kernel
theorem dX8_takeNumber_10 : decode cX8_takeNumber 10 = .ok (.putfield 41, 3) := by decide +kernel
theorem dX8_takeNumber_13 : decode cX8_takeNumber 13 = .ok (.iload_n 3, 1) := by decide +kernel
theorem dX8_takeNumber_14 : decode cX8_takeNumber 14 = .ok (.invokestatic 44, 3) := by decide +kernel
theorem dX8_takeNumber_17 : decode cX8_takeNumber 17 = .ok (.ifCond .ne 15, 3) := by decide +kernel
theorem dX8_takeNumber_20 : decode cX8_takeNumber 20 = .ok (.aload_n 0, 1) := by decide +kernel
theorem dX8_takeNumber_21 : decode cX8_takeNumber 21 = .ok (.aload_n 0, 1) := by decide +kernel
theorem dX8_takeNumber_22 : decode cX8_takeNumber 22 = .ok (.getfield 19, 3) := by decide +kernel
theorem dX8_takeNumber_25 : decode cX8_takeNumber 25 = .ok (.iconst 0, 1) := by decide +kernel
theorem dX8_takeNumber_26 : decode cX8_takeNumber 26 = .ok (.invokevirtual 48, 3) := by decide +kernel
theorem dX8_takeNumber_29 : decode cX8_takeNumber 29 = .ok (.pop, 1) := by decide +kernel
theorem dX8_takeNumber_30 : decode cX8_takeNumber 30 = .ok (.iconst (-1), 1) := by decide +kernel
theorem dX8_takeNumber_31 : decode cX8_takeNumber 31 = .ok (.ireturn, 1) := by decide +kernel
