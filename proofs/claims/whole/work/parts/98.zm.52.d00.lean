theorem dX0_init_0 : decode cX0_init 0 = .ok (.aload_n 0, 1) := by decide +kernel
theorem dX0_init_1 : decode cX0_init 1 = .ok (.invokespecial 3, 3) := by decide +kernel
theorem dX0_init_4 : decode cX0_init 4 = .ok (.aload_n 0, 1) := by decide +kernel
theorem dX0_init_5 : decode cX0_init 5 = .ok (.new 9, 3) := by decide +kernel
theorem dX0_init_8 : decode cX0_init 8 = .ok (.dup, 1) := by decide +kernel
theorem dX0_init_9 : decode cX0_init 9 = .ok (.invokespecial 11, 3) := by decide +kernel
theorem dX0_init_12 : decode cX0_init 12 = .ok (.putfield 12, 3) := by decide +kernel
theorem dX0_init_15 : decode cX0_init 15 = .ok (.aload_n 0, 1) := by decide +kernel
theorem dX0_init_16 : decode cX0_init 16 = .ok (.new 18, 3) := by decide +kernel
theorem dX0_init_19 : decode cX0_init 19 = .ok (.dup, 1) := by decide +kernel
theorem dX0_init_20 : decode cX0_init 20 = .ok (.invokespecial 20, 3) := by decide +kernel
theorem dX0_init_23 : decode cX0_init 23 = .ok (.putfield 21, 3) := by decide +kernel
theorem dX0_init_26 : decode cX0_init 26 = .ok (.aload_n 0, 1) := by decide +kernel
theorem dX0_init_27 : decode cX0_init 27 = .ok (.bipush 10, 2) := by decide +kernel
theorem dX0_init_29 : decode cX0_init 29 = .ok (.newarray .int, 2) := by decide +kernel
theorem dX0_init_31 : decode cX0_init 31 = .ok (.putfield 25, 3) := by decide +kernel
theorem dX0_init_34 : decode cX0_init 34 = .ok (.aload_n 0, 1) := by decide +kernel
theorem dX0_init_35 : decode cX0_init 35 = .ok (.bipush 10, 2) := by decide +kernel
theorem dX0_init_37 : decode cX0_init 37 = .ok (.newarray .int, 2) := by decide +kernel
theorem dX0_init_39 : decode cX0_init 39 = .ok (.putfield 29, 3) := by decide +kernel
theorem dX0_init_42 : decode cX0_init 42 = .ok (.aload_n 0, 1) := by decide +kernel
theorem dX0_init_43 : decode cX0_init 43 = .ok (.bipush 10, 2) := by decide +kernel
theorem dX0_init_45 : decode cX0_init 45 = .ok (.newarray .int, 2) := by decide +kernel
theorem dX0_init_47 : decode cX0_init 47 = .ok (.putfield 32, 3) := by decide +kernel
theorem dX0_init_50 : decode cX0_init 50 = .ok (.aload_n 0, 1) := by decide +kernel
theorem dX0_init_51 : decode cX0_init 51 = .ok (.iconst (-1), 1) := by decide +kernel
theorem dX0_init_52 : decode cX0_init 52 = .ok (.putfield 35, 3) := by decide +kernel
theorem dX0_init_55 : decode cX0_init 55 = .ok (.return_, 1) := by decide +kernel
theorem dX0_copyFrom_0 : decode cX0_copyFrom 0 = .ok (.aload_n 0, 1) := by decide +kernel
theorem dX0_copyFrom_1 : decode cX0_copyFrom 1 = .ok (.getfield 12, 3) := by decide +kernel
theorem dX0_copyFrom_4 : decode cX0_copyFrom 4 = .ok (.aload_n 1, 1) := by decide +kernel
theorem dX0_copyFrom_5 : decode cX0_copyFrom 5 = .ok (.getfield 12, 3) := by decide +kernel
theorem dX0_copyFrom_8 : decode cX0_copyFrom 8 = .ok (.invokevirtual 39, 3) := by decide +kernel
theorem dX0_copyFrom_11 : decode cX0_copyFrom 11 = .ok (.aload_n 0, 1) := by decide +kernel
theorem dX0_copyFrom_12 : decode cX0_copyFrom 12 = .ok (.getfield 21, 3) := by decide +kernel
theorem dX0_copyFrom_15 : decode cX0_copyFrom 15 = .ok (.aload_n 1, 1) := by decide +kernel
theorem dX0_copyFrom_16 : decode cX0_copyFrom 16 = .ok (.getfield 21, 3) := by decide +kernel
theorem dX0_copyFrom_19 : decode cX0_copyFrom 19 = .ok (.invokevirtual 43, 3) := by decide +kernel
theorem dX0_copyFrom_22 : decode cX0_copyFrom 22 = .ok (.aload_n 1, 1) := by decide +kernel
theorem dX0_copyFrom_23 : decode cX0_copyFrom 23 = .ok (.getfield 25, 3) := by decide +kernel
theorem dX0_copyFrom_26 : decode cX0_copyFrom 26 = .ok (.iconst 0, 1) := by decide +kernel
theorem dX0_copyFrom_27 : decode cX0_copyFrom 27 = .ok (.aload_n 0, 1) := by decide +kernel
theorem dX0_copyFrom_28 : decode cX0_copyFrom 28 = .ok (.getfield 25, 3) := by decide +kernel
theorem dX0_copyFrom_31 : decode cX0_copyFrom 31 = .ok (.iconst 0, 1) := by decide +kernel
theorem dX0_copyFrom_32 : decode cX0_copyFrom 32 = .ok (.bipush 10, 2) := by decide +kernel
theorem dX0_copyFrom_34 : decode cX0_copyFrom 34 = .ok (.invokestatic 46, 3) := by decide +kernel
theorem dX0_copyFrom_37 : decode cX0_copyFrom 37 = .ok (.aload_n 1, 1) := by decide +kernel
theorem dX0_copyFrom_38 : decode cX0_copyFrom 38 = .ok (.getfield 29, 3) := by decide +kernel
theorem dX0_copyFrom_41 : decode cX0_copyFrom 41 = .ok (.iconst 0, 1) := by decide +kernel
theorem dX0_copyFrom_42 : decode cX0_copyFrom 42 = .ok (.aload_n 0, 1) := by decide +kernel
theorem dX0_copyFrom_43 : decode cX0_copyFrom 43 = .ok (.getfield 29, 3) := by decide +kernel
theorem dX0_copyFrom_46 : decode cX0_copyFrom 46 = .ok (.iconst 0, 1) := by decide +kernel
theorem dX0_copyFrom_47 : decode cX0_copyFrom 47 = .ok (.bipush 10, 2) := by decide +kernel
theorem dX0_copyFrom_49 : decode cX0_copyFrom 49 = .ok (.invokestatic 46, 3) := by decide +kernel
theorem dX0_copyFrom_52 : decode cX0_copyFrom 52 = .ok (.aload_n 1, 1) := by decide +kernel
theorem dX0_copyFrom_53 : decode cX0_copyFrom 53 = .ok (.getfield 32, 3) := by decide +kernel
theorem dX0_copyFrom_56 : decode cX0_copyFrom 56 = .ok (.iconst 0, 1) := by decide +kernel
theorem dX0_copyFrom_57 : decode cX0_copyFrom 57 = .ok (.aload_n 0, 1) := by decide +kernel
theorem dX0_copyFrom_58 : decode cX0_copyFrom 58 = .ok (.getfield 32, 3) := by decide +kernel
theorem dX0_copyFrom_61 : decode cX0_copyFrom 61 = .ok (.iconst 0, 1) := by decide +kernel
theorem dX0_copyFrom_62 : decode cX0_copyFrom 62 = .ok (.bipush 10, 2) := by decide +kernel
theorem dX0_copyFrom_64 : decode cX0_copyFrom 64 = .ok (.invokestatic 46, 3) := by decide +kernel
theorem dX0_copyFrom_67 : decode cX0_copyFrom 67 = .ok (.aload_n 0, 1) := by decide +kernel
theorem dX0_copyFrom_68 : decode cX0_copyFrom 68 = .ok (.aload_n 1, 1) := by decide +kernel
theorem dX0_copyFrom_69 : decode cX0_copyFrom 69 = .ok (.getfield 52, 3) := by decide +kernel
theorem dX0_copyFrom_72 : decode cX0_copyFrom 72 = .ok (.putfield 52, 3) := by decide +kernel
theorem dX0_copyFrom_75 : decode cX0_copyFrom 75 = .ok (.aload_n 0, 1) := by decide +kernel
theorem dX0_copyFrom_76 : decode cX0_copyFrom 76 = .ok (.aload_n 1, 1) := by decide +kernel
theorem dX0_copyFrom_77 : decode cX0_copyFrom 77 = .ok (.getfield 55, 3) := by decide +kernel
theorem dX0_copyFrom_80 : decode cX0_copyFrom 80 = .ok (.putfield 55, 3) := by decide +kernel
theorem dX0_copyFrom_83 : decode cX0_copyFrom 83 = .ok (.aload_n 0, 1) := by decide +kernel
theorem dX0_copyFrom_84 : decode cX0_copyFrom 84 = .ok (.aload_n 1, 1) := by decide +kernel
theorem dX0_copyFrom_85 : decode cX0_copyFrom 85 = .ok (.getfield 35, 3) := by decide +kernel
theorem dX0_copyFrom_88 : decode cX0_copyFrom 88 = .ok (.putfield 35, 3) := by decide +kernel
theorem dX0_copyFrom_91 : decode cX0_copyFrom 91 = .ok (.aload_n 0, 1) := by decide +kernel
theorem dX0_copyFrom_92 : decode cX0_copyFrom 92 = .ok (.aload_n 1, 1) := by decide +kernel
theorem dX0_copyFrom_93 : decode cX0_copyFrom 93 = .ok (.getfield 58, 3) := by decide +kernel
theorem dX0_copyFrom_96 : decode cX0_copyFrom 96 = .ok (.putfield 58, 3) := by decide +kernel
theorem dX0_copyFrom_99 : decode cX0_copyFrom 99 = .ok (.return_, 1) := by decide +kernel
theorem dX0_addNote_0 : decode cX0_addNote 0 = .ok (.aload_n 0, 1) := by decide +kernel
theorem dX0_addNote_1 : decode cX0_addNote 1 = .ok (.getfield 52, 3) := by decide +kernel
theorem dX0_addNote_4 : decode cX0_addNote 4 = .ok (.bipush 10, 2) := by decide +kernel
theorem dX0_addNote_6 : decode cX0_addNote 6 = .ok (.if_icmp .lt 5, 3) := by decide +kernel
theorem dX0_addNote_9 : decode cX0_addNote 9 = .ok (.iconst 0, 1) := by decide +kernel
theorem dX0_addNote_10 : decode cX0_addNote 10 = .ok (.ireturn, 1) := by decide +kernel
theorem dX0_addNote_11 : decode cX0_addNote 11 = .ok (.aload_n 0, 1) := by decide +kernel
theorem dX0_addNote_12 : decode cX0_addNote 12 = .ok (.getfield 25, 3) := by decide +kernel
theorem dX0_addNote_15 : decode cX0_addNote 15 = .ok (.aload_n 0, 1) := by decide +kernel
theorem dX0_addNote_16 : decode cX0_addNote 16 = .ok (.getfield 52, 3) := by decide +kernel
theorem dX0_addNote_19 : decode cX0_addNote 19 = .ok (.iload_n 1, 1) := by decide +kernel
theorem dX0_addNote_20 : decode cX0_addNote 20 = .ok (.iastore, 1) := by decide +kernel
theorem dX0_addNote_21 : decode cX0_addNote 21 = .ok (.aload_n 0, 1) := by decide +kernel
theorem dX0_addNote_22 : decode cX0_addNote 22 = .ok (.getfield 29, 3) := by decide +kernel
theorem dX0_addNote_25 : decode cX0_addNote 25 = .ok (.aload_n 0, 1) := by decide +kernel
theorem dX0_addNote_26 : decode cX0_addNote 26 = .ok (.getfield 52, 3) := by decide +kernel
theorem dX0_addNote_29 : decode cX0_addNote 29 = .ok (.iload_n 2, 1) := by decide +kernel
theorem dX0_addNote_30 : decode cX0_addNote 30 = .ok (.iastore, 1) := by decide +kernel
theorem dX0_addNote_31 : decode cX0_addNote 31 = .ok (.aload_n 0, 1) := by decide +kernel
theorem dX0_addNote_32 : decode cX0_addNote 32 = .ok (.getfield 32, 3) := by decide +kernel
theorem dX0_addNote_35 : decode cX0_addNote 35 = .ok (.aload_n 0, 1) := by decide +kernel
theorem dX0_addNote_36 : decode cX0_addNote 36 = .ok (.getfield 52, 3) := by decide +kernel
theorem dX0_addNote_39 : decode cX0_addNote 39 = .ok (.iload_n 3, 1) := by decide +kernel
theorem dX0_addNote_40 : decode cX0_addNote 40 = .ok (.iastore, 1) := by decide +kernel
theorem dX0_addNote_41 : decode cX0_addNote 41 = .ok (.aload_n 0, 1) := by decide +kernel
theorem dX0_addNote_42 : decode cX0_addNote 42 = .ok (.dup, 1) := by decide +kernel
theorem dX0_addNote_43 : decode cX0_addNote 43 = .ok (.getfield 52, 3) := by decide +kernel
theorem dX0_addNote_46 : decode cX0_addNote 46 = .ok (.iconst 1, 1) := by decide +kernel
theorem dX0_addNote_47 : decode cX0_addNote 47 = .ok (.iadd, 1) := by decide +kernel
theorem dX0_addNote_48 : decode cX0_addNote 48 = .ok (.putfield 52, 3) := by decide +kernel
theorem dX0_addNote_51 : decode cX0_addNote 51 = .ok (.iconst 1, 1) := by decide +kernel
theorem dX0_addNote_52 : decode cX0_addNote 52 = .ok (.ireturn, 1) := by decide +kernel
theorem dX0_notesHold_0 : decode cX0_notesHold 0 = .ok (.iconst (-1), 1) := by decide +kernel
theorem dX0_notesHold_1 : decode cX0_notesHold 1 = .ok (.istore_n 3, 1) := by decide +kernel
theorem dX0_notesHold_2 : decode cX0_notesHold 2 = .ok (.iconst 0, 1) := by decide +kernel
theorem dX0_notesHold_3 : decode cX0_notesHold 3 = .ok (.istore 4, 2) := by decide +kernel
theorem dX0_notesHold_5 : decode cX0_notesHold 5 = .ok (.iload 4, 2) := by decide +kernel
theorem dX0_notesHold_7 : decode cX0_notesHold 7 = .ok (.aload_n 0, 1) := by decide +kernel
theorem dX0_notesHold_8 : decode cX0_notesHold 8 = .ok (.getfield 52, 3) := by decide +kernel
theorem dX0_notesHold_11 : decode cX0_notesHold 11 = .ok (.if_icmp .ge 21, 3) := by decide +kernel
theorem dX0_notesHold_14 : decode cX0_notesHold 14 = .ok (.iload_n 3, 1) := by decide +kernel
theorem dX0_notesHold_15 : decode cX0_notesHold 15 = .ok (.aload_n 0, 1) := by decide +kernel
theorem dX0_notesHold_16 : decode cX0_notesHold 16 = .ok (.getfield 25, 3) := by decide +kernel
theorem dX0_notesHold_19 : decode cX0_notesHold 19 = .ok (.iload 4, 2) := by decide +kernel
theorem dX0_notesHold_21 : decode cX0_notesHold 21 = .ok (.iaload, 1) := by decide +kernel
theorem dX0_notesHold_22 : decode cX0_notesHold 22 = .ok (.invokestatic 62, 3) := by decide +kernel
theorem dX0_notesHold_25 : decode cX0_notesHold 25 = .ok (.istore_n 3, 1) := by decide +kernel
theorem dX0_notesHold_26 : decode cX0_notesHold 26 = .ok (.iinc 4 1, 3) := by decide +kernel
theorem dX0_notesHold_29 : decode cX0_notesHold 29 = .ok (.goto (-24), 3) := by decide +kernel
theorem dX0_notesHold_32 : decode cX0_notesHold 32 = .ok (.iconst 0, 1) := by decide +kernel
theorem dX0_notesHold_33 : decode cX0_notesHold 33 = .ok (.istore 4, 2) := by decide +kernel
theorem dX0_notesHold_35 : decode cX0_notesHold 35 = .ok (.iload 4, 2) := by decide +kernel
theorem dX0_notesHold_37 : decode cX0_notesHold 37 = .ok (.iload_n 3, 1) := by decide +kernel
theorem dX0_notesHold_38 : decode cX0_notesHold 38 = .ok (.if_icmp .gt 68, 3) := by decide +kernel
theorem dX0_notesHold_41 : decode cX0_notesHold 41 = .ok (.aload_n 1, 1) := by decide +kernel
theorem dX0_notesHold_42 : decode cX0_notesHold 42 = .ok (.aload_n 2, 1) := by decide +kernel
theorem dX0_notesHold_43 : decode cX0_notesHold 43 = .ok (.invokevirtual 68, 3) := by decide +kernel
theorem dX0_notesHold_46 : decode cX0_notesHold 46 = .ok (.iconst 0, 1) := by decide +kernel
theorem dX0_notesHold_47 : decode cX0_notesHold 47 = .ok (.istore 5, 2) := by decide +kernel
theorem dX0_notesHold_49 : decode cX0_notesHold 49 = .ok (.iload 5, 2) := by decide +kernel
theorem dX0_notesHold_51 : decode cX0_notesHold 51 = .ok (.aload_n 0, 1) := by decide +kernel
theorem dX0_notesHold_52 : decode cX0_notesHold 52 = .ok (.getfield 52, 3) := by decide +kernel
theorem dX0_notesHold_55 : decode cX0_notesHold 55 = .ok (.if_icmp .ge 45, 3) := by decide +kernel
theorem dX0_notesHold_58 : decode cX0_notesHold 58 = .ok (.aload_n 0, 1) := by decide +kernel
theorem dX0_notesHold_59 : decode cX0_notesHold 59 = .ok (.getfield 25, 3) := by decide +kernel
theorem dX0_notesHold_62 : decode cX0_notesHold 62 = .ok (.iload 5, 2) := by decide +kernel
theorem dX0_notesHold_64 : decode cX0_notesHold 64 = .ok (.iaload, 1) := by decide +kernel
theorem dX0_notesHold_65 : decode cX0_notesHold 65 = .ok (.iload 4, 2) := by decide +kernel
theorem dX0_notesHold_67 : decode cX0_notesHold 67 = .ok (.if_icmp .ne 27, 3) := by decide +kernel
theorem dX0_notesHold_70 : decode cX0_notesHold 70 = .ok (.aload_n 1, 1) := by decide +kernel
theorem dX0_notesHold_71 : decode cX0_notesHold 71 = .ok (.getfield 72, 3) := by decide +kernel
theorem dX0_notesHold_74 : decode cX0_notesHold 74 = .ok (.aload_n 0, 1) := by decide +kernel
theorem dX0_notesHold_75 : decode cX0_notesHold 75 = .ok (.getfield 29, 3) := by decide +kernel
theorem dX0_notesHold_78 : decode cX0_notesHold 78 = .ok (.iload 5, 2) := by decide +kernel
theorem dX0_notesHold_80 : decode cX0_notesHold 80 = .ok (.iaload, 1) := by decide +kernel
theorem dX0_notesHold_81 : decode cX0_notesHold 81 = .ok (.iaload, 1) := by decide +kernel
theorem dX0_notesHold_82 : decode cX0_notesHold 82 = .ok (.aload_n 0, 1) := by decide +kernel
theorem dX0_notesHold_83 : decode cX0_notesHold 83 = .ok (.getfield 32, 3) := by decide +kernel
theorem dX0_notesHold_86 : decode cX0_notesHold 86 = .ok (.iload 5, 2) := by decide +kernel
theorem dX0_notesHold_88 : decode cX0_notesHold 88 = .ok (.iaload, 1) := by decide +kernel
theorem dX0_notesHold_89 : decode cX0_notesHold 89 = .ok (.if_icmp .eq 5, 3) := by decide +kernel
theorem dX0_notesHold_92 : decode cX0_notesHold 92 = .ok (.iconst 0, 1) := by decide +kernel
theorem dX0_notesHold_93 : decode cX0_notesHold 93 = .ok (.ireturn, 1) := by decide +kernel
theorem dX0_notesHold_94 : decode cX0_notesHold 94 = .ok (.iinc 5 1, 3) := by decide +kernel
theorem dX0_notesHold_97 : decode cX0_notesHold 97 = .ok (.goto (-48), 3) := by decide +kernel
theorem dX0_notesHold_100 : decode cX0_notesHold 100 = .ok (.iinc 4 1, 3) := by decide +kernel
theorem dX0_notesHold_103 : decode cX0_notesHold 103 = .ok (.goto (-68), 3) := by decide +kernel
theorem dX0_notesHold_106 : decode cX0_notesHold 106 = .ok (.iconst 1, 1) := by decide +kernel
theorem dX0_notesHold_107 : decode cX0_notesHold 107 = .ok (.ireturn, 1) := by decide +kernel
theorem dX1_init_0 : decode cX1_init 0 = .ok (.aload_n 0, 1) := by decide +kernel
theorem dX1_init_1 : decode cX1_init 1 = .ok (.invokespecial 3, 3) := by decide +kernel
theorem dX1_init_4 : decode cX1_init 4 = .ok (.aload_n 0, 1) := by decide +kernel
theorem dX1_init_5 : decode cX1_init 5 = .ok (.iconst 5, 1) := by decide +kernel
theorem dX1_init_6 : decode cX1_init 6 = .ok (.newarray .long, 2) := by decide +kernel
theorem dX1_init_8 : decode cX1_init 8 = .ok (.putfield 9, 3) := by decide +kernel
theorem dX1_init_11 : decode cX1_init 11 = .ok (.aload_n 0, 1) := by decide +kernel
theorem dX1_init_12 : decode cX1_init 12 = .ok (.iconst 5, 1) := by decide +kernel
theorem dX1_init_13 : decode cX1_init 13 = .ok (.newarray .int, 2) := by decide +kernel
theorem dX1_init_15 : decode cX1_init 15 = .ok (.putfield 15, 3) := by decide +kernel
theorem dX1_init_18 : decode cX1_init 18 = .ok (.aload_n 0, 1) := by decide +kernel
theorem dX1_init_19 : decode cX1_init 19 = .ok (.aload_n 1, 1) := by decide +kernel
theorem dX1_init_20 : decode cX1_init 20 = .ok (.putfield 19, 3) := by decide +kernel
theorem dX1_init_23 : decode cX1_init 23 = .ok (.return_, 1) := by decide +kernel
theorem dX1_readAll_0 : decode cX1_readAll 0 = .ok (.aload_n 0, 1) := by decide +kernel
theorem dX1_readAll_1 : decode cX1_readAll 1 = .ok (.getfield 19, 3) := by decide +kernel
theorem dX1_readAll_4 : decode cX1_readAll 4 = .ok (.invokevirtual 23, 3) := by decide +kernel
theorem dX1_readAll_7 : decode cX1_readAll 7 = .ok (.aload_n 0, 1) := by decide +kernel
theorem dX1_readAll_8 : decode cX1_readAll 8 = .ok (.getfield 15, 3) := by decide +kernel
theorem dX1_readAll_11 : decode cX1_readAll 11 = .ok (.iconst 0, 1) := by decide +kernel
theorem dX1_readAll_12 : decode cX1_readAll 12 = .ok (.invokestatic 28, 3) := by decide +kernel
theorem dX1_readAll_15 : decode cX1_readAll 15 = .ok (.aload_n 0, 1) := by decide +kernel
theorem dX1_readAll_16 : decode cX1_readAll 16 = .ok (.lconst 0, 1) := by decide +kernel
theorem dX1_readAll_17 : decode cX1_readAll 17 = .ok (.putfield 34, 3) := by decide +kernel
theorem dX1_readAll_20 : decode cX1_readAll 20 = .ok (.aload_n 0, 1) := by decide +kernel
theorem dX1_readAll_21 : decode cX1_readAll 21 = .ok (.lconst 0, 1) := by decide +kernel
theorem dX1_readAll_22 : decode cX1_readAll 22 = .ok (.putfield 38, 3) := by decide +kernel
theorem dX1_readAll_25 : decode cX1_readAll 25 = .ok (.aload_n 0, 1) := by decide +kernel
theorem dX1_readAll_26 : decode cX1_readAll 26 = .ok (.iconst 0, 1) := by decide +kernel
theorem dX1_readAll_27 : decode cX1_readAll 27 = .ok (.putfield 41, 3) := by decide +kernel
theorem dX1_readAll_30 : decode cX1_readAll 30 = .ok (.iconst 0, 1) := by decide +kernel
theorem dX1_readAll_31 : decode cX1_readAll 31 = .ok (.istore_n 1, 1) := by decide +kernel
theorem dX1_readAll_32 : decode cX1_readAll 32 = .ok (.iload_n 1, 1) := by decide +kernel
theorem dX1_readAll_33 : decode cX1_readAll 33 = .ok (.bipush 40, 2) := by decide +kernel
theorem dX1_readAll_35 : decode cX1_readAll 35 = .ok (.if_icmp .gt 60, 3) := by decide +kernel
theorem dX1_readAll_38 : decode cX1_readAll 38 = .ok (.aload_n 0, 1) := by decide +kernel
theorem dX1_readAll_39 : decode cX1_readAll 39 = .ok (.iload_n 1, 1) := by decide +kernel
theorem dX1_readAll_40 : decode cX1_readAll 40 = .ok (.invokevirtual 45, 3) := by decide +kernel
theorem dX1_readAll_43 : decode cX1_readAll 43 = .ok (.ifCond .ne 5, 3) := by decide +kernel
theorem dX1_readAll_46 : decode cX1_readAll 46 = .ok (.iconst 0, 1) := by decide +kernel
theorem dX1_readAll_47 : decode cX1_readAll 47 = .ok (.ireturn, 1) := by decide +kernel
theorem dX1_readAll_48 : decode cX1_readAll 48 = .ok (.aload_n 0, 1) := by decide +kernel
theorem dX1_readAll_49 : decode cX1_readAll 49 = .ok (.getfield 19, 3) := by decide +kernel
theorem dX1_readAll_52 : decode cX1_readAll 52 = .ok (.invokevirtual 49, 3) := by decide +kernel
theorem dX1_readAll_55 : decode cX1_readAll 55 = .ok (.iconst (-1), 1) := by decide +kernel
theorem dX1_readAll_56 : decode cX1_readAll 56 = .ok (.if_icmp .ne 5, 3) := by decide +kernel
theorem dX1_readAll_59 : decode cX1_readAll 59 = .ok (.iconst 1, 1) := by decide +kernel
theorem dX1_readAll_60 : decode cX1_readAll 60 = .ok (.ireturn, 1) := by decide +kernel
theorem dX1_readAll_61 : decode cX1_readAll 61 = .ok (.aload_n 0, 1) := by decide +kernel
theorem dX1_readAll_62 : decode cX1_readAll 62 = .ok (.getfield 19, 3) := by decide +kernel
theorem dX1_readAll_65 : decode cX1_readAll 65 = .ok (.bipush 59, 2) := by decide +kernel
theorem dX1_readAll_67 : decode cX1_readAll 67 = .ok (.invokevirtual 53, 3) := by decide +kernel
theorem dX1_readAll_70 : decode cX1_readAll 70 = .ok (.ifCond .ne 19, 3) := by decide +kernel
theorem dX1_readAll_73 : decode cX1_readAll 73 = .ok (.aload_n 0, 1) := by decide +kernel
theorem dX1_readAll_74 : decode cX1_readAll 74 = .ok (.getfield 19, 3) := by decide +kernel
theorem dX1_readAll_77 : decode cX1_readAll 77 = .ok (.aload_n 0, 1) := by decide +kernel
theorem dX1_readAll_78 : decode cX1_readAll 78 = .ok (.getfield 19, 3) := by decide +kernel
theorem dX1_readAll_81 : decode cX1_readAll 81 = .ok (.getfield 57, 3) := by decide +kernel
theorem dX1_readAll_84 : decode cX1_readAll 84 = .ok (.iconst 0, 1) := by decide +kernel
theorem dX1_readAll_85 : decode cX1_readAll 85 = .ok (.invokevirtual 60, 3) := by decide +kernel
theorem dX1_readAll_88 : decode cX1_readAll 88 = .ok (.ireturn, 1) := by decide +kernel
theorem dX1_readAll_89 : decode cX1_readAll 89 = .ok (.iinc 1 1, 3) := by decide +kernel
theorem dX1_readAll_92 : decode cX1_readAll 92 = .ok (.goto (-60), 3) := by decide +kernel
theorem dX1_readAll_95 : decode cX1_readAll 95 = .ok (.iconst 0, 1) := by decide +kernel
theorem dX1_readAll_96 : decode cX1_readAll 96 = .ok (.ireturn, 1) := by decide +kernel
theorem dX1_readClause_0 : decode cX1_readClause 0 = .ok (.aload_n 0, 1) := by decide +kernel
theorem dX1_readClause_1 : decode cX1_readClause 1 = .ok (.getfield 19, 3) := by decide +kernel
theorem dX1_readClause_4 : decode cX1_readClause 4 = .ok (.invokevirtual 49, 3) := by decide +kernel
theorem dX1_readClause_7 : decode cX1_readClause 7 = .ok (.pop, 1) := by decide +kernel
theorem dX1_readClause_8 : decode cX1_readClause 8 = .ok (.aload_n 0, 1) := by decide +kernel
theorem dX1_readClause_9 : decode cX1_readClause 9 = .ok (.getfield 19, 3) := by decide +kernel
theorem dX1_readClause_12 : decode cX1_readClause 12 = .ok (.getfield 57, 3) := by decide +kernel
theorem dX1_readClause_15 : decode cX1_readClause 15 = .ok (.istore_n 2, 1) := by decide +kernel
theorem dX1_readClause_16 : decode cX1_readClause 16 = .ok (.aload_n 0, 1) := by decide +kernel
theorem dX1_readClause_17 : decode cX1_readClause 17 = .ok (.getfield 19, 3) := by decide +kernel
theorem dX1_readClause_20 : decode cX1_readClause 20 = .ok (.ldc 64, 2) := by decide +kernel
theorem dX1_readClause_22 : decode cX1_readClause 22 = .ok (.invokevirtual 66, 3) := by decide +kernel
theorem dX1_readClause_25 : decode cX1_readClause 25 = .ok (.istore_n 3, 1) := by decide +kernel
theorem dX1_readClause_26 : decode cX1_readClause 26 = .ok (.iload_n 3, 1) := by decide +kernel
theorem dX1_readClause_27 : decode cX1_readClause 27 = .ok (.iconst (-1), 1) := by decide +kernel
theorem dX1_readClause_28 : decode cX1_readClause 28 = .ok (.if_icmp .ne 13, 3) := by decide +kernel
theorem dX1_readClause_31 : decode cX1_readClause 31 = .ok (.aload_n 0, 1) := by decide +kernel
theorem dX1_readClause_32 : decode cX1_readClause 32 = .ok (.getfield 19, 3) := by decide +kernel
theorem dX1_readClause_35 : decode cX1_readClause 35 = .ok (.iload_n 2, 1) := by decide +kernel
theorem dX1_readClause_36 : decode cX1_readClause 36 = .ok (.iconst 0, 1) := by decide +kernel
theorem dX1_readClause_37 : decode cX1_readClause 37 = .ok (.invokevirtual 60, 3) := by decide +kernel
theorem dX1_readClause_40 : decode cX1_readClause 40 = .ok (.ireturn, 1) := by decide +kernel
theorem dX1_readClause_41 : decode cX1_readClause 41 = .ok (.iload_n 1, 1) := by decide +kernel
theorem dX1_readClause_42 : decode cX1_readClause 42 = .ok (.bipush 40, 2) := by decide +kernel
theorem dX1_readClause_44 : decode cX1_readClause 44 = .ok (.if_icmp .ge 37, 3) := by decide +kernel
theorem dX1_readClause_47 : decode cX1_readClause 47 = .ok (.iload_n 3, 1) := by decide +kernel
theorem dX1_readClause_48 : decode cX1_readClause 48 = .ok (.ifCond .ne 7, 3) := by decide +kernel
theorem dX1_readClause_51 : decode cX1_readClause 51 = .ok (.iconst 1, 1) := by decide +kernel
theorem dX1_readClause_52 : decode cX1_readClause 52 = .ok (.goto 4, 3) := by decide +kernel
theorem dX1_readClause_55 : decode cX1_readClause 55 = .ok (.iconst 0, 1) := by decide +kernel
theorem dX1_readClause_56 : decode cX1_readClause 56 = .ok (.iload_n 1, 1) := by decide +kernel
theorem dX1_readClause_57 : decode cX1_readClause 57 = .ok (.ifCond .ne 7, 3) := by decide +kernel
theorem dX1_readClause_60 : decode cX1_readClause 60 = .ok (.iconst 1, 1) := by decide +kernel
theorem dX1_readClause_61 : decode cX1_readClause 61 = .ok (.goto 4, 3) := by decide +kernel
theorem dX1_readClause_64 : decode cX1_readClause 64 = .ok (.iconst 0, 1) := by decide +kernel
theorem dX1_readClause_65 : decode cX1_readClause 65 = .ok (.if_icmp .ne 16, 3) := by decide +kernel
theorem dX1_readClause_68 : decode cX1_readClause 68 = .ok (.iload_n 3, 1) := by decide +kernel
theorem dX1_readClause_69 : decode cX1_readClause 69 = .ok (.iconst 1, 1) := by decide +kernel
theorem dX1_readClause_70 : decode cX1_readClause 70 = .ok (.if_icmp .ne 21, 3) := by decide +kernel
theorem dX1_readClause_73 : decode cX1_readClause 73 = .ok (.aload_n 0, 1) := by decide +kernel
theorem dX1_readClause_74 : decode cX1_readClause 74 = .ok (.getfield 41, 3) := by decide +kernel
theorem dX1_readClause_77 : decode cX1_readClause 77 = .ok (.iconst 5, 1) := by decide +kernel
theorem dX1_readClause_78 : decode cX1_readClause 78 = .ok (.if_icmp .lt 13, 3) := by decide +kernel
theorem dX1_readClause_81 : decode cX1_readClause 81 = .ok (.aload_n 0, 1) := by decide +kernel
theorem dX1_readClause_82 : decode cX1_readClause 82 = .ok (.getfield 19, 3) := by decide +kernel
theorem dX1_readClause_85 : decode cX1_readClause 85 = .ok (.iload_n 2, 1) := by decide +kernel
theorem dX1_readClause_86 : decode cX1_readClause 86 = .ok (.iconst 4, 1) := by decide +kernel
theorem dX1_readClause_87 : decode cX1_readClause 87 = .ok (.invokevirtual 60, 3) := by decide +kernel
theorem dX1_readClause_90 : decode cX1_readClause 90 = .ok (.ireturn, 1) := by decide +kernel
theorem dX1_readClause_91 : decode cX1_readClause 91 = .ok (.iload_n 3, 1) := by decide +kernel
theorem dX1_readClause_92 : decode cX1_readClause 92 = .ok (.tableswitch 66 0 2 #[28, 56, 61], 28) := by decide +kernel
theorem dX1_readClause_120 : decode cX1_readClause 120 = .ok (.aload_n 0, 1) := by decide +kernel
theorem dX1_readClause_121 : decode cX1_readClause 121 = .ok (.aload_n 0, 1) := by decide +kernel
theorem dX1_readClause_122 : decode cX1_readClause 122 = .ok (.getfield 19, 3) := by decide +kernel
theorem dX1_readClause_125 : decode cX1_readClause 125 = .ok (.iconst 1, 1) := by decide +kernel
theorem dX1_readClause_126 : decode cX1_readClause 126 = .ok (.bipush 60, 2) := by decide +kernel
theorem dX1_readClause_128 : decode cX1_readClause 128 = .ok (.invokevirtual 70, 3) := by decide +kernel
theorem dX1_readClause_131 : decode cX1_readClause 131 = .ok (.putfield 74, 3) := by decide +kernel
theorem dX1_readClause_134 : decode cX1_readClause 134 = .ok (.aload_n 0, 1) := by decide +kernel
theorem dX1_readClause_135 : decode cX1_readClause 135 = .ok (.getfield 74, 3) := by decide +kernel
theorem dX1_readClause_138 : decode cX1_readClause 138 = .ok (.iconst (-1), 1) := by decide +kernel
theorem dX1_readClause_139 : decode cX1_readClause 139 = .ok (.if_icmp .eq 7, 3) := by decide +kernel
theorem dX1_readClause_142 : decode cX1_readClause 142 = .ok (.iconst 1, 1) := by decide +kernel
theorem dX1_readClause_143 : decode cX1_readClause 143 = .ok (.goto 4, 3) := by decide +kernel
theorem dX1_readClause_146 : decode cX1_readClause 146 = .ok (.iconst 0, 1) := by decide +kernel
theorem dX1_readClause_147 : decode cX1_readClause 147 = .ok (.ireturn, 1) := by decide +kernel
theorem dX1_readClause_148 : decode cX1_readClause 148 = .ok (.aload_n 0, 1) := by decide +kernel
theorem dX1_readClause_149 : decode cX1_readClause 149 = .ok (.invokevirtual 77, 3) := by decide +kernel
theorem dX1_readClause_152 : decode cX1_readClause 152 = .ok (.ireturn, 1) := by decide +kernel
theorem dX1_readClause_153 : decode cX1_readClause 153 = .ok (.aload_n 0, 1) := by decide +kernel
theorem dX1_readClause_154 : decode cX1_readClause 154 = .ok (.invokevirtual 81, 3) := by decide +kernel
theorem dX1_readClause_157 : decode cX1_readClause 157 = .ok (.ireturn, 1) := by decide +kernel
theorem dX1_readClause_158 : decode cX1_readClause 158 = .ok (.aload_n 0, 1) := by decide +kernel
theorem dX1_readClause_159 : decode cX1_readClause 159 = .ok (.invokevirtual 84, 3) := by decide +kernel
theorem dX1_readClause_162 : decode cX1_readClause 162 = .ok (.ireturn, 1) := by decide +kernel
theorem dX1_readStation_0 : decode cX1_readStation 0 = .ok (.aload_n 0, 1) := by decide +kernel
theorem dX1_readStation_1 : decode cX1_readStation 1 = .ok (.getfield 19, 3) := by decide +kernel
theorem dX1_readStation_4 : decode cX1_readStation 4 = .ok (.iconst 0, 1) := by decide +kernel
theorem dX1_readStation_5 : decode cX1_readStation 5 = .ok (.aload_n 0, 1) := by decide +kernel
theorem dX1_readStation_6 : decode cX1_readStation 6 = .ok (.getfield 74, 3) := by decide +kernel
theorem dX1_readStation_9 : decode cX1_readStation 9 = .ok (.iconst 1, 1) := by decide +kernel
theorem dX1_readStation_10 : decode cX1_readStation 10 = .ok (.isub, 1) := by decide +kernel
theorem dX1_readStation_11 : decode cX1_readStation 11 = .ok (.invokevirtual 70, 3) := by decide +kernel
theorem dX1_readStation_14 : decode cX1_readStation 14 = .ok (.istore_n 1, 1) := by decide +kernel
theorem dX1_readStation_15 : decode cX1_readStation 15 = .ok (.iload_n 1, 1) := by decide +kernel
theorem dX1_readStation_16 : decode cX1_readStation 16 = .ok (.iconst (-1), 1) := by decide +kernel
theorem dX1_readStation_17 : decode cX1_readStation 17 = .ok (.if_icmp .ne 5, 3) := by decide +kernel
theorem dX1_readStation_20 : decode cX1_readStation 20 = .ok (.iconst 0, 1) := by decide +kernel
theorem dX1_readStation_21 : decode cX1_readStation 21 = .ok (.ireturn, 1) := by decide +kernel
theorem dX1_readStation_22 : decode cX1_readStation 22 = .ok (.aload_n 0, 1) := by decide +kernel
theorem dX1_readStation_23 : decode cX1_readStation 23 = .ok (.getfield 34, 3) := by decide +kernel
theorem dX1_readStation_26 : decode cX1_readStation 26 = .ok (.iload_n 1, 1) := by decide +kernel
theorem dX1_readStation_27 : decode cX1_readStation 27 = .ok (.lushr, 1) := by decide +kernel
theorem dX1_readStation_28 : decode cX1_readStation 28 = .ok (.lconst 1, 1) := by decide +kernel
theorem dX1_readStation_29 : decode cX1_readStation 29 = .ok (.land, 1) := by decide +kernel
theorem dX1_readStation_30 : decode cX1_readStation 30 = .ok (.lconst 0, 1) := by decide +kernel
theorem dX1_readStation_31 : decode cX1_readStation 31 = .ok (.lcmp, 1) := by decide +kernel
theorem dX1_readStation_32 : decode cX1_readStation 32 = .ok (.ifCond .eq 19, 3) := by decide +kernel
theorem dX1_readStation_35 : decode cX1_readStation 35 = .ok (.aload_n 0, 1) := by decide +kernel
theorem dX1_readStation_36 : decode cX1_readStation 36 = .ok (.getfield 19, 3) := by decide +kernel
theorem dX1_readStation_39 : decode cX1_readStation 39 = .ok (.aload_n 0, 1) := by decide +kernel
theorem dX1_readStation_40 : decode cX1_readStation 40 = .ok (.getfield 19, 3) := by decide +kernel
theorem dX1_readStation_43 : decode cX1_readStation 43 = .ok (.getfield 87, 3) := by decide +kernel
theorem dX1_readStation_46 : decode cX1_readStation 46 = .ok (.iconst 1, 1) := by decide +kernel
theorem dX1_readStation_47 : decode cX1_readStation 47 = .ok (.invokevirtual 60, 3) := by decide +kernel
theorem dX1_readStation_50 : decode cX1_readStation 50 = .ok (.ireturn, 1) := by decide +kernel
theorem dX1_readStation_51 : decode cX1_readStation 51 = .ok (.aload_n 0, 1) := by decide +kernel
theorem dX1_readStation_52 : decode cX1_readStation 52 = .ok (.getfield 19, 3) := by decide +kernel
theorem dX1_readStation_55 : decode cX1_readStation 55 = .ok (.iload_n 1, 1) := by decide +kernel
theorem dX1_readStation_56 : decode cX1_readStation 56 = .ok (.aload_n 0, 1) := by decide +kernel
theorem dX1_readStation_57 : decode cX1_readStation 57 = .ok (.getfield 74, 3) := by decide +kernel
theorem dX1_readStation_60 : decode cX1_readStation 60 = .ok (.iconst 1, 1) := by decide +kernel
theorem dX1_readStation_61 : decode cX1_readStation 61 = .ok (.isub, 1) := by decide +kernel
theorem dX1_readStation_62 : decode cX1_readStation 62 = .ok (.invokevirtual 70, 3) := by decide +kernel
theorem dX1_readStation_65 : decode cX1_readStation 65 = .ok (.istore_n 2, 1) := by decide +kernel
theorem dX1_readStation_66 : decode cX1_readStation 66 = .ok (.iload_n 2, 1) := by decide +kernel
theorem dX1_readStation_67 : decode cX1_readStation 67 = .ok (.iconst (-1), 1) := by decide +kernel
theorem dX1_readStation_68 : decode cX1_readStation 68 = .ok (.if_icmp .ne 5, 3) := by decide +kernel
theorem dX1_readStation_71 : decode cX1_readStation 71 = .ok (.iconst 0, 1) := by decide +kernel
theorem dX1_readStation_72 : decode cX1_readStation 72 = .ok (.ireturn, 1) := by decide +kernel
theorem dX1_readStation_73 : decode cX1_readStation 73 = .ok (.lconst 1, 1) := by decide +kernel
theorem dX1_readStation_74 : decode cX1_readStation 74 = .ok (.iload_n 2, 1) := by decide +kernel
theorem dX1_readStation_75 : decode cX1_readStation 75 = .ok (.iconst 1, 1) := by decide +kernel
theorem dX1_readStation_76 : decode cX1_readStation 76 = .ok (.iadd, 1) := by decide +kernel
theorem dX1_readStation_77 : decode cX1_readStation 77 = .ok (.lshl, 1) := by decide +kernel
theorem dX1_readStation_78 : decode cX1_readStation 78 = .ok (.lconst 1, 1) := by decide +kernel
theorem dX1_readStation_79 : decode cX1_readStation 79 = .ok (.iload_n 1, 1) := by decide +kernel
theorem dX1_readStation_80 : decode cX1_readStation 80 = .ok (.lshl, 1) := by decide +kernel
theorem dX1_readStation_81 : decode cX1_readStation 81 = .ok (.lsub, 1) := by decide +kernel
theorem dX1_readStation_82 : decode cX1_readStation 82 = .ok (.lstore_n 3, 1) := by decide +kernel
theorem dX1_readStation_83 : decode cX1_readStation 83 = .ok (.aload_n 0, 1) := by decide +kernel
theorem dX1_readStation_84 : decode cX1_readStation 84 = .ok (.getfield 34, 3) := by decide +kernel
theorem dX1_readStation_87 : decode cX1_readStation 87 = .ok (.lload_n 3, 1) := by decide +kernel
theorem dX1_readStation_88 : decode cX1_readStation 88 = .ok (.land, 1) := by decide +kernel
theorem dX1_readStation_89 : decode cX1_readStation 89 = .ok (.lconst 0, 1) := by decide +kernel
theorem dX1_readStation_90 : decode cX1_readStation 90 = .ok (.lcmp, 1) := by decide +kernel
theorem dX1_readStation_91 : decode cX1_readStation 91 = .ok (.ifCond .eq 19, 3) := by decide +kernel
theorem dX1_readStation_94 : decode cX1_readStation 94 = .ok (.aload_n 0, 1) := by decide +kernel
theorem dX1_readStation_95 : decode cX1_readStation 95 = .ok (.getfield 19, 3) := by decide +kernel
theorem dX1_readStation_98 : decode cX1_readStation 98 = .ok (.aload_n 0, 1) := by decide +kernel
theorem dX1_readStation_99 : decode cX1_readStation 99 = .ok (.getfield 19, 3) := by decide +kernel
theorem dX1_readStation_102 : decode cX1_readStation 102 = .ok (.getfield 87, 3) := by decide +kernel
theorem dX1_readStation_105 : decode cX1_readStation 105 = .ok (.iconst 1, 1) := by decide +kernel
theorem dX1_readStation_106 : decode cX1_readStation 106 = .ok (.invokevirtual 60, 3) := by decide +kernel
theorem dX1_readStation_109 : decode cX1_readStation 109 = .ok (.ireturn, 1) := by decide +kernel
theorem dX1_readStation_110 : decode cX1_readStation 110 = .ok (.aload_n 0, 1) := by decide +kernel
theorem dX1_readStation_111 : decode cX1_readStation 111 = .ok (.dup, 1) := by decide +kernel
theorem dX1_readStation_112 : decode cX1_readStation 112 = .ok (.getfield 34, 3) := by decide +kernel
theorem dX1_readStation_115 : decode cX1_readStation 115 = .ok (.lload_n 3, 1) := by decide +kernel
theorem dX1_readStation_116 : decode cX1_readStation 116 = .ok (.lor, 1) := by decide +kernel
theorem dX1_readStation_117 : decode cX1_readStation 117 = .ok (.putfield 34, 3) := by decide +kernel
theorem dX1_readStation_120 : decode cX1_readStation 120 = .ok (.aload_n 0, 1) := by decide +kernel
theorem dX1_readStation_121 : decode cX1_readStation 121 = .ok (.getfield 9, 3) := by decide +kernel
theorem dX1_readStation_124 : decode cX1_readStation 124 = .ok (.aload_n 0, 1) := by decide +kernel
theorem dX1_readStation_125 : decode cX1_readStation 125 = .ok (.getfield 41, 3) := by decide +kernel
theorem dX1_readStation_128 : decode cX1_readStation 128 = .ok (.lload_n 3, 1) := by decide +kernel
theorem dX1_readStation_129 : decode cX1_readStation 129 = .ok (.lastore, 1) := by decide +kernel
theorem dX1_readStation_130 : decode cX1_readStation 130 = .ok (.aload_n 0, 1) := by decide +kernel
theorem dX1_readStation_131 : decode cX1_readStation 131 = .ok (.dup, 1) := by decide +kernel
theorem dX1_readStation_132 : decode cX1_readStation 132 = .ok (.getfield 41, 3) := by decide +kernel
theorem dX1_readStation_135 : decode cX1_readStation 135 = .ok (.iconst 1, 1) := by decide +kernel
theorem dX1_readStation_136 : decode cX1_readStation 136 = .ok (.iadd, 1) := by decide +kernel
theorem dX1_readStation_137 : decode cX1_readStation 137 = .ok (.putfield 41, 3) := by decide +kernel
theorem dX1_readStation_140 : decode cX1_readStation 140 = .ok (.iconst 1, 1) := by decide +kernel
theorem dX1_readStation_141 : decode cX1_readStation 141 = .ok (.ireturn, 1) := by decide +kernel
theorem dX1_readVoters_0 : decode cX1_readVoters 0 = .ok (.aload_n 0, 1) := by decide +kernel
theorem dX1_readVoters_1 : decode cX1_readVoters 1 = .ok (.getfield 19, 3) := by decide +kernel
theorem dX1_readVoters_4 : decode cX1_readVoters 4 = .ok (.iconst 0, 1) := by decide +kernel
theorem dX1_readVoters_5 : decode cX1_readVoters 5 = .ok (.aload_n 0, 1) := by decide +kernel
theorem dX1_readVoters_6 : decode cX1_readVoters 6 = .ok (.getfield 41, 3) := by decide +kernel
theorem dX1_readVoters_9 : decode cX1_readVoters 9 = .ok (.iconst 1, 1) := by decide +kernel
theorem dX1_readVoters_10 : decode cX1_readVoters 10 = .ok (.isub, 1) := by decide +kernel
theorem dX1_readVoters_11 : decode cX1_readVoters 11 = .ok (.invokevirtual 70, 3) := by decide +kernel
theorem dX1_readVoters_14 : decode cX1_readVoters 14 = .ok (.istore_n 1, 1) := by decide +kernel
theorem dX1_readVoters_15 : decode cX1_readVoters 15 = .ok (.iload_n 1, 1) := by decide +kernel
theorem dX1_readVoters_16 : decode cX1_readVoters 16 = .ok (.iconst (-1), 1) := by decide +kernel
theorem dX1_readVoters_17 : decode cX1_readVoters 17 = .ok (.if_icmp .ne 5, 3) := by decide +kernel
theorem dX1_readVoters_20 : decode cX1_readVoters 20 = .ok (.iconst 0, 1) := by decide +kernel
theorem dX1_readVoters_21 : decode cX1_readVoters 21 = .ok (.ireturn, 1) := by decide +kernel
theorem dX1_readVoters_22 : decode cX1_readVoters 22 = .ok (.aload_n 0, 1) := by decide +kernel
theorem dX1_readVoters_23 : decode cX1_readVoters 23 = .ok (.getfield 19, 3) := by decide +kernel
theorem dX1_readVoters_26 : decode cX1_readVoters 26 = .ok (.iconst 0, 1) := by decide +kernel
theorem dX1_readVoters_27 : decode cX1_readVoters 27 = .ok (.bipush 60, 2) := by decide +kernel
theorem dX1_readVoters_29 : decode cX1_readVoters 29 = .ok (.invokevirtual 70, 3) := by decide +kernel
theorem dX1_readVoters_32 : decode cX1_readVoters 32 = .ok (.istore_n 2, 1) := by decide +kernel
theorem dX1_readVoters_33 : decode cX1_readVoters 33 = .ok (.iload_n 2, 1) := by decide +kernel
theorem dX1_readVoters_34 : decode cX1_readVoters 34 = .ok (.iconst (-1), 1) := by decide +kernel
theorem dX1_readVoters_35 : decode cX1_readVoters 35 = .ok (.if_icmp .ne 5, 3) := by decide +kernel
theorem dX1_readVoters_38 : decode cX1_readVoters 38 = .ok (.iconst 0, 1) := by decide +kernel
theorem dX1_readVoters_39 : decode cX1_readVoters 39 = .ok (.ireturn, 1) := by decide +kernel
theorem dX1_readVoters_40 : decode cX1_readVoters 40 = .ok (.aload_n 0, 1) := by decide +kernel
theorem dX1_readVoters_41 : decode cX1_readVoters 41 = .ok (.getfield 15, 3) := by decide +kernel
theorem dX1_readVoters_44 : decode cX1_readVoters 44 = .ok (.iload_n 1, 1) := by decide +kernel
theorem dX1_readVoters_45 : decode cX1_readVoters 45 = .ok (.iload_n 2, 1) := by decide +kernel
theorem dX1_readVoters_46 : decode cX1_readVoters 46 = .ok (.iastore, 1) := by decide +kernel
theorem dX1_readVoters_47 : decode cX1_readVoters 47 = .ok (.iconst 1, 1) := by decide +kernel
theorem dX1_readVoters_48 : decode cX1_readVoters 48 = .ok (.ireturn, 1) := by decide +kernel
theorem dX1_readSpoiled_0 : decode cX1_readSpoiled 0 = .ok (.aload_n 0, 1) := by decide +kernel
theorem dX1_readSpoiled_1 : decode cX1_readSpoiled 1 = .ok (.getfield 19, 3) := by decide +kernel
theorem dX1_readSpoiled_4 : decode cX1_readSpoiled 4 = .ok (.iconst 0, 1) := by decide +kernel
theorem dX1_readSpoiled_5 : decode cX1_readSpoiled 5 = .ok (.aload_n 0, 1) := by decide +kernel
theorem dX1_readSpoiled_6 : decode cX1_readSpoiled 6 = .ok (.getfield 74, 3) := by decide +kernel
theorem dX1_readSpoiled_9 : decode cX1_readSpoiled 9 = .ok (.iconst 1, 1) := by decide +kernel
theorem dX1_readSpoiled_10 : decode cX1_readSpoiled 10 = .ok (.isub, 1) := by decide +kernel
theorem dX1_readSpoiled_11 : decode cX1_readSpoiled 11 = .ok (.invokevirtual 70, 3) := by decide +kernel
theorem dX1_readSpoiled_14 : decode cX1_readSpoiled 14 = .ok (.istore_n 1, 1) := by decide +kernel
theorem dX1_readSpoiled_15 : decode cX1_readSpoiled 15 = .ok (.iload_n 1, 1) := by decide +kernel
theorem dX1_readSpoiled_16 : decode cX1_readSpoiled 16 = .ok (.iconst (-1), 1) := by decide +kernel
theorem dX1_readSpoiled_17 : decode cX1_readSpoiled 17 = .ok (.if_icmp .ne 5, 3) := by decide +kernel
theorem dX1_readSpoiled_20 : decode cX1_readSpoiled 20 = .ok (.iconst 0, 1) := by decide +kernel
theorem dX1_readSpoiled_21 : decode cX1_readSpoiled 21 = .ok (.ireturn, 1) := by decide +kernel
theorem dX1_readSpoiled_22 : decode cX1_readSpoiled 22 = .ok (.aload_n 0, 1) := by decide +kernel
theorem dX1_readSpoiled_23 : decode cX1_readSpoiled 23 = .ok (.getfield 34, 3) := by decide +kernel
theorem dX1_readSpoiled_26 : decode cX1_readSpoiled 26 = .ok (.iload_n 1, 1) := by decide +kernel
theorem dX1_readSpoiled_27 : decode cX1_readSpoiled 27 = .ok (.lushr, 1) := by decide +kernel
theorem dX1_readSpoiled_28 : decode cX1_readSpoiled 28 = .ok (.lconst 1, 1) := by decide +kernel
theorem dX1_readSpoiled_29 : decode cX1_readSpoiled 29 = .ok (.land, 1) := by decide +kernel
theorem dX1_readSpoiled_30 : decode cX1_readSpoiled 30 = .ok (.lconst 0, 1) := by decide +kernel
theorem dX1_readSpoiled_31 : decode cX1_readSpoiled 31 = .ok (.lcmp, 1) := by decide +kernel
theorem dX1_readSpoiled_32 : decode cX1_readSpoiled 32 = .ok (.ifCond .ne 19, 3) := by decide +kernel
theorem dX1_readSpoiled_35 : decode cX1_readSpoiled 35 = .ok (.aload_n 0, 1) := by decide +kernel
theorem dX1_readSpoiled_36 : decode cX1_readSpoiled 36 = .ok (.getfield 19, 3) := by decide +kernel
theorem dX1_readSpoiled_39 : decode cX1_readSpoiled 39 = .ok (.aload_n 0, 1) := by decide +kernel
theorem dX1_readSpoiled_40 : decode cX1_readSpoiled 40 = .ok (.getfield 19, 3) := by decide +kernel
theorem dX1_readSpoiled_43 : decode cX1_readSpoiled 43 = .ok (.getfield 87, 3) := by decide +kernel
theorem dX1_readSpoiled_46 : decode cX1_readSpoiled 46 = .ok (.iconst 1, 1) := by decide +kernel
theorem dX1_readSpoiled_47 : decode cX1_readSpoiled 47 = .ok (.invokevirtual 60, 3) := by decide +kernel
theorem dX1_readSpoiled_50 : decode cX1_readSpoiled 50 = .ok (.ireturn, 1) := by decide +kernel
theorem dX1_readSpoiled_51 : decode cX1_readSpoiled 51 = .ok (.aload_n 0, 1) := by decide +kernel
theorem dX1_readSpoiled_52 : decode cX1_readSpoiled 52 = .ok (.dup, 1) := by decide +kernel
theorem dX1_readSpoiled_53 : decode cX1_readSpoiled 53 = .ok (.getfield 38, 3) := by decide +kernel
theorem dX1_readSpoiled_56 : decode cX1_readSpoiled 56 = .ok (.lconst 1, 1) := by decide +kernel
theorem dX1_readSpoiled_57 : decode cX1_readSpoiled 57 = .ok (.iload_n 1, 1) := by decide +kernel
theorem dX1_readSpoiled_58 : decode cX1_readSpoiled 58 = .ok (.lshl, 1) := by decide +kernel
theorem dX1_readSpoiled_59 : decode cX1_readSpoiled 59 = .ok (.lor, 1) := by decide +kernel
theorem dX1_readSpoiled_60 : decode cX1_readSpoiled 60 = .ok (.putfield 38, 3) := by decide +kernel
theorem dX1_readSpoiled_63 : decode cX1_readSpoiled 63 = .ok (.iconst 1, 1) := by decide +kernel
theorem dX1_readSpoiled_64 : decode cX1_readSpoiled 64 = .ok (.ireturn, 1) := by decide +kernel
theorem dX1_fill_0 : decode cX1_fill 0 = .ok (.aload_n 1, 1) := by decide +kernel
theorem dX1_fill_1 : decode cX1_fill 1 = .ok (.invokevirtual 90, 3) := by decide +kernel
theorem dX1_fill_4 : decode cX1_fill 4 = .ok (.aload_n 1, 1) := by decide +kernel
theorem dX1_fill_5 : decode cX1_fill 5 = .ok (.aload_n 0, 1) := by decide +kernel
theorem dX1_fill_6 : decode cX1_fill 6 = .ok (.getfield 74, 3) := by decide +kernel
theorem dX1_fill_9 : decode cX1_fill 9 = .ok (.putfield 95, 3) := by decide +kernel
theorem dX1_fill_12 : decode cX1_fill 12 = .ok (.aload_n 1, 1) := by decide +kernel
theorem dX1_fill_13 : decode cX1_fill 13 = .ok (.getfield 96, 3) := by decide +kernel
theorem dX1_fill_16 : decode cX1_fill 16 = .ok (.aload_n 0, 1) := by decide +kernel
theorem dX1_fill_17 : decode cX1_fill 17 = .ok (.getfield 41, 3) := by decide +kernel
theorem dX1_fill_20 : decode cX1_fill 20 = .ok (.putfield 100, 3) := by decide +kernel
theorem dX1_fill_23 : decode cX1_fill 23 = .ok (.iconst 0, 1) := by decide +kernel
theorem dX1_fill_24 : decode cX1_fill 24 = .ok (.istore_n 2, 1) := by decide +kernel
theorem dX1_fill_25 : decode cX1_fill 25 = .ok (.iload_n 2, 1) := by decide +kernel
theorem dX1_fill_26 : decode cX1_fill 26 = .ok (.aload_n 0, 1) := by decide +kernel
theorem dX1_fill_27 : decode cX1_fill 27 = .ok (.getfield 41, 3) := by decide +kernel
theorem dX1_fill_30 : decode cX1_fill 30 = .ok (.if_icmp .ge 94, 3) := by decide +kernel
theorem dX1_fill_33 : decode cX1_fill 33 = .ok (.aload_n 1, 1) := by decide +kernel
theorem dX1_fill_34 : decode cX1_fill 34 = .ok (.getfield 103, 3) := by decide +kernel
theorem dX1_fill_37 : decode cX1_fill 37 = .ok (.iload_n 2, 1) := by decide +kernel
theorem dX1_fill_38 : decode cX1_fill 38 = .ok (.aload_n 0, 1) := by decide +kernel
theorem dX1_fill_39 : decode cX1_fill 39 = .ok (.getfield 9, 3) := by decide +kernel
theorem dX1_fill_42 : decode cX1_fill 42 = .ok (.iload_n 2, 1) := by decide +kernel
theorem dX1_fill_43 : decode cX1_fill 43 = .ok (.laload, 1) := by decide +kernel
theorem dX1_fill_44 : decode cX1_fill 44 = .ok (.invokestatic 106, 3) := by decide +kernel
theorem dX1_fill_47 : decode cX1_fill 47 = .ok (.iastore, 1) := by decide +kernel
theorem dX1_fill_48 : decode cX1_fill 48 = .ok (.aload_n 1, 1) := by decide +kernel
theorem dX1_fill_49 : decode cX1_fill 49 = .ok (.getfield 96, 3) := by decide +kernel
theorem dX1_fill_52 : decode cX1_fill 52 = .ok (.getfield 112, 3) := by decide +kernel
theorem dX1_fill_55 : decode cX1_fill 55 = .ok (.iload_n 2, 1) := by decide +kernel
theorem dX1_fill_56 : decode cX1_fill 56 = .ok (.aload_n 0, 1) := by decide +kernel
theorem dX1_fill_57 : decode cX1_fill 57 = .ok (.getfield 15, 3) := by decide +kernel
theorem dX1_fill_60 : decode cX1_fill 60 = .ok (.iload_n 2, 1) := by decide +kernel
theorem dX1_fill_61 : decode cX1_fill 61 = .ok (.iaload, 1) := by decide +kernel
theorem dX1_fill_62 : decode cX1_fill 62 = .ok (.iastore, 1) := by decide +kernel
theorem dX1_fill_63 : decode cX1_fill 63 = .ok (.iconst 0, 1) := by decide +kernel
theorem dX1_fill_64 : decode cX1_fill 64 = .ok (.istore_n 3, 1) := by decide +kernel
theorem dX1_fill_65 : decode cX1_fill 65 = .ok (.iload_n 3, 1) := by decide +kernel
theorem dX1_fill_66 : decode cX1_fill 66 = .ok (.aload_n 0, 1) := by decide +kernel
theorem dX1_fill_67 : decode cX1_fill 67 = .ok (.getfield 74, 3) := by decide +kernel
theorem dX1_fill_70 : decode cX1_fill 70 = .ok (.if_icmp .ge 48, 3) := by decide +kernel
theorem dX1_fill_73 : decode cX1_fill 73 = .ok (.aload_n 0, 1) := by decide +kernel
theorem dX1_fill_74 : decode cX1_fill 74 = .ok (.getfield 9, 3) := by decide +kernel
theorem dX1_fill_77 : decode cX1_fill 77 = .ok (.iload_n 2, 1) := by decide +kernel
theorem dX1_fill_78 : decode cX1_fill 78 = .ok (.laload, 1) := by decide +kernel
theorem dX1_fill_79 : decode cX1_fill 79 = .ok (.iload_n 3, 1) := by decide +kernel
theorem dX1_fill_80 : decode cX1_fill 80 = .ok (.lushr, 1) := by decide +kernel
theorem dX1_fill_81 : decode cX1_fill 81 = .ok (.lconst 1, 1) := by decide +kernel
theorem dX1_fill_82 : decode cX1_fill 82 = .ok (.land, 1) := by decide +kernel
theorem dX1_fill_83 : decode cX1_fill 83 = .ok (.lconst 0, 1) := by decide +kernel
theorem dX1_fill_84 : decode cX1_fill 84 = .ok (.lcmp, 1) := by decide +kernel
theorem dX1_fill_85 : decode cX1_fill 85 = .ok (.ifCond .eq 27, 3) := by decide +kernel
theorem dX1_fill_88 : decode cX1_fill 88 = .ok (.aload_n 1, 1) := by decide +kernel
theorem dX1_fill_89 : decode cX1_fill 89 = .ok (.iload_n 3, 1) := by decide +kernel
theorem dX1_fill_90 : decode cX1_fill 90 = .ok (.iload_n 2, 1) := by decide +kernel
theorem dX1_fill_91 : decode cX1_fill 91 = .ok (.aload_n 0, 1) := by decide +kernel
theorem dX1_fill_92 : decode cX1_fill 92 = .ok (.getfield 38, 3) := by decide +kernel
theorem dX1_fill_95 : decode cX1_fill 95 = .ok (.iload_n 3, 1) := by decide +kernel
theorem dX1_fill_96 : decode cX1_fill 96 = .ok (.lushr, 1) := by decide +kernel
theorem dX1_fill_97 : decode cX1_fill 97 = .ok (.lconst 1, 1) := by decide +kernel
theorem dX1_fill_98 : decode cX1_fill 98 = .ok (.land, 1) := by decide +kernel
theorem dX1_fill_99 : decode cX1_fill 99 = .ok (.lconst 0, 1) := by decide +kernel
theorem dX1_fill_100 : decode cX1_fill 100 = .ok (.lcmp, 1) := by decide +kernel
theorem dX1_fill_101 : decode cX1_fill 101 = .ok (.ifCond .eq 7, 3) := by decide +kernel
theorem dX1_fill_104 : decode cX1_fill 104 = .ok (.iconst 2, 1) := by decide +kernel
theorem dX1_fill_105 : decode cX1_fill 105 = .ok (.goto 4, 3) := by decide +kernel
theorem dX1_fill_108 : decode cX1_fill 108 = .ok (.iconst 0, 1) := by decide +kernel
theorem dX1_fill_109 : decode cX1_fill 109 = .ok (.invokevirtual 115, 3) := by decide +kernel
theorem dX1_fill_112 : decode cX1_fill 112 = .ok (.iinc 3 1, 3) := by decide +kernel
theorem dX1_fill_115 : decode cX1_fill 115 = .ok (.goto (-50), 3) := by decide +kernel
theorem dX1_fill_118 : decode cX1_fill 118 = .ok (.iinc 2 1, 3) := by decide +kernel
theorem dX1_fill_121 : decode cX1_fill 121 = .ok (.goto (-96), 3) := by decide +kernel
theorem dX1_fill_124 : decode cX1_fill 124 = .ok (.return_, 1) := by decide +kernel
theorem dX2_init_0 : decode cX2_init 0 = .ok (.aload_n 0, 1) := by decide +kernel
theorem dX2_init_1 : decode cX2_init 1 = .ok (.invokespecial 3, 3) := by decide +kernel
theorem dX2_init_4 : decode cX2_init 4 = .ok (.aload_n 0, 1) := by decide +kernel
theorem dX2_init_5 : decode cX2_init 5 = .ok (.bipush 20, 2) := by decide +kernel
theorem dX2_init_7 : decode cX2_init 7 = .ok (.anewarray 9, 3) := by decide +kernel
theorem dX2_init_10 : decode cX2_init 10 = .ok (.putfield 11, 3) := by decide +kernel
theorem dX2_init_13 : decode cX2_init 13 = .ok (.return_, 1) := by decide +kernel
theorem dX2_keep_0 : decode cX2_keep 0 = .ok (.aload_n 0, 1) := by decide +kernel
theorem dX2_keep_1 : decode cX2_keep 1 = .ok (.getfield 17, 3) := by decide +kernel
theorem dX2_keep_4 : decode cX2_keep 4 = .ok (.aload_n 0, 1) := by decide +kernel
theorem dX2_keep_5 : decode cX2_keep 5 = .ok (.getfield 21, 3) := by decide +kernel
theorem dX2_keep_8 : decode cX2_keep 8 = .ok (.iadd, 1) := by decide +kernel
theorem dX2_keep_9 : decode cX2_keep 9 = .ok (.bipush 20, 2) := by decide +kernel
theorem dX2_keep_11 : decode cX2_keep 11 = .ok (.irem, 1) := by decide +kernel
theorem dX2_keep_12 : decode cX2_keep 12 = .ok (.istore_n 2, 1) := by decide +kernel
theorem dX2_keep_13 : decode cX2_keep 13 = .ok (.aload_n 0, 1) := by decide +kernel
theorem dX2_keep_14 : decode cX2_keep 14 = .ok (.getfield 11, 3) := by decide +kernel
theorem dX2_keep_17 : decode cX2_keep 17 = .ok (.iload_n 2, 1) := by decide +kernel
theorem dX2_keep_18 : decode cX2_keep 18 = .ok (.aaload, 1) := by decide +kernel
theorem dX2_keep_19 : decode cX2_keep 19 = .ok (.ifnonnull 16, 3) := by decide +kernel
theorem dX2_keep_22 : decode cX2_keep 22 = .ok (.aload_n 0, 1) := by decide +kernel
theorem dX2_keep_23 : decode cX2_keep 23 = .ok (.getfield 11, 3) := by decide +kernel
theorem dX2_keep_26 : decode cX2_keep 26 = .ok (.iload_n 2, 1) := by decide +kernel
theorem dX2_keep_27 : decode cX2_keep 27 = .ok (.new 9, 3) := by decide +kernel
theorem dX2_keep_30 : decode cX2_keep 30 = .ok (.dup, 1) := by decide +kernel
theorem dX2_keep_31 : decode cX2_keep 31 = .ok (.invokespecial 24, 3) := by decide +kernel
theorem dX2_keep_34 : decode cX2_keep 34 = .ok (.aastore, 1) := by decide +kernel
theorem dX2_keep_35 : decode cX2_keep 35 = .ok (.aload_n 0, 1) := by decide +kernel
theorem dX2_keep_36 : decode cX2_keep 36 = .ok (.getfield 11, 3) := by decide +kernel
theorem dX2_keep_39 : decode cX2_keep 39 = .ok (.iload_n 2, 1) := by decide +kernel
theorem dX2_keep_40 : decode cX2_keep 40 = .ok (.aaload, 1) := by decide +kernel
theorem dX2_keep_41 : decode cX2_keep 41 = .ok (.aload_n 1, 1) := by decide +kernel
theorem dX2_keep_42 : decode cX2_keep 42 = .ok (.invokevirtual 25, 3) := by decide +kernel
theorem dX2_keep_45 : decode cX2_keep 45 = .ok (.aload_n 0, 1) := by decide +kernel
theorem dX2_keep_46 : decode cX2_keep 46 = .ok (.getfield 21, 3) := by decide +kernel
theorem dX2_keep_49 : decode cX2_keep 49 = .ok (.bipush 20, 2) := by decide +kernel
theorem dX2_keep_51 : decode cX2_keep 51 = .ok (.if_icmp .ge 16, 3) := by decide +kernel
theorem dX2_keep_54 : decode cX2_keep 54 = .ok (.aload_n 0, 1) := by decide +kernel
theorem dX2_keep_55 : decode cX2_keep 55 = .ok (.dup, 1) := by decide +kernel
theorem dX2_keep_56 : decode cX2_keep 56 = .ok (.getfield 21, 3) := by decide +kernel
theorem dX2_keep_59 : decode cX2_keep 59 = .ok (.iconst 1, 1) := by decide +kernel
theorem dX2_keep_60 : decode cX2_keep 60 = .ok (.iadd, 1) := by decide +kernel
theorem dX2_keep_61 : decode cX2_keep 61 = .ok (.putfield 21, 3) := by decide +kernel
theorem dX2_keep_64 : decode cX2_keep 64 = .ok (.goto 16, 3) := by decide +kernel
theorem dX2_keep_67 : decode cX2_keep 67 = .ok (.aload_n 0, 1) := by decide +kernel
theorem dX2_keep_68 : decode cX2_keep 68 = .ok (.aload_n 0, 1) := by decide +kernel
theorem dX2_keep_69 : decode cX2_keep 69 = .ok (.getfield 17, 3) := by decide +kernel
theorem dX2_keep_72 : decode cX2_keep 72 = .ok (.iconst 1, 1) := by decide +kernel
theorem dX2_keep_73 : decode cX2_keep 73 = .ok (.iadd, 1) := by decide +kernel
theorem dX2_keep_74 : decode cX2_keep 74 = .ok (.bipush 20, 2) := by decide +kernel
theorem dX2_keep_76 : decode cX2_keep 76 = .ok (.irem, 1) := by decide +kernel
theorem dX2_keep_77 : decode cX2_keep 77 = .ok (.putfield 17, 3) := by decide +kernel
theorem dX2_keep_80 : decode cX2_keep 80 = .ok (.return_, 1) := by decide +kernel
theorem dX2_giveBack_0 : decode cX2_giveBack 0 = .ok (.aload_n 0, 1) := by decide +kernel
theorem dX2_giveBack_1 : decode cX2_giveBack 1 = .ok (.getfield 21, 3) := by decide +kernel
theorem dX2_giveBack_4 : decode cX2_giveBack 4 = .ok (.ifCond .ne 5, 3) := by decide +kernel
theorem dX2_giveBack_7 : decode cX2_giveBack 7 = .ok (.iconst 0, 1) := by decide +kernel
theorem dX2_giveBack_8 : decode cX2_giveBack 8 = .ok (.ireturn, 1) := by decide +kernel
theorem dX2_giveBack_9 : decode cX2_giveBack 9 = .ok (.aload_n 0, 1) := by decide +kernel
theorem dX2_giveBack_10 : decode cX2_giveBack 10 = .ok (.dup, 1) := by decide +kernel
theorem dX2_giveBack_11 : decode cX2_giveBack 11 = .ok (.getfield 21, 3) := by decide +kernel
theorem dX2_giveBack_14 : decode cX2_giveBack 14 = .ok (.iconst 1, 1) := by decide +kernel
theorem dX2_giveBack_15 : decode cX2_giveBack 15 = .ok (.isub, 1) := by decide +kernel
theorem dX2_giveBack_16 : decode cX2_giveBack 16 = .ok (.putfield 21, 3) := by decide +kernel
theorem dX2_giveBack_19 : decode cX2_giveBack 19 = .ok (.aload_n 0, 1) := by decide +kernel
theorem dX2_giveBack_20 : decode cX2_giveBack 20 = .ok (.getfield 11, 3) := by decide +kernel
theorem dX2_giveBack_23 : decode cX2_giveBack 23 = .ok (.aload_n 0, 1) := by decide +kernel
theorem dX2_giveBack_24 : decode cX2_giveBack 24 = .ok (.getfield 17, 3) := by decide +kernel
theorem dX2_giveBack_27 : decode cX2_giveBack 27 = .ok (.aload_n 0, 1) := by decide +kernel
theorem dX2_giveBack_28 : decode cX2_giveBack 28 = .ok (.getfield 21, 3) := by decide +kernel
theorem dX2_giveBack_31 : decode cX2_giveBack 31 = .ok (.iadd, 1) := by decide +kernel
theorem dX2_giveBack_32 : decode cX2_giveBack 32 = .ok (.bipush 20, 2) := by decide +kernel
theorem dX2_giveBack_34 : decode cX2_giveBack 34 = .ok (.irem, 1) := by decide +kernel
theorem dX2_giveBack_35 : decode cX2_giveBack 35 = .ok (.aaload, 1) := by decide +kernel
theorem dX2_giveBack_36 : decode cX2_giveBack 36 = .ok (.astore_n 2, 1) := by decide +kernel
theorem dX2_giveBack_37 : decode cX2_giveBack 37 = .ok (.aload_n 2, 1) := by decide +kernel
theorem dX2_giveBack_38 : decode cX2_giveBack 38 = .ok (.ifnonnull 5, 3) := by decide +kernel
theorem dX2_giveBack_41 : decode cX2_giveBack 41 = .ok (.iconst 0, 1) := by decide +kernel
theorem dX2_giveBack_42 : decode cX2_giveBack 42 = .ok (.ireturn, 1) := by decide +kernel
theorem dX2_giveBack_43 : decode cX2_giveBack 43 = .ok (.aload_n 1, 1) := by decide +kernel
theorem dX2_giveBack_44 : decode cX2_giveBack 44 = .ok (.aload_n 2, 1) := by decide +kernel
theorem dX2_giveBack_45 : decode cX2_giveBack 45 = .ok (.invokevirtual 25, 3) := by decide +kernel
theorem dX2_giveBack_48 : decode cX2_giveBack 48 = .ok (.iconst 1, 1) := by decide +kernel
theorem dX2_giveBack_49 : decode cX2_giveBack 49 = .ok (.ireturn, 1) := by decide +kernel
theorem dX2_forget_0 : decode cX2_forget 0 = .ok (.aload_n 0, 1) := by decide +kernel
theorem dX2_forget_1 : decode cX2_forget 1 = .ok (.iconst 0, 1) := by decide +kernel
theorem dX2_forget_2 : decode cX2_forget 2 = .ok (.putfield 21, 3) := by decide +kernel
theorem dX2_forget_5 : decode cX2_forget 5 = .ok (.return_, 1) := by decide +kernel
theorem dX3_init_0 : decode cX3_init 0 = .ok (.aload_n 0, 1) := by decide +kernel
theorem dX3_init_1 : decode cX3_init 1 = .ok (.invokespecial 3, 3) := by decide +kernel
theorem dX3_init_4 : decode cX3_init 4 = .ok (.aload_n 0, 1) := by decide +kernel
theorem dX3_init_5 : decode cX3_init 5 = .ok (.bipush 32, 2) := by decide +kernel
theorem dX3_init_7 : decode cX3_init 7 = .ok (.newarray .long, 2) := by decide +kernel
theorem dX3_init_9 : decode cX3_init 9 = .ok (.putfield 9, 3) := by decide +kernel
theorem dX3_init_12 : decode cX3_init 12 = .ok (.aload_n 0, 1) := by decide +kernel
theorem dX3_init_13 : decode cX3_init 13 = .ok (.aload_n 1, 1) := by decide +kernel
theorem dX3_init_14 : decode cX3_init 14 = .ok (.putfield 15, 3) := by decide +kernel
theorem dX3_init_17 : decode cX3_init 17 = .ok (.return_, 1) := by decide +kernel
theorem dX3_worth_0 : decode cX3_worth 0 = .ok (.iconst 0, 1) := by decide +kernel
theorem dX3_worth_1 : decode cX3_worth 1 = .ok (.istore_n 3, 1) := by decide +kernel
theorem dX3_worth_2 : decode cX3_worth 2 = .ok (.iconst 0, 1) := by decide +kernel
theorem dX3_worth_3 : decode cX3_worth 3 = .ok (.istore 4, 2) := by decide +kernel
theorem dX3_worth_5 : decode cX3_worth 5 = .ok (.iload 4, 2) := by decide +kernel
theorem dX3_worth_7 : decode cX3_worth 7 = .ok (.aload_n 0, 1) := by decide +kernel
theorem dX3_worth_8 : decode cX3_worth 8 = .ok (.getfield 15, 3) := by decide +kernel
theorem dX3_worth_11 : decode cX3_worth 11 = .ok (.arraylength, 1) := by decide +kernel
theorem dX3_worth_12 : decode cX3_worth 12 = .ok (.if_icmp .ge 225, 3) := by decide +kernel
theorem dX3_worth_15 : decode cX3_worth 15 = .ok (.aload_n 0, 1) := by decide +kernel
theorem dX3_worth_16 : decode cX3_worth 16 = .ok (.getfield 15, 3) := by decide +kernel
theorem dX3_worth_19 : decode cX3_worth 19 = .ok (.iload 4, 2) := by decide +kernel
theorem dX3_worth_21 : decode cX3_worth 21 = .ok (.iaload, 1) := by decide +kernel
theorem dX3_worth_22 : decode cX3_worth 22 = .ok (.bipush 31, 2) := by decide +kernel
theorem dX3_worth_24 : decode cX3_worth 24 = .ok (.iand, 1) := by decide +kernel
theorem dX3_worth_25 : decode cX3_worth 25 = .ok (.istore 5, 2) := by decide +kernel
theorem dX3_worth_27 : decode cX3_worth 27 = .ok (.aload_n 0, 1) := by decide +kernel
theorem dX3_worth_28 : decode cX3_worth 28 = .ok (.getfield 15, 3) := by decide +kernel
theorem dX3_worth_31 : decode cX3_worth 31 = .ok (.iload 4, 2) := by decide +kernel
theorem dX3_worth_33 : decode cX3_worth 33 = .ok (.iaload, 1) := by decide +kernel
theorem dX3_worth_34 : decode cX3_worth 34 = .ok (.iconst 5, 1) := by decide +kernel
theorem dX3_worth_35 : decode cX3_worth 35 = .ok (.ishr, 1) := by decide +kernel
theorem dX3_worth_36 : decode cX3_worth 36 = .ok (.istore 6, 2) := by decide +kernel
theorem dX3_worth_38 : decode cX3_worth 38 = .ok (.iload 5, 2) := by decide +kernel
theorem dX3_worth_40 : decode cX3_worth 40 = .ok (.ifCond .eq 9, 3) := by decide +kernel
theorem dX3_worth_43 : decode cX3_worth 43 = .ok (.iload 5, 2) := by decide +kernel
theorem dX3_worth_45 : decode cX3_worth 45 = .ok (.iconst 1, 1) := by decide +kernel
theorem dX3_worth_46 : decode cX3_worth 46 = .ok (.if_icmp .ne 42, 3) := by decide +kernel
theorem dX3_worth_49 : decode cX3_worth 49 = .ok (.iload_n 3, 1) := by decide +kernel
theorem dX3_worth_50 : decode cX3_worth 50 = .ok (.aload_n 0, 1) := by decide +kernel
theorem dX3_worth_51 : decode cX3_worth 51 = .ok (.getfield 9, 3) := by decide +kernel
theorem dX3_worth_54 : decode cX3_worth 54 = .ok (.arraylength, 1) := by decide +kernel
theorem dX3_worth_55 : decode cX3_worth 55 = .ok (.if_icmp .ge 176, 3) := by decide +kernel
theorem dX3_worth_58 : decode cX3_worth 58 = .ok (.aload_n 0, 1) := by decide +kernel
theorem dX3_worth_59 : decode cX3_worth 59 = .ok (.getfield 9, 3) := by decide +kernel
theorem dX3_worth_62 : decode cX3_worth 62 = .ok (.iload_n 3, 1) := by decide +kernel
theorem dX3_worth_63 : decode cX3_worth 63 = .ok (.iload 5, 2) := by decide +kernel
theorem dX3_worth_65 : decode cX3_worth 65 = .ok (.ifCond .ne 9, 3) := by decide +kernel
theorem dX3_worth_68 : decode cX3_worth 68 = .ok (.iload 6, 2) := by decide +kernel
theorem dX3_worth_70 : decode cX3_worth 70 = .ok (.i2l, 1) := by decide +kernel
theorem dX3_worth_71 : decode cX3_worth 71 = .ok (.goto 10, 3) := by decide +kernel
theorem dX3_worth_74 : decode cX3_worth 74 = .ok (.aload_n 1, 1) := by decide +kernel
theorem dX3_worth_75 : decode cX3_worth 75 = .ok (.iload 6, 2) := by decide +kernel
theorem dX3_worth_77 : decode cX3_worth 77 = .ok (.iload_n 2, 1) := by decide +kernel
theorem dX3_worth_78 : decode cX3_worth 78 = .ok (.invokevirtual 19, 3) := by decide +kernel
theorem dX3_worth_81 : decode cX3_worth 81 = .ok (.lastore, 1) := by decide +kernel
theorem dX3_worth_82 : decode cX3_worth 82 = .ok (.iinc 3 1, 3) := by decide +kernel
theorem dX3_worth_85 : decode cX3_worth 85 = .ok (.goto 146, 3) := by decide +kernel
theorem dX3_worth_88 : decode cX3_worth 88 = .ok (.iload 5, 2) := by decide +kernel
theorem dX3_worth_90 : decode cX3_worth 90 = .ok (.bipush 15, 2) := by decide +kernel
theorem dX3_worth_92 : decode cX3_worth 92 = .ok (.if_icmp .eq 10, 3) := by decide +kernel
theorem dX3_worth_95 : decode cX3_worth 95 = .ok (.iload 5, 2) := by decide +kernel
theorem dX3_worth_97 : decode cX3_worth 97 = .ok (.bipush 14, 2) := by decide +kernel
theorem dX3_worth_99 : decode cX3_worth 99 = .ok (.if_icmp .ne 65, 3) := by decide +kernel
theorem dX3_worth_102 : decode cX3_worth 102 = .ok (.iload_n 3, 1) := by decide +kernel
theorem dX3_worth_103 : decode cX3_worth 103 = .ok (.iconst 1, 1) := by decide +kernel
theorem dX3_worth_104 : decode cX3_worth 104 = .ok (.if_icmp .lt 10, 3) := by decide +kernel
theorem dX3_worth_107 : decode cX3_worth 107 = .ok (.iload 5, 2) := by decide +kernel
theorem dX3_worth_109 : decode cX3_worth 109 = .ok (.bipush 15, 2) := by decide +kernel
theorem dX3_worth_111 : decode cX3_worth 111 = .ok (.if_icmp .ne 21, 3) := by decide +kernel
theorem dX3_worth_114 : decode cX3_worth 114 = .ok (.iload_n 3, 1) := by decide +kernel
theorem dX3_worth_115 : decode cX3_worth 115 = .ok (.iconst 1, 1) := by decide +kernel
theorem dX3_worth_116 : decode cX3_worth 116 = .ok (.if_icmp .ge 7, 3) := by decide +kernel
theorem dX3_worth_119 : decode cX3_worth 119 = .ok (.lconst 0, 1) := by decide +kernel
theorem dX3_worth_120 : decode cX3_worth 120 = .ok (.goto 11, 3) := by decide +kernel
theorem dX3_worth_123 : decode cX3_worth 123 = .ok (.aload_n 0, 1) := by decide +kernel
theorem dX3_worth_124 : decode cX3_worth 124 = .ok (.getfield 9, 3) := by decide +kernel
theorem dX3_worth_127 : decode cX3_worth 127 = .ok (.iload_n 3, 1) := by decide +kernel
theorem dX3_worth_128 : decode cX3_worth 128 = .ok (.iconst 1, 1) := by decide +kernel
theorem dX3_worth_129 : decode cX3_worth 129 = .ok (.isub, 1) := by decide +kernel
theorem dX3_worth_130 : decode cX3_worth 130 = .ok (.laload, 1) := by decide +kernel
theorem dX3_worth_131 : decode cX3_worth 131 = .ok (.lreturn, 1) := by decide +kernel
theorem dX3_worth_132 : decode cX3_worth 132 = .ok (.aload_n 0, 1) := by decide +kernel
theorem dX3_worth_133 : decode cX3_worth 133 = .ok (.getfield 9, 3) := by decide +kernel
theorem dX3_worth_136 : decode cX3_worth 136 = .ok (.iload_n 3, 1) := by decide +kernel
theorem dX3_worth_137 : decode cX3_worth 137 = .ok (.iconst 1, 1) := by decide +kernel
theorem dX3_worth_138 : decode cX3_worth 138 = .ok (.isub, 1) := by decide +kernel
theorem dX3_worth_139 : decode cX3_worth 139 = .ok (.aload_n 0, 1) := by decide +kernel
theorem dX3_worth_140 : decode cX3_worth 140 = .ok (.getfield 9, 3) := by decide +kernel
theorem dX3_worth_143 : decode cX3_worth 143 = .ok (.iload_n 3, 1) := by decide +kernel
theorem dX3_worth_144 : decode cX3_worth 144 = .ok (.iconst 1, 1) := by decide +kernel
theorem dX3_worth_145 : decode cX3_worth 145 = .ok (.isub, 1) := by decide +kernel
theorem dX3_worth_146 : decode cX3_worth 146 = .ok (.laload, 1) := by decide +kernel
theorem dX3_worth_147 : decode cX3_worth 147 = .ok (.lconst 0, 1) := by decide +kernel
theorem dX3_worth_148 : decode cX3_worth 148 = .ok (.lcmp, 1) := by decide +kernel
theorem dX3_worth_149 : decode cX3_worth 149 = .ok (.ifCond .ne 7, 3) := by decide +kernel
theorem dX3_worth_152 : decode cX3_worth 152 = .ok (.iconst 1, 1) := by decide +kernel
theorem dX3_worth_153 : decode cX3_worth 153 = .ok (.goto 4, 3) := by decide +kernel
theorem dX3_worth_156 : decode cX3_worth 156 = .ok (.iconst 0, 1) := by decide +kernel
theorem dX3_worth_157 : decode cX3_worth 157 = .ok (.invokestatic 25, 3) := by decide +kernel
theorem dX3_worth_160 : decode cX3_worth 160 = .ok (.lastore, 1) := by decide +kernel
theorem dX3_worth_161 : decode cX3_worth 161 = .ok (.goto 70, 3) := by decide +kernel
theorem dX3_worth_164 : decode cX3_worth 164 = .ok (.iload_n 3, 1) := by decide +kernel
theorem dX3_worth_165 : decode cX3_worth 165 = .ok (.iconst 2, 1) := by decide +kernel
theorem dX3_worth_166 : decode cX3_worth 166 = .ok (.if_icmp .ge 5, 3) := by decide +kernel
theorem dX3_worth_169 : decode cX3_worth 169 = .ok (.lconst 0, 1) := by decide +kernel
theorem dX3_worth_170 : decode cX3_worth 170 = .ok (.lreturn, 1) := by decide +kernel
theorem dX3_worth_171 : decode cX3_worth 171 = .ok (.iload 5, 2) := by decide +kernel
theorem dX3_worth_173 : decode cX3_worth 173 = .ok (.bipush 16, 2) := by decide +kernel
theorem dX3_worth_175 : decode cX3_worth 175 = .ok (.if_icmp .ne 26, 3) := by decide +kernel
theorem dX3_worth_178 : decode cX3_worth 178 = .ok (.iinc 3 (-2), 3) := by decide +kernel
theorem dX3_worth_181 : decode cX3_worth 181 = .ok (.aload_n 0, 1) := by decide +kernel
theorem dX3_worth_182 : decode cX3_worth 182 = .ok (.getfield 9, 3) := by decide +kernel
theorem dX3_worth_185 : decode cX3_worth 185 = .ok (.iload_n 3, 1) := by decide +kernel
theorem dX3_worth_186 : decode cX3_worth 186 = .ok (.iconst 1, 1) := by decide +kernel
theorem dX3_worth_187 : decode cX3_worth 187 = .ok (.iadd, 1) := by decide +kernel
theorem dX3_worth_188 : decode cX3_worth 188 = .ok (.laload, 1) := by decide +kernel
theorem dX3_worth_189 : decode cX3_worth 189 = .ok (.lconst 0, 1) := by decide +kernel
theorem dX3_worth_190 : decode cX3_worth 190 = .ok (.lcmp, 1) := by decide +kernel
theorem dX3_worth_191 : decode cX3_worth 191 = .ok (.ifCond .eq 40, 3) := by decide +kernel
theorem dX3_worth_194 : decode cX3_worth 194 = .ok (.aload_n 0, 1) := by decide +kernel
theorem dX3_worth_195 : decode cX3_worth 195 = .ok (.getfield 9, 3) := by decide +kernel
theorem dX3_worth_198 : decode cX3_worth 198 = .ok (.iload_n 3, 1) := by decide +kernel
theorem dX3_worth_199 : decode cX3_worth 199 = .ok (.laload, 1) := by decide +kernel
theorem dX3_worth_200 : decode cX3_worth 200 = .ok (.lreturn, 1) := by decide +kernel
theorem dX3_worth_201 : decode cX3_worth 201 = .ok (.iinc 3 (-1), 3) := by decide +kernel
theorem dX3_worth_204 : decode cX3_worth 204 = .ok (.aload_n 0, 1) := by decide +kernel
theorem dX3_worth_205 : decode cX3_worth 205 = .ok (.getfield 9, 3) := by decide +kernel
theorem dX3_worth_208 : decode cX3_worth 208 = .ok (.iload_n 3, 1) := by decide +kernel
theorem dX3_worth_209 : decode cX3_worth 209 = .ok (.iconst 1, 1) := by decide +kernel
theorem dX3_worth_210 : decode cX3_worth 210 = .ok (.isub, 1) := by decide +kernel
theorem dX3_worth_211 : decode cX3_worth 211 = .ok (.iload 5, 2) := by decide +kernel
theorem dX3_worth_213 : decode cX3_worth 213 = .ok (.aload_n 0, 1) := by decide +kernel
theorem dX3_worth_214 : decode cX3_worth 214 = .ok (.getfield 9, 3) := by decide +kernel
theorem dX3_worth_217 : decode cX3_worth 217 = .ok (.iload_n 3, 1) := by decide +kernel
theorem dX3_worth_218 : decode cX3_worth 218 = .ok (.iconst 1, 1) := by decide +kernel
theorem dX3_worth_219 : decode cX3_worth 219 = .ok (.isub, 1) := by decide +kernel
theorem dX3_worth_220 : decode cX3_worth 220 = .ok (.laload, 1) := by decide +kernel
theorem dX3_worth_221 : decode cX3_worth 221 = .ok (.aload_n 0, 1) := by decide +kernel
theorem dX3_worth_222 : decode cX3_worth 222 = .ok (.getfield 9, 3) := by decide +kernel
theorem dX3_worth_225 : decode cX3_worth 225 = .ok (.iload_n 3, 1) := by decide +kernel
theorem dX3_worth_226 : decode cX3_worth 226 = .ok (.laload, 1) := by decide +kernel
theorem dX3_worth_227 : decode cX3_worth 227 = .ok (.invokestatic 29, 3) := by decide +kernel
theorem dX3_worth_230 : decode cX3_worth 230 = .ok (.lastore, 1) := by decide +kernel
theorem dX3_worth_231 : decode cX3_worth 231 = .ok (.iinc 4 1, 3) := by decide +kernel
theorem dX3_worth_234 : decode cX3_worth 234 = .ok (.goto (-229), 3) := by decide +kernel
theorem dX3_worth_237 : decode cX3_worth 237 = .ok (.lconst 0, 1) := by decide +kernel
theorem dX3_worth_238 : decode cX3_worth 238 = .ok (.lreturn, 1) := by decide +kernel
theorem dX3_joined_0 : decode cX3_joined 0 = .ok (.iload_n 0, 1) := by decide +kernel
theorem dX3_joined_1 : decode cX3_joined 1 = .ok (.tableswitch 178 2 12 #[59, 63, 67, 71, 85, 99, 114, 129, 144, 159, 174], 59) := by decide +kernel
theorem dX3_joined_60 : decode cX3_joined 60 = .ok (.lload_n 1, 1) := by decide +kernel
theorem dX3_joined_61 : decode cX3_joined 61 = .ok (.lload_n 3, 1) := by decide +kernel
theorem dX3_joined_62 : decode cX3_joined 62 = .ok (.ladd, 1) := by decide +kernel
theorem dX3_joined_63 : decode cX3_joined 63 = .ok (.lreturn, 1) := by decide +kernel
theorem dX3_joined_64 : decode cX3_joined 64 = .ok (.lload_n 1, 1) := by decide +kernel
theorem dX3_joined_65 : decode cX3_joined 65 = .ok (.lload_n 3, 1) := by decide +kernel
theorem dX3_joined_66 : decode cX3_joined 66 = .ok (.lsub, 1) := by decide +kernel
theorem dX3_joined_67 : decode cX3_joined 67 = .ok (.lreturn, 1) := by decide +kernel
theorem dX3_joined_68 : decode cX3_joined 68 = .ok (.lload_n 1, 1) := by decide +kernel
theorem dX3_joined_69 : decode cX3_joined 69 = .ok (.lload_n 3, 1) := by decide +kernel
theorem dX3_joined_70 : decode cX3_joined 70 = .ok (.lmul, 1) := by decide +kernel
theorem dX3_joined_71 : decode cX3_joined 71 = .ok (.lreturn, 1) := by decide +kernel
theorem dX3_joined_72 : decode cX3_joined 72 = .ok (.lload_n 3, 1) := by decide +kernel
theorem dX3_joined_73 : decode cX3_joined 73 = .ok (.lconst 0, 1) := by decide +kernel
theorem dX3_joined_74 : decode cX3_joined 74 = .ok (.lcmp, 1) := by decide +kernel
theorem dX3_joined_75 : decode cX3_joined 75 = .ok (.ifCond .ne 7, 3) := by decide +kernel
theorem dX3_joined_78 : decode cX3_joined 78 = .ok (.lconst 0, 1) := by decide +kernel
theorem dX3_joined_79 : decode cX3_joined 79 = .ok (.goto 6, 3) := by decide +kernel
theorem dX3_joined_82 : decode cX3_joined 82 = .ok (.lload_n 1, 1) := by decide +kernel
theorem dX3_joined_83 : decode cX3_joined 83 = .ok (.lload_n 3, 1) := by decide +kernel
theorem dX3_joined_84 : decode cX3_joined 84 = .ok (.ldiv, 1) := by decide +kernel
theorem dX3_joined_85 : decode cX3_joined 85 = .ok (.lreturn, 1) := by decide +kernel
theorem dX3_joined_86 : decode cX3_joined 86 = .ok (.lload_n 3, 1) := by decide +kernel
theorem dX3_joined_87 : decode cX3_joined 87 = .ok (.lconst 0, 1) := by decide +kernel
theorem dX3_joined_88 : decode cX3_joined 88 = .ok (.lcmp, 1) := by decide +kernel
theorem dX3_joined_89 : decode cX3_joined 89 = .ok (.ifCond .ne 7, 3) := by decide +kernel
theorem dX3_joined_92 : decode cX3_joined 92 = .ok (.lconst 0, 1) := by decide +kernel
theorem dX3_joined_93 : decode cX3_joined 93 = .ok (.goto 6, 3) := by decide +kernel
theorem dX3_joined_96 : decode cX3_joined 96 = .ok (.lload_n 1, 1) := by decide +kernel
theorem dX3_joined_97 : decode cX3_joined 97 = .ok (.lload_n 3, 1) := by decide +kernel
theorem dX3_joined_98 : decode cX3_joined 98 = .ok (.lrem, 1) := by decide +kernel
theorem dX3_joined_99 : decode cX3_joined 99 = .ok (.lreturn, 1) := by decide +kernel
theorem dX3_joined_100 : decode cX3_joined 100 = .ok (.lload_n 1, 1) := by decide +kernel
theorem dX3_joined_101 : decode cX3_joined 101 = .ok (.lload_n 3, 1) := by decide +kernel
theorem dX3_joined_102 : decode cX3_joined 102 = .ok (.lcmp, 1) := by decide +kernel
theorem dX3_joined_103 : decode cX3_joined 103 = .ok (.ifCond .ge 7, 3) := by decide +kernel
theorem dX3_joined_106 : decode cX3_joined 106 = .ok (.iconst 1, 1) := by decide +kernel
theorem dX3_joined_107 : decode cX3_joined 107 = .ok (.goto 4, 3) := by decide +kernel
theorem dX3_joined_110 : decode cX3_joined 110 = .ok (.iconst 0, 1) := by decide +kernel
theorem dX3_joined_111 : decode cX3_joined 111 = .ok (.invokestatic 25, 3) := by decide +kernel
theorem dX3_joined_114 : decode cX3_joined 114 = .ok (.lreturn, 1) := by decide +kernel
theorem dX3_joined_115 : decode cX3_joined 115 = .ok (.lload_n 1, 1) := by decide +kernel
theorem dX3_joined_116 : decode cX3_joined 116 = .ok (.lload_n 3, 1) := by decide +kernel
theorem dX3_joined_117 : decode cX3_joined 117 = .ok (.lcmp, 1) := by decide +kernel
theorem dX3_joined_118 : decode cX3_joined 118 = .ok (.ifCond .gt 7, 3) := by decide +kernel
theorem dX3_joined_121 : decode cX3_joined 121 = .ok (.iconst 1, 1) := by decide +kernel
theorem dX3_joined_122 : decode cX3_joined 122 = .ok (.goto 4, 3) := by decide +kernel
theorem dX3_joined_125 : decode cX3_joined 125 = .ok (.iconst 0, 1) := by decide +kernel
theorem dX3_joined_126 : decode cX3_joined 126 = .ok (.invokestatic 25, 3) := by decide +kernel
theorem dX3_joined_129 : decode cX3_joined 129 = .ok (.lreturn, 1) := by decide +kernel
theorem dX3_joined_130 : decode cX3_joined 130 = .ok (.lload_n 1, 1) := by decide +kernel
theorem dX3_joined_131 : decode cX3_joined 131 = .ok (.lload_n 3, 1) := by decide +kernel
theorem dX3_joined_132 : decode cX3_joined 132 = .ok (.lcmp, 1) := by decide +kernel
theorem dX3_joined_133 : decode cX3_joined 133 = .ok (.ifCond .ne 7, 3) := by decide +kernel
theorem dX3_joined_136 : decode cX3_joined 136 = .ok (.iconst 1, 1) := by decide +kernel
theorem dX3_joined_137 : decode cX3_joined 137 = .ok (.goto 4, 3) := by decide +kernel
theorem dX3_joined_140 : decode cX3_joined 140 = .ok (.iconst 0, 1) := by decide +kernel
theorem dX3_joined_141 : decode cX3_joined 141 = .ok (.invokestatic 25, 3) := by decide +kernel
theorem dX3_joined_144 : decode cX3_joined 144 = .ok (.lreturn, 1) := by decide +kernel
theorem dX3_joined_145 : decode cX3_joined 145 = .ok (.lload_n 1, 1) := by decide +kernel
theorem dX3_joined_146 : decode cX3_joined 146 = .ok (.lload_n 3, 1) := by decide +kernel
theorem dX3_joined_147 : decode cX3_joined 147 = .ok (.lcmp, 1) := by decide +kernel
theorem dX3_joined_148 : decode cX3_joined 148 = .ok (.ifCond .lt 7, 3) := by decide +kernel
theorem dX3_joined_151 : decode cX3_joined 151 = .ok (.iconst 1, 1) := by decide +kernel
theorem dX3_joined_152 : decode cX3_joined 152 = .ok (.goto 4, 3) := by decide +kernel
theorem dX3_joined_155 : decode cX3_joined 155 = .ok (.iconst 0, 1) := by decide +kernel
theorem dX3_joined_156 : decode cX3_joined 156 = .ok (.invokestatic 25, 3) := by decide +kernel
theorem dX3_joined_159 : decode cX3_joined 159 = .ok (.lreturn, 1) := by decide +kernel
theorem dX3_joined_160 : decode cX3_joined 160 = .ok (.lload_n 1, 1) := by decide +kernel
theorem dX3_joined_161 : decode cX3_joined 161 = .ok (.lload_n 3, 1) := by decide +kernel
theorem dX3_joined_162 : decode cX3_joined 162 = .ok (.lcmp, 1) := by decide +kernel
theorem dX3_joined_163 : decode cX3_joined 163 = .ok (.ifCond .le 7, 3) := by decide +kernel
theorem dX3_joined_166 : decode cX3_joined 166 = .ok (.iconst 1, 1) := by decide +kernel
theorem dX3_joined_167 : decode cX3_joined 167 = .ok (.goto 4, 3) := by decide +kernel
theorem dX3_joined_170 : decode cX3_joined 170 = .ok (.iconst 0, 1) := by decide +kernel
theorem dX3_joined_171 : decode cX3_joined 171 = .ok (.invokestatic 25, 3) := by decide +kernel
theorem dX3_joined_174 : decode cX3_joined 174 = .ok (.lreturn, 1) := by decide +kernel
theorem dX3_joined_175 : decode cX3_joined 175 = .ok (.lload_n 1, 1) := by decide +kernel
theorem dX3_joined_176 : decode cX3_joined 176 = .ok (.lload_n 3, 1) := by decide +kernel
theorem dX3_joined_177 : decode cX3_joined 177 = .ok (.land, 1) := by decide +kernel
theorem dX3_joined_178 : decode cX3_joined 178 = .ok (.lreturn, 1) := by decide +kernel
theorem dX3_joined_179 : decode cX3_joined 179 = .ok (.lload_n 1, 1) := by decide +kernel
theorem dX3_joined_180 : decode cX3_joined 180 = .ok (.lload_n 3, 1) := by decide +kernel
theorem dX3_joined_181 : decode cX3_joined 181 = .ok (.lor, 1) := by decide +kernel
theorem dX3_joined_182 : decode cX3_joined 182 = .ok (.lreturn, 1) := by decide +kernel
theorem dX3_truth_0 : decode cX3_truth 0 = .ok (.iload_n 0, 1) := by decide +kernel
theorem dX3_truth_1 : decode cX3_truth 1 = .ok (.ifCond .eq 7, 3) := by decide +kernel
theorem dX3_truth_4 : decode cX3_truth 4 = .ok (.lconst 1, 1) := by decide +kernel
theorem dX3_truth_5 : decode cX3_truth 5 = .ok (.goto 4, 3) := by decide +kernel
theorem dX3_truth_8 : decode cX3_truth 8 = .ok (.lconst 0, 1) := by decide +kernel
theorem dX3_truth_9 : decode cX3_truth 9 = .ok (.lreturn, 1) := by decide +kernel
theorem dX4_init_0 : decode cX4_init 0 = .ok (.aload_n 0, 1) := by decide +kernel
theorem dX4_init_1 : decode cX4_init 1 = .ok (.invokespecial 3, 3) := by decide +kernel
theorem dX4_init_4 : decode cX4_init 4 = .ok (.aload_n 0, 1) := by decide +kernel
theorem dX4_init_5 : decode cX4_init 5 = .ok (.sipush 400, 3) := by decide +kernel
theorem dX4_init_8 : decode cX4_init 8 = .ok (.newarray .int, 2) := by decide +kernel
theorem dX4_init_10 : decode cX4_init 10 = .ok (.putfield 9, 3) := by decide +kernel
theorem dX4_init_13 : decode cX4_init 13 = .ok (.aload_n 0, 1) := by decide +kernel
theorem dX4_init_14 : decode cX4_init 14 = .ok (.aload_n 1, 1) := by decide +kernel
theorem dX4_init_15 : decode cX4_init 15 = .ok (.putfield 15, 3) := by decide +kernel
theorem dX4_init_18 : decode cX4_init 18 = .ok (.return_, 1) := by decide +kernel
theorem dX4_readAll_0 : decode cX4_readAll 0 = .ok (.aload_n 0, 1) := by decide +kernel
theorem dX4_readAll_1 : decode cX4_readAll 1 = .ok (.getfield 15, 3) := by decide +kernel
theorem dX4_readAll_4 : decode cX4_readAll 4 = .ok (.invokevirtual 19, 3) := by decide +kernel
theorem dX4_readAll_7 : decode cX4_readAll 7 = .ok (.aload_n 0, 1) := by decide +kernel
theorem dX4_readAll_8 : decode cX4_readAll 8 = .ok (.iconst 0, 1) := by decide +kernel
theorem dX4_readAll_9 : decode cX4_readAll 9 = .ok (.putfield 24, 3) := by decide +kernel
theorem dX4_readAll_12 : decode cX4_readAll 12 = .ok (.aload_n 0, 1) := by decide +kernel
theorem dX4_readAll_13 : decode cX4_readAll 13 = .ok (.iconst 0, 1) := by decide +kernel
theorem dX4_readAll_14 : decode cX4_readAll 14 = .ok (.putfield 28, 3) := by decide +kernel
theorem dX4_readAll_17 : decode cX4_readAll 17 = .ok (.iconst 0, 1) := by decide +kernel
theorem dX4_readAll_18 : decode cX4_readAll 18 = .ok (.istore_n 1, 1) := by decide +kernel
theorem dX4_readAll_19 : decode cX4_readAll 19 = .ok (.iload_n 1, 1) := by decide +kernel
theorem dX4_readAll_20 : decode cX4_readAll 20 = .ok (.bipush 12, 2) := by decide +kernel
theorem dX4_readAll_22 : decode cX4_readAll 22 = .ok (.if_icmp .gt 186, 3) := by decide +kernel
theorem dX4_readAll_25 : decode cX4_readAll 25 = .ok (.aload_n 0, 1) := by decide +kernel
theorem dX4_readAll_26 : decode cX4_readAll 26 = .ok (.getfield 15, 3) := by decide +kernel
theorem dX4_readAll_29 : decode cX4_readAll 29 = .ok (.invokevirtual 31, 3) := by decide +kernel
theorem dX4_readAll_32 : decode cX4_readAll 32 = .ok (.pop, 1) := by decide +kernel
theorem dX4_readAll_33 : decode cX4_readAll 33 = .ok (.aload_n 0, 1) := by decide +kernel
theorem dX4_readAll_34 : decode cX4_readAll 34 = .ok (.getfield 15, 3) := by decide +kernel
theorem dX4_readAll_37 : decode cX4_readAll 37 = .ok (.getfield 35, 3) := by decide +kernel
theorem dX4_readAll_40 : decode cX4_readAll 40 = .ok (.istore_n 2, 1) := by decide +kernel
theorem dX4_readAll_41 : decode cX4_readAll 41 = .ok (.aload_n 0, 1) := by decide +kernel
theorem dX4_readAll_42 : decode cX4_readAll 42 = .ok (.getfield 15, 3) := by decide +kernel
theorem dX4_readAll_45 : decode cX4_readAll 45 = .ok (.ldc 38, 2) := by decide +kernel
theorem dX4_readAll_47 : decode cX4_readAll 47 = .ok (.invokevirtual 40, 3) := by decide +kernel
theorem dX4_readAll_50 : decode cX4_readAll 50 = .ok (.iconst (-1), 1) := by decide +kernel
theorem dX4_readAll_51 : decode cX4_readAll 51 = .ok (.if_icmp .ne 15, 3) := by decide +kernel
theorem dX4_readAll_54 : decode cX4_readAll 54 = .ok (.aload_n 0, 1) := by decide +kernel
theorem dX4_readAll_55 : decode cX4_readAll 55 = .ok (.getfield 15, 3) := by decide +kernel
theorem dX4_readAll_58 : decode cX4_readAll 58 = .ok (.iload_n 2, 1) := by decide +kernel
theorem dX4_readAll_59 : decode cX4_readAll 59 = .ok (.iconst 0, 1) := by decide +kernel
theorem dX4_readAll_60 : decode cX4_readAll 60 = .ok (.invokevirtual 44, 3) := by decide +kernel
theorem dX4_readAll_63 : decode cX4_readAll 63 = .ok (.pop, 1) := by decide +kernel
theorem dX4_readAll_64 : decode cX4_readAll 64 = .ok (.aconst_null, 1) := by decide +kernel
theorem dX4_readAll_65 : decode cX4_readAll 65 = .ok (.areturn, 1) := by decide +kernel
theorem dX4_readAll_66 : decode cX4_readAll 66 = .ok (.iload_n 1, 1) := by decide +kernel
theorem dX4_readAll_67 : decode cX4_readAll 67 = .ok (.bipush 12, 2) := by decide +kernel
theorem dX4_readAll_69 : decode cX4_readAll 69 = .ok (.if_icmp .ne 15, 3) := by decide +kernel
theorem dX4_readAll_72 : decode cX4_readAll 72 = .ok (.aload_n 0, 1) := by decide +kernel
theorem dX4_readAll_73 : decode cX4_readAll 73 = .ok (.getfield 15, 3) := by decide +kernel
theorem dX4_readAll_76 : decode cX4_readAll 76 = .ok (.iload_n 2, 1) := by decide +kernel
theorem dX4_readAll_77 : decode cX4_readAll 77 = .ok (.iconst 4, 1) := by decide +kernel
theorem dX4_readAll_78 : decode cX4_readAll 78 = .ok (.invokevirtual 44, 3) := by decide +kernel
theorem dX4_readAll_81 : decode cX4_readAll 81 = .ok (.pop, 1) := by decide +kernel
theorem dX4_readAll_82 : decode cX4_readAll 82 = .ok (.aconst_null, 1) := by decide +kernel
theorem dX4_readAll_83 : decode cX4_readAll 83 = .ok (.areturn, 1) := by decide +kernel
theorem dX4_readAll_84 : decode cX4_readAll 84 = .ok (.aload_n 0, 1) := by decide +kernel
theorem dX4_readAll_85 : decode cX4_readAll 85 = .ok (.invokevirtual 48, 3) := by decide +kernel
theorem dX4_readAll_88 : decode cX4_readAll 88 = .ok (.ifCond .ne 5, 3) := by decide +kernel
theorem dX4_readAll_91 : decode cX4_readAll 91 = .ok (.aconst_null, 1) := by decide +kernel
theorem dX4_readAll_92 : decode cX4_readAll 92 = .ok (.areturn, 1) := by decide +kernel
theorem dX4_readAll_93 : decode cX4_readAll 93 = .ok (.aload_n 0, 1) := by decide +kernel
theorem dX4_readAll_94 : decode cX4_readAll 94 = .ok (.getfield 15, 3) := by decide +kernel
theorem dX4_readAll_97 : decode cX4_readAll 97 = .ok (.ldc 52, 2) := by decide +kernel
theorem dX4_readAll_99 : decode cX4_readAll 99 = .ok (.invokevirtual 40, 3) := by decide +kernel
theorem dX4_readAll_102 : decode cX4_readAll 102 = .ok (.iconst (-1), 1) := by decide +kernel
theorem dX4_readAll_103 : decode cX4_readAll 103 = .ok (.if_icmp .eq 7, 3) := by decide +kernel
theorem dX4_readAll_106 : decode cX4_readAll 106 = .ok (.iconst 1, 1) := by decide +kernel
theorem dX4_readAll_107 : decode cX4_readAll 107 = .ok (.goto 4, 3) := by decide +kernel
theorem dX4_readAll_110 : decode cX4_readAll 110 = .ok (.iconst 0, 1) := by decide +kernel
theorem dX4_readAll_111 : decode cX4_readAll 111 = .ok (.istore_n 3, 1) := by decide +kernel
theorem dX4_readAll_112 : decode cX4_readAll 112 = .ok (.iload_n 3, 1) := by decide +kernel
theorem dX4_readAll_113 : decode cX4_readAll 113 = .ok (.ifCond .eq 13, 3) := by decide +kernel
theorem dX4_readAll_116 : decode cX4_readAll 116 = .ok (.aload_n 0, 1) := by decide +kernel
theorem dX4_readAll_117 : decode cX4_readAll 117 = .ok (.iconst 0, 1) := by decide +kernel
theorem dX4_readAll_118 : decode cX4_readAll 118 = .ok (.invokevirtual 54, 3) := by decide +kernel
theorem dX4_readAll_121 : decode cX4_readAll 121 = .ok (.ifCond .ne 5, 3) := by decide +kernel
theorem dX4_readAll_124 : decode cX4_readAll 124 = .ok (.aconst_null, 1) := by decide +kernel
theorem dX4_readAll_125 : decode cX4_readAll 125 = .ok (.areturn, 1) := by decide +kernel
theorem dX4_readAll_126 : decode cX4_readAll 126 = .ok (.aload_n 0, 1) := by decide +kernel
theorem dX4_readAll_127 : decode cX4_readAll 127 = .ok (.iload_n 3, 1) := by decide +kernel
theorem dX4_readAll_128 : decode cX4_readAll 128 = .ok (.ifCond .eq 8, 3) := by decide +kernel
theorem dX4_readAll_131 : decode cX4_readAll 131 = .ok (.bipush 16, 2) := by decide +kernel
theorem dX4_readAll_133 : decode cX4_readAll 133 = .ok (.goto 5, 3) := by decide +kernel
theorem dX4_readAll_136 : decode cX4_readAll 136 = .ok (.bipush 15, 2) := by decide +kernel
theorem dX4_readAll_138 : decode cX4_readAll 138 = .ok (.iconst 0, 1) := by decide +kernel
theorem dX4_readAll_139 : decode cX4_readAll 139 = .ok (.invokevirtual 58, 3) := by decide +kernel
theorem dX4_readAll_142 : decode cX4_readAll 142 = .ok (.aload_n 0, 1) := by decide +kernel
theorem dX4_readAll_143 : decode cX4_readAll 143 = .ok (.getfield 15, 3) := by decide +kernel
theorem dX4_readAll_146 : decode cX4_readAll 146 = .ok (.invokevirtual 31, 3) := by decide +kernel
theorem dX4_readAll_149 : decode cX4_readAll 149 = .ok (.iconst (-1), 1) := by decide +kernel
theorem dX4_readAll_150 : decode cX4_readAll 150 = .ok (.if_icmp .ne 22, 3) := by decide +kernel
theorem dX4_readAll_153 : decode cX4_readAll 153 = .ok (.new 62, 3) := by decide +kernel
theorem dX4_readAll_156 : decode cX4_readAll 156 = .ok (.dup, 1) := by decide +kernel
theorem dX4_readAll_157 : decode cX4_readAll 157 = .ok (.aload_n 0, 1) := by decide +kernel
theorem dX4_readAll_158 : decode cX4_readAll 158 = .ok (.getfield 9, 3) := by decide +kernel
theorem dX4_readAll_161 : decode cX4_readAll 161 = .ok (.aload_n 0, 1) := by decide +kernel
theorem dX4_readAll_162 : decode cX4_readAll 162 = .ok (.getfield 24, 3) := by decide +kernel
theorem dX4_readAll_165 : decode cX4_readAll 165 = .ok (.invokestatic 64, 3) := by decide +kernel
theorem dX4_readAll_168 : decode cX4_readAll 168 = .ok (.invokespecial 70, 3) := by decide +kernel
theorem dX4_readAll_171 : decode cX4_readAll 171 = .ok (.areturn, 1) := by decide +kernel
theorem dX4_readAll_172 : decode cX4_readAll 172 = .ok (.aload_n 0, 1) := by decide +kernel
theorem dX4_readAll_173 : decode cX4_readAll 173 = .ok (.getfield 15, 3) := by decide +kernel
theorem dX4_readAll_176 : decode cX4_readAll 176 = .ok (.bipush 59, 2) := by decide +kernel
theorem dX4_readAll_178 : decode cX4_readAll 178 = .ok (.invokevirtual 73, 3) := by decide +kernel
theorem dX4_readAll_181 : decode cX4_readAll 181 = .ok (.ifCond .ne 21, 3) := by decide +kernel
theorem dX4_readAll_184 : decode cX4_readAll 184 = .ok (.aload_n 0, 1) := by decide +kernel
theorem dX4_readAll_185 : decode cX4_readAll 185 = .ok (.getfield 15, 3) := by decide +kernel
theorem dX4_readAll_188 : decode cX4_readAll 188 = .ok (.aload_n 0, 1) := by decide +kernel
theorem dX4_readAll_189 : decode cX4_readAll 189 = .ok (.getfield 15, 3) := by decide +kernel
theorem dX4_readAll_192 : decode cX4_readAll 192 = .ok (.getfield 35, 3) := by decide +kernel
theorem dX4_readAll_195 : decode cX4_readAll 195 = .ok (.iconst 0, 1) := by decide +kernel
theorem dX4_readAll_196 : decode cX4_readAll 196 = .ok (.invokevirtual 44, 3) := by decide +kernel
theorem dX4_readAll_199 : decode cX4_readAll 199 = .ok (.pop, 1) := by decide +kernel
theorem dX4_readAll_200 : decode cX4_readAll 200 = .ok (.aconst_null, 1) := by decide +kernel
theorem dX4_readAll_201 : decode cX4_readAll 201 = .ok (.areturn, 1) := by decide +kernel
theorem dX4_readAll_202 : decode cX4_readAll 202 = .ok (.iinc 1 1, 3) := by decide +kernel
theorem dX4_readAll_205 : decode cX4_readAll 205 = .ok (.goto (-186), 3) := by decide +kernel
theorem dX4_readAll_208 : decode cX4_readAll 208 = .ok (.aconst_null, 1) := by decide +kernel
theorem dX4_readAll_209 : decode cX4_readAll 209 = .ok (.areturn, 1) := by decide +kernel
theorem dX4_readTest_0 : decode cX4_readTest 0 = .ok (.aload_n 0, 1) := by decide +kernel
theorem dX4_readTest_1 : decode cX4_readTest 1 = .ok (.iload_n 1, 1) := by decide +kernel
theorem dX4_readTest_2 : decode cX4_readTest 2 = .ok (.invokevirtual 77, 3) := by decide +kernel
theorem dX4_readTest_5 : decode cX4_readTest 5 = .ok (.ifCond .ne 5, 3) := by decide +kernel
theorem dX4_readTest_8 : decode cX4_readTest 8 = .ok (.iconst 0, 1) := by decide +kernel
theorem dX4_readTest_9 : decode cX4_readTest 9 = .ok (.ireturn, 1) := by decide +kernel
theorem dX4_readTest_10 : decode cX4_readTest 10 = .ok (.iconst 0, 1) := by decide +kernel
theorem dX4_readTest_11 : decode cX4_readTest 11 = .ok (.istore_n 2, 1) := by decide +kernel
theorem dX4_readTest_12 : decode cX4_readTest 12 = .ok (.iconst 0, 1) := by decide +kernel
theorem dX4_readTest_13 : decode cX4_readTest 13 = .ok (.istore_n 3, 1) := by decide +kernel
theorem dX4_readTest_14 : decode cX4_readTest 14 = .ok (.iload_n 3, 1) := by decide +kernel
theorem dX4_readTest_15 : decode cX4_readTest 15 = .ok (.sipush 400, 3) := by decide +kernel
theorem dX4_readTest_18 : decode cX4_readTest 18 = .ok (.if_icmp .ge 72, 3) := by decide +kernel
theorem dX4_readTest_21 : decode cX4_readTest 21 = .ok (.aload_n 0, 1) := by decide +kernel
theorem dX4_readTest_22 : decode cX4_readTest 22 = .ok (.getfield 15, 3) := by decide +kernel
theorem dX4_readTest_25 : decode cX4_readTest 25 = .ok (.ldc 80, 2) := by decide +kernel
theorem dX4_readTest_27 : decode cX4_readTest 27 = .ok (.invokevirtual 40, 3) := by decide +kernel
theorem dX4_readTest_30 : decode cX4_readTest 30 = .ok (.istore 4, 2) := by decide +kernel
theorem dX4_readTest_32 : decode cX4_readTest 32 = .ok (.iload 4, 2) := by decide +kernel
theorem dX4_readTest_34 : decode cX4_readTest 34 = .ok (.iconst (-1), 1) := by decide +kernel
theorem dX4_readTest_35 : decode cX4_readTest 35 = .ok (.if_icmp .ne 6, 3) := by decide +kernel
theorem dX4_readTest_38 : decode cX4_readTest 38 = .ok (.goto 52, 3) := by decide +kernel
theorem dX4_readTest_41 : decode cX4_readTest 41 = .ok (.iload 4, 2) := by decide +kernel
theorem dX4_readTest_43 : decode cX4_readTest 43 = .ok (.ifCond .ne 14, 3) := by decide +kernel
theorem dX4_readTest_46 : decode cX4_readTest 46 = .ok (.iload_n 2, 1) := by decide +kernel
theorem dX4_readTest_47 : decode cX4_readTest 47 = .ok (.ifCond .eq 10, 3) := by decide +kernel
theorem dX4_readTest_50 : decode cX4_readTest 50 = .ok (.aload_n 0, 1) := by decide +kernel
theorem dX4_readTest_51 : decode cX4_readTest 51 = .ok (.bipush 13, 2) := by decide +kernel
theorem dX4_readTest_53 : decode cX4_readTest 53 = .ok (.iconst 0, 1) := by decide +kernel
theorem dX4_readTest_54 : decode cX4_readTest 54 = .ok (.invokevirtual 58, 3) := by decide +kernel
theorem dX4_readTest_57 : decode cX4_readTest 57 = .ok (.aload_n 0, 1) := by decide +kernel
theorem dX4_readTest_58 : decode cX4_readTest 58 = .ok (.iload_n 1, 1) := by decide +kernel
theorem dX4_readTest_59 : decode cX4_readTest 59 = .ok (.invokevirtual 77, 3) := by decide +kernel
theorem dX4_readTest_62 : decode cX4_readTest 62 = .ok (.ifCond .ne 5, 3) := by decide +kernel
theorem dX4_readTest_65 : decode cX4_readTest 65 = .ok (.iconst 0, 1) := by decide +kernel
theorem dX4_readTest_66 : decode cX4_readTest 66 = .ok (.ireturn, 1) := by decide +kernel
theorem dX4_readTest_67 : decode cX4_readTest 67 = .ok (.iload 4, 2) := by decide +kernel
theorem dX4_readTest_69 : decode cX4_readTest 69 = .ok (.ifCond .ne 8, 3) := by decide +kernel
theorem dX4_readTest_72 : decode cX4_readTest 72 = .ok (.iconst 1, 1) := by decide +kernel
theorem dX4_readTest_73 : decode cX4_readTest 73 = .ok (.istore_n 2, 1) := by decide +kernel
theorem dX4_readTest_74 : decode cX4_readTest 74 = .ok (.goto 10, 3) := by decide +kernel
theorem dX4_readTest_77 : decode cX4_readTest 77 = .ok (.aload_n 0, 1) := by decide +kernel
theorem dX4_readTest_78 : decode cX4_readTest 78 = .ok (.bipush 12, 2) := by decide +kernel
theorem dX4_readTest_80 : decode cX4_readTest 80 = .ok (.iconst 0, 1) := by decide +kernel
theorem dX4_readTest_81 : decode cX4_readTest 81 = .ok (.invokevirtual 58, 3) := by decide +kernel
theorem dX4_readTest_84 : decode cX4_readTest 84 = .ok (.iinc 3 1, 3) := by decide +kernel
theorem dX4_readTest_87 : decode cX4_readTest 87 = .ok (.goto (-73), 3) := by decide +kernel
theorem dX4_readTest_90 : decode cX4_readTest 90 = .ok (.iload_n 2, 1) := by decide +kernel
theorem dX4_readTest_91 : decode cX4_readTest 91 = .ok (.ifCond .eq 10, 3) := by decide +kernel
theorem dX4_readTest_94 : decode cX4_readTest 94 = .ok (.aload_n 0, 1) := by decide +kernel
theorem dX4_readTest_95 : decode cX4_readTest 95 = .ok (.bipush 13, 2) := by decide +kernel
theorem dX4_readTest_97 : decode cX4_readTest 97 = .ok (.iconst 0, 1) := by decide +kernel
theorem dX4_readTest_98 : decode cX4_readTest 98 = .ok (.invokevirtual 58, 3) := by decide +kernel
theorem dX4_readTest_101 : decode cX4_readTest 101 = .ok (.iconst 1, 1) := by decide +kernel
theorem dX4_readTest_102 : decode cX4_readTest 102 = .ok (.ireturn, 1) := by decide +kernel
theorem dX4_readFact_0 : decode cX4_readFact 0 = .ok (.iload_n 1, 1) := by decide +kernel
theorem dX4_readFact_1 : decode cX4_readFact 1 = .ok (.istore_n 2, 1) := by decide +kernel
theorem dX4_readFact_2 : decode cX4_readFact 2 = .ok (.aload_n 0, 1) := by decide +kernel
theorem dX4_readFact_3 : decode cX4_readFact 3 = .ok (.getfield 15, 3) := by decide +kernel
theorem dX4_readFact_6 : decode cX4_readFact 6 = .ok (.invokevirtual 31, 3) := by decide +kernel
theorem dX4_readFact_9 : decode cX4_readFact 9 = .ok (.pop, 1) := by decide +kernel
theorem dX4_readFact_10 : decode cX4_readFact 10 = .ok (.aload_n 0, 1) := by decide +kernel
theorem dX4_readFact_11 : decode cX4_readFact 11 = .ok (.getfield 15, 3) := by decide +kernel
theorem dX4_readFact_14 : decode cX4_readFact 14 = .ok (.getfield 35, 3) := by decide +kernel
theorem dX4_readFact_17 : decode cX4_readFact 17 = .ok (.istore_n 3, 1) := by decide +kernel
theorem dX4_readFact_18 : decode cX4_readFact 18 = .ok (.iload_n 2, 1) := by decide +kernel
theorem dX4_readFact_19 : decode cX4_readFact 19 = .ok (.bipush 10, 2) := by decide +kernel
theorem dX4_readFact_21 : decode cX4_readFact 21 = .ok (.if_icmp .gt 54, 3) := by decide +kernel
theorem dX4_readFact_24 : decode cX4_readFact 24 = .ok (.aload_n 0, 1) := by decide +kernel
theorem dX4_readFact_25 : decode cX4_readFact 25 = .ok (.getfield 15, 3) := by decide +kernel
theorem dX4_readFact_28 : decode cX4_readFact 28 = .ok (.ldc 82, 2) := by decide +kernel
theorem dX4_readFact_30 : decode cX4_readFact 30 = .ok (.invokevirtual 40, 3) := by decide +kernel
theorem dX4_readFact_33 : decode cX4_readFact 33 = .ok (.iconst (-1), 1) := by decide +kernel
theorem dX4_readFact_34 : decode cX4_readFact 34 = .ok (.if_icmp .eq 41, 3) := by decide +kernel
theorem dX4_readFact_37 : decode cX4_readFact 37 = .ok (.iload_n 2, 1) := by decide +kernel
theorem dX4_readFact_38 : decode cX4_readFact 38 = .ok (.bipush 10, 2) := by decide +kernel
theorem dX4_readFact_40 : decode cX4_readFact 40 = .ok (.if_icmp .ne 13, 3) := by decide +kernel
theorem dX4_readFact_43 : decode cX4_readFact 43 = .ok (.aload_n 0, 1) := by decide +kernel
theorem dX4_readFact_44 : decode cX4_readFact 44 = .ok (.getfield 15, 3) := by decide +kernel
theorem dX4_readFact_47 : decode cX4_readFact 47 = .ok (.iload_n 3, 1) := by decide +kernel
theorem dX4_readFact_48 : decode cX4_readFact 48 = .ok (.iconst 2, 1) := by decide +kernel
theorem dX4_readFact_49 : decode cX4_readFact 49 = .ok (.invokevirtual 44, 3) := by decide +kernel
theorem dX4_readFact_52 : decode cX4_readFact 52 = .ok (.ireturn, 1) := by decide +kernel
theorem dX4_readFact_53 : decode cX4_readFact 53 = .ok (.iinc 2 1, 3) := by decide +kernel
theorem dX4_readFact_56 : decode cX4_readFact 56 = .ok (.aload_n 0, 1) := by decide +kernel
theorem dX4_readFact_57 : decode cX4_readFact 57 = .ok (.getfield 15, 3) := by decide +kernel
theorem dX4_readFact_60 : decode cX4_readFact 60 = .ok (.invokevirtual 31, 3) := by decide +kernel
theorem dX4_readFact_63 : decode cX4_readFact 63 = .ok (.pop, 1) := by decide +kernel
theorem dX4_readFact_64 : decode cX4_readFact 64 = .ok (.aload_n 0, 1) := by decide +kernel
theorem dX4_readFact_65 : decode cX4_readFact 65 = .ok (.getfield 15, 3) := by decide +kernel
theorem dX4_readFact_68 : decode cX4_readFact 68 = .ok (.getfield 35, 3) := by decide +kernel
theorem dX4_readFact_71 : decode cX4_readFact 71 = .ok (.istore_n 3, 1) := by decide +kernel
theorem dX4_readFact_72 : decode cX4_readFact 72 = .ok (.goto (-54), 3) := by decide +kernel
theorem dX4_readFact_75 : decode cX4_readFact 75 = .ok (.aload_n 0, 1) := by decide +kernel
theorem dX4_readFact_76 : decode cX4_readFact 76 = .ok (.getfield 15, 3) := by decide +kernel
theorem dX4_readFact_79 : decode cX4_readFact 79 = .ok (.bipush 91, 2) := by decide +kernel
theorem dX4_readFact_81 : decode cX4_readFact 81 = .ok (.invokevirtual 73, 3) := by decide +kernel
theorem dX4_readFact_84 : decode cX4_readFact 84 = .ok (.istore 4, 2) := by decide +kernel
theorem dX4_readFact_86 : decode cX4_readFact 86 = .ok (.iload 4, 2) := by decide +kernel
theorem dX4_readFact_88 : decode cX4_readFact 88 = .ok (.ifCond .eq 19, 3) := by decide +kernel
theorem dX4_readFact_91 : decode cX4_readFact 91 = .ok (.iload_n 2, 1) := by decide +kernel
theorem dX4_readFact_92 : decode cX4_readFact 92 = .ok (.bipush 10, 2) := by decide +kernel
theorem dX4_readFact_94 : decode cX4_readFact 94 = .ok (.if_icmp .lt 13, 3) := by decide +kernel
theorem dX4_readFact_97 : decode cX4_readFact 97 = .ok (.aload_n 0, 1) := by decide +kernel
theorem dX4_readFact_98 : decode cX4_readFact 98 = .ok (.getfield 15, 3) := by decide +kernel
theorem dX4_readFact_101 : decode cX4_readFact 101 = .ok (.iload_n 3, 1) := by decide +kernel
theorem dX4_readFact_102 : decode cX4_readFact 102 = .ok (.iconst 2, 1) := by decide +kernel
theorem dX4_readFact_103 : decode cX4_readFact 103 = .ok (.invokevirtual 44, 3) := by decide +kernel
theorem dX4_readFact_106 : decode cX4_readFact 106 = .ok (.ireturn, 1) := by decide +kernel
theorem dX4_readFact_107 : decode cX4_readFact 107 = .ok (.iload 4, 2) := by decide +kernel
theorem dX4_readFact_109 : decode cX4_readFact 109 = .ok (.ifCond .eq 16, 3) := by decide +kernel
theorem dX4_readFact_112 : decode cX4_readFact 112 = .ok (.aload_n 0, 1) := by decide +kernel
theorem dX4_readFact_113 : decode cX4_readFact 113 = .ok (.iload_n 2, 1) := by decide +kernel
theorem dX4_readFact_114 : decode cX4_readFact 114 = .ok (.iconst 1, 1) := by decide +kernel
theorem dX4_readFact_115 : decode cX4_readFact 115 = .ok (.iadd, 1) := by decide +kernel
theorem dX4_readFact_116 : decode cX4_readFact 116 = .ok (.invokevirtual 84, 3) := by decide +kernel
theorem dX4_readFact_119 : decode cX4_readFact 119 = .ok (.ifCond .eq 13, 3) := by decide +kernel
theorem dX4_readFact_122 : decode cX4_readFact 122 = .ok (.goto 12, 3) := by decide +kernel
theorem dX4_readFact_125 : decode cX4_readFact 125 = .ok (.aload_n 0, 1) := by decide +kernel
theorem dX4_readFact_126 : decode cX4_readFact 126 = .ok (.invokevirtual 87, 3) := by decide +kernel
theorem dX4_readFact_129 : decode cX4_readFact 129 = .ok (.ifCond .ne 5, 3) := by decide +kernel
theorem dX4_readFact_132 : decode cX4_readFact 132 = .ok (.iconst 0, 1) := by decide +kernel
theorem dX4_readFact_133 : decode cX4_readFact 133 = .ok (.ireturn, 1) := by decide +kernel
theorem dX4_readFact_134 : decode cX4_readFact 134 = .ok (.iload_n 1, 1) := by decide +kernel
theorem dX4_readFact_135 : decode cX4_readFact 135 = .ok (.istore 5, 2) := by decide +kernel
theorem dX4_readFact_137 : decode cX4_readFact 137 = .ok (.iload 5, 2) := by decide +kernel
theorem dX4_readFact_139 : decode cX4_readFact 139 = .ok (.iload_n 2, 1) := by decide +kernel
theorem dX4_readFact_140 : decode cX4_readFact 140 = .ok (.if_icmp .ge 16, 3) := by decide +kernel
theorem dX4_readFact_143 : decode cX4_readFact 143 = .ok (.aload_n 0, 1) := by decide +kernel
theorem dX4_readFact_144 : decode cX4_readFact 144 = .ok (.bipush 14, 2) := by decide +kernel
theorem dX4_readFact_146 : decode cX4_readFact 146 = .ok (.iconst 0, 1) := by decide +kernel
theorem dX4_readFact_147 : decode cX4_readFact 147 = .ok (.invokevirtual 58, 3) := by decide +kernel
theorem dX4_readFact_150 : decode cX4_readFact 150 = .ok (.iinc 5 1, 3) := by decide +kernel
theorem dX4_readFact_153 : decode cX4_readFact 153 = .ok (.goto (-16), 3) := by decide +kernel
theorem dX4_readFact_156 : decode cX4_readFact 156 = .ok (.iconst 1, 1) := by decide +kernel
theorem dX4_readFact_157 : decode cX4_readFact 157 = .ok (.ireturn, 1) := by decide +kernel
theorem dX4_readBrackets_0 : decode cX4_readBrackets 0 = .ok (.aload_n 0, 1) := by decide +kernel
theorem dX4_readBrackets_1 : decode cX4_readBrackets 1 = .ok (.iload_n 1, 1) := by decide +kernel
theorem dX4_readBrackets_2 : decode cX4_readBrackets 2 = .ok (.invokevirtual 54, 3) := by decide +kernel
theorem dX4_readBrackets_5 : decode cX4_readBrackets 5 = .ok (.ifCond .eq 37, 3) := by decide +kernel
theorem dX4_readBrackets_8 : decode cX4_readBrackets 8 = .ok (.aload_n 0, 1) := by decide +kernel
theorem dX4_readBrackets_9 : decode cX4_readBrackets 9 = .ok (.getfield 15, 3) := by decide +kernel
theorem dX4_readBrackets_12 : decode cX4_readBrackets 12 = .ok (.bipush 93, 2) := by decide +kernel
theorem dX4_readBrackets_14 : decode cX4_readBrackets 14 = .ok (.invokevirtual 73, 3) := by decide +kernel
theorem dX4_readBrackets_17 : decode cX4_readBrackets 17 = .ok (.ifCond .ne 21, 3) := by decide +kernel
theorem dX4_readBrackets_20 : decode cX4_readBrackets 20 = .ok (.aload_n 0, 1) := by decide +kernel
theorem dX4_readBrackets_21 : decode cX4_readBrackets 21 = .ok (.getfield 15, 3) := by decide +kernel
theorem dX4_readBrackets_24 : decode cX4_readBrackets 24 = .ok (.aload_n 0, 1) := by decide +kernel
theorem dX4_readBrackets_25 : decode cX4_readBrackets 25 = .ok (.getfield 15, 3) := by decide +kernel
theorem dX4_readBrackets_28 : decode cX4_readBrackets 28 = .ok (.getfield 35, 3) := by decide +kernel
theorem dX4_readBrackets_31 : decode cX4_readBrackets 31 = .ok (.iconst 0, 1) := by decide +kernel
theorem dX4_readBrackets_32 : decode cX4_readBrackets 32 = .ok (.invokevirtual 44, 3) := by decide +kernel
theorem dX4_readBrackets_35 : decode cX4_readBrackets 35 = .ok (.ifCond .eq 7, 3) := by decide +kernel
theorem dX4_readBrackets_38 : decode cX4_readBrackets 38 = .ok (.iconst 1, 1) := by decide +kernel
theorem dX4_readBrackets_39 : decode cX4_readBrackets 39 = .ok (.goto 4, 3) := by decide +kernel
theorem dX4_readBrackets_42 : decode cX4_readBrackets 42 = .ok (.iconst 0, 1) := by decide +kernel
theorem dX4_readBrackets_43 : decode cX4_readBrackets 43 = .ok (.ireturn, 1) := by decide +kernel
theorem dX4_readComparison_0 : decode cX4_readComparison 0 = .ok (.aload_n 0, 1) := by decide +kernel
theorem dX4_readComparison_1 : decode cX4_readComparison 1 = .ok (.invokevirtual 48, 3) := by decide +kernel
theorem dX4_readComparison_4 : decode cX4_readComparison 4 = .ok (.ifCond .ne 5, 3) := by decide +kernel
theorem dX4_readComparison_7 : decode cX4_readComparison 7 = .ok (.iconst 0, 1) := by decide +kernel
theorem dX4_readComparison_8 : decode cX4_readComparison 8 = .ok (.ireturn, 1) := by decide +kernel
theorem dX4_readComparison_9 : decode cX4_readComparison 9 = .ok (.aload_n 0, 1) := by decide +kernel
theorem dX4_readComparison_10 : decode cX4_readComparison 10 = .ok (.getfield 15, 3) := by decide +kernel
theorem dX4_readComparison_13 : decode cX4_readComparison 13 = .ok (.invokevirtual 31, 3) := by decide +kernel
theorem dX4_readComparison_16 : decode cX4_readComparison 16 = .ok (.pop, 1) := by decide +kernel
theorem dX4_readComparison_17 : decode cX4_readComparison 17 = .ok (.aload_n 0, 1) := by decide +kernel
theorem dX4_readComparison_18 : decode cX4_readComparison 18 = .ok (.getfield 15, 3) := by decide +kernel
theorem dX4_readComparison_21 : decode cX4_readComparison 21 = .ok (.getfield 35, 3) := by decide +kernel
theorem dX4_readComparison_24 : decode cX4_readComparison 24 = .ok (.istore_n 1, 1) := by decide +kernel
theorem dX4_readComparison_25 : decode cX4_readComparison 25 = .ok (.aload_n 0, 1) := by decide +kernel
theorem dX4_readComparison_26 : decode cX4_readComparison 26 = .ok (.invokevirtual 90, 3) := by decide +kernel
theorem dX4_readComparison_29 : decode cX4_readComparison 29 = .ok (.istore_n 2, 1) := by decide +kernel
theorem dX4_readComparison_30 : decode cX4_readComparison 30 = .ok (.iload_n 2, 1) := by decide +kernel
theorem dX4_readComparison_31 : decode cX4_readComparison 31 = .ok (.iconst (-1), 1) := by decide +kernel
theorem dX4_readComparison_32 : decode cX4_readComparison 32 = .ok (.if_icmp .ne 13, 3) := by decide +kernel
theorem dX4_readComparison_35 : decode cX4_readComparison 35 = .ok (.aload_n 0, 1) := by decide +kernel
theorem dX4_readComparison_36 : decode cX4_readComparison 36 = .ok (.getfield 15, 3) := by decide +kernel
theorem dX4_readComparison_39 : decode cX4_readComparison 39 = .ok (.iload_n 1, 1) := by decide +kernel
theorem dX4_readComparison_40 : decode cX4_readComparison 40 = .ok (.iconst 0, 1) := by decide +kernel
theorem dX4_readComparison_41 : decode cX4_readComparison 41 = .ok (.invokevirtual 44, 3) := by decide +kernel
theorem dX4_readComparison_44 : decode cX4_readComparison 44 = .ok (.ireturn, 1) := by decide +kernel
theorem dX4_readComparison_45 : decode cX4_readComparison 45 = .ok (.aload_n 0, 1) := by decide +kernel
theorem dX4_readComparison_46 : decode cX4_readComparison 46 = .ok (.iload_n 1, 1) := by decide +kernel
theorem dX4_readComparison_47 : decode cX4_readComparison 47 = .ok (.invokevirtual 93, 3) := by decide +kernel
theorem dX4_readComparison_50 : decode cX4_readComparison 50 = .ok (.ifCond .eq 10, 3) := by decide +kernel
theorem dX4_readComparison_53 : decode cX4_readComparison 53 = .ok (.aload_n 0, 1) := by decide +kernel
theorem dX4_readComparison_54 : decode cX4_readComparison 54 = .ok (.invokevirtual 48, 3) := by decide +kernel
theorem dX4_readComparison_57 : decode cX4_readComparison 57 = .ok (.ifCond .ne 5, 3) := by decide +kernel
theorem dX4_readComparison_60 : decode cX4_readComparison 60 = .ok (.iconst 0, 1) := by decide +kernel
theorem dX4_readComparison_61 : decode cX4_readComparison 61 = .ok (.ireturn, 1) := by decide +kernel
theorem dX4_readComparison_62 : decode cX4_readComparison 62 = .ok (.aload_n 0, 1) := by decide +kernel
theorem dX4_readComparison_63 : decode cX4_readComparison 63 = .ok (.iload_n 2, 1) := by decide +kernel
theorem dX4_readComparison_64 : decode cX4_readComparison 64 = .ok (.iconst 0, 1) := by decide +kernel
theorem dX4_readComparison_65 : decode cX4_readComparison 65 = .ok (.invokevirtual 58, 3) := by decide +kernel
theorem dX4_readComparison_68 : decode cX4_readComparison 68 = .ok (.iconst 1, 1) := by decide +kernel
theorem dX4_readComparison_69 : decode cX4_readComparison 69 = .ok (.ireturn, 1) := by decide +kernel
theorem dX4_takeComparison_0 : decode cX4_takeComparison 0 = .ok (.aload_n 0, 1) := by decide +kernel
theorem dX4_takeComparison_1 : decode cX4_takeComparison 1 = .ok (.getfield 15, 3) := by decide +kernel
theorem dX4_takeComparison_4 : decode cX4_takeComparison 4 = .ok (.bipush 61, 2) := by decide +kernel
theorem dX4_takeComparison_6 : decode cX4_takeComparison 6 = .ok (.invokevirtual 73, 3) := by decide +kernel
theorem dX4_takeComparison_9 : decode cX4_takeComparison 9 = .ok (.ifCond .eq 6, 3) := by decide +kernel
theorem dX4_takeComparison_12 : decode cX4_takeComparison 12 = .ok (.bipush 9, 2) := by decide +kernel
theorem dX4_takeComparison_14 : decode cX4_takeComparison 14 = .ok (.ireturn, 1) := by decide +kernel
theorem dX4_takeComparison_15 : decode cX4_takeComparison 15 = .ok (.aload_n 0, 1) := by decide +kernel
theorem dX4_takeComparison_16 : decode cX4_takeComparison 16 = .ok (.getfield 15, 3) := by decide +kernel
theorem dX4_takeComparison_19 : decode cX4_takeComparison 19 = .ok (.bipush 60, 2) := by decide +kernel
theorem dX4_takeComparison_21 : decode cX4_takeComparison 21 = .ok (.invokevirtual 73, 3) := by decide +kernel
theorem dX4_takeComparison_24 : decode cX4_takeComparison 24 = .ok (.istore_n 1, 1) := by decide +kernel
theorem dX4_takeComparison_25 : decode cX4_takeComparison 25 = .ok (.iload_n 1, 1) := by decide +kernel
theorem dX4_takeComparison_26 : decode cX4_takeComparison 26 = .ok (.ifCond .ne 17, 3) := by decide +kernel
theorem dX4_takeComparison_29 : decode cX4_takeComparison 29 = .ok (.aload_n 0, 1) := by decide +kernel
theorem dX4_takeComparison_30 : decode cX4_takeComparison 30 = .ok (.getfield 15, 3) := by decide +kernel
theorem dX4_takeComparison_33 : decode cX4_takeComparison 33 = .ok (.bipush 62, 2) := by decide +kernel
theorem dX4_takeComparison_35 : decode cX4_takeComparison 35 = .ok (.invokevirtual 73, 3) := by decide +kernel
theorem dX4_takeComparison_38 : decode cX4_takeComparison 38 = .ok (.ifCond .ne 5, 3) := by decide +kernel
theorem dX4_takeComparison_41 : decode cX4_takeComparison 41 = .ok (.iconst (-1), 1) := by decide +kernel
theorem dX4_takeComparison_42 : decode cX4_takeComparison 42 = .ok (.ireturn, 1) := by decide +kernel
theorem dX4_takeComparison_43 : decode cX4_takeComparison 43 = .ok (.aload_n 0, 1) := by decide +kernel
theorem dX4_takeComparison_44 : decode cX4_takeComparison 44 = .ok (.getfield 15, 3) := by decide +kernel
theorem dX4_takeComparison_47 : decode cX4_takeComparison 47 = .ok (.getfield 35, 3) := by decide +kernel
theorem dX4_takeComparison_50 : decode cX4_takeComparison 50 = .ok (.aload_n 0, 1) := by decide +kernel
theorem dX4_takeComparison_51 : decode cX4_takeComparison 51 = .ok (.getfield 15, 3) := by decide +kernel
theorem dX4_takeComparison_54 : decode cX4_takeComparison 54 = .ok (.getfield 96, 3) := by decide +kernel
theorem dX4_takeComparison_57 : decode cX4_takeComparison 57 = .ok (.if_icmp .ge 27, 3) := by decide +kernel
theorem dX4_takeComparison_60 : decode cX4_takeComparison 60 = .ok (.aload_n 0, 1) := by decide +kernel
theorem dX4_takeComparison_61 : decode cX4_takeComparison 61 = .ok (.getfield 15, 3) := by decide +kernel
theorem dX4_takeComparison_64 : decode cX4_takeComparison 64 = .ok (.getfield 99, 3) := by decide +kernel
theorem dX4_takeComparison_67 : decode cX4_takeComparison 67 = .ok (.aload_n 0, 1) := by decide +kernel
theorem dX4_takeComparison_68 : decode cX4_takeComparison 68 = .ok (.getfield 15, 3) := by decide +kernel
theorem dX4_takeComparison_71 : decode cX4_takeComparison 71 = .ok (.getfield 35, 3) := by decide +kernel
theorem dX4_takeComparison_74 : decode cX4_takeComparison 74 = .ok (.iaload, 1) := by decide +kernel
theorem dX4_takeComparison_75 : decode cX4_takeComparison 75 = .ok (.bipush 61, 2) := by decide +kernel
theorem dX4_takeComparison_77 : decode cX4_takeComparison 77 = .ok (.if_icmp .ne 7, 3) := by decide +kernel
theorem dX4_takeComparison_80 : decode cX4_takeComparison 80 = .ok (.iconst 1, 1) := by decide +kernel
theorem dX4_takeComparison_81 : decode cX4_takeComparison 81 = .ok (.goto 4, 3) := by decide +kernel
theorem dX4_takeComparison_84 : decode cX4_takeComparison 84 = .ok (.iconst 0, 1) := by decide +kernel
theorem dX4_takeComparison_85 : decode cX4_takeComparison 85 = .ok (.istore_n 2, 1) := by decide +kernel
theorem dX4_takeComparison_86 : decode cX4_takeComparison 86 = .ok (.iload_n 2, 1) := by decide +kernel
theorem dX4_takeComparison_87 : decode cX4_takeComparison 87 = .ok (.ifCond .eq 28, 3) := by decide +kernel
theorem dX4_takeComparison_90 : decode cX4_takeComparison 90 = .ok (.aload_n 0, 1) := by decide +kernel
theorem dX4_takeComparison_91 : decode cX4_takeComparison 91 = .ok (.getfield 15, 3) := by decide +kernel
theorem dX4_takeComparison_94 : decode cX4_takeComparison 94 = .ok (.dup, 1) := by decide +kernel
theorem dX4_takeComparison_95 : decode cX4_takeComparison 95 = .ok (.getfield 35, 3) := by decide +kernel
theorem dX4_takeComparison_98 : decode cX4_takeComparison 98 = .ok (.iconst 1, 1) := by decide +kernel
theorem dX4_takeComparison_99 : decode cX4_takeComparison 99 = .ok (.iadd, 1) := by decide +kernel
theorem dX4_takeComparison_100 : decode cX4_takeComparison 100 = .ok (.putfield 35, 3) := by decide +kernel
theorem dX4_takeComparison_103 : decode cX4_takeComparison 103 = .ok (.iload_n 1, 1) := by decide +kernel
theorem dX4_takeComparison_104 : decode cX4_takeComparison 104 = .ok (.ifCond .eq 8, 3) := by decide +kernel
theorem dX4_takeComparison_107 : decode cX4_takeComparison 107 = .ok (.bipush 8, 2) := by decide +kernel
theorem dX4_takeComparison_109 : decode cX4_takeComparison 109 = .ok (.goto 5, 3) := by decide +kernel
theorem dX4_takeComparison_112 : decode cX4_takeComparison 112 = .ok (.bipush 10, 2) := by decide +kernel
theorem dX4_takeComparison_114 : decode cX4_takeComparison 114 = .ok (.ireturn, 1) := by decide +kernel
theorem dX4_takeComparison_115 : decode cX4_takeComparison 115 = .ok (.iload_n 1, 1) := by decide +kernel
theorem dX4_takeComparison_116 : decode cX4_takeComparison 116 = .ok (.ifCond .eq 8, 3) := by decide +kernel
theorem dX4_takeComparison_119 : decode cX4_takeComparison 119 = .ok (.bipush 7, 2) := by decide +kernel
theorem dX4_takeComparison_121 : decode cX4_takeComparison 121 = .ok (.goto 5, 3) := by decide +kernel
theorem dX4_takeComparison_124 : decode cX4_takeComparison 124 = .ok (.bipush 11, 2) := by decide +kernel
theorem dX4_takeComparison_126 : decode cX4_takeComparison 126 = .ok (.ireturn, 1) := by decide +kernel
theorem dX4_readSum_0 : decode cX4_readSum 0 = .ok (.aload_n 0, 1) := by decide +kernel
theorem dX4_readSum_1 : decode cX4_readSum 1 = .ok (.invokevirtual 102, 3) := by decide +kernel
theorem dX4_readSum_4 : decode cX4_readSum 4 = .ok (.ifCond .ne 5, 3) := by decide +kernel
theorem dX4_readSum_7 : decode cX4_readSum 7 = .ok (.iconst 0, 1) := by decide +kernel
theorem dX4_readSum_8 : decode cX4_readSum 8 = .ok (.ireturn, 1) := by decide +kernel
theorem dX4_readSum_9 : decode cX4_readSum 9 = .ok (.iconst (-1), 1) := by decide +kernel
theorem dX4_readSum_10 : decode cX4_readSum 10 = .ok (.istore_n 1, 1) := by decide +kernel
theorem dX4_readSum_11 : decode cX4_readSum 11 = .ok (.iconst 0, 1) := by decide +kernel
theorem dX4_readSum_12 : decode cX4_readSum 12 = .ok (.istore_n 2, 1) := by decide +kernel
theorem dX4_readSum_13 : decode cX4_readSum 13 = .ok (.iload_n 2, 1) := by decide +kernel
theorem dX4_readSum_14 : decode cX4_readSum 14 = .ok (.sipush 400, 3) := by decide +kernel
theorem dX4_readSum_17 : decode cX4_readSum 17 = .ok (.if_icmp .ge 80, 3) := by decide +kernel
theorem dX4_readSum_20 : decode cX4_readSum 20 = .ok (.aload_n 0, 1) := by decide +kernel
theorem dX4_readSum_21 : decode cX4_readSum 21 = .ok (.invokevirtual 105, 3) := by decide +kernel
theorem dX4_readSum_24 : decode cX4_readSum 24 = .ok (.istore_n 3, 1) := by decide +kernel
theorem dX4_readSum_25 : decode cX4_readSum 25 = .ok (.iload_n 3, 1) := by decide +kernel
theorem dX4_readSum_26 : decode cX4_readSum 26 = .ok (.iconst (-1), 1) := by decide +kernel
theorem dX4_readSum_27 : decode cX4_readSum 27 = .ok (.if_icmp .ne 6, 3) := by decide +kernel
theorem dX4_readSum_30 : decode cX4_readSum 30 = .ok (.goto 67, 3) := by decide +kernel
theorem dX4_readSum_33 : decode cX4_readSum 33 = .ok (.iload_n 3, 1) := by decide +kernel
theorem dX4_readSum_34 : decode cX4_readSum 34 = .ok (.iconst 2, 1) := by decide +kernel
theorem dX4_readSum_35 : decode cX4_readSum 35 = .ok (.if_icmp .eq 8, 3) := by decide +kernel
theorem dX4_readSum_38 : decode cX4_readSum 38 = .ok (.iload_n 3, 1) := by decide +kernel
theorem dX4_readSum_39 : decode cX4_readSum 39 = .ok (.iconst 3, 1) := by decide +kernel
theorem dX4_readSum_40 : decode cX4_readSum 40 = .ok (.if_icmp .ne 7, 3) := by decide +kernel
theorem dX4_readSum_43 : decode cX4_readSum 43 = .ok (.iconst 1, 1) := by decide +kernel
theorem dX4_readSum_44 : decode cX4_readSum 44 = .ok (.goto 4, 3) := by decide +kernel
theorem dX4_readSum_47 : decode cX4_readSum 47 = .ok (.iconst 0, 1) := by decide +kernel
theorem dX4_readSum_48 : decode cX4_readSum 48 = .ok (.istore 4, 2) := by decide +kernel
theorem dX4_readSum_50 : decode cX4_readSum 50 = .ok (.iload 4, 2) := by decide +kernel
theorem dX4_readSum_52 : decode cX4_readSum 52 = .ok (.ifCond .eq 14, 3) := by decide +kernel
theorem dX4_readSum_55 : decode cX4_readSum 55 = .ok (.iload_n 1, 1) := by decide +kernel
theorem dX4_readSum_56 : decode cX4_readSum 56 = .ok (.iconst (-1), 1) := by decide +kernel
theorem dX4_readSum_57 : decode cX4_readSum 57 = .ok (.if_icmp .eq 9, 3) := by decide +kernel
theorem dX4_readSum_60 : decode cX4_readSum 60 = .ok (.aload_n 0, 1) := by decide +kernel
theorem dX4_readSum_61 : decode cX4_readSum 61 = .ok (.iload_n 1, 1) := by decide +kernel
theorem dX4_readSum_62 : decode cX4_readSum 62 = .ok (.iconst 0, 1) := by decide +kernel
theorem dX4_readSum_63 : decode cX4_readSum 63 = .ok (.invokevirtual 58, 3) := by decide +kernel
theorem dX4_readSum_66 : decode cX4_readSum 66 = .ok (.aload_n 0, 1) := by decide +kernel
theorem dX4_readSum_67 : decode cX4_readSum 67 = .ok (.invokevirtual 102, 3) := by decide +kernel
theorem dX4_readSum_70 : decode cX4_readSum 70 = .ok (.ifCond .ne 5, 3) := by decide +kernel
theorem dX4_readSum_73 : decode cX4_readSum 73 = .ok (.iconst 0, 1) := by decide +kernel
theorem dX4_readSum_74 : decode cX4_readSum 74 = .ok (.ireturn, 1) := by decide +kernel
theorem dX4_readSum_75 : decode cX4_readSum 75 = .ok (.iload 4, 2) := by decide +kernel
theorem dX4_readSum_77 : decode cX4_readSum 77 = .ok (.ifCond .eq 8, 3) := by decide +kernel
theorem dX4_readSum_80 : decode cX4_readSum 80 = .ok (.iload_n 3, 1) := by decide +kernel
theorem dX4_readSum_81 : decode cX4_readSum 81 = .ok (.istore_n 1, 1) := by decide +kernel
theorem dX4_readSum_82 : decode cX4_readSum 82 = .ok (.goto 9, 3) := by decide +kernel
theorem dX4_readSum_85 : decode cX4_readSum 85 = .ok (.aload_n 0, 1) := by decide +kernel
theorem dX4_readSum_86 : decode cX4_readSum 86 = .ok (.iload_n 3, 1) := by decide +kernel
theorem dX4_readSum_87 : decode cX4_readSum 87 = .ok (.iconst 0, 1) := by decide +kernel
theorem dX4_readSum_88 : decode cX4_readSum 88 = .ok (.invokevirtual 58, 3) := by decide +kernel
theorem dX4_readSum_91 : decode cX4_readSum 91 = .ok (.iinc 2 1, 3) := by decide +kernel
theorem dX4_readSum_94 : decode cX4_readSum 94 = .ok (.goto (-81), 3) := by decide +kernel
theorem dX4_readSum_97 : decode cX4_readSum 97 = .ok (.iload_n 1, 1) := by decide +kernel
theorem dX4_readSum_98 : decode cX4_readSum 98 = .ok (.iconst (-1), 1) := by decide +kernel
theorem dX4_readSum_99 : decode cX4_readSum 99 = .ok (.if_icmp .eq 9, 3) := by decide +kernel
theorem dX4_readSum_102 : decode cX4_readSum 102 = .ok (.aload_n 0, 1) := by decide +kernel
theorem dX4_readSum_103 : decode cX4_readSum 103 = .ok (.iload_n 1, 1) := by decide +kernel
theorem dX4_readSum_104 : decode cX4_readSum 104 = .ok (.iconst 0, 1) := by decide +kernel
theorem dX4_readSum_105 : decode cX4_readSum 105 = .ok (.invokevirtual 58, 3) := by decide +kernel
theorem dX4_readSum_108 : decode cX4_readSum 108 = .ok (.iconst 1, 1) := by decide +kernel
theorem dX4_readSum_109 : decode cX4_readSum 109 = .ok (.ireturn, 1) := by decide +kernel
theorem dX4_takeOperation_0 : decode cX4_takeOperation 0 = .ok (.iconst (-1), 1) := by decide +kernel
theorem dX4_takeOperation_1 : decode cX4_takeOperation 1 = .ok (.istore_n 1, 1) := by decide +kernel
theorem dX4_takeOperation_2 : decode cX4_takeOperation 2 = .ok (.aload_n 0, 1) := by decide +kernel
theorem dX4_takeOperation_3 : decode cX4_takeOperation 3 = .ok (.getfield 15, 3) := by decide +kernel
theorem dX4_takeOperation_6 : decode cX4_takeOperation 6 = .ok (.invokevirtual 31, 3) := by decide +kernel
theorem dX4_takeOperation_9 : decode cX4_takeOperation 9 = .ok (.tableswitch 85 37 47 #[79, 85, 85, 85, 85, 69, 59, 85, 64, 85, 74], 59) := by decide +kernel
theorem dX4_takeOperation_68 : decode cX4_takeOperation 68 = .ok (.iconst 2, 1) := by decide +kernel
theorem dX4_takeOperation_69 : decode cX4_takeOperation 69 = .ok (.istore_n 1, 1) := by decide +kernel
theorem dX4_takeOperation_70 : decode cX4_takeOperation 70 = .ok (.goto 26, 3) := by decide +kernel
theorem dX4_takeOperation_73 : decode cX4_takeOperation 73 = .ok (.iconst 3, 1) := by decide +kernel
theorem dX4_takeOperation_74 : decode cX4_takeOperation 74 = .ok (.istore_n 1, 1) := by decide +kernel
theorem dX4_takeOperation_75 : decode cX4_takeOperation 75 = .ok (.goto 21, 3) := by decide +kernel
theorem dX4_takeOperation_78 : decode cX4_takeOperation 78 = .ok (.iconst 4, 1) := by decide +kernel
theorem dX4_takeOperation_79 : decode cX4_takeOperation 79 = .ok (.istore_n 1, 1) := by decide +kernel
theorem dX4_takeOperation_80 : decode cX4_takeOperation 80 = .ok (.goto 16, 3) := by decide +kernel
theorem dX4_takeOperation_83 : decode cX4_takeOperation 83 = .ok (.iconst 5, 1) := by decide +kernel
theorem dX4_takeOperation_84 : decode cX4_takeOperation 84 = .ok (.istore_n 1, 1) := by decide +kernel
theorem dX4_takeOperation_85 : decode cX4_takeOperation 85 = .ok (.goto 11, 3) := by decide +kernel
theorem dX4_takeOperation_88 : decode cX4_takeOperation 88 = .ok (.bipush 6, 2) := by decide +kernel
theorem dX4_takeOperation_90 : decode cX4_takeOperation 90 = .ok (.istore_n 1, 1) := by decide +kernel
theorem dX4_takeOperation_91 : decode cX4_takeOperation 91 = .ok (.goto 5, 3) := by decide +kernel
theorem dX4_takeOperation_94 : decode cX4_takeOperation 94 = .ok (.iconst (-1), 1) := by decide +kernel
theorem dX4_takeOperation_95 : decode cX4_takeOperation 95 = .ok (.ireturn, 1) := by decide +kernel
theorem dX4_takeOperation_96 : decode cX4_takeOperation 96 = .ok (.aload_n 0, 1) := by decide +kernel
theorem dX4_takeOperation_97 : decode cX4_takeOperation 97 = .ok (.getfield 15, 3) := by decide +kernel
theorem dX4_takeOperation_100 : decode cX4_takeOperation 100 = .ok (.dup, 1) := by decide +kernel
theorem dX4_takeOperation_101 : decode cX4_takeOperation 101 = .ok (.getfield 35, 3) := by decide +kernel
theorem dX4_takeOperation_104 : decode cX4_takeOperation 104 = .ok (.iconst 1, 1) := by decide +kernel
theorem dX4_takeOperation_105 : decode cX4_takeOperation 105 = .ok (.iadd, 1) := by decide +kernel
theorem dX4_takeOperation_106 : decode cX4_takeOperation 106 = .ok (.putfield 35, 3) := by decide +kernel
theorem dX4_takeOperation_109 : decode cX4_takeOperation 109 = .ok (.iload_n 1, 1) := by decide +kernel
theorem dX4_takeOperation_110 : decode cX4_takeOperation 110 = .ok (.ireturn, 1) := by decide +kernel
theorem dX4_readValue_0 : decode cX4_readValue 0 = .ok (.aload_n 0, 1) := by decide +kernel
theorem dX4_readValue_1 : decode cX4_readValue 1 = .ok (.getfield 15, 3) := by decide +kernel
theorem dX4_readValue_4 : decode cX4_readValue 4 = .ok (.invokevirtual 31, 3) := by decide +kernel
theorem dX4_readValue_7 : decode cX4_readValue 7 = .ok (.istore_n 1, 1) := by decide +kernel
theorem dX4_readValue_8 : decode cX4_readValue 8 = .ok (.aload_n 0, 1) := by decide +kernel
theorem dX4_readValue_9 : decode cX4_readValue 9 = .ok (.getfield 15, 3) := by decide +kernel
theorem dX4_readValue_12 : decode cX4_readValue 12 = .ok (.getfield 35, 3) := by decide +kernel
theorem dX4_readValue_15 : decode cX4_readValue 15 = .ok (.istore_n 2, 1) := by decide +kernel
theorem dX4_readValue_16 : decode cX4_readValue 16 = .ok (.iload_n 1, 1) := by decide +kernel
theorem dX4_readValue_17 : decode cX4_readValue 17 = .ok (.invokestatic 108, 3) := by decide +kernel
theorem dX4_readValue_20 : decode cX4_readValue 20 = .ok (.ifCond .eq 30, 3) := by decide +kernel
theorem dX4_readValue_23 : decode cX4_readValue 23 = .ok (.aload_n 0, 1) := by decide +kernel
theorem dX4_readValue_24 : decode cX4_readValue 24 = .ok (.getfield 15, 3) := by decide +kernel
theorem dX4_readValue_27 : decode cX4_readValue 27 = .ok (.iconst 0, 1) := by decide +kernel
theorem dX4_readValue_28 : decode cX4_readValue 28 = .ok (.ldc 111, 2) := by decide +kernel
theorem dX4_readValue_30 : decode cX4_readValue 30 = .ok (.invokevirtual 112, 3) := by decide +kernel
theorem dX4_readValue_33 : decode cX4_readValue 33 = .ok (.istore_n 3, 1) := by decide +kernel
theorem dX4_readValue_34 : decode cX4_readValue 34 = .ok (.iload_n 3, 1) := by decide +kernel
theorem dX4_readValue_35 : decode cX4_readValue 35 = .ok (.iconst (-1), 1) := by decide +kernel
theorem dX4_readValue_36 : decode cX4_readValue 36 = .ok (.if_icmp .ne 5, 3) := by decide +kernel
theorem dX4_readValue_39 : decode cX4_readValue 39 = .ok (.iconst 0, 1) := by decide +kernel
theorem dX4_readValue_40 : decode cX4_readValue 40 = .ok (.ireturn, 1) := by decide +kernel
theorem dX4_readValue_41 : decode cX4_readValue 41 = .ok (.aload_n 0, 1) := by decide +kernel
theorem dX4_readValue_42 : decode cX4_readValue 42 = .ok (.iconst 0, 1) := by decide +kernel
theorem dX4_readValue_43 : decode cX4_readValue 43 = .ok (.iload_n 3, 1) := by decide +kernel
theorem dX4_readValue_44 : decode cX4_readValue 44 = .ok (.invokevirtual 58, 3) := by decide +kernel
theorem dX4_readValue_47 : decode cX4_readValue 47 = .ok (.goto 34, 3) := by decide +kernel
theorem dX4_readValue_50 : decode cX4_readValue 50 = .ok (.aload_n 0, 1) := by decide +kernel
theorem dX4_readValue_51 : decode cX4_readValue 51 = .ok (.getfield 15, 3) := by decide +kernel
theorem dX4_readValue_54 : decode cX4_readValue 54 = .ok (.ldc 116, 2) := by decide +kernel
theorem dX4_readValue_56 : decode cX4_readValue 56 = .ok (.invokevirtual 40, 3) := by decide +kernel
theorem dX4_readValue_59 : decode cX4_readValue 59 = .ok (.istore_n 3, 1) := by decide +kernel
theorem dX4_readValue_60 : decode cX4_readValue 60 = .ok (.iload_n 3, 1) := by decide +kernel
theorem dX4_readValue_61 : decode cX4_readValue 61 = .ok (.iconst (-1), 1) := by decide +kernel
theorem dX4_readValue_62 : decode cX4_readValue 62 = .ok (.if_icmp .ne 13, 3) := by decide +kernel
theorem dX4_readValue_65 : decode cX4_readValue 65 = .ok (.aload_n 0, 1) := by decide +kernel
theorem dX4_readValue_66 : decode cX4_readValue 66 = .ok (.getfield 15, 3) := by decide +kernel
theorem dX4_readValue_69 : decode cX4_readValue 69 = .ok (.iload_n 2, 1) := by decide +kernel
theorem dX4_readValue_70 : decode cX4_readValue 70 = .ok (.iconst 0, 1) := by decide +kernel
theorem dX4_readValue_71 : decode cX4_readValue 71 = .ok (.invokevirtual 44, 3) := by decide +kernel
theorem dX4_readValue_74 : decode cX4_readValue 74 = .ok (.ireturn, 1) := by decide +kernel
theorem dX4_readValue_75 : decode cX4_readValue 75 = .ok (.aload_n 0, 1) := by decide +kernel
theorem dX4_readValue_76 : decode cX4_readValue 76 = .ok (.iconst 1, 1) := by decide +kernel
theorem dX4_readValue_77 : decode cX4_readValue 77 = .ok (.iload_n 3, 1) := by decide +kernel
theorem dX4_readValue_78 : decode cX4_readValue 78 = .ok (.invokevirtual 58, 3) := by decide +kernel
theorem dX4_readValue_81 : decode cX4_readValue 81 = .ok (.aload_n 0, 1) := by decide +kernel
theorem dX4_readValue_82 : decode cX4_readValue 82 = .ok (.iload_n 2, 1) := by decide +kernel
theorem dX4_readValue_83 : decode cX4_readValue 83 = .ok (.invokevirtual 93, 3) := by decide +kernel
theorem dX4_readValue_86 : decode cX4_readValue 86 = .ok (.ireturn, 1) := by decide +kernel
theorem dX4_countPart_0 : decode cX4_countPart 0 = .ok (.aload_n 0, 1) := by decide +kernel
theorem dX4_countPart_1 : decode cX4_countPart 1 = .ok (.dup, 1) := by decide +kernel
theorem dX4_countPart_2 : decode cX4_countPart 2 = .ok (.getfield 28, 3) := by decide +kernel
theorem dX4_countPart_5 : decode cX4_countPart 5 = .ok (.iconst 1, 1) := by decide +kernel
theorem dX4_countPart_6 : decode cX4_countPart 6 = .ok (.iadd, 1) := by decide +kernel
theorem dX4_countPart_7 : decode cX4_countPart 7 = .ok (.putfield 28, 3) := by decide +kernel
theorem dX4_countPart_10 : decode cX4_countPart 10 = .ok (.aload_n 0, 1) := by decide +kernel
theorem dX4_countPart_11 : decode cX4_countPart 11 = .ok (.getfield 28, 3) := by decide +kernel
theorem dX4_countPart_14 : decode cX4_countPart 14 = .ok (.bipush 60, 2) := by decide +kernel
theorem dX4_countPart_16 : decode cX4_countPart 16 = .ok (.if_icmp .le 15, 3) := by decide +kernel
theorem dX4_countPart_19 : decode cX4_countPart 19 = .ok (.aload_n 0, 1) := by decide +kernel
theorem dX4_countPart_20 : decode cX4_countPart 20 = .ok (.getfield 15, 3) := by decide +kernel
theorem dX4_countPart_23 : decode cX4_countPart 23 = .ok (.iload_n 1, 1) := by decide +kernel
theorem dX4_countPart_24 : decode cX4_countPart 24 = .ok (.iconst 3, 1) := by decide +kernel
theorem dX4_countPart_25 : decode cX4_countPart 25 = .ok (.invokevirtual 44, 3) := by decide +kernel
theorem dX4_countPart_28 : decode cX4_countPart 28 = .ok (.ifCond .eq 7, 3) := by decide +kernel
theorem dX4_countPart_31 : decode cX4_countPart 31 = .ok (.iconst 1, 1) := by decide +kernel
theorem dX4_countPart_32 : decode cX4_countPart 32 = .ok (.goto 4, 3) := by decide +kernel
theorem dX4_countPart_35 : decode cX4_countPart 35 = .ok (.iconst 0, 1) := by decide +kernel
theorem dX4_countPart_36 : decode cX4_countPart 36 = .ok (.ireturn, 1) := by decide +kernel
theorem dX4_addCode_0 : decode cX4_addCode 0 = .ok (.aload_n 0, 1) := by decide +kernel
theorem dX4_addCode_1 : decode cX4_addCode 1 = .ok (.getfield 24, 3) := by decide +kernel
theorem dX4_addCode_4 : decode cX4_addCode 4 = .ok (.aload_n 0, 1) := by decide +kernel
theorem dX4_addCode_5 : decode cX4_addCode 5 = .ok (.getfield 9, 3) := by decide +kernel
theorem dX4_addCode_8 : decode cX4_addCode 8 = .ok (.arraylength, 1) := by decide +kernel
theorem dX4_addCode_9 : decode cX4_addCode 9 = .ok (.if_icmp .ge 27, 3) := by decide +kernel
theorem dX4_addCode_12 : decode cX4_addCode 12 = .ok (.aload_n 0, 1) := by decide +kernel
theorem dX4_addCode_13 : decode cX4_addCode 13 = .ok (.getfield 9, 3) := by decide +kernel
theorem dX4_addCode_16 : decode cX4_addCode 16 = .ok (.aload_n 0, 1) := by decide +kernel
theorem dX4_addCode_17 : decode cX4_addCode 17 = .ok (.getfield 24, 3) := by decide +kernel
theorem dX4_addCode_20 : decode cX4_addCode 20 = .ok (.iload_n 1, 1) := by decide +kernel
theorem dX4_addCode_21 : decode cX4_addCode 21 = .ok (.iload_n 2, 1) := by decide +kernel
theorem dX4_addCode_22 : decode cX4_addCode 22 = .ok (.iconst 5, 1) := by decide +kernel
theorem dX4_addCode_23 : decode cX4_addCode 23 = .ok (.ishl, 1) := by decide +kernel
theorem dX4_addCode_24 : decode cX4_addCode 24 = .ok (.ior, 1) := by decide +kernel
theorem dX4_addCode_25 : decode cX4_addCode 25 = .ok (.iastore, 1) := by decide +kernel
theorem dX4_addCode_26 : decode cX4_addCode 26 = .ok (.aload_n 0, 1) := by decide +kernel
theorem dX4_addCode_27 : decode cX4_addCode 27 = .ok (.dup, 1) := by decide +kernel
theorem dX4_addCode_28 : decode cX4_addCode 28 = .ok (.getfield 24, 3) := by decide +kernel
theorem dX4_addCode_31 : decode cX4_addCode 31 = .ok (.iconst 1, 1) := by decide +kernel
theorem dX4_addCode_32 : decode cX4_addCode 32 = .ok (.iadd, 1) := by decide +kernel
theorem dX4_addCode_33 : decode cX4_addCode 33 = .ok (.putfield 24, 3) := by decide +kernel
theorem dX4_addCode_36 : decode cX4_addCode 36 = .ok (.return_, 1) := by decide +kernel
theorem dX5_init_0 : decode cX5_init 0 = .ok (.aload_n 0, 1) := by decide +kernel
theorem dX5_init_1 : decode cX5_init 1 = .ok (.invokespecial 3, 3) := by decide +kernel
theorem dX5_init_4 : decode cX5_init 4 = .ok (.aload_n 0, 1) := by decide +kernel
theorem dX5_init_5 : decode cX5_init 5 = .ok (.new 9, 3) := by decide +kernel
theorem dX5_init_8 : decode cX5_init 8 = .ok (.dup, 1) := by decide +kernel
theorem dX5_init_9 : decode cX5_init 9 = .ok (.invokespecial 11, 3) := by decide +kernel
theorem dX5_init_12 : decode cX5_init 12 = .ok (.putfield 12, 3) := by decide +kernel
theorem dX5_init_15 : decode cX5_init 15 = .ok (.aload_n 0, 1) := by decide +kernel
theorem dX5_init_16 : decode cX5_init 16 = .ok (.iconst 5, 1) := by decide +kernel
theorem dX5_init_17 : decode cX5_init 17 = .ok (.newarray .int, 2) := by decide +kernel
theorem dX5_init_19 : decode cX5_init 19 = .ok (.putfield 18, 3) := by decide +kernel
theorem dX5_init_22 : decode cX5_init 22 = .ok (.aload_n 0, 1) := by decide +kernel
theorem dX5_init_23 : decode cX5_init 23 = .ok (.bipush 60, 2) := by decide +kernel
theorem dX5_init_25 : decode cX5_init 25 = .ok (.newarray .int, 2) := by decide +kernel
theorem dX5_init_27 : decode cX5_init 27 = .ok (.putfield 22, 3) := by decide +kernel
theorem dX5_init_30 : decode cX5_init 30 = .ok (.aload_n 0, 1) := by decide +kernel
theorem dX5_init_31 : decode cX5_init 31 = .ok (.bipush 60, 2) := by decide +kernel
theorem dX5_init_33 : decode cX5_init 33 = .ok (.newarray .int, 2) := by decide +kernel
theorem dX5_init_35 : decode cX5_init 35 = .ok (.putfield 25, 3) := by decide +kernel
theorem dX5_init_38 : decode cX5_init 38 = .ok (.aload_n 0, 1) := by decide +kernel
theorem dX5_init_39 : decode cX5_init 39 = .ok (.bipush 60, 2) := by decide +kernel
theorem dX5_init_41 : decode cX5_init 41 = .ok (.newarray .long, 2) := by decide +kernel
theorem dX5_init_43 : decode cX5_init 43 = .ok (.putfield 28, 3) := by decide +kernel
theorem dX5_init_46 : decode cX5_init 46 = .ok (.aload_n 0, 1) := by decide +kernel
theorem dX5_init_47 : decode cX5_init 47 = .ok (.bipush 25, 2) := by decide +kernel
theorem dX5_init_49 : decode cX5_init 49 = .ok (.newarray .int, 2) := by decide +kernel
theorem dX5_init_51 : decode cX5_init 51 = .ok (.putfield 32, 3) := by decide +kernel
theorem dX5_init_54 : decode cX5_init 54 = .ok (.aload_n 0, 1) := by decide +kernel
theorem dX5_init_55 : decode cX5_init 55 = .ok (.bipush 15, 2) := by decide +kernel
theorem dX5_init_57 : decode cX5_init 57 = .ok (.newarray .int, 2) := by decide +kernel
theorem dX5_init_59 : decode cX5_init 59 = .ok (.putfield 35, 3) := by decide +kernel
theorem dX5_init_62 : decode cX5_init 62 = .ok (.aload_n 0, 1) := by decide +kernel
theorem dX5_init_63 : decode cX5_init 63 = .ok (.getfield 22, 3) := by decide +kernel
theorem dX5_init_66 : decode cX5_init 66 = .ok (.iconst (-1), 1) := by decide +kernel
theorem dX5_init_67 : decode cX5_init 67 = .ok (.invokestatic 38, 3) := by decide +kernel
theorem dX5_init_70 : decode cX5_init 70 = .ok (.aload_n 0, 1) := by decide +kernel
theorem dX5_init_71 : decode cX5_init 71 = .ok (.getfield 35, 3) := by decide +kernel
theorem dX5_init_74 : decode cX5_init 74 = .ok (.bipush (-2), 2) := by decide +kernel
theorem dX5_init_76 : decode cX5_init 76 = .ok (.invokestatic 38, 3) := by decide +kernel
theorem dX5_init_79 : decode cX5_init 79 = .ok (.return_, 1) := by decide +kernel
theorem dX5_clear_0 : decode cX5_clear 0 = .ok (.aload_n 0, 1) := by decide +kernel
theorem dX5_clear_1 : decode cX5_clear 1 = .ok (.getfield 12, 3) := by decide +kernel
theorem dX5_clear_4 : decode cX5_clear 4 = .ok (.invokevirtual 44, 3) := by decide +kernel
theorem dX5_clear_7 : decode cX5_clear 7 = .ok (.aload_n 0, 1) := by decide +kernel
theorem dX5_clear_8 : decode cX5_clear 8 = .ok (.getfield 18, 3) := by decide +kernel
theorem dX5_clear_11 : decode cX5_clear 11 = .ok (.iconst 0, 1) := by decide +kernel
theorem dX5_clear_12 : decode cX5_clear 12 = .ok (.invokestatic 38, 3) := by decide +kernel
theorem dX5_clear_15 : decode cX5_clear 15 = .ok (.aload_n 0, 1) := by decide +kernel
theorem dX5_clear_16 : decode cX5_clear 16 = .ok (.getfield 22, 3) := by decide +kernel
theorem dX5_clear_19 : decode cX5_clear 19 = .ok (.iconst (-1), 1) := by decide +kernel
theorem dX5_clear_20 : decode cX5_clear 20 = .ok (.invokestatic 38, 3) := by decide +kernel
theorem dX5_clear_23 : decode cX5_clear 23 = .ok (.aload_n 0, 1) := by decide +kernel
theorem dX5_clear_24 : decode cX5_clear 24 = .ok (.getfield 25, 3) := by decide +kernel
theorem dX5_clear_27 : decode cX5_clear 27 = .ok (.iconst 0, 1) := by decide +kernel
theorem dX5_clear_28 : decode cX5_clear 28 = .ok (.invokestatic 38, 3) := by decide +kernel
theorem dX5_clear_31 : decode cX5_clear 31 = .ok (.aload_n 0, 1) := by decide +kernel
theorem dX5_clear_32 : decode cX5_clear 32 = .ok (.getfield 28, 3) := by decide +kernel
theorem dX5_clear_35 : decode cX5_clear 35 = .ok (.lconst 0, 1) := by decide +kernel
theorem dX5_clear_36 : decode cX5_clear 36 = .ok (.invokestatic 47, 3) := by decide +kernel
theorem dX5_clear_39 : decode cX5_clear 39 = .ok (.aload_n 0, 1) := by decide +kernel
