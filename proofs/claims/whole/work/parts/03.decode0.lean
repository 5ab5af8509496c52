theorem dX0_init_0 : decode cX0_init 0 = .ok (.aload_n 0, 1) := by decide +kernel
theorem dX0_init_1 : decode cX0_init 1 = .ok (.invokespecial 3, 3) := by decide +kernel
theorem dX0_init_4 : decode cX0_init 4 = .ok (.aload_n 0, 1) := by decide +kernel
theorem dX0_init_5 : decode cX0_init 5 = .ok (.bipush 8, 2) := by decide +kernel
theorem dX0_init_7 : decode cX0_init 7 = .ok (.newarray .int, 2) := by decide +kernel
theorem dX0_init_9 : decode cX0_init 9 = .ok (.putfield 9, 3) := by decide +kernel
theorem dX0_init_12 : decode cX0_init 12 = .ok (.aload_n 0, 1) := by decide +kernel
theorem dX0_init_13 : decode cX0_init 13 = .ok (.sipush 400, 3) := by decide +kernel
theorem dX0_init_16 : decode cX0_init 16 = .ok (.newarray .int, 2) := by decide +kernel
theorem dX0_init_18 : decode cX0_init 18 = .ok (.putfield 15, 3) := by decide +kernel
theorem dX0_init_21 : decode cX0_init 21 = .ok (.aload_n 0, 1) := by decide +kernel
theorem dX0_init_22 : decode cX0_init 22 = .ok (.sipush 400, 3) := by decide +kernel
theorem dX0_init_25 : decode cX0_init 25 = .ok (.newarray .int, 2) := by decide +kernel
theorem dX0_init_27 : decode cX0_init 27 = .ok (.putfield 18, 3) := by decide +kernel
theorem dX0_init_30 : decode cX0_init 30 = .ok (.aload_n 0, 1) := by decide +kernel
theorem dX0_init_31 : decode cX0_init 31 = .ok (.sipush 400, 3) := by decide +kernel
theorem dX0_init_34 : decode cX0_init 34 = .ok (.newarray .int, 2) := by decide +kernel
theorem dX0_init_36 : decode cX0_init 36 = .ok (.putfield 21, 3) := by decide +kernel
theorem dX0_init_39 : decode cX0_init 39 = .ok (.return_, 1) := by decide +kernel
theorem dX0_differencesTo_0 : decode cX0_differencesTo 0 = .ok (.iconst 0, 1) := by decide +kernel
theorem dX0_differencesTo_1 : decode cX0_differencesTo 1 = .ok (.istore_n 2, 1) := by decide +kernel
theorem dX0_differencesTo_2 : decode cX0_differencesTo 2 = .ok (.iconst 0, 1) := by decide +kernel
theorem dX0_differencesTo_3 : decode cX0_differencesTo 3 = .ok (.istore_n 3, 1) := by decide +kernel
theorem dX0_differencesTo_4 : decode cX0_differencesTo 4 = .ok (.iload_n 3, 1) := by decide +kernel
theorem dX0_differencesTo_5 : decode cX0_differencesTo 5 = .ok (.bipush 8, 2) := by decide +kernel
theorem dX0_differencesTo_7 : decode cX0_differencesTo 7 = .ok (.if_icmp .ge 24, 3) := by decide +kernel
theorem dX0_differencesTo_10 : decode cX0_differencesTo 10 = .ok (.aload_n 1, 1) := by decide +kernel
theorem dX0_differencesTo_11 : decode cX0_differencesTo 11 = .ok (.iload_n 3, 1) := by decide +kernel
theorem dX0_differencesTo_12 : decode cX0_differencesTo 12 = .ok (.iaload, 1) := by decide +kernel
theorem dX0_differencesTo_13 : decode cX0_differencesTo 13 = .ok (.aload_n 0, 1) := by decide +kernel
theorem dX0_differencesTo_14 : decode cX0_differencesTo 14 = .ok (.getfield 9, 3) := by decide +kernel
theorem dX0_differencesTo_17 : decode cX0_differencesTo 17 = .ok (.iload_n 3, 1) := by decide +kernel
theorem dX0_differencesTo_18 : decode cX0_differencesTo 18 = .ok (.iaload, 1) := by decide +kernel
theorem dX0_differencesTo_19 : decode cX0_differencesTo 19 = .ok (.if_icmp .eq 6, 3) := by decide +kernel
theorem dX0_differencesTo_22 : decode cX0_differencesTo 22 = .ok (.iinc 2 1, 3) := by decide +kernel
theorem dX0_differencesTo_25 : decode cX0_differencesTo 25 = .ok (.iinc 3 1, 3) := by decide +kernel
theorem dX0_differencesTo_28 : decode cX0_differencesTo 28 = .ok (.goto (-24), 3) := by decide +kernel
theorem dX0_differencesTo_31 : decode cX0_differencesTo 31 = .ok (.iload_n 2, 1) := by decide +kernel
theorem dX0_differencesTo_32 : decode cX0_differencesTo 32 = .ok (.ireturn, 1) := by decide +kernel
theorem dX0_enter_0 : decode cX0_enter 0 = .ok (.iconst 0, 1) := by decide +kernel
theorem dX0_enter_1 : decode cX0_enter 1 = .ok (.istore_n 2, 1) := by decide +kernel
theorem dX0_enter_2 : decode cX0_enter 2 = .ok (.iload_n 2, 1) := by decide +kernel
theorem dX0_enter_3 : decode cX0_enter 3 = .ok (.bipush 8, 2) := by decide +kernel
theorem dX0_enter_5 : decode cX0_enter 5 = .ok (.if_icmp .ge 92, 3) := by decide +kernel
theorem dX0_enter_8 : decode cX0_enter 8 = .ok (.aload_n 1, 1) := by decide +kernel
theorem dX0_enter_9 : decode cX0_enter 9 = .ok (.iload_n 2, 1) := by decide +kernel
theorem dX0_enter_10 : decode cX0_enter 10 = .ok (.iaload, 1) := by decide +kernel
theorem dX0_enter_11 : decode cX0_enter 11 = .ok (.aload_n 0, 1) := by decide +kernel
theorem dX0_enter_12 : decode cX0_enter 12 = .ok (.getfield 9, 3) := by decide +kernel
theorem dX0_enter_15 : decode cX0_enter 15 = .ok (.iload_n 2, 1) := by decide +kernel
theorem dX0_enter_16 : decode cX0_enter 16 = .ok (.iaload, 1) := by decide +kernel
theorem dX0_enter_17 : decode cX0_enter 17 = .ok (.if_icmp .eq 74, 3) := by decide +kernel
theorem dX0_enter_20 : decode cX0_enter 20 = .ok (.aload_n 0, 1) := by decide +kernel
theorem dX0_enter_21 : decode cX0_enter 21 = .ok (.getfield 24, 3) := by decide +kernel
theorem dX0_enter_24 : decode cX0_enter 24 = .ok (.sipush 400, 3) := by decide +kernel
theorem dX0_enter_27 : decode cX0_enter 27 = .ok (.if_icmp .ge 64, 3) := by decide +kernel
theorem dX0_enter_30 : decode cX0_enter 30 = .ok (.aload_n 0, 1) := by decide +kernel
theorem dX0_enter_31 : decode cX0_enter 31 = .ok (.getfield 15, 3) := by decide +kernel
theorem dX0_enter_34 : decode cX0_enter 34 = .ok (.aload_n 0, 1) := by decide +kernel
theorem dX0_enter_35 : decode cX0_enter 35 = .ok (.getfield 24, 3) := by decide +kernel
theorem dX0_enter_38 : decode cX0_enter 38 = .ok (.aload_n 0, 1) := by decide +kernel
theorem dX0_enter_39 : decode cX0_enter 39 = .ok (.getfield 28, 3) := by decide +kernel
theorem dX0_enter_42 : decode cX0_enter 42 = .ok (.iastore, 1) := by decide +kernel
theorem dX0_enter_43 : decode cX0_enter 43 = .ok (.aload_n 0, 1) := by decide +kernel
theorem dX0_enter_44 : decode cX0_enter 44 = .ok (.getfield 18, 3) := by decide +kernel
theorem dX0_enter_47 : decode cX0_enter 47 = .ok (.aload_n 0, 1) := by decide +kernel
theorem dX0_enter_48 : decode cX0_enter 48 = .ok (.getfield 24, 3) := by decide +kernel
theorem dX0_enter_51 : decode cX0_enter 51 = .ok (.iload_n 2, 1) := by decide +kernel
theorem dX0_enter_52 : decode cX0_enter 52 = .ok (.iastore, 1) := by decide +kernel
theorem dX0_enter_53 : decode cX0_enter 53 = .ok (.aload_n 0, 1) := by decide +kernel
theorem dX0_enter_54 : decode cX0_enter 54 = .ok (.getfield 21, 3) := by decide +kernel
theorem dX0_enter_57 : decode cX0_enter 57 = .ok (.aload_n 0, 1) := by decide +kernel
theorem dX0_enter_58 : decode cX0_enter 58 = .ok (.getfield 24, 3) := by decide +kernel
theorem dX0_enter_61 : decode cX0_enter 61 = .ok (.aload_n 1, 1) := by decide +kernel
theorem dX0_enter_62 : decode cX0_enter 62 = .ok (.iload_n 2, 1) := by decide +kernel
theorem dX0_enter_63 : decode cX0_enter 63 = .ok (.iaload, 1) := by decide +kernel
theorem dX0_enter_64 : decode cX0_enter 64 = .ok (.aload_n 0, 1) := by decide +kernel
theorem dX0_enter_65 : decode cX0_enter 65 = .ok (.getfield 9, 3) := by decide +kernel
theorem dX0_enter_68 : decode cX0_enter 68 = .ok (.iload_n 2, 1) := by decide +kernel
theorem dX0_enter_69 : decode cX0_enter 69 = .ok (.iaload, 1) := by decide +kernel
theorem dX0_enter_70 : decode cX0_enter 70 = .ok (.isub, 1) := by decide +kernel
theorem dX0_enter_71 : decode cX0_enter 71 = .ok (.iastore, 1) := by decide +kernel
theorem dX0_enter_72 : decode cX0_enter 72 = .ok (.aload_n 0, 1) := by decide +kernel
theorem dX0_enter_73 : decode cX0_enter 73 = .ok (.getfield 9, 3) := by decide +kernel
theorem dX0_enter_76 : decode cX0_enter 76 = .ok (.iload_n 2, 1) := by decide +kernel
theorem dX0_enter_77 : decode cX0_enter 77 = .ok (.aload_n 1, 1) := by decide +kernel
theorem dX0_enter_78 : decode cX0_enter 78 = .ok (.iload_n 2, 1) := by decide +kernel
theorem dX0_enter_79 : decode cX0_enter 79 = .ok (.iaload, 1) := by decide +kernel
theorem dX0_enter_80 : decode cX0_enter 80 = .ok (.iastore, 1) := by decide +kernel
theorem dX0_enter_81 : decode cX0_enter 81 = .ok (.aload_n 0, 1) := by decide +kernel
theorem dX0_enter_82 : decode cX0_enter 82 = .ok (.dup, 1) := by decide +kernel
theorem dX0_enter_83 : decode cX0_enter 83 = .ok (.getfield 24, 3) := by decide +kernel
theorem dX0_enter_86 : decode cX0_enter 86 = .ok (.iconst 1, 1) := by decide +kernel
theorem dX0_enter_87 : decode cX0_enter 87 = .ok (.iadd, 1) := by decide +kernel
theorem dX0_enter_88 : decode cX0_enter 88 = .ok (.putfield 24, 3) := by decide +kernel
theorem dX0_enter_91 : decode cX0_enter 91 = .ok (.iinc 2 1, 3) := by decide +kernel
theorem dX0_enter_94 : decode cX0_enter 94 = .ok (.goto (-92), 3) := by decide +kernel
theorem dX0_enter_97 : decode cX0_enter 97 = .ok (.aload_n 0, 1) := by decide +kernel
theorem dX0_enter_98 : decode cX0_enter 98 = .ok (.dup, 1) := by decide +kernel
theorem dX0_enter_99 : decode cX0_enter 99 = .ok (.getfield 28, 3) := by decide +kernel
theorem dX0_enter_102 : decode cX0_enter 102 = .ok (.iconst 1, 1) := by decide +kernel
theorem dX0_enter_103 : decode cX0_enter 103 = .ok (.iadd, 1) := by decide +kernel
theorem dX0_enter_104 : decode cX0_enter 104 = .ok (.putfield 28, 3) := by decide +kernel
theorem dX0_enter_107 : decode cX0_enter 107 = .ok (.return_, 1) := by decide +kernel
theorem dX0_coinsInAll_0 : decode cX0_coinsInAll 0 = .ok (.iconst 0, 1) := by decide +kernel
theorem dX0_coinsInAll_1 : decode cX0_coinsInAll 1 = .ok (.istore_n 1, 1) := by decide +kernel
theorem dX0_coinsInAll_2 : decode cX0_coinsInAll 2 = .ok (.iconst 0, 1) := by decide +kernel
theorem dX0_coinsInAll_3 : decode cX0_coinsInAll 3 = .ok (.istore_n 2, 1) := by decide +kernel
theorem dX0_coinsInAll_4 : decode cX0_coinsInAll 4 = .ok (.iload_n 2, 1) := by decide +kernel
theorem dX0_coinsInAll_5 : decode cX0_coinsInAll 5 = .ok (.bipush 8, 2) := by decide +kernel
theorem dX0_coinsInAll_7 : decode cX0_coinsInAll 7 = .ok (.if_icmp .ge 18, 3) := by decide +kernel
theorem dX0_coinsInAll_10 : decode cX0_coinsInAll 10 = .ok (.iload_n 1, 1) := by decide +kernel
theorem dX0_coinsInAll_11 : decode cX0_coinsInAll 11 = .ok (.aload_n 0, 1) := by decide +kernel
theorem dX0_coinsInAll_12 : decode cX0_coinsInAll 12 = .ok (.getfield 9, 3) := by decide +kernel
theorem dX0_coinsInAll_15 : decode cX0_coinsInAll 15 = .ok (.iload_n 2, 1) := by decide +kernel
theorem dX0_coinsInAll_16 : decode cX0_coinsInAll 16 = .ok (.iaload, 1) := by decide +kernel
theorem dX0_coinsInAll_17 : decode cX0_coinsInAll 17 = .ok (.iadd, 1) := by decide +kernel
theorem dX0_coinsInAll_18 : decode cX0_coinsInAll 18 = .ok (.istore_n 1, 1) := by decide +kernel
theorem dX0_coinsInAll_19 : decode cX0_coinsInAll 19 = .ok (.iinc 2 1, 3) := by decide +kernel
theorem dX0_coinsInAll_22 : decode cX0_coinsInAll 22 = .ok (.goto (-18), 3) := by decide +kernel
theorem dX0_coinsInAll_25 : decode cX0_coinsInAll 25 = .ok (.iload_n 1, 1) := by decide +kernel
theorem dX0_coinsInAll_26 : decode cX0_coinsInAll 26 = .ok (.ireturn, 1) := by decide +kernel
theorem dX1_init_0 : decode cX1_init 0 = .ok (.aload_n 0, 1) := by decide +kernel
theorem dX1_init_1 : decode cX1_init 1 = .ok (.invokespecial 3, 3) := by decide +kernel
theorem dX1_init_4 : decode cX1_init 4 = .ok (.aload_n 0, 1) := by decide +kernel
theorem dX1_init_5 : decode cX1_init 5 = .ok (.bipush 6, 2) := by decide +kernel
theorem dX1_init_7 : decode cX1_init 7 = .ok (.newarray .long, 2) := by decide +kernel
theorem dX1_init_9 : decode cX1_init 9 = .ok (.putfield 9, 3) := by decide +kernel
theorem dX1_init_12 : decode cX1_init 12 = .ok (.aload_n 0, 1) := by decide +kernel
theorem dX1_init_13 : decode cX1_init 13 = .ok (.lconst 1, 1) := by decide +kernel
theorem dX1_init_14 : decode cX1_init 14 = .ok (.putfield 15, 3) := by decide +kernel
theorem dX1_init_17 : decode cX1_init 17 = .ok (.aload_n 0, 1) := by decide +kernel
theorem dX1_init_18 : decode cX1_init 18 = .ok (.bipush 6, 2) := by decide +kernel
theorem dX1_init_20 : decode cX1_init 20 = .ok (.bipush 6, 2) := by decide +kernel
theorem dX1_init_22 : decode cX1_init 22 = .ok (.multianewarray 19 2, 4) := by decide +kernel
theorem dX1_init_26 : decode cX1_init 26 = .ok (.putfield 21, 3) := by decide +kernel
theorem dX1_init_29 : decode cX1_init 29 = .ok (.aload_n 0, 1) := by decide +kernel
theorem dX1_init_30 : decode cX1_init 30 = .ok (.bipush 6, 2) := by decide +kernel
theorem dX1_init_32 : decode cX1_init 32 = .ok (.newarray .long, 2) := by decide +kernel
theorem dX1_init_34 : decode cX1_init 34 = .ok (.putfield 24, 3) := by decide +kernel
theorem dX1_init_37 : decode cX1_init 37 = .ok (.aload_n 0, 1) := by decide +kernel
theorem dX1_init_38 : decode cX1_init 38 = .ok (.bipush 64, 2) := by decide +kernel
theorem dX1_init_40 : decode cX1_init 40 = .ok (.newarray .long, 2) := by decide +kernel
theorem dX1_init_42 : decode cX1_init 42 = .ok (.putfield 27, 3) := by decide +kernel
theorem dX1_init_45 : decode cX1_init 45 = .ok (.return_, 1) := by decide +kernel
theorem dX1_solve_0 : decode cX1_solve 0 = .ok (.aload_n 1, 1) := by decide +kernel
theorem dX1_solve_1 : decode cX1_solve 1 = .ok (.iload_n 2, 1) := by decide +kernel
theorem dX1_solve_2 : decode cX1_solve 2 = .ok (.invokevirtual 30, 3) := by decide +kernel
theorem dX1_solve_5 : decode cX1_solve 5 = .ok (.istore_n 3, 1) := by decide +kernel
theorem dX1_solve_6 : decode cX1_solve 6 = .ok (.iconst 0, 1) := by decide +kernel
theorem dX1_solve_7 : decode cX1_solve 7 = .ok (.istore 4, 2) := by decide +kernel
theorem dX1_solve_9 : decode cX1_solve 9 = .ok (.iload 4, 2) := by decide +kernel
theorem dX1_solve_11 : decode cX1_solve 11 = .ok (.bipush 6, 2) := by decide +kernel
theorem dX1_solve_13 : decode cX1_solve 13 = .ok (.if_icmp .ge 42, 3) := by decide +kernel
theorem dX1_solve_16 : decode cX1_solve 16 = .ok (.iload_n 3, 1) := by decide +kernel
theorem dX1_solve_17 : decode cX1_solve 17 = .ok (.iload 4, 2) := by decide +kernel
theorem dX1_solve_19 : decode cX1_solve 19 = .ok (.invokestatic 36, 3) := by decide +kernel
theorem dX1_solve_22 : decode cX1_solve 22 = .ok (.ifCond .eq 21, 3) := by decide +kernel
theorem dX1_solve_25 : decode cX1_solve 25 = .ok (.aload_n 0, 1) := by decide +kernel
theorem dX1_solve_26 : decode cX1_solve 26 = .ok (.aload_n 1, 1) := by decide +kernel
theorem dX1_solve_27 : decode cX1_solve 27 = .ok (.iload 4, 2) := by decide +kernel
theorem dX1_solve_29 : decode cX1_solve 29 = .ok (.aload_n 1, 1) := by decide +kernel
theorem dX1_solve_30 : decode cX1_solve 30 = .ok (.iload 4, 2) := by decide +kernel
theorem dX1_solve_32 : decode cX1_solve 32 = .ok (.iload_n 2, 1) := by decide +kernel
theorem dX1_solve_33 : decode cX1_solve 33 = .ok (.iload_n 3, 1) := by decide +kernel
theorem dX1_solve_34 : decode cX1_solve 34 = .ok (.invokevirtual 40, 3) := by decide +kernel
theorem dX1_solve_37 : decode cX1_solve 37 = .ok (.invokevirtual 44, 3) := by decide +kernel
theorem dX1_solve_40 : decode cX1_solve 40 = .ok (.goto 9, 3) := by decide +kernel
theorem dX1_solve_43 : decode cX1_solve 43 = .ok (.aload_n 0, 1) := by decide +kernel
theorem dX1_solve_44 : decode cX1_solve 44 = .ok (.iload 4, 2) := by decide +kernel
theorem dX1_solve_46 : decode cX1_solve 46 = .ok (.invokevirtual 48, 3) := by decide +kernel
theorem dX1_solve_49 : decode cX1_solve 49 = .ok (.iinc 4 1, 3) := by decide +kernel
theorem dX1_solve_52 : decode cX1_solve 52 = .ok (.goto (-43), 3) := by decide +kernel
theorem dX1_solve_55 : decode cX1_solve 55 = .ok (.aload_n 0, 1) := by decide +kernel
theorem dX1_solve_56 : decode cX1_solve 56 = .ok (.aload_n 0, 1) := by decide +kernel
theorem dX1_solve_57 : decode cX1_solve 57 = .ok (.iconst (-1), 1) := by decide +kernel
theorem dX1_solve_58 : decode cX1_solve 58 = .ok (.invokevirtual 52, 3) := by decide +kernel
theorem dX1_solve_61 : decode cX1_solve 61 = .ok (.putfield 15, 3) := by decide +kernel
theorem dX1_solve_64 : decode cX1_solve 64 = .ok (.iconst 0, 1) := by decide +kernel
theorem dX1_solve_65 : decode cX1_solve 65 = .ok (.istore 4, 2) := by decide +kernel
theorem dX1_solve_67 : decode cX1_solve 67 = .ok (.iload 4, 2) := by decide +kernel
theorem dX1_solve_69 : decode cX1_solve 69 = .ok (.bipush 6, 2) := by decide +kernel
theorem dX1_solve_71 : decode cX1_solve 71 = .ok (.if_icmp .ge 22, 3) := by decide +kernel
theorem dX1_solve_74 : decode cX1_solve 74 = .ok (.aload_n 0, 1) := by decide +kernel
theorem dX1_solve_75 : decode cX1_solve 75 = .ok (.getfield 9, 3) := by decide +kernel
theorem dX1_solve_78 : decode cX1_solve 78 = .ok (.iload 4, 2) := by decide +kernel
theorem dX1_solve_80 : decode cX1_solve 80 = .ok (.aload_n 0, 1) := by decide +kernel
theorem dX1_solve_81 : decode cX1_solve 81 = .ok (.iload 4, 2) := by decide +kernel
theorem dX1_solve_83 : decode cX1_solve 83 = .ok (.invokevirtual 52, 3) := by decide +kernel
theorem dX1_solve_86 : decode cX1_solve 86 = .ok (.lastore, 1) := by decide +kernel
theorem dX1_solve_87 : decode cX1_solve 87 = .ok (.iinc 4 1, 3) := by decide +kernel
theorem dX1_solve_90 : decode cX1_solve 90 = .ok (.goto (-23), 3) := by decide +kernel
theorem dX1_solve_93 : decode cX1_solve 93 = .ok (.return_, 1) := by decide +kernel
theorem dX1_fillRow_0 : decode cX1_fillRow 0 = .ok (.iconst 0, 1) := by decide +kernel
theorem dX1_fillRow_1 : decode cX1_fillRow 1 = .ok (.istore 4, 2) := by decide +kernel
theorem dX1_fillRow_3 : decode cX1_fillRow 3 = .ok (.iload 4, 2) := by decide +kernel
theorem dX1_fillRow_5 : decode cX1_fillRow 5 = .ok (.bipush 6, 2) := by decide +kernel
theorem dX1_fillRow_7 : decode cX1_fillRow 7 = .ok (.if_icmp .ge 29, 3) := by decide +kernel
theorem dX1_fillRow_10 : decode cX1_fillRow 10 = .ok (.aload_n 0, 1) := by decide +kernel
theorem dX1_fillRow_11 : decode cX1_fillRow 11 = .ok (.getfield 21, 3) := by decide +kernel
theorem dX1_fillRow_14 : decode cX1_fillRow 14 = .ok (.iload_n 2, 1) := by decide +kernel
theorem dX1_fillRow_15 : decode cX1_fillRow 15 = .ok (.aaload, 1) := by decide +kernel
theorem dX1_fillRow_16 : decode cX1_fillRow 16 = .ok (.iload 4, 2) := by decide +kernel
theorem dX1_fillRow_18 : decode cX1_fillRow 18 = .ok (.aload_n 1, 1) := by decide +kernel
theorem dX1_fillRow_19 : decode cX1_fillRow 19 = .ok (.getfield 56, 3) := by decide +kernel
theorem dX1_fillRow_22 : decode cX1_fillRow 22 = .ok (.iload 4, 2) := by decide +kernel
theorem dX1_fillRow_24 : decode cX1_fillRow 24 = .ok (.aaload, 1) := by decide +kernel
theorem dX1_fillRow_25 : decode cX1_fillRow 25 = .ok (.iload_n 2, 1) := by decide +kernel
theorem dX1_fillRow_26 : decode cX1_fillRow 26 = .ok (.iaload, 1) := by decide +kernel
theorem dX1_fillRow_27 : decode cX1_fillRow 27 = .ok (.ineg, 1) := by decide +kernel
theorem dX1_fillRow_28 : decode cX1_fillRow 28 = .ok (.i2l, 1) := by decide +kernel
theorem dX1_fillRow_29 : decode cX1_fillRow 29 = .ok (.lastore, 1) := by decide +kernel
theorem dX1_fillRow_30 : decode cX1_fillRow 30 = .ok (.iinc 4 1, 3) := by decide +kernel
theorem dX1_fillRow_33 : decode cX1_fillRow 33 = .ok (.goto (-30), 3) := by decide +kernel
theorem dX1_fillRow_36 : decode cX1_fillRow 36 = .ok (.aload_n 0, 1) := by decide +kernel
theorem dX1_fillRow_37 : decode cX1_fillRow 37 = .ok (.getfield 21, 3) := by decide +kernel
theorem dX1_fillRow_40 : decode cX1_fillRow 40 = .ok (.iload_n 2, 1) := by decide +kernel
theorem dX1_fillRow_41 : decode cX1_fillRow 41 = .ok (.aaload, 1) := by decide +kernel
theorem dX1_fillRow_42 : decode cX1_fillRow 42 = .ok (.iload_n 2, 1) := by decide +kernel
theorem dX1_fillRow_43 : decode cX1_fillRow 43 = .ok (.iload_n 3, 1) := by decide +kernel
theorem dX1_fillRow_44 : decode cX1_fillRow 44 = .ok (.i2l, 1) := by decide +kernel
theorem dX1_fillRow_45 : decode cX1_fillRow 45 = .ok (.lastore, 1) := by decide +kernel
theorem dX1_fillRow_46 : decode cX1_fillRow 46 = .ok (.aload_n 0, 1) := by decide +kernel
theorem dX1_fillRow_47 : decode cX1_fillRow 47 = .ok (.getfield 24, 3) := by decide +kernel
theorem dX1_fillRow_50 : decode cX1_fillRow 50 = .ok (.iload_n 2, 1) := by decide +kernel
theorem dX1_fillRow_51 : decode cX1_fillRow 51 = .ok (.aload_n 1, 1) := by decide +kernel
theorem dX1_fillRow_52 : decode cX1_fillRow 52 = .ok (.iload_n 2, 1) := by decide +kernel
theorem dX1_fillRow_53 : decode cX1_fillRow 53 = .ok (.iload_n 3, 1) := by decide +kernel
theorem dX1_fillRow_54 : decode cX1_fillRow 54 = .ok (.invokevirtual 60, 3) := by decide +kernel
theorem dX1_fillRow_57 : decode cX1_fillRow 57 = .ok (.i2l, 1) := by decide +kernel
theorem dX1_fillRow_58 : decode cX1_fillRow 58 = .ok (.lastore, 1) := by decide +kernel
theorem dX1_fillRow_59 : decode cX1_fillRow 59 = .ok (.return_, 1) := by decide +kernel
theorem dX1_fillIdleRow_0 : decode cX1_fillIdleRow 0 = .ok (.aload_n 0, 1) := by decide +kernel
theorem dX1_fillIdleRow_1 : decode cX1_fillIdleRow 1 = .ok (.getfield 21, 3) := by decide +kernel
theorem dX1_fillIdleRow_4 : decode cX1_fillIdleRow 4 = .ok (.iload_n 1, 1) := by decide +kernel
theorem dX1_fillIdleRow_5 : decode cX1_fillIdleRow 5 = .ok (.aaload, 1) := by decide +kernel
theorem dX1_fillIdleRow_6 : decode cX1_fillIdleRow 6 = .ok (.lconst 0, 1) := by decide +kernel
theorem dX1_fillIdleRow_7 : decode cX1_fillIdleRow 7 = .ok (.invokestatic 64, 3) := by decide +kernel
theorem dX1_fillIdleRow_10 : decode cX1_fillIdleRow 10 = .ok (.aload_n 0, 1) := by decide +kernel
theorem dX1_fillIdleRow_11 : decode cX1_fillIdleRow 11 = .ok (.getfield 21, 3) := by decide +kernel
theorem dX1_fillIdleRow_14 : decode cX1_fillIdleRow 14 = .ok (.iload_n 1, 1) := by decide +kernel
theorem dX1_fillIdleRow_15 : decode cX1_fillIdleRow 15 = .ok (.aaload, 1) := by decide +kernel
theorem dX1_fillIdleRow_16 : decode cX1_fillIdleRow 16 = .ok (.iload_n 1, 1) := by decide +kernel
theorem dX1_fillIdleRow_17 : decode cX1_fillIdleRow 17 = .ok (.lconst 1, 1) := by decide +kernel
theorem dX1_fillIdleRow_18 : decode cX1_fillIdleRow 18 = .ok (.lastore, 1) := by decide +kernel
theorem dX1_fillIdleRow_19 : decode cX1_fillIdleRow 19 = .ok (.aload_n 0, 1) := by decide +kernel
theorem dX1_fillIdleRow_20 : decode cX1_fillIdleRow 20 = .ok (.getfield 24, 3) := by decide +kernel
theorem dX1_fillIdleRow_23 : decode cX1_fillIdleRow 23 = .ok (.iload_n 1, 1) := by decide +kernel
theorem dX1_fillIdleRow_24 : decode cX1_fillIdleRow 24 = .ok (.lconst 0, 1) := by decide +kernel
theorem dX1_fillIdleRow_25 : decode cX1_fillIdleRow 25 = .ok (.lastore, 1) := by decide +kernel
theorem dX1_fillIdleRow_26 : decode cX1_fillIdleRow 26 = .ok (.return_, 1) := by decide +kernel
theorem dX1_determinant_0 : decode cX1_determinant 0 = .ok (.aload_n 0, 1) := by decide +kernel
theorem dX1_determinant_1 : decode cX1_determinant 1 = .ok (.getfield 27, 3) := by decide +kernel
theorem dX1_determinant_4 : decode cX1_determinant 4 = .ok (.iconst 0, 1) := by decide +kernel
theorem dX1_determinant_5 : decode cX1_determinant 5 = .ok (.lconst 1, 1) := by decide +kernel
theorem dX1_determinant_6 : decode cX1_determinant 6 = .ok (.lastore, 1) := by decide +kernel
theorem dX1_determinant_7 : decode cX1_determinant 7 = .ok (.iconst 1, 1) := by decide +kernel
theorem dX1_determinant_8 : decode cX1_determinant 8 = .ok (.istore_n 2, 1) := by decide +kernel
theorem dX1_determinant_9 : decode cX1_determinant 9 = .ok (.iload_n 2, 1) := by decide +kernel
theorem dX1_determinant_10 : decode cX1_determinant 10 = .ok (.aload_n 0, 1) := by decide +kernel
theorem dX1_determinant_11 : decode cX1_determinant 11 = .ok (.getfield 27, 3) := by decide +kernel
theorem dX1_determinant_14 : decode cX1_determinant 14 = .ok (.arraylength, 1) := by decide +kernel
theorem dX1_determinant_15 : decode cX1_determinant 15 = .ok (.if_icmp .ge 21, 3) := by decide +kernel
theorem dX1_determinant_18 : decode cX1_determinant 18 = .ok (.aload_n 0, 1) := by decide +kernel
theorem dX1_determinant_19 : decode cX1_determinant 19 = .ok (.getfield 27, 3) := by decide +kernel
theorem dX1_determinant_22 : decode cX1_determinant 22 = .ok (.iload_n 2, 1) := by decide +kernel
theorem dX1_determinant_23 : decode cX1_determinant 23 = .ok (.aload_n 0, 1) := by decide +kernel
theorem dX1_determinant_24 : decode cX1_determinant 24 = .ok (.iload_n 2, 1) := by decide +kernel
theorem dX1_determinant_25 : decode cX1_determinant 25 = .ok (.iload_n 1, 1) := by decide +kernel
theorem dX1_determinant_26 : decode cX1_determinant 26 = .ok (.invokevirtual 70, 3) := by decide +kernel
theorem dX1_determinant_29 : decode cX1_determinant 29 = .ok (.lastore, 1) := by decide +kernel
theorem dX1_determinant_30 : decode cX1_determinant 30 = .ok (.iinc 2 1, 3) := by decide +kernel
theorem dX1_determinant_33 : decode cX1_determinant 33 = .ok (.goto (-24), 3) := by decide +kernel
theorem dX1_determinant_36 : decode cX1_determinant 36 = .ok (.aload_n 0, 1) := by decide +kernel
theorem dX1_determinant_37 : decode cX1_determinant 37 = .ok (.getfield 27, 3) := by decide +kernel
theorem dX1_determinant_40 : decode cX1_determinant 40 = .ok (.aload_n 0, 1) := by decide +kernel
theorem dX1_determinant_41 : decode cX1_determinant 41 = .ok (.getfield 27, 3) := by decide +kernel
theorem dX1_determinant_44 : decode cX1_determinant 44 = .ok (.arraylength, 1) := by decide +kernel
theorem dX1_determinant_45 : decode cX1_determinant 45 = .ok (.iconst 1, 1) := by decide +kernel
theorem dX1_determinant_46 : decode cX1_determinant 46 = .ok (.isub, 1) := by decide +kernel
theorem dX1_determinant_47 : decode cX1_determinant 47 = .ok (.laload, 1) := by decide +kernel
theorem dX1_determinant_48 : decode cX1_determinant 48 = .ok (.lreturn, 1) := by decide +kernel
theorem dX1_minorOf_0 : decode cX1_minorOf 0 = .ok (.iload_n 1, 1) := by decide +kernel
theorem dX1_minorOf_1 : decode cX1_minorOf 1 = .ok (.invokestatic 74, 3) := by decide +kernel
theorem dX1_minorOf_4 : decode cX1_minorOf 4 = .ok (.iconst 1, 1) := by decide +kernel
theorem dX1_minorOf_5 : decode cX1_minorOf 5 = .ok (.isub, 1) := by decide +kernel
theorem dX1_minorOf_6 : decode cX1_minorOf 6 = .ok (.istore_n 3, 1) := by decide +kernel
theorem dX1_minorOf_7 : decode cX1_minorOf 7 = .ok (.lconst 0, 1) := by decide +kernel
theorem dX1_minorOf_8 : decode cX1_minorOf 8 = .ok (.lstore 4, 2) := by decide +kernel
theorem dX1_minorOf_10 : decode cX1_minorOf 10 = .ok (.iconst 0, 1) := by decide +kernel
theorem dX1_minorOf_11 : decode cX1_minorOf 11 = .ok (.istore 6, 2) := by decide +kernel
theorem dX1_minorOf_13 : decode cX1_minorOf 13 = .ok (.iload 6, 2) := by decide +kernel
theorem dX1_minorOf_15 : decode cX1_minorOf 15 = .ok (.bipush 6, 2) := by decide +kernel
theorem dX1_minorOf_17 : decode cX1_minorOf 17 = .ok (.if_icmp .ge 101, 3) := by decide +kernel
theorem dX1_minorOf_20 : decode cX1_minorOf 20 = .ok (.iload_n 1, 1) := by decide +kernel
theorem dX1_minorOf_21 : decode cX1_minorOf 21 = .ok (.iload 6, 2) := by decide +kernel
theorem dX1_minorOf_23 : decode cX1_minorOf 23 = .ok (.invokestatic 36, 3) := by decide +kernel
theorem dX1_minorOf_26 : decode cX1_minorOf 26 = .ok (.ifCond .eq 86, 3) := by decide +kernel
theorem dX1_minorOf_29 : decode cX1_minorOf 29 = .ok (.iload 6, 2) := by decide +kernel
theorem dX1_minorOf_31 : decode cX1_minorOf 31 = .ok (.iload_n 2, 1) := by decide +kernel
theorem dX1_minorOf_32 : decode cX1_minorOf 32 = .ok (.if_icmp .ne 12, 3) := by decide +kernel
theorem dX1_minorOf_35 : decode cX1_minorOf 35 = .ok (.aload_n 0, 1) := by decide +kernel
theorem dX1_minorOf_36 : decode cX1_minorOf 36 = .ok (.getfield 24, 3) := by decide +kernel
theorem dX1_minorOf_39 : decode cX1_minorOf 39 = .ok (.iload_n 3, 1) := by decide +kernel
theorem dX1_minorOf_40 : decode cX1_minorOf 40 = .ok (.laload, 1) := by decide +kernel
theorem dX1_minorOf_41 : decode cX1_minorOf 41 = .ok (.goto 12, 3) := by decide +kernel
theorem dX1_minorOf_44 : decode cX1_minorOf 44 = .ok (.aload_n 0, 1) := by decide +kernel
theorem dX1_minorOf_45 : decode cX1_minorOf 45 = .ok (.getfield 21, 3) := by decide +kernel
theorem dX1_minorOf_48 : decode cX1_minorOf 48 = .ok (.iload_n 3, 1) := by decide +kernel
theorem dX1_minorOf_49 : decode cX1_minorOf 49 = .ok (.aaload, 1) := by decide +kernel
theorem dX1_minorOf_50 : decode cX1_minorOf 50 = .ok (.iload 6, 2) := by decide +kernel
theorem dX1_minorOf_52 : decode cX1_minorOf 52 = .ok (.laload, 1) := by decide +kernel
theorem dX1_minorOf_53 : decode cX1_minorOf 53 = .ok (.lstore 7, 2) := by decide +kernel
theorem dX1_minorOf_55 : decode cX1_minorOf 55 = .ok (.lload 7, 2) := by decide +kernel
theorem dX1_minorOf_57 : decode cX1_minorOf 57 = .ok (.aload_n 0, 1) := by decide +kernel
theorem dX1_minorOf_58 : decode cX1_minorOf 58 = .ok (.getfield 27, 3) := by decide +kernel
theorem dX1_minorOf_61 : decode cX1_minorOf 61 = .ok (.iload_n 1, 1) := by decide +kernel
theorem dX1_minorOf_62 : decode cX1_minorOf 62 = .ok (.iconst 1, 1) := by decide +kernel
theorem dX1_minorOf_63 : decode cX1_minorOf 63 = .ok (.iload 6, 2) := by decide +kernel
theorem dX1_minorOf_65 : decode cX1_minorOf 65 = .ok (.ishl, 1) := by decide +kernel
theorem dX1_minorOf_66 : decode cX1_minorOf 66 = .ok (.iconst (-1), 1) := by decide +kernel
theorem dX1_minorOf_67 : decode cX1_minorOf 67 = .ok (.ixor, 1) := by decide +kernel
theorem dX1_minorOf_68 : decode cX1_minorOf 68 = .ok (.iand, 1) := by decide +kernel
theorem dX1_minorOf_69 : decode cX1_minorOf 69 = .ok (.laload, 1) := by decide +kernel
theorem dX1_minorOf_70 : decode cX1_minorOf 70 = .ok (.lmul, 1) := by decide +kernel
theorem dX1_minorOf_71 : decode cX1_minorOf 71 = .ok (.lstore 9, 2) := by decide +kernel
theorem dX1_minorOf_73 : decode cX1_minorOf 73 = .ok (.iload_n 1, 1) := by decide +kernel
theorem dX1_minorOf_74 : decode cX1_minorOf 74 = .ok (.iload 6, 2) := by decide +kernel
theorem dX1_minorOf_76 : decode cX1_minorOf 76 = .ok (.iconst 1, 1) := by decide +kernel
theorem dX1_minorOf_77 : decode cX1_minorOf 77 = .ok (.iadd, 1) := by decide +kernel
theorem dX1_minorOf_78 : decode cX1_minorOf 78 = .ok (.ishr, 1) := by decide +kernel
theorem dX1_minorOf_79 : decode cX1_minorOf 79 = .ok (.invokestatic 74, 3) := by decide +kernel
theorem dX1_minorOf_82 : decode cX1_minorOf 82 = .ok (.iconst 1, 1) := by decide +kernel
theorem dX1_minorOf_83 : decode cX1_minorOf 83 = .ok (.iand, 1) := by decide +kernel
theorem dX1_minorOf_84 : decode cX1_minorOf 84 = .ok (.ifCond .eq 7, 3) := by decide +kernel
theorem dX1_minorOf_87 : decode cX1_minorOf 87 = .ok (.iconst 1, 1) := by decide +kernel
theorem dX1_minorOf_88 : decode cX1_minorOf 88 = .ok (.goto 4, 3) := by decide +kernel
theorem dX1_minorOf_91 : decode cX1_minorOf 91 = .ok (.iconst 0, 1) := by decide +kernel
theorem dX1_minorOf_92 : decode cX1_minorOf 92 = .ok (.istore 11, 2) := by decide +kernel
theorem dX1_minorOf_94 : decode cX1_minorOf 94 = .ok (.lload 4, 2) := by decide +kernel
theorem dX1_minorOf_96 : decode cX1_minorOf 96 = .ok (.iload 11, 2) := by decide +kernel
theorem dX1_minorOf_98 : decode cX1_minorOf 98 = .ok (.ifCond .eq 9, 3) := by decide +kernel
theorem dX1_minorOf_101 : decode cX1_minorOf 101 = .ok (.lload 9, 2) := by decide +kernel
theorem dX1_minorOf_103 : decode cX1_minorOf 103 = .ok (.lneg, 1) := by decide +kernel
theorem dX1_minorOf_104 : decode cX1_minorOf 104 = .ok (.goto 5, 3) := by decide +kernel
theorem dX1_minorOf_107 : decode cX1_minorOf 107 = .ok (.lload 9, 2) := by decide +kernel
theorem dX1_minorOf_109 : decode cX1_minorOf 109 = .ok (.ladd, 1) := by decide +kernel
theorem dX1_minorOf_110 : decode cX1_minorOf 110 = .ok (.lstore 4, 2) := by decide +kernel
theorem dX1_minorOf_112 : decode cX1_minorOf 112 = .ok (.iinc 6 1, 3) := by decide +kernel
theorem dX1_minorOf_115 : decode cX1_minorOf 115 = .ok (.goto (-102), 3) := by decide +kernel
theorem dX1_minorOf_118 : decode cX1_minorOf 118 = .ok (.lload 4, 2) := by decide +kernel
theorem dX1_minorOf_120 : decode cX1_minorOf 120 = .ok (.lreturn, 1) := by decide +kernel
theorem dX2_init_0 : decode cX2_init 0 = .ok (.aload_n 0, 1) := by decide +kernel
theorem dX2_init_1 : decode cX2_init 1 = .ok (.invokespecial 3, 3) := by decide +kernel
theorem dX2_init_4 : decode cX2_init 4 = .ok (.aload_n 0, 1) := by decide +kernel
theorem dX2_init_5 : decode cX2_init 5 = .ok (.bipush 8, 2) := by decide +kernel
theorem dX2_init_7 : decode cX2_init 7 = .ok (.newarray .long, 2) := by decide +kernel
theorem dX2_init_9 : decode cX2_init 9 = .ok (.putfield 9, 3) := by decide +kernel
theorem dX2_init_12 : decode cX2_init 12 = .ok (.aload_n 0, 1) := by decide +kernel
theorem dX2_init_13 : decode cX2_init 13 = .ok (.lconst 1, 1) := by decide +kernel
theorem dX2_init_14 : decode cX2_init 14 = .ok (.putfield 15, 3) := by decide +kernel
theorem dX2_init_17 : decode cX2_init 17 = .ok (.aload_n 0, 1) := by decide +kernel
theorem dX2_init_18 : decode cX2_init 18 = .ok (.bipush 8, 2) := by decide +kernel
theorem dX2_init_20 : decode cX2_init 20 = .ok (.newarray .long, 2) := by decide +kernel
theorem dX2_init_22 : decode cX2_init 22 = .ok (.putfield 19, 3) := by decide +kernel
theorem dX2_init_25 : decode cX2_init 25 = .ok (.return_, 1) := by decide +kernel
theorem dX2_partByUse_0 : decode cX2_partByUse 0 = .ok (.aload_n 0, 1) := by decide +kernel
theorem dX2_partByUse_1 : decode cX2_partByUse 1 = .ok (.aload_n 2, 1) := by decide +kernel
theorem dX2_partByUse_2 : decode cX2_partByUse 2 = .ok (.getfield 22, 3) := by decide +kernel
theorem dX2_partByUse_5 : decode cX2_partByUse 5 = .ok (.putfield 15, 3) := by decide +kernel
theorem dX2_partByUse_8 : decode cX2_partByUse 8 = .ok (.iconst 0, 1) := by decide +kernel
theorem dX2_partByUse_9 : decode cX2_partByUse 9 = .ok (.istore 4, 2) := by decide +kernel
theorem dX2_partByUse_11 : decode cX2_partByUse 11 = .ok (.iload 4, 2) := by decide +kernel
theorem dX2_partByUse_13 : decode cX2_partByUse 13 = .ok (.bipush 8, 2) := by decide +kernel
theorem dX2_partByUse_15 : decode cX2_partByUse 15 = .ok (.if_icmp .ge 74, 3) := by decide +kernel
theorem dX2_partByUse_18 : decode cX2_partByUse 18 = .ok (.lconst 0, 1) := by decide +kernel
theorem dX2_partByUse_19 : decode cX2_partByUse 19 = .ok (.lstore 5, 2) := by decide +kernel
theorem dX2_partByUse_21 : decode cX2_partByUse 21 = .ok (.iconst 0, 1) := by decide +kernel
theorem dX2_partByUse_22 : decode cX2_partByUse 22 = .ok (.istore 7, 2) := by decide +kernel
theorem dX2_partByUse_24 : decode cX2_partByUse 24 = .ok (.iload 7, 2) := by decide +kernel
theorem dX2_partByUse_26 : decode cX2_partByUse 26 = .ok (.bipush 6, 2) := by decide +kernel
theorem dX2_partByUse_28 : decode cX2_partByUse 28 = .ok (.if_icmp .ge 33, 3) := by decide +kernel
theorem dX2_partByUse_31 : decode cX2_partByUse 31 = .ok (.lload 5, 2) := by decide +kernel
theorem dX2_partByUse_33 : decode cX2_partByUse 33 = .ok (.aload_n 1, 1) := by decide +kernel
theorem dX2_partByUse_34 : decode cX2_partByUse 34 = .ok (.getfield 25, 3) := by decide +kernel
theorem dX2_partByUse_37 : decode cX2_partByUse 37 = .ok (.iload 7, 2) := by decide +kernel
theorem dX2_partByUse_39 : decode cX2_partByUse 39 = .ok (.aaload, 1) := by decide +kernel
theorem dX2_partByUse_40 : decode cX2_partByUse 40 = .ok (.iload 4, 2) := by decide +kernel
theorem dX2_partByUse_42 : decode cX2_partByUse 42 = .ok (.iaload, 1) := by decide +kernel
theorem dX2_partByUse_43 : decode cX2_partByUse 43 = .ok (.i2l, 1) := by decide +kernel
theorem dX2_partByUse_44 : decode cX2_partByUse 44 = .ok (.aload_n 2, 1) := by decide +kernel
theorem dX2_partByUse_45 : decode cX2_partByUse 45 = .ok (.getfield 31, 3) := by decide +kernel
theorem dX2_partByUse_48 : decode cX2_partByUse 48 = .ok (.iload 7, 2) := by decide +kernel
theorem dX2_partByUse_50 : decode cX2_partByUse 50 = .ok (.laload, 1) := by decide +kernel
theorem dX2_partByUse_51 : decode cX2_partByUse 51 = .ok (.lmul, 1) := by decide +kernel
theorem dX2_partByUse_52 : decode cX2_partByUse 52 = .ok (.ladd, 1) := by decide +kernel
theorem dX2_partByUse_53 : decode cX2_partByUse 53 = .ok (.lstore 5, 2) := by decide +kernel
theorem dX2_partByUse_55 : decode cX2_partByUse 55 = .ok (.iinc 7 1, 3) := by decide +kernel
theorem dX2_partByUse_58 : decode cX2_partByUse 58 = .ok (.goto (-34), 3) := by decide +kernel
theorem dX2_partByUse_61 : decode cX2_partByUse 61 = .ok (.aload_n 0, 1) := by decide +kernel
theorem dX2_partByUse_62 : decode cX2_partByUse 62 = .ok (.getfield 9, 3) := by decide +kernel
theorem dX2_partByUse_65 : decode cX2_partByUse 65 = .ok (.iload 4, 2) := by decide +kernel
theorem dX2_partByUse_67 : decode cX2_partByUse 67 = .ok (.iload_n 3, 1) := by decide +kernel
theorem dX2_partByUse_68 : decode cX2_partByUse 68 = .ok (.iload 4, 2) := by decide +kernel
theorem dX2_partByUse_70 : decode cX2_partByUse 70 = .ok (.invokestatic 32, 3) := by decide +kernel
theorem dX2_partByUse_73 : decode cX2_partByUse 73 = .ok (.ifCond .eq 8, 3) := by decide +kernel
theorem dX2_partByUse_76 : decode cX2_partByUse 76 = .ok (.lload 5, 2) := by decide +kernel
theorem dX2_partByUse_78 : decode cX2_partByUse 78 = .ok (.goto 4, 3) := by decide +kernel
theorem dX2_partByUse_81 : decode cX2_partByUse 81 = .ok (.lconst 0, 1) := by decide +kernel
theorem dX2_partByUse_82 : decode cX2_partByUse 82 = .ok (.lastore, 1) := by decide +kernel
theorem dX2_partByUse_83 : decode cX2_partByUse 83 = .ok (.iinc 4 1, 3) := by decide +kernel
theorem dX2_partByUse_86 : decode cX2_partByUse 86 = .ok (.goto (-75), 3) := by decide +kernel
theorem dX2_partByUse_89 : decode cX2_partByUse 89 = .ok (.return_, 1) := by decide +kernel
theorem dX2_partByAlone_0 : decode cX2_partByAlone 0 = .ok (.aload_n 1, 1) := by decide +kernel
theorem dX2_partByAlone_1 : decode cX2_partByAlone 1 = .ok (.iload_n 2, 1) := by decide +kernel
theorem dX2_partByAlone_2 : decode cX2_partByAlone 2 = .ok (.invokevirtual 36, 3) := by decide +kernel
theorem dX2_partByAlone_5 : decode cX2_partByAlone 5 = .ok (.i2l, 1) := by decide +kernel
theorem dX2_partByAlone_6 : decode cX2_partByAlone 6 = .ok (.lstore_n 3, 1) := by decide +kernel
theorem dX2_partByAlone_7 : decode cX2_partByAlone 7 = .ok (.lconst 0, 1) := by decide +kernel
theorem dX2_partByAlone_8 : decode cX2_partByAlone 8 = .ok (.lstore 5, 2) := by decide +kernel
theorem dX2_partByAlone_10 : decode cX2_partByAlone 10 = .ok (.iconst 0, 1) := by decide +kernel
theorem dX2_partByAlone_11 : decode cX2_partByAlone 11 = .ok (.istore 7, 2) := by decide +kernel
theorem dX2_partByAlone_13 : decode cX2_partByAlone 13 = .ok (.iload 7, 2) := by decide +kernel
theorem dX2_partByAlone_15 : decode cX2_partByAlone 15 = .ok (.bipush 8, 2) := by decide +kernel
theorem dX2_partByAlone_17 : decode cX2_partByAlone 17 = .ok (.if_icmp .ge 51, 3) := by decide +kernel
theorem dX2_partByAlone_20 : decode cX2_partByAlone 20 = .ok (.iload_n 2, 1) := by decide +kernel
theorem dX2_partByAlone_21 : decode cX2_partByAlone 21 = .ok (.iload 7, 2) := by decide +kernel
theorem dX2_partByAlone_23 : decode cX2_partByAlone 23 = .ok (.invokestatic 32, 3) := by decide +kernel
theorem dX2_partByAlone_26 : decode cX2_partByAlone 26 = .ok (.ifCond .eq 15, 3) := by decide +kernel
theorem dX2_partByAlone_29 : decode cX2_partByAlone 29 = .ok (.aload_n 1, 1) := by decide +kernel
theorem dX2_partByAlone_30 : decode cX2_partByAlone 30 = .ok (.iconst 1, 1) := by decide +kernel
theorem dX2_partByAlone_31 : decode cX2_partByAlone 31 = .ok (.iload 7, 2) := by decide +kernel
theorem dX2_partByAlone_33 : decode cX2_partByAlone 33 = .ok (.ishl, 1) := by decide +kernel
theorem dX2_partByAlone_34 : decode cX2_partByAlone 34 = .ok (.invokevirtual 36, 3) := by decide +kernel
theorem dX2_partByAlone_37 : decode cX2_partByAlone 37 = .ok (.i2l, 1) := by decide +kernel
theorem dX2_partByAlone_38 : decode cX2_partByAlone 38 = .ok (.goto 4, 3) := by decide +kernel
theorem dX2_partByAlone_41 : decode cX2_partByAlone 41 = .ok (.lconst 0, 1) := by decide +kernel
theorem dX2_partByAlone_42 : decode cX2_partByAlone 42 = .ok (.lstore 8, 2) := by decide +kernel
theorem dX2_partByAlone_44 : decode cX2_partByAlone 44 = .ok (.lload 5, 2) := by decide +kernel
theorem dX2_partByAlone_46 : decode cX2_partByAlone 46 = .ok (.lload 8, 2) := by decide +kernel
theorem dX2_partByAlone_48 : decode cX2_partByAlone 48 = .ok (.ladd, 1) := by decide +kernel
theorem dX2_partByAlone_49 : decode cX2_partByAlone 49 = .ok (.lstore 5, 2) := by decide +kernel
theorem dX2_partByAlone_51 : decode cX2_partByAlone 51 = .ok (.aload_n 0, 1) := by decide +kernel
theorem dX2_partByAlone_52 : decode cX2_partByAlone 52 = .ok (.getfield 9, 3) := by decide +kernel
theorem dX2_partByAlone_55 : decode cX2_partByAlone 55 = .ok (.iload 7, 2) := by decide +kernel
theorem dX2_partByAlone_57 : decode cX2_partByAlone 57 = .ok (.lload_n 3, 1) := by decide +kernel
theorem dX2_partByAlone_58 : decode cX2_partByAlone 58 = .ok (.lload 8, 2) := by decide +kernel
theorem dX2_partByAlone_60 : decode cX2_partByAlone 60 = .ok (.lmul, 1) := by decide +kernel
theorem dX2_partByAlone_61 : decode cX2_partByAlone 61 = .ok (.lastore, 1) := by decide +kernel
theorem dX2_partByAlone_62 : decode cX2_partByAlone 62 = .ok (.iinc 7 1, 3) := by decide +kernel
theorem dX2_partByAlone_65 : decode cX2_partByAlone 65 = .ok (.goto (-52), 3) := by decide +kernel
theorem dX2_partByAlone_68 : decode cX2_partByAlone 68 = .ok (.aload_n 0, 1) := by decide +kernel
theorem dX2_partByAlone_69 : decode cX2_partByAlone 69 = .ok (.lload 5, 2) := by decide +kernel
theorem dX2_partByAlone_71 : decode cX2_partByAlone 71 = .ok (.lconst 0, 1) := by decide +kernel
theorem dX2_partByAlone_72 : decode cX2_partByAlone 72 = .ok (.lcmp, 1) := by decide +kernel
theorem dX2_partByAlone_73 : decode cX2_partByAlone 73 = .ok (.ifCond .ne 7, 3) := by decide +kernel
theorem dX2_partByAlone_76 : decode cX2_partByAlone 76 = .ok (.lconst 1, 1) := by decide +kernel
theorem dX2_partByAlone_77 : decode cX2_partByAlone 77 = .ok (.goto 5, 3) := by decide +kernel
theorem dX2_partByAlone_80 : decode cX2_partByAlone 80 = .ok (.lload 5, 2) := by decide +kernel
theorem dX2_partByAlone_82 : decode cX2_partByAlone 82 = .ok (.putfield 15, 3) := by decide +kernel
theorem dX2_partByAlone_85 : decode cX2_partByAlone 85 = .ok (.return_, 1) := by decide +kernel
theorem dX2_partByOrders_0 : decode cX2_partByOrders 0 = .ok (.iload_n 2, 1) := by decide +kernel
theorem dX2_partByOrders_1 : decode cX2_partByOrders 1 = .ok (.invokestatic 40, 3) := by decide +kernel
theorem dX2_partByOrders_4 : decode cX2_partByOrders 4 = .ok (.istore_n 3, 1) := by decide +kernel
theorem dX2_partByOrders_5 : decode cX2_partByOrders 5 = .ok (.aload_n 0, 1) := by decide +kernel
theorem dX2_partByOrders_6 : decode cX2_partByOrders 6 = .ok (.iload_n 3, 1) := by decide +kernel
theorem dX2_partByOrders_7 : decode cX2_partByOrders 7 = .ok (.invokestatic 45, 3) := by decide +kernel
theorem dX2_partByOrders_10 : decode cX2_partByOrders 10 = .ok (.putfield 15, 3) := by decide +kernel
theorem dX2_partByOrders_13 : decode cX2_partByOrders 13 = .ok (.aload_n 0, 1) := by decide +kernel
theorem dX2_partByOrders_14 : decode cX2_partByOrders 14 = .ok (.getfield 9, 3) := by decide +kernel
theorem dX2_partByOrders_17 : decode cX2_partByOrders 17 = .ok (.lconst 0, 1) := by decide +kernel
theorem dX2_partByOrders_18 : decode cX2_partByOrders 18 = .ok (.invokestatic 49, 3) := by decide +kernel
theorem dX2_partByOrders_21 : decode cX2_partByOrders 21 = .ok (.iconst 0, 1) := by decide +kernel
theorem dX2_partByOrders_22 : decode cX2_partByOrders 22 = .ok (.istore 4, 2) := by decide +kernel
theorem dX2_partByOrders_24 : decode cX2_partByOrders 24 = .ok (.iload 4, 2) := by decide +kernel
theorem dX2_partByOrders_26 : decode cX2_partByOrders 26 = .ok (.iload_n 2, 1) := by decide +kernel
theorem dX2_partByOrders_27 : decode cX2_partByOrders 27 = .ok (.if_icmp .ge 111, 3) := by decide +kernel
theorem dX2_partByOrders_30 : decode cX2_partByOrders 30 = .ok (.iload 4, 2) := by decide +kernel
theorem dX2_partByOrders_32 : decode cX2_partByOrders 32 = .ok (.iload_n 2, 1) := by decide +kernel
theorem dX2_partByOrders_33 : decode cX2_partByOrders 33 = .ok (.iconst (-1), 1) := by decide +kernel
theorem dX2_partByOrders_34 : decode cX2_partByOrders 34 = .ok (.ixor, 1) := by decide +kernel
theorem dX2_partByOrders_35 : decode cX2_partByOrders 35 = .ok (.iand, 1) := by decide +kernel
theorem dX2_partByOrders_36 : decode cX2_partByOrders 36 = .ok (.ifCond .eq 6, 3) := by decide +kernel
theorem dX2_partByOrders_39 : decode cX2_partByOrders 39 = .ok (.goto 93, 3) := by decide +kernel
theorem dX2_partByOrders_42 : decode cX2_partByOrders 42 = .ok (.iload 4, 2) := by decide +kernel
theorem dX2_partByOrders_44 : decode cX2_partByOrders 44 = .ok (.invokestatic 40, 3) := by decide +kernel
theorem dX2_partByOrders_47 : decode cX2_partByOrders 47 = .ok (.istore 5, 2) := by decide +kernel
theorem dX2_partByOrders_49 : decode cX2_partByOrders 49 = .ok (.iload 5, 2) := by decide +kernel
theorem dX2_partByOrders_51 : decode cX2_partByOrders 51 = .ok (.invokestatic 45, 3) := by decide +kernel
theorem dX2_partByOrders_54 : decode cX2_partByOrders 54 = .ok (.iload_n 3, 1) := by decide +kernel
theorem dX2_partByOrders_55 : decode cX2_partByOrders 55 = .ok (.iload 5, 2) := by decide +kernel
theorem dX2_partByOrders_57 : decode cX2_partByOrders 57 = .ok (.isub, 1) := by decide +kernel
theorem dX2_partByOrders_58 : decode cX2_partByOrders 58 = .ok (.iconst 1, 1) := by decide +kernel
theorem dX2_partByOrders_59 : decode cX2_partByOrders 59 = .ok (.isub, 1) := by decide +kernel
theorem dX2_partByOrders_60 : decode cX2_partByOrders 60 = .ok (.invokestatic 45, 3) := by decide +kernel
theorem dX2_partByOrders_63 : decode cX2_partByOrders 63 = .ok (.lmul, 1) := by decide +kernel
theorem dX2_partByOrders_64 : decode cX2_partByOrders 64 = .ok (.lstore 6, 2) := by decide +kernel
theorem dX2_partByOrders_66 : decode cX2_partByOrders 66 = .ok (.iconst 0, 1) := by decide +kernel
theorem dX2_partByOrders_67 : decode cX2_partByOrders 67 = .ok (.istore 8, 2) := by decide +kernel
theorem dX2_partByOrders_69 : decode cX2_partByOrders 69 = .ok (.iload 8, 2) := by decide +kernel
theorem dX2_partByOrders_71 : decode cX2_partByOrders 71 = .ok (.bipush 8, 2) := by decide +kernel
theorem dX2_partByOrders_73 : decode cX2_partByOrders 73 = .ok (.if_icmp .ge 59, 3) := by decide +kernel
theorem dX2_partByOrders_76 : decode cX2_partByOrders 76 = .ok (.iload_n 2, 1) := by decide +kernel
theorem dX2_partByOrders_77 : decode cX2_partByOrders 77 = .ok (.iload 4, 2) := by decide +kernel
theorem dX2_partByOrders_79 : decode cX2_partByOrders 79 = .ok (.iconst (-1), 1) := by decide +kernel
theorem dX2_partByOrders_80 : decode cX2_partByOrders 80 = .ok (.ixor, 1) := by decide +kernel
theorem dX2_partByOrders_81 : decode cX2_partByOrders 81 = .ok (.iand, 1) := by decide +kernel
theorem dX2_partByOrders_82 : decode cX2_partByOrders 82 = .ok (.iload 8, 2) := by decide +kernel
theorem dX2_partByOrders_84 : decode cX2_partByOrders 84 = .ok (.invokestatic 32, 3) := by decide +kernel
theorem dX2_partByOrders_87 : decode cX2_partByOrders 87 = .ok (.ifCond .eq 39, 3) := by decide +kernel
theorem dX2_partByOrders_90 : decode cX2_partByOrders 90 = .ok (.aload_n 1, 1) := by decide +kernel
theorem dX2_partByOrders_91 : decode cX2_partByOrders 91 = .ok (.iload 4, 2) := by decide +kernel
theorem dX2_partByOrders_93 : decode cX2_partByOrders 93 = .ok (.iconst 1, 1) := by decide +kernel
theorem dX2_partByOrders_94 : decode cX2_partByOrders 94 = .ok (.iload 8, 2) := by decide +kernel
theorem dX2_partByOrders_96 : decode cX2_partByOrders 96 = .ok (.ishl, 1) := by decide +kernel
theorem dX2_partByOrders_97 : decode cX2_partByOrders 97 = .ok (.ior, 1) := by decide +kernel
theorem dX2_partByOrders_98 : decode cX2_partByOrders 98 = .ok (.invokevirtual 36, 3) := by decide +kernel
theorem dX2_partByOrders_101 : decode cX2_partByOrders 101 = .ok (.aload_n 1, 1) := by decide +kernel
theorem dX2_partByOrders_102 : decode cX2_partByOrders 102 = .ok (.iload 4, 2) := by decide +kernel
theorem dX2_partByOrders_104 : decode cX2_partByOrders 104 = .ok (.invokevirtual 36, 3) := by decide +kernel
theorem dX2_partByOrders_107 : decode cX2_partByOrders 107 = .ok (.isub, 1) := by decide +kernel
theorem dX2_partByOrders_108 : decode cX2_partByOrders 108 = .ok (.istore 9, 2) := by decide +kernel
theorem dX2_partByOrders_110 : decode cX2_partByOrders 110 = .ok (.aload_n 0, 1) := by decide +kernel
theorem dX2_partByOrders_111 : decode cX2_partByOrders 111 = .ok (.getfield 9, 3) := by decide +kernel
theorem dX2_partByOrders_114 : decode cX2_partByOrders 114 = .ok (.iload 8, 2) := by decide +kernel
theorem dX2_partByOrders_116 : decode cX2_partByOrders 116 = .ok (.dup2, 1) := by decide +kernel
theorem dX2_partByOrders_117 : decode cX2_partByOrders 117 = .ok (.laload, 1) := by decide +kernel
theorem dX2_partByOrders_118 : decode cX2_partByOrders 118 = .ok (.lload 6, 2) := by decide +kernel
theorem dX2_partByOrders_120 : decode cX2_partByOrders 120 = .ok (.iload 9, 2) := by decide +kernel
theorem dX2_partByOrders_122 : decode cX2_partByOrders 122 = .ok (.i2l, 1) := by decide +kernel
theorem dX2_partByOrders_123 : decode cX2_partByOrders 123 = .ok (.lmul, 1) := by decide +kernel
theorem dX2_partByOrders_124 : decode cX2_partByOrders 124 = .ok (.ladd, 1) := by decide +kernel
theorem dX2_partByOrders_125 : decode cX2_partByOrders 125 = .ok (.lastore, 1) := by decide +kernel
theorem dX2_partByOrders_126 : decode cX2_partByOrders 126 = .ok (.iinc 8 1, 3) := by decide +kernel
theorem dX2_partByOrders_129 : decode cX2_partByOrders 129 = .ok (.goto (-60), 3) := by decide +kernel
theorem dX2_partByOrders_132 : decode cX2_partByOrders 132 = .ok (.iinc 4 1, 3) := by decide +kernel
theorem dX2_partByOrders_135 : decode cX2_partByOrders 135 = .ok (.goto (-111), 3) := by decide +kernel
theorem dX2_partByOrders_138 : decode cX2_partByOrders 138 = .ok (.return_, 1) := by decide +kernel
theorem dX2_factorial_0 : decode cX2_factorial 0 = .ok (.iload_n 0, 1) := by decide +kernel
theorem dX2_factorial_1 : decode cX2_factorial 1 = .ok (.ifCond .lt 19, 3) := by decide +kernel
theorem dX2_factorial_4 : decode cX2_factorial 4 = .ok (.iload_n 0, 1) := by decide +kernel
theorem dX2_factorial_5 : decode cX2_factorial 5 = .ok (.getstatic 55, 3) := by decide +kernel
theorem dX2_factorial_8 : decode cX2_factorial 8 = .ok (.arraylength, 1) := by decide +kernel
theorem dX2_factorial_9 : decode cX2_factorial 9 = .ok (.if_icmp .ge 11, 3) := by decide +kernel
theorem dX2_factorial_12 : decode cX2_factorial 12 = .ok (.getstatic 55, 3) := by decide +kernel
theorem dX2_factorial_15 : decode cX2_factorial 15 = .ok (.iload_n 0, 1) := by decide +kernel
theorem dX2_factorial_16 : decode cX2_factorial 16 = .ok (.laload, 1) := by decide +kernel
theorem dX2_factorial_17 : decode cX2_factorial 17 = .ok (.goto 4, 3) := by decide +kernel
theorem dX2_factorial_20 : decode cX2_factorial 20 = .ok (.lconst 1, 1) := by decide +kernel
theorem dX2_factorial_21 : decode cX2_factorial 21 = .ok (.lreturn, 1) := by decide +kernel
theorem dX2_numeratorOf_0 : decode cX2_numeratorOf 0 = .ok (.lconst 0, 1) := by decide +kernel
theorem dX2_numeratorOf_1 : decode cX2_numeratorOf 1 = .ok (.lstore_n 2, 1) := by decide +kernel
theorem dX2_numeratorOf_2 : decode cX2_numeratorOf 2 = .ok (.iconst 0, 1) := by decide +kernel
theorem dX2_numeratorOf_3 : decode cX2_numeratorOf 3 = .ok (.istore 4, 2) := by decide +kernel
theorem dX2_numeratorOf_5 : decode cX2_numeratorOf 5 = .ok (.iload 4, 2) := by decide +kernel
theorem dX2_numeratorOf_7 : decode cX2_numeratorOf 7 = .ok (.bipush 8, 2) := by decide +kernel
theorem dX2_numeratorOf_9 : decode cX2_numeratorOf 9 = .ok (.if_icmp .ge 28, 3) := by decide +kernel
theorem dX2_numeratorOf_12 : decode cX2_numeratorOf 12 = .ok (.iload_n 1, 1) := by decide +kernel
theorem dX2_numeratorOf_13 : decode cX2_numeratorOf 13 = .ok (.iload 4, 2) := by decide +kernel
theorem dX2_numeratorOf_15 : decode cX2_numeratorOf 15 = .ok (.invokestatic 32, 3) := by decide +kernel
theorem dX2_numeratorOf_18 : decode cX2_numeratorOf 18 = .ok (.ifCond .eq 13, 3) := by decide +kernel
theorem dX2_numeratorOf_21 : decode cX2_numeratorOf 21 = .ok (.lload_n 2, 1) := by decide +kernel
theorem dX2_numeratorOf_22 : decode cX2_numeratorOf 22 = .ok (.aload_n 0, 1) := by decide +kernel
theorem dX2_numeratorOf_23 : decode cX2_numeratorOf 23 = .ok (.getfield 9, 3) := by decide +kernel
theorem dX2_numeratorOf_26 : decode cX2_numeratorOf 26 = .ok (.iload 4, 2) := by decide +kernel
theorem dX2_numeratorOf_28 : decode cX2_numeratorOf 28 = .ok (.laload, 1) := by decide +kernel
theorem dX2_numeratorOf_29 : decode cX2_numeratorOf 29 = .ok (.ladd, 1) := by decide +kernel
theorem dX2_numeratorOf_30 : decode cX2_numeratorOf 30 = .ok (.lstore_n 2, 1) := by decide +kernel
theorem dX2_numeratorOf_31 : decode cX2_numeratorOf 31 = .ok (.iinc 4 1, 3) := by decide +kernel
theorem dX2_numeratorOf_34 : decode cX2_numeratorOf 34 = .ok (.goto (-29), 3) := by decide +kernel
theorem dX2_numeratorOf_37 : decode cX2_numeratorOf 37 = .ok (.lload_n 2, 1) := by decide +kernel
theorem dX2_numeratorOf_38 : decode cX2_numeratorOf 38 = .ok (.lreturn, 1) := by decide +kernel
theorem dX2_cutInto_0 : decode cX2_cutInto 0 = .ok (.aload_n 0, 1) := by decide +kernel
theorem dX2_cutInto_1 : decode cX2_cutInto 1 = .ok (.getfield 15, 3) := by decide +kernel
theorem dX2_cutInto_4 : decode cX2_cutInto 4 = .ok (.lconst 0, 1) := by decide +kernel
theorem dX2_cutInto_5 : decode cX2_cutInto 5 = .ok (.lcmp, 1) := by decide +kernel
theorem dX2_cutInto_6 : decode cX2_cutInto 6 = .ok (.ifCond .gt 4, 3) := by decide +kernel
theorem dX2_cutInto_9 : decode cX2_cutInto 9 = .ok (.return_, 1) := by decide +kernel
theorem dX2_cutInto_10 : decode cX2_cutInto 10 = .ok (.iload_n 2, 1) := by decide +kernel
theorem dX2_cutInto_11 : decode cX2_cutInto 11 = .ok (.istore 4, 2) := by decide +kernel
theorem dX2_cutInto_13 : decode cX2_cutInto 13 = .ok (.iconst 0, 1) := by decide +kernel
theorem dX2_cutInto_14 : decode cX2_cutInto 14 = .ok (.istore 5, 2) := by decide +kernel
theorem dX2_cutInto_16 : decode cX2_cutInto 16 = .ok (.iload 5, 2) := by decide +kernel
theorem dX2_cutInto_18 : decode cX2_cutInto 18 = .ok (.bipush 8, 2) := by decide +kernel
theorem dX2_cutInto_20 : decode cX2_cutInto 20 = .ok (.if_icmp .ge 69, 3) := by decide +kernel
theorem dX2_cutInto_23 : decode cX2_cutInto 23 = .ok (.aload_n 1, 1) := by decide +kernel
theorem dX2_cutInto_24 : decode cX2_cutInto 24 = .ok (.iload 5, 2) := by decide +kernel
theorem dX2_cutInto_26 : decode cX2_cutInto 26 = .ok (.aload_n 0, 1) := by decide +kernel
theorem dX2_cutInto_27 : decode cX2_cutInto 27 = .ok (.getfield 9, 3) := by decide +kernel
theorem dX2_cutInto_30 : decode cX2_cutInto 30 = .ok (.iload 5, 2) := by decide +kernel
theorem dX2_cutInto_32 : decode cX2_cutInto 32 = .ok (.laload, 1) := by decide +kernel
theorem dX2_cutInto_33 : decode cX2_cutInto 33 = .ok (.aload_n 0, 1) := by decide +kernel
theorem dX2_cutInto_34 : decode cX2_cutInto 34 = .ok (.getfield 15, 3) := by decide +kernel
theorem dX2_cutInto_37 : decode cX2_cutInto 37 = .ok (.ldiv, 1) := by decide +kernel
theorem dX2_cutInto_38 : decode cX2_cutInto 38 = .ok (.l2i, 1) := by decide +kernel
theorem dX2_cutInto_39 : decode cX2_cutInto 39 = .ok (.iastore, 1) := by decide +kernel
theorem dX2_cutInto_40 : decode cX2_cutInto 40 = .ok (.aload_n 0, 1) := by decide +kernel
theorem dX2_cutInto_41 : decode cX2_cutInto 41 = .ok (.getfield 19, 3) := by decide +kernel
theorem dX2_cutInto_44 : decode cX2_cutInto 44 = .ok (.iload 5, 2) := by decide +kernel
theorem dX2_cutInto_46 : decode cX2_cutInto 46 = .ok (.iload_n 3, 1) := by decide +kernel
theorem dX2_cutInto_47 : decode cX2_cutInto 47 = .ok (.iload 5, 2) := by decide +kernel
theorem dX2_cutInto_49 : decode cX2_cutInto 49 = .ok (.invokestatic 32, 3) := by decide +kernel
theorem dX2_cutInto_52 : decode cX2_cutInto 52 = .ok (.ifCond .eq 18, 3) := by decide +kernel
theorem dX2_cutInto_55 : decode cX2_cutInto 55 = .ok (.aload_n 0, 1) := by decide +kernel
theorem dX2_cutInto_56 : decode cX2_cutInto 56 = .ok (.getfield 9, 3) := by decide +kernel
theorem dX2_cutInto_59 : decode cX2_cutInto 59 = .ok (.iload 5, 2) := by decide +kernel
theorem dX2_cutInto_61 : decode cX2_cutInto 61 = .ok (.laload, 1) := by decide +kernel
theorem dX2_cutInto_62 : decode cX2_cutInto 62 = .ok (.aload_n 0, 1) := by decide +kernel
theorem dX2_cutInto_63 : decode cX2_cutInto 63 = .ok (.getfield 15, 3) := by decide +kernel
theorem dX2_cutInto_66 : decode cX2_cutInto 66 = .ok (.lrem, 1) := by decide +kernel
theorem dX2_cutInto_67 : decode cX2_cutInto 67 = .ok (.goto 6, 3) := by decide +kernel
theorem dX2_cutInto_70 : decode cX2_cutInto 70 = .ok (.ldc2_w 58, 3) := by decide +kernel
theorem dX2_cutInto_73 : decode cX2_cutInto 73 = .ok (.lastore, 1) := by decide +kernel
theorem dX2_cutInto_74 : decode cX2_cutInto 74 = .ok (.iload 4, 2) := by decide +kernel
theorem dX2_cutInto_76 : decode cX2_cutInto 76 = .ok (.aload_n 1, 1) := by decide +kernel
theorem dX2_cutInto_77 : decode cX2_cutInto 77 = .ok (.iload 5, 2) := by decide +kernel
theorem dX2_cutInto_79 : decode cX2_cutInto 79 = .ok (.iaload, 1) := by decide +kernel
theorem dX2_cutInto_80 : decode cX2_cutInto 80 = .ok (.isub, 1) := by decide +kernel
theorem dX2_cutInto_81 : decode cX2_cutInto 81 = .ok (.istore 4, 2) := by decide +kernel
theorem dX2_cutInto_83 : decode cX2_cutInto 83 = .ok (.iinc 5 1, 3) := by decide +kernel
theorem dX2_cutInto_86 : decode cX2_cutInto 86 = .ok (.goto (-70), 3) := by decide +kernel
theorem dX2_cutInto_89 : decode cX2_cutInto 89 = .ok (.iconst 0, 1) := by decide +kernel
theorem dX2_cutInto_90 : decode cX2_cutInto 90 = .ok (.istore 5, 2) := by decide +kernel
theorem dX2_cutInto_92 : decode cX2_cutInto 92 = .ok (.iload 5, 2) := by decide +kernel
theorem dX2_cutInto_94 : decode cX2_cutInto 94 = .ok (.bipush 8, 2) := by decide +kernel
theorem dX2_cutInto_96 : decode cX2_cutInto 96 = .ok (.if_icmp .ge 40, 3) := by decide +kernel
theorem dX2_cutInto_99 : decode cX2_cutInto 99 = .ok (.iload 5, 2) := by decide +kernel
theorem dX2_cutInto_101 : decode cX2_cutInto 101 = .ok (.iload 4, 2) := by decide +kernel
theorem dX2_cutInto_103 : decode cX2_cutInto 103 = .ok (.if_icmp .ge 33, 3) := by decide +kernel
theorem dX2_cutInto_106 : decode cX2_cutInto 106 = .ok (.aload_n 0, 1) := by decide +kernel
theorem dX2_cutInto_107 : decode cX2_cutInto 107 = .ok (.invokevirtual 60, 3) := by decide +kernel
theorem dX2_cutInto_110 : decode cX2_cutInto 110 = .ok (.istore 6, 2) := by decide +kernel
theorem dX2_cutInto_112 : decode cX2_cutInto 112 = .ok (.aload_n 1, 1) := by decide +kernel
theorem dX2_cutInto_113 : decode cX2_cutInto 113 = .ok (.iload 6, 2) := by decide +kernel
theorem dX2_cutInto_115 : decode cX2_cutInto 115 = .ok (.dup2, 1) := by decide +kernel
theorem dX2_cutInto_116 : decode cX2_cutInto 116 = .ok (.iaload, 1) := by decide +kernel
theorem dX2_cutInto_117 : decode cX2_cutInto 117 = .ok (.iconst 1, 1) := by decide +kernel
theorem dX2_cutInto_118 : decode cX2_cutInto 118 = .ok (.iadd, 1) := by decide +kernel
theorem dX2_cutInto_119 : decode cX2_cutInto 119 = .ok (.iastore, 1) := by decide +kernel
theorem dX2_cutInto_120 : decode cX2_cutInto 120 = .ok (.aload_n 0, 1) := by decide +kernel
theorem dX2_cutInto_121 : decode cX2_cutInto 121 = .ok (.getfield 19, 3) := by decide +kernel
theorem dX2_cutInto_124 : decode cX2_cutInto 124 = .ok (.iload 6, 2) := by decide +kernel
theorem dX2_cutInto_126 : decode cX2_cutInto 126 = .ok (.ldc2_w 58, 3) := by decide +kernel
theorem dX2_cutInto_129 : decode cX2_cutInto 129 = .ok (.lastore, 1) := by decide +kernel
theorem dX2_cutInto_130 : decode cX2_cutInto 130 = .ok (.iinc 5 1, 3) := by decide +kernel
theorem dX2_cutInto_133 : decode cX2_cutInto 133 = .ok (.goto (-41), 3) := by decide +kernel
theorem dX2_cutInto_136 : decode cX2_cutInto 136 = .ok (.return_, 1) := by decide +kernel
theorem dX2_greatestRest_0 : decode cX2_greatestRest 0 = .ok (.iconst 0, 1) := by decide +kernel
theorem dX2_greatestRest_1 : decode cX2_greatestRest 1 = .ok (.istore_n 1, 1) := by decide +kernel
theorem dX2_greatestRest_2 : decode cX2_greatestRest 2 = .ok (.iconst 1, 1) := by decide +kernel
theorem dX2_greatestRest_3 : decode cX2_greatestRest 3 = .ok (.istore_n 2, 1) := by decide +kernel
theorem dX2_greatestRest_4 : decode cX2_greatestRest 4 = .ok (.iload_n 2, 1) := by decide +kernel
theorem dX2_greatestRest_5 : decode cX2_greatestRest 5 = .ok (.bipush 8, 2) := by decide +kernel
theorem dX2_greatestRest_7 : decode cX2_greatestRest 7 = .ok (.if_icmp .ge 27, 3) := by decide +kernel
theorem dX2_greatestRest_10 : decode cX2_greatestRest 10 = .ok (.aload_n 0, 1) := by decide +kernel
theorem dX2_greatestRest_11 : decode cX2_greatestRest 11 = .ok (.getfield 19, 3) := by decide +kernel
theorem dX2_greatestRest_14 : decode cX2_greatestRest 14 = .ok (.iload_n 2, 1) := by decide +kernel
theorem dX2_greatestRest_15 : decode cX2_greatestRest 15 = .ok (.laload, 1) := by decide +kernel
theorem dX2_greatestRest_16 : decode cX2_greatestRest 16 = .ok (.aload_n 0, 1) := by decide +kernel
theorem dX2_greatestRest_17 : decode cX2_greatestRest 17 = .ok (.getfield 19, 3) := by decide +kernel
theorem dX2_greatestRest_20 : decode cX2_greatestRest 20 = .ok (.iload_n 1, 1) := by decide +kernel
theorem dX2_greatestRest_21 : decode cX2_greatestRest 21 = .ok (.laload, 1) := by decide +kernel
theorem dX2_greatestRest_22 : decode cX2_greatestRest 22 = .ok (.lcmp, 1) := by decide +kernel
theorem dX2_greatestRest_23 : decode cX2_greatestRest 23 = .ok (.ifCond .le 5, 3) := by decide +kernel
theorem dX2_greatestRest_26 : decode cX2_greatestRest 26 = .ok (.iload_n 2, 1) := by decide +kernel
theorem dX2_greatestRest_27 : decode cX2_greatestRest 27 = .ok (.istore_n 1, 1) := by decide +kernel
theorem dX2_greatestRest_28 : decode cX2_greatestRest 28 = .ok (.iinc 2 1, 3) := by decide +kernel
theorem dX2_greatestRest_31 : decode cX2_greatestRest 31 = .ok (.goto (-27), 3) := by decide +kernel
theorem dX2_greatestRest_34 : decode cX2_greatestRest 34 = .ok (.iload_n 1, 1) := by decide +kernel
theorem dX2_greatestRest_35 : decode cX2_greatestRest 35 = .ok (.ireturn, 1) := by decide +kernel
theorem dX3_init_0 : decode cX3_init 0 = .ok (.aload_n 0, 1) := by decide +kernel
theorem dX3_init_1 : decode cX3_init 1 = .ok (.invokespecial 3, 3) := by decide +kernel
theorem dX3_init_4 : decode cX3_init 4 = .ok (.aload_n 0, 1) := by decide +kernel
theorem dX3_init_5 : decode cX3_init 5 = .ok (.bipush 8, 2) := by decide +kernel
theorem dX3_init_7 : decode cX3_init 7 = .ok (.newarray .int, 2) := by decide +kernel
theorem dX3_init_9 : decode cX3_init 9 = .ok (.putfield 9, 3) := by decide +kernel
theorem dX3_init_12 : decode cX3_init 12 = .ok (.return_, 1) := by decide +kernel
theorem dX3_has_0 : decode cX3_has 0 = .ok (.iload_n 1, 1) := by decide +kernel
theorem dX3_has_1 : decode cX3_has 1 = .ok (.ifCond .lt 15, 3) := by decide +kernel
theorem dX3_has_4 : decode cX3_has 4 = .ok (.iload_n 1, 1) := by decide +kernel
theorem dX3_has_5 : decode cX3_has 5 = .ok (.aload_n 0, 1) := by decide +kernel
theorem dX3_has_6 : decode cX3_has 6 = .ok (.getfield 15, 3) := by decide +kernel
theorem dX3_has_9 : decode cX3_has 9 = .ok (.if_icmp .ge 7, 3) := by decide +kernel
theorem dX3_has_12 : decode cX3_has 12 = .ok (.iconst 1, 1) := by decide +kernel
theorem dX3_has_13 : decode cX3_has 13 = .ok (.goto 4, 3) := by decide +kernel
theorem dX3_has_16 : decode cX3_has 16 = .ok (.iconst 0, 1) := by decide +kernel
theorem dX3_has_17 : decode cX3_has 17 = .ok (.ireturn, 1) := by decide +kernel
theorem dX3_isThere_0 : decode cX3_isThere 0 = .ok (.aload_n 0, 1) := by decide +kernel
theorem dX3_isThere_1 : decode cX3_isThere 1 = .ok (.iload_n 1, 1) := by decide +kernel
theorem dX3_isThere_2 : decode cX3_isThere 2 = .ok (.invokevirtual 19, 3) := by decide +kernel
theorem dX3_isThere_5 : decode cX3_isThere 5 = .ok (.ifCond .eq 18, 3) := by decide +kernel
theorem dX3_isThere_8 : decode cX3_isThere 8 = .ok (.aload_n 0, 1) := by decide +kernel
theorem dX3_isThere_9 : decode cX3_isThere 9 = .ok (.getfield 23, 3) := by decide +kernel
theorem dX3_isThere_12 : decode cX3_isThere 12 = .ok (.iload_n 1, 1) := by decide +kernel
theorem dX3_isThere_13 : decode cX3_isThere 13 = .ok (.invokestatic 26, 3) := by decide +kernel
theorem dX3_isThere_16 : decode cX3_isThere 16 = .ok (.ifCond .eq 7, 3) := by decide +kernel
theorem dX3_isThere_19 : decode cX3_isThere 19 = .ok (.iconst 1, 1) := by decide +kernel
theorem dX3_isThere_20 : decode cX3_isThere 20 = .ok (.goto 4, 3) := by decide +kernel
theorem dX3_isThere_23 : decode cX3_isThere 23 = .ok (.iconst 0, 1) := by decide +kernel
theorem dX3_isThere_24 : decode cX3_isThere 24 = .ok (.ireturn, 1) := by decide +kernel
theorem dX3_add_0 : decode cX3_add 0 = .ok (.aload_n 0, 1) := by decide +kernel
theorem dX3_add_1 : decode cX3_add 1 = .ok (.getfield 15, 3) := by decide +kernel
theorem dX3_add_4 : decode cX3_add 4 = .ok (.istore_n 1, 1) := by decide +kernel
theorem dX3_add_5 : decode cX3_add 5 = .ok (.aload_n 0, 1) := by decide +kernel
theorem dX3_add_6 : decode cX3_add 6 = .ok (.dup, 1) := by decide +kernel
theorem dX3_add_7 : decode cX3_add 7 = .ok (.getfield 15, 3) := by decide +kernel
theorem dX3_add_10 : decode cX3_add 10 = .ok (.iconst 1, 1) := by decide +kernel
theorem dX3_add_11 : decode cX3_add 11 = .ok (.iadd, 1) := by decide +kernel
theorem dX3_add_12 : decode cX3_add 12 = .ok (.putfield 15, 3) := by decide +kernel
theorem dX3_add_15 : decode cX3_add 15 = .ok (.aload_n 0, 1) := by decide +kernel
theorem dX3_add_16 : decode cX3_add 16 = .ok (.iload_n 1, 1) := by decide +kernel
theorem dX3_add_17 : decode cX3_add 17 = .ok (.invokevirtual 30, 3) := by decide +kernel
theorem dX3_add_20 : decode cX3_add 20 = .ok (.iload_n 1, 1) := by decide +kernel
theorem dX3_add_21 : decode cX3_add 21 = .ok (.ireturn, 1) := by decide +kernel
theorem dX3_turn_0 : decode cX3_turn 0 = .ok (.aload_n 0, 1) := by decide +kernel
theorem dX3_turn_1 : decode cX3_turn 1 = .ok (.dup, 1) := by decide +kernel
theorem dX3_turn_2 : decode cX3_turn 2 = .ok (.getfield 23, 3) := by decide +kernel
theorem dX3_turn_5 : decode cX3_turn 5 = .ok (.iconst 1, 1) := by decide +kernel
theorem dX3_turn_6 : decode cX3_turn 6 = .ok (.iload_n 1, 1) := by decide +kernel
theorem dX3_turn_7 : decode cX3_turn 7 = .ok (.ishl, 1) := by decide +kernel
theorem dX3_turn_8 : decode cX3_turn 8 = .ok (.ixor, 1) := by decide +kernel
theorem dX3_turn_9 : decode cX3_turn 9 = .ok (.putfield 23, 3) := by decide +kernel
theorem dX3_turn_12 : decode cX3_turn 12 = .ok (.return_, 1) := by decide +kernel
theorem dX3_all_0 : decode cX3_all 0 = .ok (.iconst 1, 1) := by decide +kernel
theorem dX3_all_1 : decode cX3_all 1 = .ok (.aload_n 0, 1) := by decide +kernel
theorem dX3_all_2 : decode cX3_all 2 = .ok (.getfield 15, 3) := by decide +kernel
theorem dX3_all_5 : decode cX3_all 5 = .ok (.ishl, 1) := by decide +kernel
theorem dX3_all_6 : decode cX3_all 6 = .ok (.iconst 1, 1) := by decide +kernel
theorem dX3_all_7 : decode cX3_all 7 = .ok (.isub, 1) := by decide +kernel
theorem dX3_all_8 : decode cX3_all 8 = .ok (.ireturn, 1) := by decide +kernel
theorem dX3_markedOfThoseThere_0 : decode cX3_markedOfThoseThere 0 = .ok (.iconst 0, 1) := by decide +kernel
theorem dX3_markedOfThoseThere_1 : decode cX3_markedOfThoseThere 1 = .ok (.istore_n 1, 1) := by decide +kernel
theorem dX3_markedOfThoseThere_2 : decode cX3_markedOfThoseThere 2 = .ok (.iconst 0, 1) := by decide +kernel
theorem dX3_markedOfThoseThere_3 : decode cX3_markedOfThoseThere 3 = .ok (.istore_n 2, 1) := by decide +kernel
theorem dX3_markedOfThoseThere_4 : decode cX3_markedOfThoseThere 4 = .ok (.iload_n 2, 1) := by decide +kernel
theorem dX3_markedOfThoseThere_5 : decode cX3_markedOfThoseThere 5 = .ok (.aload_n 0, 1) := by decide +kernel
theorem dX3_markedOfThoseThere_6 : decode cX3_markedOfThoseThere 6 = .ok (.getfield 15, 3) := by decide +kernel
theorem dX3_markedOfThoseThere_9 : decode cX3_markedOfThoseThere 9 = .ok (.if_icmp .ge 26, 3) := by decide +kernel
theorem dX3_markedOfThoseThere_12 : decode cX3_markedOfThoseThere 12 = .ok (.aload_n 0, 1) := by decide +kernel
theorem dX3_markedOfThoseThere_13 : decode cX3_markedOfThoseThere 13 = .ok (.iload_n 2, 1) := by decide +kernel
theorem dX3_markedOfThoseThere_14 : decode cX3_markedOfThoseThere 14 = .ok (.invokevirtual 34, 3) := by decide +kernel
theorem dX3_markedOfThoseThere_17 : decode cX3_markedOfThoseThere 17 = .ok (.ifCond .eq 12, 3) := by decide +kernel
theorem dX3_markedOfThoseThere_20 : decode cX3_markedOfThoseThere 20 = .ok (.iload_n 1, 1) := by decide +kernel
theorem dX3_markedOfThoseThere_21 : decode cX3_markedOfThoseThere 21 = .ok (.aload_n 0, 1) := by decide +kernel
theorem dX3_markedOfThoseThere_22 : decode cX3_markedOfThoseThere 22 = .ok (.getfield 9, 3) := by decide +kernel
theorem dX3_markedOfThoseThere_25 : decode cX3_markedOfThoseThere 25 = .ok (.iload_n 2, 1) := by decide +kernel
theorem dX3_markedOfThoseThere_26 : decode cX3_markedOfThoseThere 26 = .ok (.iaload, 1) := by decide +kernel
theorem dX3_markedOfThoseThere_27 : decode cX3_markedOfThoseThere 27 = .ok (.iadd, 1) := by decide +kernel
theorem dX3_markedOfThoseThere_28 : decode cX3_markedOfThoseThere 28 = .ok (.istore_n 1, 1) := by decide +kernel
theorem dX3_markedOfThoseThere_29 : decode cX3_markedOfThoseThere 29 = .ok (.iinc 2 1, 3) := by decide +kernel
theorem dX3_markedOfThoseThere_32 : decode cX3_markedOfThoseThere 32 = .ok (.goto (-28), 3) := by decide +kernel
theorem dX3_markedOfThoseThere_35 : decode cX3_markedOfThoseThere 35 = .ok (.iload_n 1, 1) := by decide +kernel
theorem dX3_markedOfThoseThere_36 : decode cX3_markedOfThoseThere 36 = .ok (.ireturn, 1) := by decide +kernel
theorem dX4_init_0 : decode cX4_init 0 = .ok (.aload_n 0, 1) := by decide +kernel
theorem dX4_init_1 : decode cX4_init 1 = .ok (.invokespecial 3, 3) := by decide +kernel
theorem dX4_init_4 : decode cX4_init 4 = .ok (.aload_n 0, 1) := by decide +kernel
theorem dX4_init_5 : decode cX4_init 5 = .ok (.bipush 6, 2) := by decide +kernel
theorem dX4_init_7 : decode cX4_init 7 = .ok (.newarray .int, 2) := by decide +kernel
theorem dX4_init_9 : decode cX4_init 9 = .ok (.putfield 9, 3) := by decide +kernel
theorem dX4_init_12 : decode cX4_init 12 = .ok (.aload_n 0, 1) := by decide +kernel
theorem dX4_init_13 : decode cX4_init 13 = .ok (.bipush 6, 2) := by decide +kernel
theorem dX4_init_15 : decode cX4_init 15 = .ok (.newarray .int, 2) := by decide +kernel
theorem dX4_init_17 : decode cX4_init 17 = .ok (.putfield 15, 3) := by decide +kernel
theorem dX4_init_20 : decode cX4_init 20 = .ok (.aload_n 0, 1) := by decide +kernel
theorem dX4_init_21 : decode cX4_init 21 = .ok (.bipush 6, 2) := by decide +kernel
theorem dX4_init_23 : decode cX4_init 23 = .ok (.bipush 8, 2) := by decide +kernel
theorem dX4_init_25 : decode cX4_init 25 = .ok (.multianewarray 18 2, 4) := by decide +kernel
theorem dX4_init_29 : decode cX4_init 29 = .ok (.putfield 20, 3) := by decide +kernel
theorem dX4_init_32 : decode cX4_init 32 = .ok (.aload_n 0, 1) := by decide +kernel
theorem dX4_init_33 : decode cX4_init 33 = .ok (.bipush 6, 2) := by decide +kernel
theorem dX4_init_35 : decode cX4_init 35 = .ok (.bipush 6, 2) := by decide +kernel
theorem dX4_init_37 : decode cX4_init 37 = .ok (.multianewarray 18 2, 4) := by decide +kernel
theorem dX4_init_41 : decode cX4_init 41 = .ok (.putfield 23, 3) := by decide +kernel
theorem dX4_init_44 : decode cX4_init 44 = .ok (.aload_n 0, 1) := by decide +kernel
theorem dX4_init_45 : decode cX4_init 45 = .ok (.bipush 8, 2) := by decide +kernel
theorem dX4_init_47 : decode cX4_init 47 = .ok (.newarray .int, 2) := by decide +kernel
theorem dX4_init_49 : decode cX4_init 49 = .ok (.putfield 26, 3) := by decide +kernel
theorem dX4_init_52 : decode cX4_init 52 = .ok (.aload_n 0, 1) := by decide +kernel
theorem dX4_init_53 : decode cX4_init 53 = .ok (.sipush 256, 3) := by decide +kernel
theorem dX4_init_56 : decode cX4_init 56 = .ok (.newarray .int, 2) := by decide +kernel
theorem dX4_init_58 : decode cX4_init 58 = .ok (.putfield 29, 3) := by decide +kernel
theorem dX4_init_61 : decode cX4_init 61 = .ok (.aload_n 0, 1) := by decide +kernel
theorem dX4_init_62 : decode cX4_init 62 = .ok (.getfield 29, 3) := by decide +kernel
theorem dX4_init_65 : decode cX4_init 65 = .ok (.iconst (-1), 1) := by decide +kernel
theorem dX4_init_66 : decode cX4_init 66 = .ok (.invokestatic 32, 3) := by decide +kernel
theorem dX4_init_69 : decode cX4_init 69 = .ok (.return_, 1) := by decide +kernel
theorem dX4_has_0 : decode cX4_has 0 = .ok (.iload_n 1, 1) := by decide +kernel
theorem dX4_has_1 : decode cX4_has 1 = .ok (.ifCond .lt 15, 3) := by decide +kernel
theorem dX4_has_4 : decode cX4_has 4 = .ok (.iload_n 1, 1) := by decide +kernel
theorem dX4_has_5 : decode cX4_has 5 = .ok (.aload_n 0, 1) := by decide +kernel
theorem dX4_has_6 : decode cX4_has 6 = .ok (.getfield 38, 3) := by decide +kernel
theorem dX4_has_9 : decode cX4_has 9 = .ok (.if_icmp .ge 7, 3) := by decide +kernel
theorem dX4_has_12 : decode cX4_has 12 = .ok (.iconst 1, 1) := by decide +kernel
theorem dX4_has_13 : decode cX4_has 13 = .ok (.goto 4, 3) := by decide +kernel
theorem dX4_has_16 : decode cX4_has 16 = .ok (.iconst 0, 1) := by decide +kernel
theorem dX4_has_17 : decode cX4_has 17 = .ok (.ireturn, 1) := by decide +kernel
theorem dX4_add_0 : decode cX4_add 0 = .ok (.aload_n 0, 1) := by decide +kernel
theorem dX4_add_1 : decode cX4_add 1 = .ok (.getfield 38, 3) := by decide +kernel
theorem dX4_add_4 : decode cX4_add 4 = .ok (.istore_n 3, 1) := by decide +kernel
theorem dX4_add_5 : decode cX4_add 5 = .ok (.aload_n 0, 1) := by decide +kernel
theorem dX4_add_6 : decode cX4_add 6 = .ok (.dup, 1) := by decide +kernel
theorem dX4_add_7 : decode cX4_add 7 = .ok (.getfield 38, 3) := by decide +kernel
theorem dX4_add_10 : decode cX4_add 10 = .ok (.iconst 1, 1) := by decide +kernel
theorem dX4_add_11 : decode cX4_add 11 = .ok (.iadd, 1) := by decide +kernel
theorem dX4_add_12 : decode cX4_add 12 = .ok (.putfield 38, 3) := by decide +kernel
theorem dX4_add_15 : decode cX4_add 15 = .ok (.aload_n 0, 1) := by decide +kernel
theorem dX4_add_16 : decode cX4_add 16 = .ok (.iload_n 3, 1) := by decide +kernel
theorem dX4_add_17 : decode cX4_add 17 = .ok (.iload_n 1, 1) := by decide +kernel
theorem dX4_add_18 : decode cX4_add 18 = .ok (.iload_n 2, 1) := by decide +kernel
theorem dX4_add_19 : decode cX4_add 19 = .ok (.invokevirtual 42, 3) := by decide +kernel
theorem dX4_add_22 : decode cX4_add 22 = .ok (.iload_n 3, 1) := by decide +kernel
theorem dX4_add_23 : decode cX4_add 23 = .ok (.ireturn, 1) := by decide +kernel
theorem dX4_putCosts_0 : decode cX4_putCosts 0 = .ok (.aload_n 0, 1) := by decide +kernel
theorem dX4_putCosts_1 : decode cX4_putCosts 1 = .ok (.getfield 9, 3) := by decide +kernel
theorem dX4_putCosts_4 : decode cX4_putCosts 4 = .ok (.iload_n 1, 1) := by decide +kernel
theorem dX4_putCosts_5 : decode cX4_putCosts 5 = .ok (.iload_n 2, 1) := by decide +kernel
theorem dX4_putCosts_6 : decode cX4_putCosts 6 = .ok (.iastore, 1) := by decide +kernel
theorem dX4_putCosts_7 : decode cX4_putCosts 7 = .ok (.aload_n 0, 1) := by decide +kernel
theorem dX4_putCosts_8 : decode cX4_putCosts 8 = .ok (.getfield 15, 3) := by decide +kernel
theorem dX4_putCosts_11 : decode cX4_putCosts 11 = .ok (.iload_n 1, 1) := by decide +kernel
theorem dX4_putCosts_12 : decode cX4_putCosts 12 = .ok (.iload_n 3, 1) := by decide +kernel
theorem dX4_putCosts_13 : decode cX4_putCosts 13 = .ok (.iastore, 1) := by decide +kernel
theorem dX4_putCosts_14 : decode cX4_putCosts 14 = .ok (.aload_n 0, 1) := by decide +kernel
theorem dX4_putCosts_15 : decode cX4_putCosts 15 = .ok (.getfield 29, 3) := by decide +kernel
theorem dX4_putCosts_18 : decode cX4_putCosts 18 = .ok (.iconst (-1), 1) := by decide +kernel
theorem dX4_putCosts_19 : decode cX4_putCosts 19 = .ok (.invokestatic 32, 3) := by decide +kernel
theorem dX4_putCosts_22 : decode cX4_putCosts 22 = .ok (.return_, 1) := by decide +kernel
theorem dX4_putUnitsByUser_0 : decode cX4_putUnitsByUser 0 = .ok (.aload_n 0, 1) := by decide +kernel
theorem dX4_putUnitsByUser_1 : decode cX4_putUnitsByUser 1 = .ok (.getfield 20, 3) := by decide +kernel
theorem dX4_putUnitsByUser_4 : decode cX4_putUnitsByUser 4 = .ok (.iload_n 1, 1) := by decide +kernel
theorem dX4_putUnitsByUser_5 : decode cX4_putUnitsByUser 5 = .ok (.aaload, 1) := by decide +kernel
theorem dX4_putUnitsByUser_6 : decode cX4_putUnitsByUser 6 = .ok (.iload_n 2, 1) := by decide +kernel
theorem dX4_putUnitsByUser_7 : decode cX4_putUnitsByUser 7 = .ok (.iload_n 3, 1) := by decide +kernel
theorem dX4_putUnitsByUser_8 : decode cX4_putUnitsByUser 8 = .ok (.iastore, 1) := by decide +kernel
theorem dX4_putUnitsByUser_9 : decode cX4_putUnitsByUser 9 = .ok (.aload_n 0, 1) := by decide +kernel
theorem dX4_putUnitsByUser_10 : decode cX4_putUnitsByUser 10 = .ok (.invokevirtual 46, 3) := by decide +kernel
theorem dX4_putUnitsByUser_13 : decode cX4_putUnitsByUser 13 = .ok (.return_, 1) := by decide +kernel
theorem dX4_putUnitsByWork_0 : decode cX4_putUnitsByWork 0 = .ok (.aload_n 0, 1) := by decide +kernel
theorem dX4_putUnitsByWork_1 : decode cX4_putUnitsByWork 1 = .ok (.getfield 23, 3) := by decide +kernel
theorem dX4_putUnitsByWork_4 : decode cX4_putUnitsByWork 4 = .ok (.iload_n 1, 1) := by decide +kernel
theorem dX4_putUnitsByWork_5 : decode cX4_putUnitsByWork 5 = .ok (.aaload, 1) := by decide +kernel
theorem dX4_putUnitsByWork_6 : decode cX4_putUnitsByWork 6 = .ok (.iload_n 2, 1) := by decide +kernel
theorem dX4_putUnitsByWork_7 : decode cX4_putUnitsByWork 7 = .ok (.iload_n 3, 1) := by decide +kernel
theorem dX4_putUnitsByWork_8 : decode cX4_putUnitsByWork 8 = .ok (.iastore, 1) := by decide +kernel
theorem dX4_putUnitsByWork_9 : decode cX4_putUnitsByWork 9 = .ok (.aload_n 0, 1) := by decide +kernel
theorem dX4_putUnitsByWork_10 : decode cX4_putUnitsByWork 10 = .ok (.invokevirtual 46, 3) := by decide +kernel
theorem dX4_putUnitsByWork_13 : decode cX4_putUnitsByWork 13 = .ok (.return_, 1) := by decide +kernel
theorem dX4_learnNeeds_0 : decode cX4_learnNeeds 0 = .ok (.iconst 0, 1) := by decide +kernel
theorem dX4_learnNeeds_1 : decode cX4_learnNeeds 1 = .ok (.istore_n 1, 1) := by decide +kernel
theorem dX4_learnNeeds_2 : decode cX4_learnNeeds 2 = .ok (.iload_n 1, 1) := by decide +kernel
theorem dX4_learnNeeds_3 : decode cX4_learnNeeds 3 = .ok (.bipush 8, 2) := by decide +kernel
theorem dX4_learnNeeds_5 : decode cX4_learnNeeds 5 = .ok (.if_icmp .ge 28, 3) := by decide +kernel
theorem dX4_learnNeeds_8 : decode cX4_learnNeeds 8 = .ok (.aload_n 0, 1) := by decide +kernel
theorem dX4_learnNeeds_9 : decode cX4_learnNeeds 9 = .ok (.getfield 26, 3) := by decide +kernel
theorem dX4_learnNeeds_12 : decode cX4_learnNeeds 12 = .ok (.iload_n 1, 1) := by decide +kernel
theorem dX4_learnNeeds_13 : decode cX4_learnNeeds 13 = .ok (.aload_n 0, 1) := by decide +kernel
theorem dX4_learnNeeds_14 : decode cX4_learnNeeds 14 = .ok (.aload_n 0, 1) := by decide +kernel
theorem dX4_learnNeeds_15 : decode cX4_learnNeeds 15 = .ok (.iload_n 1, 1) := by decide +kernel
theorem dX4_learnNeeds_16 : decode cX4_learnNeeds 16 = .ok (.aload_n 0, 1) := by decide +kernel
theorem dX4_learnNeeds_17 : decode cX4_learnNeeds 17 = .ok (.getfield 20, 3) := by decide +kernel
theorem dX4_learnNeeds_20 : decode cX4_learnNeeds 20 = .ok (.invokevirtual 49, 3) := by decide +kernel
theorem dX4_learnNeeds_23 : decode cX4_learnNeeds 23 = .ok (.invokevirtual 53, 3) := by decide +kernel
theorem dX4_learnNeeds_26 : decode cX4_learnNeeds 26 = .ok (.iastore, 1) := by decide +kernel
theorem dX4_learnNeeds_27 : decode cX4_learnNeeds 27 = .ok (.iinc 1 1, 3) := by decide +kernel
theorem dX4_learnNeeds_30 : decode cX4_learnNeeds 30 = .ok (.goto (-28), 3) := by decide +kernel
theorem dX4_learnNeeds_33 : decode cX4_learnNeeds 33 = .ok (.aload_n 0, 1) := by decide +kernel
theorem dX4_learnNeeds_34 : decode cX4_learnNeeds 34 = .ok (.getfield 29, 3) := by decide +kernel
theorem dX4_learnNeeds_37 : decode cX4_learnNeeds 37 = .ok (.iconst (-1), 1) := by decide +kernel
theorem dX4_learnNeeds_38 : decode cX4_learnNeeds 38 = .ok (.invokestatic 32, 3) := by decide +kernel
theorem dX4_learnNeeds_41 : decode cX4_learnNeeds 41 = .ok (.return_, 1) := by decide +kernel
theorem dX4_usedBy_0 : decode cX4_usedBy 0 = .ok (.iconst 0, 1) := by decide +kernel
theorem dX4_usedBy_1 : decode cX4_usedBy 1 = .ok (.istore_n 3, 1) := by decide +kernel
theorem dX4_usedBy_2 : decode cX4_usedBy 2 = .ok (.iconst 0, 1) := by decide +kernel
theorem dX4_usedBy_3 : decode cX4_usedBy 3 = .ok (.istore 4, 2) := by decide +kernel
theorem dX4_usedBy_5 : decode cX4_usedBy 5 = .ok (.iload 4, 2) := by decide +kernel
theorem dX4_usedBy_7 : decode cX4_usedBy 7 = .ok (.aload_n 0, 1) := by decide +kernel
theorem dX4_usedBy_8 : decode cX4_usedBy 8 = .ok (.getfield 38, 3) := by decide +kernel
theorem dX4_usedBy_11 : decode cX4_usedBy 11 = .ok (.if_icmp .ge 25, 3) := by decide +kernel
theorem dX4_usedBy_14 : decode cX4_usedBy 14 = .ok (.aload_n 2, 1) := by decide +kernel
theorem dX4_usedBy_15 : decode cX4_usedBy 15 = .ok (.iload 4, 2) := by decide +kernel
theorem dX4_usedBy_17 : decode cX4_usedBy 17 = .ok (.aaload, 1) := by decide +kernel
theorem dX4_usedBy_18 : decode cX4_usedBy 18 = .ok (.iload_n 1, 1) := by decide +kernel
theorem dX4_usedBy_19 : decode cX4_usedBy 19 = .ok (.iaload, 1) := by decide +kernel
theorem dX4_usedBy_20 : decode cX4_usedBy 20 = .ok (.ifCond .le 10, 3) := by decide +kernel
theorem dX4_usedBy_23 : decode cX4_usedBy 23 = .ok (.iload_n 3, 1) := by decide +kernel
theorem dX4_usedBy_24 : decode cX4_usedBy 24 = .ok (.iconst 1, 1) := by decide +kernel
theorem dX4_usedBy_25 : decode cX4_usedBy 25 = .ok (.iload 4, 2) := by decide +kernel
theorem dX4_usedBy_27 : decode cX4_usedBy 27 = .ok (.ishl, 1) := by decide +kernel
theorem dX4_usedBy_28 : decode cX4_usedBy 28 = .ok (.ior, 1) := by decide +kernel
theorem dX4_usedBy_29 : decode cX4_usedBy 29 = .ok (.istore_n 3, 1) := by decide +kernel
theorem dX4_usedBy_30 : decode cX4_usedBy 30 = .ok (.iinc 4 1, 3) := by decide +kernel
theorem dX4_usedBy_33 : decode cX4_usedBy 33 = .ok (.goto (-28), 3) := by decide +kernel
theorem dX4_usedBy_36 : decode cX4_usedBy 36 = .ok (.iload_n 3, 1) := by decide +kernel
theorem dX4_usedBy_37 : decode cX4_usedBy 37 = .ok (.ireturn, 1) := by decide +kernel
theorem dX4_withAllTheyUse_0 : decode cX4_withAllTheyUse 0 = .ok (.iload_n 1, 1) := by decide +kernel
theorem dX4_withAllTheyUse_1 : decode cX4_withAllTheyUse 1 = .ok (.istore_n 2, 1) := by decide +kernel
theorem dX4_withAllTheyUse_2 : decode cX4_withAllTheyUse 2 = .ok (.iconst 1, 1) := by decide +kernel
theorem dX4_withAllTheyUse_3 : decode cX4_withAllTheyUse 3 = .ok (.istore_n 3, 1) := by decide +kernel
theorem dX4_withAllTheyUse_4 : decode cX4_withAllTheyUse 4 = .ok (.iload_n 3, 1) := by decide +kernel
theorem dX4_withAllTheyUse_5 : decode cX4_withAllTheyUse 5 = .ok (.aload_n 0, 1) := by decide +kernel
theorem dX4_withAllTheyUse_6 : decode cX4_withAllTheyUse 6 = .ok (.getfield 38, 3) := by decide +kernel
theorem dX4_withAllTheyUse_9 : decode cX4_withAllTheyUse 9 = .ok (.if_icmp .ge 49, 3) := by decide +kernel
theorem dX4_withAllTheyUse_12 : decode cX4_withAllTheyUse 12 = .ok (.iconst 0, 1) := by decide +kernel
theorem dX4_withAllTheyUse_13 : decode cX4_withAllTheyUse 13 = .ok (.istore 4, 2) := by decide +kernel
theorem dX4_withAllTheyUse_15 : decode cX4_withAllTheyUse 15 = .ok (.iload 4, 2) := by decide +kernel
theorem dX4_withAllTheyUse_17 : decode cX4_withAllTheyUse 17 = .ok (.aload_n 0, 1) := by decide +kernel
theorem dX4_withAllTheyUse_18 : decode cX4_withAllTheyUse 18 = .ok (.getfield 38, 3) := by decide +kernel
theorem dX4_withAllTheyUse_21 : decode cX4_withAllTheyUse 21 = .ok (.if_icmp .ge 31, 3) := by decide +kernel
theorem dX4_withAllTheyUse_24 : decode cX4_withAllTheyUse 24 = .ok (.iload_n 2, 1) := by decide +kernel
theorem dX4_withAllTheyUse_25 : decode cX4_withAllTheyUse 25 = .ok (.iload 4, 2) := by decide +kernel
theorem dX4_withAllTheyUse_27 : decode cX4_withAllTheyUse 27 = .ok (.invokestatic 57, 3) := by decide +kernel
theorem dX4_withAllTheyUse_30 : decode cX4_withAllTheyUse 30 = .ok (.ifCond .eq 16, 3) := by decide +kernel
theorem dX4_withAllTheyUse_33 : decode cX4_withAllTheyUse 33 = .ok (.iload_n 2, 1) := by decide +kernel
theorem dX4_withAllTheyUse_34 : decode cX4_withAllTheyUse 34 = .ok (.aload_n 0, 1) := by decide +kernel
theorem dX4_withAllTheyUse_35 : decode cX4_withAllTheyUse 35 = .ok (.iload 4, 2) := by decide +kernel
theorem dX4_withAllTheyUse_37 : decode cX4_withAllTheyUse 37 = .ok (.aload_n 0, 1) := by decide +kernel
theorem dX4_withAllTheyUse_38 : decode cX4_withAllTheyUse 38 = .ok (.getfield 23, 3) := by decide +kernel
theorem dX4_withAllTheyUse_41 : decode cX4_withAllTheyUse 41 = .ok (.invokevirtual 49, 3) := by decide +kernel
theorem dX4_withAllTheyUse_44 : decode cX4_withAllTheyUse 44 = .ok (.ior, 1) := by decide +kernel
theorem dX4_withAllTheyUse_45 : decode cX4_withAllTheyUse 45 = .ok (.istore_n 2, 1) := by decide +kernel
theorem dX4_withAllTheyUse_46 : decode cX4_withAllTheyUse 46 = .ok (.iinc 4 1, 3) := by decide +kernel
theorem dX4_withAllTheyUse_49 : decode cX4_withAllTheyUse 49 = .ok (.goto (-34), 3) := by decide +kernel
theorem dX4_withAllTheyUse_52 : decode cX4_withAllTheyUse 52 = .ok (.iinc 3 1, 3) := by decide +kernel
theorem dX4_withAllTheyUse_55 : decode cX4_withAllTheyUse 55 = .ok (.goto (-51), 3) := by decide +kernel
theorem dX4_withAllTheyUse_58 : decode cX4_withAllTheyUse 58 = .ok (.iload_n 2, 1) := by decide +kernel
theorem dX4_withAllTheyUse_59 : decode cX4_withAllTheyUse 59 = .ok (.ireturn, 1) := by decide +kernel
theorem dX4_neededBy_0 : decode cX4_neededBy 0 = .ok (.iconst 0, 1) := by decide +kernel
theorem dX4_neededBy_1 : decode cX4_neededBy 1 = .ok (.istore_n 2, 1) := by decide +kernel
theorem dX4_neededBy_2 : decode cX4_neededBy 2 = .ok (.iconst 0, 1) := by decide +kernel
theorem dX4_neededBy_3 : decode cX4_neededBy 3 = .ok (.istore_n 3, 1) := by decide +kernel
theorem dX4_neededBy_4 : decode cX4_neededBy 4 = .ok (.iload_n 3, 1) := by decide +kernel
theorem dX4_neededBy_5 : decode cX4_neededBy 5 = .ok (.bipush 8, 2) := by decide +kernel
theorem dX4_neededBy_7 : decode cX4_neededBy 7 = .ok (.if_icmp .ge 26, 3) := by decide +kernel
theorem dX4_neededBy_10 : decode cX4_neededBy 10 = .ok (.iload_n 1, 1) := by decide +kernel
theorem dX4_neededBy_11 : decode cX4_neededBy 11 = .ok (.iload_n 3, 1) := by decide +kernel
theorem dX4_neededBy_12 : decode cX4_neededBy 12 = .ok (.invokestatic 57, 3) := by decide +kernel
theorem dX4_neededBy_15 : decode cX4_neededBy 15 = .ok (.ifCond .eq 12, 3) := by decide +kernel
theorem dX4_neededBy_18 : decode cX4_neededBy 18 = .ok (.iload_n 2, 1) := by decide +kernel
theorem dX4_neededBy_19 : decode cX4_neededBy 19 = .ok (.aload_n 0, 1) := by decide +kernel
theorem dX4_neededBy_20 : decode cX4_neededBy 20 = .ok (.getfield 26, 3) := by decide +kernel
theorem dX4_neededBy_23 : decode cX4_neededBy 23 = .ok (.iload_n 3, 1) := by decide +kernel
theorem dX4_neededBy_24 : decode cX4_neededBy 24 = .ok (.iaload, 1) := by decide +kernel
theorem dX4_neededBy_25 : decode cX4_neededBy 25 = .ok (.ior, 1) := by decide +kernel
theorem dX4_neededBy_26 : decode cX4_neededBy 26 = .ok (.istore_n 2, 1) := by decide +kernel
theorem dX4_neededBy_27 : decode cX4_neededBy 27 = .ok (.iinc 3 1, 3) := by decide +kernel
theorem dX4_neededBy_30 : decode cX4_neededBy 30 = .ok (.goto (-26), 3) := by decide +kernel
theorem dX4_neededBy_33 : decode cX4_neededBy 33 = .ok (.iload_n 2, 1) := by decide +kernel
theorem dX4_neededBy_34 : decode cX4_neededBy 34 = .ok (.ireturn, 1) := by decide +kernel
theorem dX4_onRings_0 : decode cX4_onRings 0 = .ok (.iconst 0, 1) := by decide +kernel
theorem dX4_onRings_1 : decode cX4_onRings 1 = .ok (.istore_n 1, 1) := by decide +kernel
theorem dX4_onRings_2 : decode cX4_onRings 2 = .ok (.iconst 0, 1) := by decide +kernel
theorem dX4_onRings_3 : decode cX4_onRings 3 = .ok (.istore_n 2, 1) := by decide +kernel
theorem dX4_onRings_4 : decode cX4_onRings 4 = .ok (.iload_n 2, 1) := by decide +kernel
theorem dX4_onRings_5 : decode cX4_onRings 5 = .ok (.aload_n 0, 1) := by decide +kernel
theorem dX4_onRings_6 : decode cX4_onRings 6 = .ok (.getfield 38, 3) := by decide +kernel
theorem dX4_onRings_9 : decode cX4_onRings 9 = .ok (.if_icmp .ge 35, 3) := by decide +kernel
theorem dX4_onRings_12 : decode cX4_onRings 12 = .ok (.aload_n 0, 1) := by decide +kernel
theorem dX4_onRings_13 : decode cX4_onRings 13 = .ok (.aload_n 0, 1) := by decide +kernel
theorem dX4_onRings_14 : decode cX4_onRings 14 = .ok (.iload_n 2, 1) := by decide +kernel
theorem dX4_onRings_15 : decode cX4_onRings 15 = .ok (.aload_n 0, 1) := by decide +kernel
theorem dX4_onRings_16 : decode cX4_onRings 16 = .ok (.getfield 23, 3) := by decide +kernel
theorem dX4_onRings_19 : decode cX4_onRings 19 = .ok (.invokevirtual 49, 3) := by decide +kernel
theorem dX4_onRings_22 : decode cX4_onRings 22 = .ok (.invokevirtual 53, 3) := by decide +kernel
theorem dX4_onRings_25 : decode cX4_onRings 25 = .ok (.iload_n 2, 1) := by decide +kernel
theorem dX4_onRings_26 : decode cX4_onRings 26 = .ok (.invokestatic 57, 3) := by decide +kernel
theorem dX4_onRings_29 : decode cX4_onRings 29 = .ok (.ifCond .eq 9, 3) := by decide +kernel
theorem dX4_onRings_32 : decode cX4_onRings 32 = .ok (.iload_n 1, 1) := by decide +kernel
theorem dX4_onRings_33 : decode cX4_onRings 33 = .ok (.iconst 1, 1) := by decide +kernel
theorem dX4_onRings_34 : decode cX4_onRings 34 = .ok (.iload_n 2, 1) := by decide +kernel
theorem dX4_onRings_35 : decode cX4_onRings 35 = .ok (.ishl, 1) := by decide +kernel
theorem dX4_onRings_36 : decode cX4_onRings 36 = .ok (.ior, 1) := by decide +kernel
theorem dX4_onRings_37 : decode cX4_onRings 37 = .ok (.istore_n 1, 1) := by decide +kernel
theorem dX4_onRings_38 : decode cX4_onRings 38 = .ok (.iinc 2 1, 3) := by decide +kernel
theorem dX4_onRings_41 : decode cX4_onRings 41 = .ok (.goto (-37), 3) := by decide +kernel
theorem dX4_onRings_44 : decode cX4_onRings 44 = .ok (.iload_n 1, 1) := by decide +kernel
theorem dX4_onRings_45 : decode cX4_onRings 45 = .ok (.ireturn, 1) := by decide +kernel
theorem dX4_unitsOf_0 : decode cX4_unitsOf 0 = .ok (.iconst 0, 1) := by decide +kernel
theorem dX4_unitsOf_1 : decode cX4_unitsOf 1 = .ok (.istore 4, 2) := by decide +kernel
theorem dX4_unitsOf_3 : decode cX4_unitsOf 3 = .ok (.iconst 0, 1) := by decide +kernel
theorem dX4_unitsOf_4 : decode cX4_unitsOf 4 = .ok (.istore 5, 2) := by decide +kernel
theorem dX4_unitsOf_6 : decode cX4_unitsOf 6 = .ok (.iload 5, 2) := by decide +kernel
theorem dX4_unitsOf_8 : decode cX4_unitsOf 8 = .ok (.bipush 8, 2) := by decide +kernel
theorem dX4_unitsOf_10 : decode cX4_unitsOf 10 = .ok (.if_icmp .ge 32, 3) := by decide +kernel
theorem dX4_unitsOf_13 : decode cX4_unitsOf 13 = .ok (.iload_n 2, 1) := by decide +kernel
theorem dX4_unitsOf_14 : decode cX4_unitsOf 14 = .ok (.iload 5, 2) := by decide +kernel
theorem dX4_unitsOf_16 : decode cX4_unitsOf 16 = .ok (.invokestatic 57, 3) := by decide +kernel
theorem dX4_unitsOf_19 : decode cX4_unitsOf 19 = .ok (.ifCond .eq 17, 3) := by decide +kernel
theorem dX4_unitsOf_22 : decode cX4_unitsOf 22 = .ok (.iload 4, 2) := by decide +kernel
theorem dX4_unitsOf_24 : decode cX4_unitsOf 24 = .ok (.aload_n 0, 1) := by decide +kernel
theorem dX4_unitsOf_25 : decode cX4_unitsOf 25 = .ok (.getfield 20, 3) := by decide +kernel
theorem dX4_unitsOf_28 : decode cX4_unitsOf 28 = .ok (.iload_n 1, 1) := by decide +kernel
theorem dX4_unitsOf_29 : decode cX4_unitsOf 29 = .ok (.aaload, 1) := by decide +kernel
theorem dX4_unitsOf_30 : decode cX4_unitsOf 30 = .ok (.iload 5, 2) := by decide +kernel
theorem dX4_unitsOf_32 : decode cX4_unitsOf 32 = .ok (.iaload, 1) := by decide +kernel
theorem dX4_unitsOf_33 : decode cX4_unitsOf 33 = .ok (.iadd, 1) := by decide +kernel
theorem dX4_unitsOf_34 : decode cX4_unitsOf 34 = .ok (.istore 4, 2) := by decide +kernel
theorem dX4_unitsOf_36 : decode cX4_unitsOf 36 = .ok (.iinc 5 1, 3) := by decide +kernel
theorem dX4_unitsOf_39 : decode cX4_unitsOf 39 = .ok (.goto (-33), 3) := by decide +kernel
theorem dX4_unitsOf_42 : decode cX4_unitsOf 42 = .ok (.iconst 0, 1) := by decide +kernel
theorem dX4_unitsOf_43 : decode cX4_unitsOf 43 = .ok (.istore 5, 2) := by decide +kernel
theorem dX4_unitsOf_45 : decode cX4_unitsOf 45 = .ok (.iload 5, 2) := by decide +kernel
theorem dX4_unitsOf_47 : decode cX4_unitsOf 47 = .ok (.aload_n 0, 1) := by decide +kernel
theorem dX4_unitsOf_48 : decode cX4_unitsOf 48 = .ok (.getfield 38, 3) := by decide +kernel
theorem dX4_unitsOf_51 : decode cX4_unitsOf 51 = .ok (.if_icmp .ge 32, 3) := by decide +kernel
theorem dX4_unitsOf_54 : decode cX4_unitsOf 54 = .ok (.iload_n 3, 1) := by decide +kernel
theorem dX4_unitsOf_55 : decode cX4_unitsOf 55 = .ok (.iload 5, 2) := by decide +kernel
theorem dX4_unitsOf_57 : decode cX4_unitsOf 57 = .ok (.invokestatic 57, 3) := by decide +kernel
theorem dX4_unitsOf_60 : decode cX4_unitsOf 60 = .ok (.ifCond .eq 17, 3) := by decide +kernel
theorem dX4_unitsOf_63 : decode cX4_unitsOf 63 = .ok (.iload 4, 2) := by decide +kernel
theorem dX4_unitsOf_65 : decode cX4_unitsOf 65 = .ok (.aload_n 0, 1) := by decide +kernel
theorem dX4_unitsOf_66 : decode cX4_unitsOf 66 = .ok (.getfield 23, 3) := by decide +kernel
theorem dX4_unitsOf_69 : decode cX4_unitsOf 69 = .ok (.iload_n 1, 1) := by decide +kernel
theorem dX4_unitsOf_70 : decode cX4_unitsOf 70 = .ok (.aaload, 1) := by decide +kernel
theorem dX4_unitsOf_71 : decode cX4_unitsOf 71 = .ok (.iload 5, 2) := by decide +kernel
theorem dX4_unitsOf_73 : decode cX4_unitsOf 73 = .ok (.iaload, 1) := by decide +kernel
theorem dX4_unitsOf_74 : decode cX4_unitsOf 74 = .ok (.iadd, 1) := by decide +kernel
theorem dX4_unitsOf_75 : decode cX4_unitsOf 75 = .ok (.istore 4, 2) := by decide +kernel
theorem dX4_unitsOf_77 : decode cX4_unitsOf 77 = .ok (.iinc 5 1, 3) := by decide +kernel
theorem dX4_unitsOf_80 : decode cX4_unitsOf 80 = .ok (.goto (-35), 3) := by decide +kernel
theorem dX4_unitsOf_83 : decode cX4_unitsOf 83 = .ok (.iload 4, 2) := by decide +kernel
theorem dX4_unitsOf_85 : decode cX4_unitsOf 85 = .ok (.ireturn, 1) := by decide +kernel
theorem dX4_costAt_0 : decode cX4_costAt 0 = .ok (.iload_n 2, 1) := by decide +kernel
theorem dX4_costAt_1 : decode cX4_costAt 1 = .ok (.bipush 10, 2) := by decide +kernel
theorem dX4_costAt_3 : decode cX4_costAt 3 = .ok (.iadd, 1) := by decide +kernel
theorem dX4_costAt_4 : decode cX4_costAt 4 = .ok (.iconst 1, 1) := by decide +kernel
theorem dX4_costAt_5 : decode cX4_costAt 5 = .ok (.isub, 1) := by decide +kernel
theorem dX4_costAt_6 : decode cX4_costAt 6 = .ok (.bipush 10, 2) := by decide +kernel
theorem dX4_costAt_8 : decode cX4_costAt 8 = .ok (.idiv, 1) := by decide +kernel
theorem dX4_costAt_9 : decode cX4_costAt 9 = .ok (.istore_n 3, 1) := by decide +kernel
theorem dX4_costAt_10 : decode cX4_costAt 10 = .ok (.aload_n 0, 1) := by decide +kernel
theorem dX4_costAt_11 : decode cX4_costAt 11 = .ok (.getfield 9, 3) := by decide +kernel
theorem dX4_costAt_14 : decode cX4_costAt 14 = .ok (.iload_n 1, 1) := by decide +kernel
theorem dX4_costAt_15 : decode cX4_costAt 15 = .ok (.iaload, 1) := by decide +kernel
theorem dX4_costAt_16 : decode cX4_costAt 16 = .ok (.aload_n 0, 1) := by decide +kernel
theorem dX4_costAt_17 : decode cX4_costAt 17 = .ok (.getfield 15, 3) := by decide +kernel
theorem dX4_costAt_20 : decode cX4_costAt 20 = .ok (.iload_n 1, 1) := by decide +kernel
theorem dX4_costAt_21 : decode cX4_costAt 21 = .ok (.iaload, 1) := by decide +kernel
theorem dX4_costAt_22 : decode cX4_costAt 22 = .ok (.iload_n 3, 1) := by decide +kernel
theorem dX4_costAt_23 : decode cX4_costAt 23 = .ok (.imul, 1) := by decide +kernel
theorem dX4_costAt_24 : decode cX4_costAt 24 = .ok (.iadd, 1) := by decide +kernel
theorem dX4_costAt_25 : decode cX4_costAt 25 = .ok (.ireturn, 1) := by decide +kernel
theorem dX4_costOf_0 : decode cX4_costOf 0 = .ok (.aload_n 0, 1) := by decide +kernel
theorem dX4_costOf_1 : decode cX4_costOf 1 = .ok (.getfield 29, 3) := by decide +kernel
theorem dX4_costOf_4 : decode cX4_costOf 4 = .ok (.iload_n 1, 1) := by decide +kernel
theorem dX4_costOf_5 : decode cX4_costOf 5 = .ok (.iaload, 1) := by decide +kernel
theorem dX4_costOf_6 : decode cX4_costOf 6 = .ok (.iconst (-1), 1) := by decide +kernel
theorem dX4_costOf_7 : decode cX4_costOf 7 = .ok (.if_icmp .eq 10, 3) := by decide +kernel
theorem dX4_costOf_10 : decode cX4_costOf 10 = .ok (.aload_n 0, 1) := by decide +kernel
theorem dX4_costOf_11 : decode cX4_costOf 11 = .ok (.getfield 29, 3) := by decide +kernel
theorem dX4_costOf_14 : decode cX4_costOf 14 = .ok (.iload_n 1, 1) := by decide +kernel
theorem dX4_costOf_15 : decode cX4_costOf 15 = .ok (.iaload, 1) := by decide +kernel
theorem dX4_costOf_16 : decode cX4_costOf 16 = .ok (.ireturn, 1) := by decide +kernel
theorem dX4_costOf_17 : decode cX4_costOf 17 = .ok (.aload_n 0, 1) := by decide +kernel
theorem dX4_costOf_18 : decode cX4_costOf 18 = .ok (.iload_n 1, 1) := by decide +kernel
theorem dX4_costOf_19 : decode cX4_costOf 19 = .ok (.invokevirtual 61, 3) := by decide +kernel
theorem dX4_costOf_22 : decode cX4_costOf 22 = .ok (.istore_n 2, 1) := by decide +kernel
theorem dX4_costOf_23 : decode cX4_costOf 23 = .ok (.iconst 0, 1) := by decide +kernel
theorem dX4_costOf_24 : decode cX4_costOf 24 = .ok (.istore_n 3, 1) := by decide +kernel
theorem dX4_costOf_25 : decode cX4_costOf 25 = .ok (.iconst 0, 1) := by decide +kernel
theorem dX4_costOf_26 : decode cX4_costOf 26 = .ok (.istore 4, 2) := by decide +kernel
theorem dX4_costOf_28 : decode cX4_costOf 28 = .ok (.iload 4, 2) := by decide +kernel
theorem dX4_costOf_30 : decode cX4_costOf 30 = .ok (.aload_n 0, 1) := by decide +kernel
theorem dX4_costOf_31 : decode cX4_costOf 31 = .ok (.getfield 38, 3) := by decide +kernel
theorem dX4_costOf_34 : decode cX4_costOf 34 = .ok (.if_icmp .ge 35, 3) := by decide +kernel
theorem dX4_costOf_37 : decode cX4_costOf 37 = .ok (.iload_n 2, 1) := by decide +kernel
theorem dX4_costOf_38 : decode cX4_costOf 38 = .ok (.iload 4, 2) := by decide +kernel
theorem dX4_costOf_40 : decode cX4_costOf 40 = .ok (.invokestatic 57, 3) := by decide +kernel
theorem dX4_costOf_43 : decode cX4_costOf 43 = .ok (.ifCond .eq 20, 3) := by decide +kernel
theorem dX4_costOf_46 : decode cX4_costOf 46 = .ok (.iload_n 3, 1) := by decide +kernel
theorem dX4_costOf_47 : decode cX4_costOf 47 = .ok (.aload_n 0, 1) := by decide +kernel
theorem dX4_costOf_48 : decode cX4_costOf 48 = .ok (.iload 4, 2) := by decide +kernel
theorem dX4_costOf_50 : decode cX4_costOf 50 = .ok (.aload_n 0, 1) := by decide +kernel
theorem dX4_costOf_51 : decode cX4_costOf 51 = .ok (.iload 4, 2) := by decide +kernel
theorem dX4_costOf_53 : decode cX4_costOf 53 = .ok (.iload_n 1, 1) := by decide +kernel
theorem dX4_costOf_54 : decode cX4_costOf 54 = .ok (.iload_n 2, 1) := by decide +kernel
theorem dX4_costOf_55 : decode cX4_costOf 55 = .ok (.invokevirtual 64, 3) := by decide +kernel
theorem dX4_costOf_58 : decode cX4_costOf 58 = .ok (.invokevirtual 68, 3) := by decide +kernel
theorem dX4_costOf_61 : decode cX4_costOf 61 = .ok (.iadd, 1) := by decide +kernel
theorem dX4_costOf_62 : decode cX4_costOf 62 = .ok (.istore_n 3, 1) := by decide +kernel
theorem dX4_costOf_63 : decode cX4_costOf 63 = .ok (.iinc 4 1, 3) := by decide +kernel
theorem dX4_costOf_66 : decode cX4_costOf 66 = .ok (.goto (-38), 3) := by decide +kernel
theorem dX4_costOf_69 : decode cX4_costOf 69 = .ok (.aload_n 0, 1) := by decide +kernel
theorem dX4_costOf_70 : decode cX4_costOf 70 = .ok (.getfield 29, 3) := by decide +kernel
theorem dX4_costOf_73 : decode cX4_costOf 73 = .ok (.iload_n 1, 1) := by decide +kernel
theorem dX4_costOf_74 : decode cX4_costOf 74 = .ok (.iload_n 3, 1) := by decide +kernel
theorem dX4_costOf_75 : decode cX4_costOf 75 = .ok (.iastore, 1) := by decide +kernel
theorem dX4_costOf_76 : decode cX4_costOf 76 = .ok (.iload_n 3, 1) := by decide +kernel
theorem dX4_costOf_77 : decode cX4_costOf 77 = .ok (.ireturn, 1) := by decide +kernel
theorem dX5_init_0 : decode cX5_init 0 = .ok (.aload_n 0, 1) := by decide +kernel
theorem dX5_init_1 : decode cX5_init 1 = .ok (.invokespecial 1, 3) := by decide +kernel
theorem dX5_init_4 : decode cX5_init 4 = .ok (.aload_n 0, 1) := by decide +kernel
theorem dX5_init_5 : decode cX5_init 5 = .ok (.new 7, 3) := by decide +kernel
theorem dX5_init_8 : decode cX5_init 8 = .ok (.dup, 1) := by decide +kernel
theorem dX5_init_9 : decode cX5_init 9 = .ok (.invokespecial 9, 3) := by decide +kernel
theorem dX5_init_12 : decode cX5_init 12 = .ok (.putfield 10, 3) := by decide +kernel
theorem dX5_init_15 : decode cX5_init 15 = .ok (.aload_n 0, 1) := by decide +kernel
theorem dX5_init_16 : decode cX5_init 16 = .ok (.new 16, 3) := by decide +kernel
theorem dX5_init_19 : decode cX5_init 19 = .ok (.dup, 1) := by decide +kernel
theorem dX5_init_20 : decode cX5_init 20 = .ok (.invokespecial 18, 3) := by decide +kernel
theorem dX5_init_23 : decode cX5_init 23 = .ok (.putfield 19, 3) := by decide +kernel
theorem dX5_init_26 : decode cX5_init 26 = .ok (.aload_n 0, 1) := by decide +kernel
theorem dX5_init_27 : decode cX5_init 27 = .ok (.new 23, 3) := by decide +kernel
theorem dX5_init_30 : decode cX5_init 30 = .ok (.dup, 1) := by decide +kernel
theorem dX5_init_31 : decode cX5_init 31 = .ok (.invokespecial 25, 3) := by decide +kernel
theorem dX5_init_34 : decode cX5_init 34 = .ok (.putfield 26, 3) := by decide +kernel
theorem dX5_init_37 : decode cX5_init 37 = .ok (.aload_n 0, 1) := by decide +kernel
theorem dX5_init_38 : decode cX5_init 38 = .ok (.new 30, 3) := by decide +kernel
theorem dX5_init_41 : decode cX5_init 41 = .ok (.dup, 1) := by decide +kernel
theorem dX5_init_42 : decode cX5_init 42 = .ok (.invokespecial 32, 3) := by decide +kernel
theorem dX5_init_45 : decode cX5_init 45 = .ok (.putfield 33, 3) := by decide +kernel
theorem dX5_init_48 : decode cX5_init 48 = .ok (.aload_n 0, 1) := by decide +kernel
theorem dX5_init_49 : decode cX5_init 49 = .ok (.new 37, 3) := by decide +kernel
theorem dX5_init_52 : decode cX5_init 52 = .ok (.dup, 1) := by decide +kernel
theorem dX5_init_53 : decode cX5_init 53 = .ok (.invokespecial 39, 3) := by decide +kernel
theorem dX5_init_56 : decode cX5_init 56 = .ok (.putfield 40, 3) := by decide +kernel
theorem dX5_init_59 : decode cX5_init 59 = .ok (.aload_n 0, 1) := by decide +kernel
theorem dX5_init_60 : decode cX5_init 60 = .ok (.bipush 8, 2) := by decide +kernel
theorem dX5_init_62 : decode cX5_init 62 = .ok (.newarray .int, 2) := by decide +kernel
theorem dX5_init_64 : decode cX5_init 64 = .ok (.putfield 44, 3) := by decide +kernel
theorem dX5_init_67 : decode cX5_init 67 = .ok (.aload_n 0, 1) := by decide +kernel
theorem dX5_init_68 : decode cX5_init 68 = .ok (.bipush 8, 2) := by decide +kernel
theorem dX5_init_70 : decode cX5_init 70 = .ok (.newarray .int, 2) := by decide +kernel
theorem dX5_init_72 : decode cX5_init 72 = .ok (.putfield 48, 3) := by decide +kernel
theorem dX5_init_75 : decode cX5_init 75 = .ok (.return_, 1) := by decide +kernel
theorem dX5_work_0 : decode cX5_work 0 = .ok (.aload_n 0, 1) := by decide +kernel
theorem dX5_work_1 : decode cX5_work 1 = .ok (.getfield 10, 3) := by decide +kernel
theorem dX5_work_4 : decode cX5_work 4 = .ok (.getfield 51, 3) := by decide +kernel
theorem dX5_work_7 : decode cX5_work 7 = .ok (.bipush 6, 2) := by decide +kernel
theorem dX5_work_9 : decode cX5_work 9 = .ok (.if_icmp .ge 11, 3) := by decide +kernel
theorem dX5_work_12 : decode cX5_work 12 = .ok (.iload_n 1, 1) := by decide +kernel
theorem dX5_work_13 : decode cX5_work 13 = .ok (.iload_n 2, 1) := by decide +kernel
theorem dX5_work_14 : decode cX5_work 14 = .ok (.invokestatic 55, 3) := by decide +kernel
theorem dX5_work_17 : decode cX5_work 17 = .ok (.ifCond .ne 5, 3) := by decide +kernel
theorem dX5_work_20 : decode cX5_work 20 = .ok (.iconst (-1), 1) := by decide +kernel
theorem dX5_work_21 : decode cX5_work 21 = .ok (.ireturn, 1) := by decide +kernel
theorem dX5_work_22 : decode cX5_work 22 = .ok (.aload_n 0, 1) := by decide +kernel
theorem dX5_work_23 : decode cX5_work 23 = .ok (.getfield 10, 3) := by decide +kernel
theorem dX5_work_26 : decode cX5_work 26 = .ok (.iload_n 1, 1) := by decide +kernel
theorem dX5_work_27 : decode cX5_work 27 = .ok (.iload_n 2, 1) := by decide +kernel
theorem dX5_work_28 : decode cX5_work 28 = .ok (.invokevirtual 59, 3) := by decide +kernel
theorem dX5_work_31 : decode cX5_work 31 = .ok (.ireturn, 1) := by decide +kernel
theorem dX5_user_0 : decode cX5_user 0 = .ok (.aload_n 0, 1) := by decide +kernel
theorem dX5_user_1 : decode cX5_user 1 = .ok (.getfield 19, 3) := by decide +kernel
theorem dX5_user_4 : decode cX5_user 4 = .ok (.getfield 63, 3) := by decide +kernel
theorem dX5_user_7 : decode cX5_user 7 = .ok (.bipush 8, 2) := by decide +kernel
theorem dX5_user_9 : decode cX5_user 9 = .ok (.if_icmp .lt 5, 3) := by decide +kernel
theorem dX5_user_12 : decode cX5_user 12 = .ok (.iconst (-1), 1) := by decide +kernel
theorem dX5_user_13 : decode cX5_user 13 = .ok (.ireturn, 1) := by decide +kernel
theorem dX5_user_14 : decode cX5_user 14 = .ok (.aload_n 0, 1) := by decide +kernel
theorem dX5_user_15 : decode cX5_user 15 = .ok (.getfield 19, 3) := by decide +kernel
theorem dX5_user_18 : decode cX5_user 18 = .ok (.invokevirtual 64, 3) := by decide +kernel
theorem dX5_user_21 : decode cX5_user 21 = .ok (.ireturn, 1) := by decide +kernel
theorem dX5_change_0 : decode cX5_change 0 = .ok (.aload_n 0, 1) := by decide +kernel
theorem dX5_change_1 : decode cX5_change 1 = .ok (.getfield 10, 3) := by decide +kernel
theorem dX5_change_4 : decode cX5_change 4 = .ok (.iload_n 1, 1) := by decide +kernel
theorem dX5_change_5 : decode cX5_change 5 = .ok (.invokevirtual 67, 3) := by decide +kernel
theorem dX5_change_8 : decode cX5_change 8 = .ok (.ifCond .eq 11, 3) := by decide +kernel
theorem dX5_change_11 : decode cX5_change 11 = .ok (.iload_n 2, 1) := by decide +kernel
theorem dX5_change_12 : decode cX5_change 12 = .ok (.iload_n 3, 1) := by decide +kernel
theorem dX5_change_13 : decode cX5_change 13 = .ok (.invokestatic 55, 3) := by decide +kernel
theorem dX5_change_16 : decode cX5_change 16 = .ok (.ifCond .ne 5, 3) := by decide +kernel
theorem dX5_change_19 : decode cX5_change 19 = .ok (.iconst 0, 1) := by decide +kernel
theorem dX5_change_20 : decode cX5_change 20 = .ok (.ireturn, 1) := by decide +kernel
theorem dX5_change_21 : decode cX5_change 21 = .ok (.aload_n 0, 1) := by decide +kernel
theorem dX5_change_22 : decode cX5_change 22 = .ok (.getfield 10, 3) := by decide +kernel
theorem dX5_change_25 : decode cX5_change 25 = .ok (.iload_n 1, 1) := by decide +kernel
theorem dX5_change_26 : decode cX5_change 26 = .ok (.iload_n 2, 1) := by decide +kernel
theorem dX5_change_27 : decode cX5_change 27 = .ok (.iload_n 3, 1) := by decide +kernel
theorem dX5_change_28 : decode cX5_change 28 = .ok (.invokevirtual 71, 3) := by decide +kernel
theorem dX5_change_31 : decode cX5_change 31 = .ok (.iconst 1, 1) := by decide +kernel
theorem dX5_change_32 : decode cX5_change 32 = .ok (.ireturn, 1) := by decide +kernel
theorem dX5_use_0 : decode cX5_use 0 = .ok (.aload_n 0, 1) := by decide +kernel
theorem dX5_use_1 : decode cX5_use 1 = .ok (.getfield 10, 3) := by decide +kernel
theorem dX5_use_4 : decode cX5_use 4 = .ok (.iload_n 1, 1) := by decide +kernel
theorem dX5_use_5 : decode cX5_use 5 = .ok (.invokevirtual 67, 3) := by decide +kernel
theorem dX5_use_8 : decode cX5_use 8 = .ok (.ifCond .eq 21, 3) := by decide +kernel
theorem dX5_use_11 : decode cX5_use 11 = .ok (.aload_n 0, 1) := by decide +kernel
theorem dX5_use_12 : decode cX5_use 12 = .ok (.getfield 19, 3) := by decide +kernel
theorem dX5_use_15 : decode cX5_use 15 = .ok (.iload_n 2, 1) := by decide +kernel
theorem dX5_use_16 : decode cX5_use 16 = .ok (.invokevirtual 75, 3) := by decide +kernel
theorem dX5_use_19 : decode cX5_use 19 = .ok (.ifCond .eq 10, 3) := by decide +kernel
theorem dX5_use_22 : decode cX5_use 22 = .ok (.iload_n 3, 1) := by decide +kernel
theorem dX5_use_23 : decode cX5_use 23 = .ok (.invokestatic 76, 3) := by decide +kernel
theorem dX5_use_26 : decode cX5_use 26 = .ok (.ifCond .ne 5, 3) := by decide +kernel
theorem dX5_use_29 : decode cX5_use 29 = .ok (.iconst 0, 1) := by decide +kernel
theorem dX5_use_30 : decode cX5_use 30 = .ok (.ireturn, 1) := by decide +kernel
theorem dX5_use_31 : decode cX5_use 31 = .ok (.aload_n 0, 1) := by decide +kernel
theorem dX5_use_32 : decode cX5_use 32 = .ok (.getfield 10, 3) := by decide +kernel
theorem dX5_use_35 : decode cX5_use 35 = .ok (.iload_n 1, 1) := by decide +kernel
theorem dX5_use_36 : decode cX5_use 36 = .ok (.iload_n 2, 1) := by decide +kernel
theorem dX5_use_37 : decode cX5_use 37 = .ok (.iload_n 3, 1) := by decide +kernel
theorem dX5_use_38 : decode cX5_use 38 = .ok (.invokevirtual 79, 3) := by decide +kernel
theorem dX5_use_41 : decode cX5_use 41 = .ok (.iconst 1, 1) := by decide +kernel
theorem dX5_use_42 : decode cX5_use 42 = .ok (.ireturn, 1) := by decide +kernel
theorem dX5_feed_0 : decode cX5_feed 0 = .ok (.aload_n 0, 1) := by decide +kernel
theorem dX5_feed_1 : decode cX5_feed 1 = .ok (.getfield 10, 3) := by decide +kernel
theorem dX5_feed_4 : decode cX5_feed 4 = .ok (.iload_n 1, 1) := by decide +kernel
theorem dX5_feed_5 : decode cX5_feed 5 = .ok (.invokevirtual 67, 3) := by decide +kernel
theorem dX5_feed_8 : decode cX5_feed 8 = .ok (.ifCond .eq 26, 3) := by decide +kernel
theorem dX5_feed_11 : decode cX5_feed 11 = .ok (.aload_n 0, 1) := by decide +kernel
theorem dX5_feed_12 : decode cX5_feed 12 = .ok (.getfield 10, 3) := by decide +kernel
theorem dX5_feed_15 : decode cX5_feed 15 = .ok (.iload_n 2, 1) := by decide +kernel
theorem dX5_feed_16 : decode cX5_feed 16 = .ok (.invokevirtual 67, 3) := by decide +kernel
theorem dX5_feed_19 : decode cX5_feed 19 = .ok (.ifCond .eq 15, 3) := by decide +kernel
theorem dX5_feed_22 : decode cX5_feed 22 = .ok (.iload_n 1, 1) := by decide +kernel
theorem dX5_feed_23 : decode cX5_feed 23 = .ok (.iload_n 2, 1) := by decide +kernel
theorem dX5_feed_24 : decode cX5_feed 24 = .ok (.if_icmp .eq 10, 3) := by decide +kernel
theorem dX5_feed_27 : decode cX5_feed 27 = .ok (.iload_n 3, 1) := by decide +kernel
theorem dX5_feed_28 : decode cX5_feed 28 = .ok (.invokestatic 76, 3) := by decide +kernel
theorem dX5_feed_31 : decode cX5_feed 31 = .ok (.ifCond .ne 5, 3) := by decide +kernel
theorem dX5_feed_34 : decode cX5_feed 34 = .ok (.iconst 0, 1) := by decide +kernel
theorem dX5_feed_35 : decode cX5_feed 35 = .ok (.ireturn, 1) := by decide +kernel
theorem dX5_feed_36 : decode cX5_feed 36 = .ok (.aload_n 0, 1) := by decide +kernel
theorem dX5_feed_37 : decode cX5_feed 37 = .ok (.getfield 10, 3) := by decide +kernel
theorem dX5_feed_40 : decode cX5_feed 40 = .ok (.iload_n 1, 1) := by decide +kernel
theorem dX5_feed_41 : decode cX5_feed 41 = .ok (.iload_n 2, 1) := by decide +kernel
theorem dX5_feed_42 : decode cX5_feed 42 = .ok (.iload_n 3, 1) := by decide +kernel
theorem dX5_feed_43 : decode cX5_feed 43 = .ok (.invokevirtual 82, 3) := by decide +kernel
theorem dX5_feed_46 : decode cX5_feed 46 = .ok (.iconst 1, 1) := by decide +kernel
theorem dX5_feed_47 : decode cX5_feed 47 = .ok (.ireturn, 1) := by decide +kernel
theorem dX5_set_0 : decode cX5_set 0 = .ok (.aload_n 0, 1) := by decide +kernel
theorem dX5_set_1 : decode cX5_set 1 = .ok (.getfield 19, 3) := by decide +kernel
theorem dX5_set_4 : decode cX5_set 4 = .ok (.iload_n 1, 1) := by decide +kernel
theorem dX5_set_5 : decode cX5_set 5 = .ok (.invokevirtual 75, 3) := by decide +kernel
theorem dX5_set_8 : decode cX5_set 8 = .ok (.ifCond .eq 15, 3) := by decide +kernel
theorem dX5_set_11 : decode cX5_set 11 = .ok (.aload_n 0, 1) := by decide +kernel
theorem dX5_set_12 : decode cX5_set 12 = .ok (.getfield 19, 3) := by decide +kernel
theorem dX5_set_15 : decode cX5_set 15 = .ok (.iload_n 1, 1) := by decide +kernel
theorem dX5_set_16 : decode cX5_set 16 = .ok (.invokevirtual 85, 3) := by decide +kernel
theorem dX5_set_19 : decode cX5_set 19 = .ok (.iload_n 2, 1) := by decide +kernel
theorem dX5_set_20 : decode cX5_set 20 = .ok (.if_icmp .ne 5, 3) := by decide +kernel
theorem dX5_set_23 : decode cX5_set 23 = .ok (.iconst 0, 1) := by decide +kernel
theorem dX5_set_24 : decode cX5_set 24 = .ok (.ireturn, 1) := by decide +kernel
theorem dX5_set_25 : decode cX5_set 25 = .ok (.aload_n 0, 1) := by decide +kernel
theorem dX5_set_26 : decode cX5_set 26 = .ok (.getfield 19, 3) := by decide +kernel
theorem dX5_set_29 : decode cX5_set 29 = .ok (.iload_n 1, 1) := by decide +kernel
theorem dX5_set_30 : decode cX5_set 30 = .ok (.invokevirtual 88, 3) := by decide +kernel
theorem dX5_set_33 : decode cX5_set 33 = .ok (.iconst 1, 1) := by decide +kernel
theorem dX5_set_34 : decode cX5_set 34 = .ok (.ireturn, 1) := by decide +kernel
theorem dX5_mark_0 : decode cX5_mark 0 = .ok (.aload_n 0, 1) := by decide +kernel
theorem dX5_mark_1 : decode cX5_mark 1 = .ok (.getfield 19, 3) := by decide +kernel
theorem dX5_mark_4 : decode cX5_mark 4 = .ok (.iload_n 1, 1) := by decide +kernel
theorem dX5_mark_5 : decode cX5_mark 5 = .ok (.invokevirtual 75, 3) := by decide +kernel
theorem dX5_mark_8 : decode cX5_mark 8 = .ok (.ifCond .ne 7, 3) := by decide +kernel
theorem dX5_mark_11 : decode cX5_mark 11 = .ok (.sipush (-20000), 3) := by decide +kernel
theorem dX5_mark_14 : decode cX5_mark 14 = .ok (.ireturn, 1) := by decide +kernel
theorem dX5_mark_15 : decode cX5_mark 15 = .ok (.aload_n 0, 1) := by decide +kernel
theorem dX5_mark_16 : decode cX5_mark 16 = .ok (.getfield 19, 3) := by decide +kernel
theorem dX5_mark_19 : decode cX5_mark 19 = .ok (.getfield 92, 3) := by decide +kernel
theorem dX5_mark_22 : decode cX5_mark 22 = .ok (.iload_n 1, 1) := by decide +kernel
theorem dX5_mark_23 : decode cX5_mark 23 = .ok (.iaload, 1) := by decide +kernel
theorem dX5_mark_24 : decode cX5_mark 24 = .ok (.i2l, 1) := by decide +kernel
theorem dX5_mark_25 : decode cX5_mark 25 = .ok (.iload_n 2, 1) := by decide +kernel
theorem dX5_mark_26 : decode cX5_mark 26 = .ok (.i2l, 1) := by decide +kernel
theorem dX5_mark_27 : decode cX5_mark 27 = .ok (.ladd, 1) := by decide +kernel
theorem dX5_mark_28 : decode cX5_mark 28 = .ok (.lstore_n 3, 1) := by decide +kernel
theorem dX5_mark_29 : decode cX5_mark 29 = .ok (.lload_n 3, 1) := by decide +kernel
theorem dX5_mark_30 : decode cX5_mark 30 = .ok (.ldc2_w 95, 3) := by decide +kernel
theorem dX5_mark_33 : decode cX5_mark 33 = .ok (.lcmp, 1) := by decide +kernel
theorem dX5_mark_34 : decode cX5_mark 34 = .ok (.ifCond .lt 11, 3) := by decide +kernel
theorem dX5_mark_37 : decode cX5_mark 37 = .ok (.lload_n 3, 1) := by decide +kernel
theorem dX5_mark_38 : decode cX5_mark 38 = .ok (.ldc2_w 97, 3) := by decide +kernel
theorem dX5_mark_41 : decode cX5_mark 41 = .ok (.lcmp, 1) := by decide +kernel
theorem dX5_mark_42 : decode cX5_mark 42 = .ok (.ifCond .le 7, 3) := by decide +kernel
theorem dX5_mark_45 : decode cX5_mark 45 = .ok (.sipush (-20000), 3) := by decide +kernel
theorem dX5_mark_48 : decode cX5_mark 48 = .ok (.ireturn, 1) := by decide +kernel
theorem dX5_mark_49 : decode cX5_mark 49 = .ok (.aload_n 0, 1) := by decide +kernel
theorem dX5_mark_50 : decode cX5_mark 50 = .ok (.getfield 19, 3) := by decide +kernel
theorem dX5_mark_53 : decode cX5_mark 53 = .ok (.getfield 92, 3) := by decide +kernel
theorem dX5_mark_56 : decode cX5_mark 56 = .ok (.iload_n 1, 1) := by decide +kernel
theorem dX5_mark_57 : decode cX5_mark 57 = .ok (.lload_n 3, 1) := by decide +kernel
theorem dX5_mark_58 : decode cX5_mark 58 = .ok (.l2i, 1) := by decide +kernel
theorem dX5_mark_59 : decode cX5_mark 59 = .ok (.iastore, 1) := by decide +kernel
theorem dX5_mark_60 : decode cX5_mark 60 = .ok (.aload_n 0, 1) := by decide +kernel
theorem dX5_mark_61 : decode cX5_mark 61 = .ok (.getfield 19, 3) := by decide +kernel
theorem dX5_mark_64 : decode cX5_mark 64 = .ok (.getfield 92, 3) := by decide +kernel
theorem dX5_mark_67 : decode cX5_mark 67 = .ok (.iload_n 1, 1) := by decide +kernel
theorem dX5_mark_68 : decode cX5_mark 68 = .ok (.iaload, 1) := by decide +kernel
theorem dX5_mark_69 : decode cX5_mark 69 = .ok (.ireturn, 1) := by decide +kernel
theorem dX5_needed_0 : decode cX5_needed 0 = .ok (.aload_n 0, 1) := by decide +kernel
theorem dX5_needed_1 : decode cX5_needed 1 = .ok (.getfield 10, 3) := by decide +kernel
theorem dX5_needed_4 : decode cX5_needed 4 = .ok (.aload_n 0, 1) := by decide +kernel
theorem dX5_needed_5 : decode cX5_needed 5 = .ok (.getfield 19, 3) := by decide +kernel
theorem dX5_needed_8 : decode cX5_needed 8 = .ok (.getfield 99, 3) := by decide +kernel
theorem dX5_needed_11 : decode cX5_needed 11 = .ok (.invokevirtual 102, 3) := by decide +kernel
theorem dX5_needed_14 : decode cX5_needed 14 = .ok (.ireturn, 1) := by decide +kernel
theorem dX5_idle_0 : decode cX5_idle 0 = .ok (.aload_n 0, 1) := by decide +kernel
theorem dX5_idle_1 : decode cX5_idle 1 = .ok (.getfield 10, 3) := by decide +kernel
theorem dX5_idle_4 : decode cX5_idle 4 = .ok (.invokevirtual 106, 3) := by decide +kernel
theorem dX5_idle_7 : decode cX5_idle 7 = .ok (.aload_n 0, 1) := by decide +kernel
theorem dX5_idle_8 : decode cX5_idle 8 = .ok (.getfield 10, 3) := by decide +kernel
theorem dX5_idle_11 : decode cX5_idle 11 = .ok (.aload_n 0, 1) := by decide +kernel
theorem dX5_idle_12 : decode cX5_idle 12 = .ok (.getfield 19, 3) := by decide +kernel
theorem dX5_idle_15 : decode cX5_idle 15 = .ok (.getfield 99, 3) := by decide +kernel
theorem dX5_idle_18 : decode cX5_idle 18 = .ok (.invokevirtual 102, 3) := by decide +kernel
theorem dX5_idle_21 : decode cX5_idle 21 = .ok (.iconst (-1), 1) := by decide +kernel
theorem dX5_idle_22 : decode cX5_idle 22 = .ok (.ixor, 1) := by decide +kernel
theorem dX5_idle_23 : decode cX5_idle 23 = .ok (.iand, 1) := by decide +kernel
theorem dX5_idle_24 : decode cX5_idle 24 = .ok (.ireturn, 1) := by decide +kernel
theorem dX5_total_0 : decode cX5_total 0 = .ok (.aload_n 0, 1) := by decide +kernel
theorem dX5_total_1 : decode cX5_total 1 = .ok (.iload_n 1, 1) := by decide +kernel
theorem dX5_total_2 : decode cX5_total 2 = .ok (.invokevirtual 109, 3) := by decide +kernel
theorem dX5_total_5 : decode cX5_total 5 = .ok (.ifCond .ne 5, 3) := by decide +kernel
theorem dX5_total_8 : decode cX5_total 8 = .ok (.iconst (-1), 1) := by decide +kernel
theorem dX5_total_9 : decode cX5_total 9 = .ok (.ireturn, 1) := by decide +kernel
theorem dX5_total_10 : decode cX5_total 10 = .ok (.aload_n 0, 1) := by decide +kernel
theorem dX5_total_11 : decode cX5_total 11 = .ok (.getfield 10, 3) := by decide +kernel
theorem dX5_total_14 : decode cX5_total 14 = .ok (.iload_n 1, 1) := by decide +kernel
theorem dX5_total_15 : decode cX5_total 15 = .ok (.aload_n 0, 1) := by decide +kernel
theorem dX5_total_16 : decode cX5_total 16 = .ok (.getfield 19, 3) := by decide +kernel
theorem dX5_total_19 : decode cX5_total 19 = .ok (.getfield 99, 3) := by decide +kernel
theorem dX5_total_22 : decode cX5_total 22 = .ok (.aload_n 0, 1) := by decide +kernel
theorem dX5_total_23 : decode cX5_total 23 = .ok (.getfield 10, 3) := by decide +kernel
theorem dX5_total_26 : decode cX5_total 26 = .ok (.aload_n 0, 1) := by decide +kernel
theorem dX5_total_27 : decode cX5_total 27 = .ok (.getfield 19, 3) := by decide +kernel
theorem dX5_total_30 : decode cX5_total 30 = .ok (.getfield 99, 3) := by decide +kernel
theorem dX5_total_33 : decode cX5_total 33 = .ok (.invokevirtual 102, 3) := by decide +kernel
theorem dX5_total_36 : decode cX5_total 36 = .ok (.invokevirtual 112, 3) := by decide +kernel
theorem dX5_total_39 : decode cX5_total 39 = .ok (.ireturn, 1) := by decide +kernel
theorem dX5_cost_0 : decode cX5_cost 0 = .ok (.iload_n 1, 1) := by decide +kernel
theorem dX5_cost_1 : decode cX5_cost 1 = .ok (.aload_n 0, 1) := by decide +kernel
theorem dX5_cost_2 : decode cX5_cost 2 = .ok (.getfield 19, 3) := by decide +kernel
theorem dX5_cost_5 : decode cX5_cost 5 = .ok (.invokevirtual 116, 3) := by decide +kernel
theorem dX5_cost_8 : decode cX5_cost 8 = .ok (.iconst (-1), 1) := by decide +kernel
theorem dX5_cost_9 : decode cX5_cost 9 = .ok (.ixor, 1) := by decide +kernel
theorem dX5_cost_10 : decode cX5_cost 10 = .ok (.iand, 1) := by decide +kernel
theorem dX5_cost_11 : decode cX5_cost 11 = .ok (.ifCond .eq 5, 3) := by decide +kernel
theorem dX5_cost_14 : decode cX5_cost 14 = .ok (.iconst (-1), 1) := by decide +kernel
theorem dX5_cost_15 : decode cX5_cost 15 = .ok (.ireturn, 1) := by decide +kernel
theorem dX5_cost_16 : decode cX5_cost 16 = .ok (.aload_n 0, 1) := by decide +kernel
theorem dX5_cost_17 : decode cX5_cost 17 = .ok (.getfield 10, 3) := by decide +kernel
theorem dX5_cost_20 : decode cX5_cost 20 = .ok (.iload_n 1, 1) := by decide +kernel
theorem dX5_cost_21 : decode cX5_cost 21 = .ok (.invokevirtual 119, 3) := by decide +kernel
theorem dX5_cost_24 : decode cX5_cost 24 = .ok (.ireturn, 1) := by decide +kernel
theorem dX5_price_0 : decode cX5_price 0 = .ok (.aload_n 0, 1) := by decide +kernel
theorem dX5_price_1 : decode cX5_price 1 = .ok (.iload_n 1, 1) := by decide +kernel
theorem dX5_price_2 : decode cX5_price 2 = .ok (.invokevirtual 109, 3) := by decide +kernel
theorem dX5_price_5 : decode cX5_price 5 = .ok (.ifCond .eq 10, 3) := by decide +kernel
theorem dX5_price_8 : decode cX5_price 8 = .ok (.iload_n 2, 1) := by decide +kernel
theorem dX5_price_9 : decode cX5_price 9 = .ok (.invokestatic 122, 3) := by decide +kernel
theorem dX5_price_12 : decode cX5_price 12 = .ok (.ifCond .ne 7, 3) := by decide +kernel
theorem dX5_price_15 : decode cX5_price 15 = .ok (.ldc2_w 125, 3) := by decide +kernel
theorem dX5_price_18 : decode cX5_price 18 = .ok (.lreturn, 1) := by decide +kernel
theorem dX5_price_19 : decode cX5_price 19 = .ok (.aload_n 0, 1) := by decide +kernel
theorem dX5_price_20 : decode cX5_price 20 = .ok (.getfield 26, 3) := by decide +kernel
theorem dX5_price_23 : decode cX5_price 23 = .ok (.aload_n 0, 1) := by decide +kernel
theorem dX5_price_24 : decode cX5_price 24 = .ok (.getfield 10, 3) := by decide +kernel
theorem dX5_price_27 : decode cX5_price 27 = .ok (.aload_n 0, 1) := by decide +kernel
theorem dX5_price_28 : decode cX5_price 28 = .ok (.getfield 19, 3) := by decide +kernel
theorem dX5_price_31 : decode cX5_price 31 = .ok (.getfield 99, 3) := by decide +kernel
theorem dX5_price_34 : decode cX5_price 34 = .ok (.invokevirtual 127, 3) := by decide +kernel
theorem dX5_price_37 : decode cX5_price 37 = .ok (.aload_n 0, 1) := by decide +kernel
theorem dX5_price_38 : decode cX5_price 38 = .ok (.getfield 26, 3) := by decide +kernel
theorem dX5_price_41 : decode cX5_price 41 = .ok (.getfield 131, 3) := by decide +kernel
theorem dX5_price_44 : decode cX5_price 44 = .ok (.iload_n 1, 1) := by decide +kernel
theorem dX5_price_45 : decode cX5_price 45 = .ok (.laload, 1) := by decide +kernel
theorem dX5_price_46 : decode cX5_price 46 = .ok (.aload_n 0, 1) := by decide +kernel
theorem dX5_price_47 : decode cX5_price 47 = .ok (.getfield 26, 3) := by decide +kernel
theorem dX5_price_50 : decode cX5_price 50 = .ok (.getfield 135, 3) := by decide +kernel
theorem dX5_price_53 : decode cX5_price 53 = .ok (.iload_n 2, 1) := by decide +kernel
theorem dX5_price_54 : decode cX5_price 54 = .ok (.invokestatic 139, 3) := by decide +kernel
theorem dX5_price_57 : decode cX5_price 57 = .ok (.lreturn, 1) := by decide +kernel
theorem dX5_bill_0 : decode cX5_bill 0 = .ok (.iload_n 1, 1) := by decide +kernel
theorem dX5_bill_1 : decode cX5_bill 1 = .ok (.invokestatic 143, 3) := by decide +kernel
theorem dX5_bill_4 : decode cX5_bill 4 = .ok (.ifCond .eq 21, 3) := by decide +kernel
theorem dX5_bill_7 : decode cX5_bill 7 = .ok (.aload_n 0, 1) := by decide +kernel
theorem dX5_bill_8 : decode cX5_bill 8 = .ok (.getfield 19, 3) := by decide +kernel
theorem dX5_bill_11 : decode cX5_bill 11 = .ok (.iload_n 2, 1) := by decide +kernel
theorem dX5_bill_12 : decode cX5_bill 12 = .ok (.invokevirtual 85, 3) := by decide +kernel
theorem dX5_bill_15 : decode cX5_bill 15 = .ok (.ifCond .eq 10, 3) := by decide +kernel
theorem dX5_bill_18 : decode cX5_bill 18 = .ok (.iload_n 3, 1) := by decide +kernel
theorem dX5_bill_19 : decode cX5_bill 19 = .ok (.invokestatic 122, 3) := by decide +kernel
theorem dX5_bill_22 : decode cX5_bill 22 = .ok (.ifCond .ne 7, 3) := by decide +kernel
theorem dX5_bill_25 : decode cX5_bill 25 = .ok (.ldc2_w 125, 3) := by decide +kernel
theorem dX5_bill_28 : decode cX5_bill 28 = .ok (.lreturn, 1) := by decide +kernel
theorem dX5_bill_29 : decode cX5_bill 29 = .ok (.aload_n 0, 1) := by decide +kernel
theorem dX5_bill_30 : decode cX5_bill 30 = .ok (.iload_n 1, 1) := by decide +kernel
theorem dX5_bill_31 : decode cX5_bill 31 = .ok (.invokevirtual 146, 3) := by decide +kernel
theorem dX5_bill_34 : decode cX5_bill 34 = .ok (.aload_n 0, 1) := by decide +kernel
theorem dX5_bill_35 : decode cX5_bill 35 = .ok (.getfield 19, 3) := by decide +kernel
theorem dX5_bill_38 : decode cX5_bill 38 = .ok (.getfield 92, 3) := by decide +kernel
theorem dX5_bill_41 : decode cX5_bill 41 = .ok (.iload_n 2, 1) := by decide +kernel
theorem dX5_bill_42 : decode cX5_bill 42 = .ok (.iaload, 1) := by decide +kernel
theorem dX5_bill_43 : decode cX5_bill 43 = .ok (.i2l, 1) := by decide +kernel
theorem dX5_bill_44 : decode cX5_bill 44 = .ok (.aload_n 0, 1) := by decide +kernel
theorem dX5_bill_45 : decode cX5_bill 45 = .ok (.getfield 33, 3) := by decide +kernel
theorem dX5_bill_48 : decode cX5_bill 48 = .ok (.getfield 149, 3) := by decide +kernel
theorem dX5_bill_51 : decode cX5_bill 51 = .ok (.lmul, 1) := by decide +kernel
theorem dX5_bill_52 : decode cX5_bill 52 = .ok (.lstore 4, 2) := by decide +kernel
theorem dX5_bill_54 : decode cX5_bill 54 = .ok (.aload_n 0, 1) := by decide +kernel
theorem dX5_bill_55 : decode cX5_bill 55 = .ok (.getfield 33, 3) := by decide +kernel
theorem dX5_bill_58 : decode cX5_bill 58 = .ok (.getfield 150, 3) := by decide +kernel
theorem dX5_bill_61 : decode cX5_bill 61 = .ok (.iload_n 2, 1) := by decide +kernel
theorem dX5_bill_62 : decode cX5_bill 62 = .ok (.laload, 1) := by decide +kernel
theorem dX5_bill_63 : decode cX5_bill 63 = .ok (.lload 4, 2) := by decide +kernel
theorem dX5_bill_65 : decode cX5_bill 65 = .ok (.ladd, 1) := by decide +kernel
theorem dX5_bill_66 : decode cX5_bill 66 = .ok (.aload_n 0, 1) := by decide +kernel
theorem dX5_bill_67 : decode cX5_bill 67 = .ok (.getfield 33, 3) := by decide +kernel
theorem dX5_bill_70 : decode cX5_bill 70 = .ok (.getfield 149, 3) := by decide +kernel
theorem dX5_bill_73 : decode cX5_bill 73 = .ok (.iload_n 3, 1) := by decide +kernel
theorem dX5_bill_74 : decode cX5_bill 74 = .ok (.invokestatic 139, 3) := by decide +kernel
theorem dX5_bill_77 : decode cX5_bill 77 = .ok (.lreturn, 1) := by decide +kernel
theorem dX5_coins_0 : decode cX5_coins 0 = .ok (.iload_n 1, 1) := by decide +kernel
theorem dX5_coins_1 : decode cX5_coins 1 = .ok (.invokestatic 143, 3) := by decide +kernel
theorem dX5_coins_4 : decode cX5_coins 4 = .ok (.ifCond .eq 14, 3) := by decide +kernel
theorem dX5_coins_7 : decode cX5_coins 7 = .ok (.aload_n 0, 1) := by decide +kernel
theorem dX5_coins_8 : decode cX5_coins 8 = .ok (.getfield 19, 3) := by decide +kernel
theorem dX5_coins_11 : decode cX5_coins 11 = .ok (.iload_n 2, 1) := by decide +kernel
theorem dX5_coins_12 : decode cX5_coins 12 = .ok (.invokevirtual 85, 3) := by decide +kernel
theorem dX5_coins_15 : decode cX5_coins 15 = .ok (.ifCond .ne 6, 3) := by decide +kernel
theorem dX5_coins_18 : decode cX5_coins 18 = .ok (.ldc 151, 2) := by decide +kernel
theorem dX5_coins_20 : decode cX5_coins 20 = .ok (.ireturn, 1) := by decide +kernel
theorem dX5_coins_21 : decode cX5_coins 21 = .ok (.aload_n 0, 1) := by decide +kernel
theorem dX5_coins_22 : decode cX5_coins 22 = .ok (.iload_n 1, 1) := by decide +kernel
theorem dX5_coins_23 : decode cX5_coins 23 = .ok (.aload_n 0, 1) := by decide +kernel
theorem dX5_coins_24 : decode cX5_coins 24 = .ok (.getfield 44, 3) := by decide +kernel
theorem dX5_coins_27 : decode cX5_coins 27 = .ok (.invokevirtual 152, 3) := by decide +kernel
theorem dX5_coins_30 : decode cX5_coins 30 = .ok (.aload_n 0, 1) := by decide +kernel
theorem dX5_coins_31 : decode cX5_coins 31 = .ok (.getfield 44, 3) := by decide +kernel
theorem dX5_coins_34 : decode cX5_coins 34 = .ok (.iload_n 2, 1) := by decide +kernel
theorem dX5_coins_35 : decode cX5_coins 35 = .ok (.iaload, 1) := by decide +kernel
theorem dX5_coins_36 : decode cX5_coins 36 = .ok (.ireturn, 1) := by decide +kernel
theorem dX5_leaving_0 : decode cX5_leaving 0 = .ok (.iload_n 1, 1) := by decide +kernel
theorem dX5_leaving_1 : decode cX5_leaving 1 = .ok (.invokestatic 143, 3) := by decide +kernel
theorem dX5_leaving_4 : decode cX5_leaving 4 = .ok (.ifCond .ne 5, 3) := by decide +kernel
theorem dX5_leaving_7 : decode cX5_leaving 7 = .ok (.iconst (-1), 1) := by decide +kernel
theorem dX5_leaving_8 : decode cX5_leaving 8 = .ok (.ireturn, 1) := by decide +kernel
theorem dX5_leaving_9 : decode cX5_leaving 9 = .ok (.aload_n 0, 1) := by decide +kernel
theorem dX5_leaving_10 : decode cX5_leaving 10 = .ok (.iload_n 1, 1) := by decide +kernel
theorem dX5_leaving_11 : decode cX5_leaving 11 = .ok (.invokevirtual 146, 3) := by decide +kernel
theorem dX5_leaving_14 : decode cX5_leaving 14 = .ok (.iconst 1, 1) := by decide +kernel
theorem dX5_leaving_15 : decode cX5_leaving 15 = .ok (.istore_n 2, 1) := by decide +kernel
theorem dX5_leaving_16 : decode cX5_leaving 16 = .ok (.iload_n 2, 1) := by decide +kernel
theorem dX5_leaving_17 : decode cX5_leaving 17 = .ok (.aload_n 0, 1) := by decide +kernel
theorem dX5_leaving_18 : decode cX5_leaving 18 = .ok (.getfield 19, 3) := by decide +kernel
theorem dX5_leaving_21 : decode cX5_leaving 21 = .ok (.getfield 99, 3) := by decide +kernel
theorem dX5_leaving_24 : decode cX5_leaving 24 = .ok (.if_icmp .gt 64, 3) := by decide +kernel
theorem dX5_leaving_27 : decode cX5_leaving 27 = .ok (.iload_n 2, 1) := by decide +kernel
theorem dX5_leaving_28 : decode cX5_leaving 28 = .ok (.aload_n 0, 1) := by decide +kernel
theorem dX5_leaving_29 : decode cX5_leaving 29 = .ok (.getfield 19, 3) := by decide +kernel
theorem dX5_leaving_32 : decode cX5_leaving 32 = .ok (.getfield 99, 3) := by decide +kernel
theorem dX5_leaving_35 : decode cX5_leaving 35 = .ok (.iconst (-1), 1) := by decide +kernel
theorem dX5_leaving_36 : decode cX5_leaving 36 = .ok (.ixor, 1) := by decide +kernel
theorem dX5_leaving_37 : decode cX5_leaving 37 = .ok (.iand, 1) := by decide +kernel
theorem dX5_leaving_38 : decode cX5_leaving 38 = .ok (.ifCond .ne 7, 3) := by decide +kernel
theorem dX5_leaving_41 : decode cX5_leaving 41 = .ok (.iconst 1, 1) := by decide +kernel
theorem dX5_leaving_42 : decode cX5_leaving 42 = .ok (.goto 4, 3) := by decide +kernel
theorem dX5_leaving_45 : decode cX5_leaving 45 = .ok (.iconst 0, 1) := by decide +kernel
theorem dX5_leaving_46 : decode cX5_leaving 46 = .ok (.istore_n 3, 1) := by decide +kernel
theorem dX5_leaving_47 : decode cX5_leaving 47 = .ok (.iload_n 3, 1) := by decide +kernel
theorem dX5_leaving_48 : decode cX5_leaving 48 = .ok (.ifCond .eq 34, 3) := by decide +kernel
theorem dX5_leaving_51 : decode cX5_leaving 51 = .ok (.aload_n 0, 1) := by decide +kernel
theorem dX5_leaving_52 : decode cX5_leaving 52 = .ok (.getfield 33, 3) := by decide +kernel
theorem dX5_leaving_55 : decode cX5_leaving 55 = .ok (.iload_n 2, 1) := by decide +kernel
theorem dX5_leaving_56 : decode cX5_leaving 56 = .ok (.invokevirtual 156, 3) := by decide +kernel
theorem dX5_leaving_59 : decode cX5_leaving 59 = .ok (.aload_n 0, 1) := by decide +kernel
theorem dX5_leaving_60 : decode cX5_leaving 60 = .ok (.getfield 10, 3) := by decide +kernel
theorem dX5_leaving_63 : decode cX5_leaving 63 = .ok (.iload_n 2, 1) := by decide +kernel
theorem dX5_leaving_64 : decode cX5_leaving 64 = .ok (.invokevirtual 119, 3) := by decide +kernel
theorem dX5_leaving_67 : decode cX5_leaving 67 = .ok (.i2l, 1) := by decide +kernel
theorem dX5_leaving_68 : decode cX5_leaving 68 = .ok (.aload_n 0, 1) := by decide +kernel
theorem dX5_leaving_69 : decode cX5_leaving 69 = .ok (.getfield 33, 3) := by decide +kernel
theorem dX5_leaving_72 : decode cX5_leaving 72 = .ok (.getfield 149, 3) := by decide +kernel
theorem dX5_leaving_75 : decode cX5_leaving 75 = .ok (.lmul, 1) := by decide +kernel
theorem dX5_leaving_76 : decode cX5_leaving 76 = .ok (.lcmp, 1) := by decide +kernel
theorem dX5_leaving_77 : decode cX5_leaving 77 = .ok (.ifCond .le 5, 3) := by decide +kernel
theorem dX5_leaving_80 : decode cX5_leaving 80 = .ok (.iload_n 2, 1) := by decide +kernel
theorem dX5_leaving_81 : decode cX5_leaving 81 = .ok (.ireturn, 1) := by decide +kernel
theorem dX5_leaving_82 : decode cX5_leaving 82 = .ok (.iinc 2 1, 3) := by decide +kernel
theorem dX5_leaving_85 : decode cX5_leaving 85 = .ok (.goto (-69), 3) := by decide +kernel
theorem dX5_leaving_88 : decode cX5_leaving 88 = .ok (.iconst 0, 1) := by decide +kernel
theorem dX5_leaving_89 : decode cX5_leaving 89 = .ok (.ireturn, 1) := by decide +kernel
theorem dX5_saved_0 : decode cX5_saved 0 = .ok (.aload_n 0, 1) := by decide +kernel
theorem dX5_saved_1 : decode cX5_saved 1 = .ok (.getfield 19, 3) := by decide +kernel
theorem dX5_saved_4 : decode cX5_saved 4 = .ok (.iload_n 1, 1) := by decide +kernel
theorem dX5_saved_5 : decode cX5_saved 5 = .ok (.invokevirtual 85, 3) := by decide +kernel
theorem dX5_saved_8 : decode cX5_saved 8 = .ok (.ifCond .ne 5, 3) := by decide +kernel
theorem dX5_saved_11 : decode cX5_saved 11 = .ok (.iconst (-1), 1) := by decide +kernel
theorem dX5_saved_12 : decode cX5_saved 12 = .ok (.ireturn, 1) := by decide +kernel
theorem dX5_saved_13 : decode cX5_saved 13 = .ok (.aload_n 0, 1) := by decide +kernel
theorem dX5_saved_14 : decode cX5_saved 14 = .ok (.getfield 10, 3) := by decide +kernel
theorem dX5_saved_17 : decode cX5_saved 17 = .ok (.aload_n 0, 1) := by decide +kernel
theorem dX5_saved_18 : decode cX5_saved 18 = .ok (.getfield 19, 3) := by decide +kernel
theorem dX5_saved_21 : decode cX5_saved 21 = .ok (.getfield 99, 3) := by decide +kernel
theorem dX5_saved_24 : decode cX5_saved 24 = .ok (.invokevirtual 119, 3) := by decide +kernel
theorem dX5_saved_27 : decode cX5_saved 27 = .ok (.aload_n 0, 1) := by decide +kernel
theorem dX5_saved_28 : decode cX5_saved 28 = .ok (.getfield 10, 3) := by decide +kernel
theorem dX5_saved_31 : decode cX5_saved 31 = .ok (.aload_n 0, 1) := by decide +kernel
theorem dX5_saved_32 : decode cX5_saved 32 = .ok (.getfield 19, 3) := by decide +kernel
theorem dX5_saved_35 : decode cX5_saved 35 = .ok (.getfield 99, 3) := by decide +kernel
theorem dX5_saved_38 : decode cX5_saved 38 = .ok (.iconst 1, 1) := by decide +kernel
theorem dX5_saved_39 : decode cX5_saved 39 = .ok (.iload_n 1, 1) := by decide +kernel
theorem dX5_saved_40 : decode cX5_saved 40 = .ok (.ishl, 1) := by decide +kernel
theorem dX5_saved_41 : decode cX5_saved 41 = .ok (.iconst (-1), 1) := by decide +kernel
theorem dX5_saved_42 : decode cX5_saved 42 = .ok (.ixor, 1) := by decide +kernel
theorem dX5_saved_43 : decode cX5_saved 43 = .ok (.iand, 1) := by decide +kernel
theorem dX5_saved_44 : decode cX5_saved 44 = .ok (.invokevirtual 119, 3) := by decide +kernel
theorem dX5_saved_47 : decode cX5_saved 47 = .ok (.isub, 1) := by decide +kernel
theorem dX5_saved_48 : decode cX5_saved 48 = .ok (.ireturn, 1) := by decide +kernel
theorem dX5_differ_0 : decode cX5_differ 0 = .ok (.iload_n 1, 1) := by decide +kernel
