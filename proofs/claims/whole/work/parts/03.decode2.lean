theorem dX6_bills_286 : decode cX6_bills 286 = .ok (.goto (-36), 3) := by decide +kernel
theorem dX6_bills_289 : decode cX6_bills 289 = .ok (.aload_n 0, 1) := by decide +kernel
theorem dX6_bills_290 : decode cX6_bills 290 = .ok (.lconst 0, 1) := by decide +kernel
theorem dX6_bills_291 : decode cX6_bills 291 = .ok (.putfield 140, 3) := by decide +kernel
theorem dX6_bills_294 : decode cX6_bills 294 = .ok (.aload_n 0, 1) := by decide +kernel
theorem dX6_bills_295 : decode cX6_bills 295 = .ok (.iconst 0, 1) := by decide +kernel
theorem dX6_bills_296 : decode cX6_bills 296 = .ok (.invokevirtual 143, 3) := by decide +kernel
theorem dX6_bills_299 : decode cX6_bills 299 = .ok (.return_, 1) := by decide +kernel
theorem dX6_comes_0 : decode cX6_comes 0 = .ok (.iload_n 1, 1) := by decide +kernel
theorem dX6_comes_1 : decode cX6_comes 1 = .ok (.aload_n 0, 1) := by decide +kernel
theorem dX6_comes_2 : decode cX6_comes 2 = .ok (.getfield 137, 3) := by decide +kernel
theorem dX6_comes_5 : decode cX6_comes 5 = .ok (.if_icmp .ne 14, 3) := by decide +kernel
theorem dX6_comes_8 : decode cX6_comes 8 = .ok (.aload_n 0, 1) := by decide +kernel
theorem dX6_comes_9 : decode cX6_comes 9 = .ok (.dup, 1) := by decide +kernel
theorem dX6_comes_10 : decode cX6_comes 10 = .ok (.getfield 140, 3) := by decide +kernel
theorem dX6_comes_13 : decode cX6_comes 13 = .ok (.lconst 1, 1) := by decide +kernel
theorem dX6_comes_14 : decode cX6_comes 14 = .ok (.ladd, 1) := by decide +kernel
theorem dX6_comes_15 : decode cX6_comes 15 = .ok (.putfield 140, 3) := by decide +kernel
theorem dX6_comes_18 : decode cX6_comes 18 = .ok (.return_, 1) := by decide +kernel
theorem dX6_comes_19 : decode cX6_comes 19 = .ok (.iconst 0, 1) := by decide +kernel
theorem dX6_comes_20 : decode cX6_comes 20 = .ok (.istore_n 2, 1) := by decide +kernel
theorem dX6_comes_21 : decode cX6_comes 21 = .ok (.iload_n 2, 1) := by decide +kernel
theorem dX6_comes_22 : decode cX6_comes 22 = .ok (.aload_n 0, 1) := by decide +kernel
theorem dX6_comes_23 : decode cX6_comes 23 = .ok (.getfield 70, 3) := by decide +kernel
theorem dX6_comes_26 : decode cX6_comes 26 = .ok (.if_icmp .ge 75, 3) := by decide +kernel
theorem dX6_comes_29 : decode cX6_comes 29 = .ok (.aload_n 0, 1) := by decide +kernel
theorem dX6_comes_30 : decode cX6_comes 30 = .ok (.getfield 137, 3) := by decide +kernel
theorem dX6_comes_33 : decode cX6_comes 33 = .ok (.iload_n 1, 1) := by decide +kernel
theorem dX6_comes_34 : decode cX6_comes 34 = .ok (.iconst (-1), 1) := by decide +kernel
theorem dX6_comes_35 : decode cX6_comes 35 = .ok (.ixor, 1) := by decide +kernel
theorem dX6_comes_36 : decode cX6_comes 36 = .ok (.iand, 1) := by decide +kernel
theorem dX6_comes_37 : decode cX6_comes 37 = .ok (.iload_n 2, 1) := by decide +kernel
theorem dX6_comes_38 : decode cX6_comes 38 = .ok (.ishr, 1) := by decide +kernel
theorem dX6_comes_39 : decode cX6_comes 39 = .ok (.iconst 1, 1) := by decide +kernel
theorem dX6_comes_40 : decode cX6_comes 40 = .ok (.iand, 1) := by decide +kernel
theorem dX6_comes_41 : decode cX6_comes 41 = .ok (.ifCond .ne 6, 3) := by decide +kernel
theorem dX6_comes_44 : decode cX6_comes 44 = .ok (.goto 51, 3) := by decide +kernel
theorem dX6_comes_47 : decode cX6_comes 47 = .ok (.aload_n 0, 1) := by decide +kernel
theorem dX6_comes_48 : decode cX6_comes 48 = .ok (.getfield 140, 3) := by decide +kernel
theorem dX6_comes_51 : decode cX6_comes 51 = .ok (.lstore_n 3, 1) := by decide +kernel
theorem dX6_comes_52 : decode cX6_comes 52 = .ok (.aload_n 0, 1) := by decide +kernel
theorem dX6_comes_53 : decode cX6_comes 53 = .ok (.iload_n 1, 1) := by decide +kernel
theorem dX6_comes_54 : decode cX6_comes 54 = .ok (.iconst 1, 1) := by decide +kernel
theorem dX6_comes_55 : decode cX6_comes 55 = .ok (.iload_n 2, 1) := by decide +kernel
theorem dX6_comes_56 : decode cX6_comes 56 = .ok (.ishl, 1) := by decide +kernel
theorem dX6_comes_57 : decode cX6_comes 57 = .ok (.ior, 1) := by decide +kernel
theorem dX6_comes_58 : decode cX6_comes 58 = .ok (.invokevirtual 143, 3) := by decide +kernel
theorem dX6_comes_61 : decode cX6_comes 61 = .ok (.aload_n 0, 1) := by decide +kernel
theorem dX6_comes_62 : decode cX6_comes 62 = .ok (.getfield 54, 3) := by decide +kernel
theorem dX6_comes_65 : decode cX6_comes 65 = .ok (.iload_n 2, 1) := by decide +kernel
theorem dX6_comes_66 : decode cX6_comes 66 = .ok (.dup2, 1) := by decide +kernel
theorem dX6_comes_67 : decode cX6_comes 67 = .ok (.laload, 1) := by decide +kernel
theorem dX6_comes_68 : decode cX6_comes 68 = .ok (.aload_n 0, 1) := by decide +kernel
theorem dX6_comes_69 : decode cX6_comes 69 = .ok (.getfield 140, 3) := by decide +kernel
theorem dX6_comes_72 : decode cX6_comes 72 = .ok (.lload_n 3, 1) := by decide +kernel
theorem dX6_comes_73 : decode cX6_comes 73 = .ok (.lsub, 1) := by decide +kernel
theorem dX6_comes_74 : decode cX6_comes 74 = .ok (.aload_n 0, 1) := by decide +kernel
theorem dX6_comes_75 : decode cX6_comes 75 = .ok (.getfield 57, 3) := by decide +kernel
theorem dX6_comes_78 : decode cX6_comes 78 = .ok (.iload_n 1, 1) := by decide +kernel
theorem dX6_comes_79 : decode cX6_comes 79 = .ok (.iconst 1, 1) := by decide +kernel
theorem dX6_comes_80 : decode cX6_comes 80 = .ok (.iload_n 2, 1) := by decide +kernel
theorem dX6_comes_81 : decode cX6_comes 81 = .ok (.ishl, 1) := by decide +kernel
theorem dX6_comes_82 : decode cX6_comes 82 = .ok (.ior, 1) := by decide +kernel
theorem dX6_comes_83 : decode cX6_comes 83 = .ok (.iaload, 1) := by decide +kernel
theorem dX6_comes_84 : decode cX6_comes 84 = .ok (.aload_n 0, 1) := by decide +kernel
theorem dX6_comes_85 : decode cX6_comes 85 = .ok (.getfield 57, 3) := by decide +kernel
theorem dX6_comes_88 : decode cX6_comes 88 = .ok (.iload_n 1, 1) := by decide +kernel
theorem dX6_comes_89 : decode cX6_comes 89 = .ok (.iaload, 1) := by decide +kernel
theorem dX6_comes_90 : decode cX6_comes 90 = .ok (.isub, 1) := by decide +kernel
theorem dX6_comes_91 : decode cX6_comes 91 = .ok (.i2l, 1) := by decide +kernel
theorem dX6_comes_92 : decode cX6_comes 92 = .ok (.lmul, 1) := by decide +kernel
theorem dX6_comes_93 : decode cX6_comes 93 = .ok (.ladd, 1) := by decide +kernel
theorem dX6_comes_94 : decode cX6_comes 94 = .ok (.lastore, 1) := by decide +kernel
theorem dX6_comes_95 : decode cX6_comes 95 = .ok (.iinc 2 1, 3) := by decide +kernel
theorem dX6_comes_98 : decode cX6_comes 98 = .ok (.goto (-77), 3) := by decide +kernel
theorem dX6_comes_101 : decode cX6_comes 101 = .ok (.return_, 1) := by decide +kernel
theorem dX6_isRule_0 : decode cX6_isRule 0 = .ok (.iload_n 0, 1) := by decide +kernel
theorem dX6_isRule_1 : decode cX6_isRule 1 = .ok (.iconst 0, 1) := by decide +kernel
theorem dX6_isRule_2 : decode cX6_isRule 2 = .ok (.iconst 2, 1) := by decide +kernel
theorem dX6_isRule_3 : decode cX6_isRule 3 = .ok (.invokestatic 77, 3) := by decide +kernel
theorem dX6_isRule_6 : decode cX6_isRule 6 = .ok (.ireturn, 1) := by decide +kernel
theorem dX6_bill_0 : decode cX6_bill 0 = .ok (.aload_n 0, 1) := by decide +kernel
theorem dX6_bill_1 : decode cX6_bill 1 = .ok (.iconst 0, 1) := by decide +kernel
theorem dX6_bill_2 : decode cX6_bill 2 = .ok (.putfield 63, 3) := by decide +kernel
theorem dX6_bill_5 : decode cX6_bill 5 = .ok (.iload_n 1, 1) := by decide +kernel
theorem dX6_bill_6 : decode cX6_bill 6 = .ok (.invokestatic 147, 3) := by decide +kernel
theorem dX6_bill_9 : decode cX6_bill 9 = .ok (.ifCond .eq 20, 3) := by decide +kernel
theorem dX6_bill_12 : decode cX6_bill 12 = .ok (.aload_n 0, 1) := by decide +kernel
theorem dX6_bill_13 : decode cX6_bill 13 = .ok (.iload_n 2, 1) := by decide +kernel
theorem dX6_bill_14 : decode cX6_bill 14 = .ok (.invokevirtual 150, 3) := by decide +kernel
theorem dX6_bill_17 : decode cX6_bill 17 = .ok (.ifCond .eq 12, 3) := by decide +kernel
theorem dX6_bill_20 : decode cX6_bill 20 = .ok (.iload_n 3, 1) := by decide +kernel
theorem dX6_bill_21 : decode cX6_bill 21 = .ok (.iconst 0, 1) := by decide +kernel
theorem dX6_bill_22 : decode cX6_bill 22 = .ok (.iconst 1, 1) := by decide +kernel
theorem dX6_bill_23 : decode cX6_bill 23 = .ok (.invokestatic 77, 3) := by decide +kernel
theorem dX6_bill_26 : decode cX6_bill 26 = .ok (.ifCond .ne 7, 3) := by decide +kernel
theorem dX6_bill_29 : decode cX6_bill 29 = .ok (.ldc2_w 128, 3) := by decide +kernel
theorem dX6_bill_32 : decode cX6_bill 32 = .ok (.lreturn, 1) := by decide +kernel
theorem dX6_bill_33 : decode cX6_bill 33 = .ok (.aload_n 0, 1) := by decide +kernel
theorem dX6_bill_34 : decode cX6_bill 34 = .ok (.iload_n 1, 1) := by decide +kernel
theorem dX6_bill_35 : decode cX6_bill 35 = .ok (.invokevirtual 153, 3) := by decide +kernel
theorem dX6_bill_38 : decode cX6_bill 38 = .ok (.aload_n 0, 1) := by decide +kernel
theorem dX6_bill_39 : decode cX6_bill 39 = .ok (.getfield 54, 3) := by decide +kernel
theorem dX6_bill_42 : decode cX6_bill 42 = .ok (.iload_n 2, 1) := by decide +kernel
theorem dX6_bill_43 : decode cX6_bill 43 = .ok (.laload, 1) := by decide +kernel
theorem dX6_bill_44 : decode cX6_bill 44 = .ok (.aload_n 0, 1) := by decide +kernel
theorem dX6_bill_45 : decode cX6_bill 45 = .ok (.getfield 22, 3) := by decide +kernel
theorem dX6_bill_48 : decode cX6_bill 48 = .ok (.iload_n 2, 1) := by decide +kernel
theorem dX6_bill_49 : decode cX6_bill 49 = .ok (.iaload, 1) := by decide +kernel
theorem dX6_bill_50 : decode cX6_bill 50 = .ok (.i2l, 1) := by decide +kernel
theorem dX6_bill_51 : decode cX6_bill 51 = .ok (.aload_n 0, 1) := by decide +kernel
theorem dX6_bill_52 : decode cX6_bill 52 = .ok (.getfield 140, 3) := by decide +kernel
theorem dX6_bill_55 : decode cX6_bill 55 = .ok (.lmul, 1) := by decide +kernel
theorem dX6_bill_56 : decode cX6_bill 56 = .ok (.ladd, 1) := by decide +kernel
theorem dX6_bill_57 : decode cX6_bill 57 = .ok (.aload_n 0, 1) := by decide +kernel
theorem dX6_bill_58 : decode cX6_bill 58 = .ok (.getfield 140, 3) := by decide +kernel
theorem dX6_bill_61 : decode cX6_bill 61 = .ok (.iload_n 3, 1) := by decide +kernel
theorem dX6_bill_62 : decode cX6_bill 62 = .ok (.invokestatic 133, 3) := by decide +kernel
theorem dX6_bill_65 : decode cX6_bill 65 = .ok (.lreturn, 1) := by decide +kernel
theorem dX6_coinsBy_0 : decode cX6_coinsBy 0 = .ok (.aload_n 0, 1) := by decide +kernel
theorem dX6_coinsBy_1 : decode cX6_coinsBy 1 = .ok (.iload_n 1, 1) := by decide +kernel
theorem dX6_coinsBy_2 : decode cX6_coinsBy 2 = .ok (.invokevirtual 153, 3) := by decide +kernel
theorem dX6_coinsBy_5 : decode cX6_coinsBy 5 = .ok (.aload_n 0, 1) := by decide +kernel
theorem dX6_coinsBy_6 : decode cX6_coinsBy 6 = .ok (.aload_n 0, 1) := by decide +kernel
theorem dX6_coinsBy_7 : decode cX6_coinsBy 7 = .ok (.getfield 137, 3) := by decide +kernel
theorem dX6_coinsBy_10 : decode cX6_coinsBy 10 = .ok (.invokevirtual 104, 3) := by decide +kernel
theorem dX6_coinsBy_13 : decode cX6_coinsBy 13 = .ok (.i2l, 1) := by decide +kernel
theorem dX6_coinsBy_14 : decode cX6_coinsBy 14 = .ok (.lstore_n 2, 1) := by decide +kernel
theorem dX6_coinsBy_15 : decode cX6_coinsBy 15 = .ok (.iconst 0, 1) := by decide +kernel
theorem dX6_coinsBy_16 : decode cX6_coinsBy 16 = .ok (.istore 4, 2) := by decide +kernel
theorem dX6_coinsBy_18 : decode cX6_coinsBy 18 = .ok (.iconst 0, 1) := by decide +kernel
theorem dX6_coinsBy_19 : decode cX6_coinsBy 19 = .ok (.istore 5, 2) := by decide +kernel
theorem dX6_coinsBy_21 : decode cX6_coinsBy 21 = .ok (.iload 5, 2) := by decide +kernel
theorem dX6_coinsBy_23 : decode cX6_coinsBy 23 = .ok (.aload_n 0, 1) := by decide +kernel
theorem dX6_coinsBy_24 : decode cX6_coinsBy 24 = .ok (.getfield 70, 3) := by decide +kernel
theorem dX6_coinsBy_27 : decode cX6_coinsBy 27 = .ok (.if_icmp .ge 78, 3) := by decide +kernel
theorem dX6_coinsBy_30 : decode cX6_coinsBy 30 = .ok (.aload_n 0, 1) := by decide +kernel
theorem dX6_coinsBy_31 : decode cX6_coinsBy 31 = .ok (.getfield 60, 3) := by decide +kernel
theorem dX6_coinsBy_34 : decode cX6_coinsBy 34 = .ok (.iload 5, 2) := by decide +kernel
theorem dX6_coinsBy_36 : decode cX6_coinsBy 36 = .ok (.aload_n 0, 1) := by decide +kernel
theorem dX6_coinsBy_37 : decode cX6_coinsBy 37 = .ok (.getfield 28, 3) := by decide +kernel
theorem dX6_coinsBy_40 : decode cX6_coinsBy 40 = .ok (.iload 5, 2) := by decide +kernel
theorem dX6_coinsBy_42 : decode cX6_coinsBy 42 = .ok (.baload, 1) := by decide +kernel
theorem dX6_coinsBy_43 : decode cX6_coinsBy 43 = .ok (.ifCond .eq 19, 3) := by decide +kernel
theorem dX6_coinsBy_46 : decode cX6_coinsBy 46 = .ok (.aload_n 0, 1) := by decide +kernel
theorem dX6_coinsBy_47 : decode cX6_coinsBy 47 = .ok (.getfield 54, 3) := by decide +kernel
theorem dX6_coinsBy_50 : decode cX6_coinsBy 50 = .ok (.iload 5, 2) := by decide +kernel
theorem dX6_coinsBy_52 : decode cX6_coinsBy 52 = .ok (.laload, 1) := by decide +kernel
theorem dX6_coinsBy_53 : decode cX6_coinsBy 53 = .ok (.aload_n 0, 1) := by decide +kernel
theorem dX6_coinsBy_54 : decode cX6_coinsBy 54 = .ok (.getfield 140, 3) := by decide +kernel
theorem dX6_coinsBy_57 : decode cX6_coinsBy 57 = .ok (.ldiv, 1) := by decide +kernel
theorem dX6_coinsBy_58 : decode cX6_coinsBy 58 = .ok (.l2i, 1) := by decide +kernel
theorem dX6_coinsBy_59 : decode cX6_coinsBy 59 = .ok (.goto 4, 3) := by decide +kernel
theorem dX6_coinsBy_62 : decode cX6_coinsBy 62 = .ok (.iconst 0, 1) := by decide +kernel
theorem dX6_coinsBy_63 : decode cX6_coinsBy 63 = .ok (.iastore, 1) := by decide +kernel
theorem dX6_coinsBy_64 : decode cX6_coinsBy 64 = .ok (.lload_n 2, 1) := by decide +kernel
theorem dX6_coinsBy_65 : decode cX6_coinsBy 65 = .ok (.aload_n 0, 1) := by decide +kernel
theorem dX6_coinsBy_66 : decode cX6_coinsBy 66 = .ok (.getfield 60, 3) := by decide +kernel
theorem dX6_coinsBy_69 : decode cX6_coinsBy 69 = .ok (.iload 5, 2) := by decide +kernel
theorem dX6_coinsBy_71 : decode cX6_coinsBy 71 = .ok (.iaload, 1) := by decide +kernel
theorem dX6_coinsBy_72 : decode cX6_coinsBy 72 = .ok (.i2l, 1) := by decide +kernel
theorem dX6_coinsBy_73 : decode cX6_coinsBy 73 = .ok (.lsub, 1) := by decide +kernel
theorem dX6_coinsBy_74 : decode cX6_coinsBy 74 = .ok (.lstore_n 2, 1) := by decide +kernel
theorem dX6_coinsBy_75 : decode cX6_coinsBy 75 = .ok (.iload 4, 2) := by decide +kernel
theorem dX6_coinsBy_77 : decode cX6_coinsBy 77 = .ok (.ifCond .ne 15, 3) := by decide +kernel
theorem dX6_coinsBy_80 : decode cX6_coinsBy 80 = .ok (.aload_n 0, 1) := by decide +kernel
theorem dX6_coinsBy_81 : decode cX6_coinsBy 81 = .ok (.getfield 54, 3) := by decide +kernel
theorem dX6_coinsBy_84 : decode cX6_coinsBy 84 = .ok (.iload 5, 2) := by decide +kernel
theorem dX6_coinsBy_86 : decode cX6_coinsBy 86 = .ok (.laload, 1) := by decide +kernel
theorem dX6_coinsBy_87 : decode cX6_coinsBy 87 = .ok (.lconst 0, 1) := by decide +kernel
theorem dX6_coinsBy_88 : decode cX6_coinsBy 88 = .ok (.lcmp, 1) := by decide +kernel
theorem dX6_coinsBy_89 : decode cX6_coinsBy 89 = .ok (.ifCond .eq 7, 3) := by decide +kernel
theorem dX6_coinsBy_92 : decode cX6_coinsBy 92 = .ok (.iconst 1, 1) := by decide +kernel
theorem dX6_coinsBy_93 : decode cX6_coinsBy 93 = .ok (.goto 4, 3) := by decide +kernel
theorem dX6_coinsBy_96 : decode cX6_coinsBy 96 = .ok (.iconst 0, 1) := by decide +kernel
theorem dX6_coinsBy_97 : decode cX6_coinsBy 97 = .ok (.istore 4, 2) := by decide +kernel
theorem dX6_coinsBy_99 : decode cX6_coinsBy 99 = .ok (.iinc 5 1, 3) := by decide +kernel
theorem dX6_coinsBy_102 : decode cX6_coinsBy 102 = .ok (.goto (-81), 3) := by decide +kernel
theorem dX6_coinsBy_105 : decode cX6_coinsBy 105 = .ok (.bipush 8, 2) := by decide +kernel
theorem dX6_coinsBy_107 : decode cX6_coinsBy 107 = .ok (.newarray .boolean, 2) := by decide +kernel
theorem dX6_coinsBy_109 : decode cX6_coinsBy 109 = .ok (.astore 5, 2) := by decide +kernel
theorem dX6_coinsBy_111 : decode cX6_coinsBy 111 = .ok (.lload_n 2, 1) := by decide +kernel
theorem dX6_coinsBy_112 : decode cX6_coinsBy 112 = .ok (.lconst 0, 1) := by decide +kernel
theorem dX6_coinsBy_113 : decode cX6_coinsBy 113 = .ok (.lcmp, 1) := by decide +kernel
theorem dX6_coinsBy_114 : decode cX6_coinsBy 114 = .ok (.ifCond .le 109, 3) := by decide +kernel
theorem dX6_coinsBy_117 : decode cX6_coinsBy 117 = .ok (.iload 4, 2) := by decide +kernel
theorem dX6_coinsBy_119 : decode cX6_coinsBy 119 = .ok (.ifCond .eq 104, 3) := by decide +kernel
theorem dX6_coinsBy_122 : decode cX6_coinsBy 122 = .ok (.iconst (-1), 1) := by decide +kernel
theorem dX6_coinsBy_123 : decode cX6_coinsBy 123 = .ok (.istore 6, 2) := by decide +kernel
theorem dX6_coinsBy_125 : decode cX6_coinsBy 125 = .ok (.iconst 0, 1) := by decide +kernel
theorem dX6_coinsBy_126 : decode cX6_coinsBy 126 = .ok (.istore 7, 2) := by decide +kernel
theorem dX6_coinsBy_128 : decode cX6_coinsBy 128 = .ok (.iload 7, 2) := by decide +kernel
theorem dX6_coinsBy_130 : decode cX6_coinsBy 130 = .ok (.aload_n 0, 1) := by decide +kernel
theorem dX6_coinsBy_131 : decode cX6_coinsBy 131 = .ok (.getfield 70, 3) := by decide +kernel
theorem dX6_coinsBy_134 : decode cX6_coinsBy 134 = .ok (.if_icmp .ge 65, 3) := by decide +kernel
theorem dX6_coinsBy_137 : decode cX6_coinsBy 137 = .ok (.aload_n 0, 1) := by decide +kernel
theorem dX6_coinsBy_138 : decode cX6_coinsBy 138 = .ok (.getfield 28, 3) := by decide +kernel
theorem dX6_coinsBy_141 : decode cX6_coinsBy 141 = .ok (.iload 7, 2) := by decide +kernel
theorem dX6_coinsBy_143 : decode cX6_coinsBy 143 = .ok (.baload, 1) := by decide +kernel
theorem dX6_coinsBy_144 : decode cX6_coinsBy 144 = .ok (.ifCond .eq 49, 3) := by decide +kernel
theorem dX6_coinsBy_147 : decode cX6_coinsBy 147 = .ok (.aload 5, 2) := by decide +kernel
theorem dX6_coinsBy_149 : decode cX6_coinsBy 149 = .ok (.iload 7, 2) := by decide +kernel
theorem dX6_coinsBy_151 : decode cX6_coinsBy 151 = .ok (.baload, 1) := by decide +kernel
theorem dX6_coinsBy_152 : decode cX6_coinsBy 152 = .ok (.ifCond .ne 41, 3) := by decide +kernel
theorem dX6_coinsBy_155 : decode cX6_coinsBy 155 = .ok (.iload 6, 2) := by decide +kernel
theorem dX6_coinsBy_157 : decode cX6_coinsBy 157 = .ok (.iconst (-1), 1) := by decide +kernel
theorem dX6_coinsBy_158 : decode cX6_coinsBy 158 = .ok (.if_icmp .eq 31, 3) := by decide +kernel
theorem dX6_coinsBy_161 : decode cX6_coinsBy 161 = .ok (.aload_n 0, 1) := by decide +kernel
theorem dX6_coinsBy_162 : decode cX6_coinsBy 162 = .ok (.getfield 54, 3) := by decide +kernel
theorem dX6_coinsBy_165 : decode cX6_coinsBy 165 = .ok (.iload 7, 2) := by decide +kernel
theorem dX6_coinsBy_167 : decode cX6_coinsBy 167 = .ok (.laload, 1) := by decide +kernel
theorem dX6_coinsBy_168 : decode cX6_coinsBy 168 = .ok (.aload_n 0, 1) := by decide +kernel
theorem dX6_coinsBy_169 : decode cX6_coinsBy 169 = .ok (.getfield 140, 3) := by decide +kernel
theorem dX6_coinsBy_172 : decode cX6_coinsBy 172 = .ok (.lrem, 1) := by decide +kernel
theorem dX6_coinsBy_173 : decode cX6_coinsBy 173 = .ok (.aload_n 0, 1) := by decide +kernel
theorem dX6_coinsBy_174 : decode cX6_coinsBy 174 = .ok (.getfield 54, 3) := by decide +kernel
theorem dX6_coinsBy_177 : decode cX6_coinsBy 177 = .ok (.iload 6, 2) := by decide +kernel
theorem dX6_coinsBy_179 : decode cX6_coinsBy 179 = .ok (.laload, 1) := by decide +kernel
theorem dX6_coinsBy_180 : decode cX6_coinsBy 180 = .ok (.aload_n 0, 1) := by decide +kernel
theorem dX6_coinsBy_181 : decode cX6_coinsBy 181 = .ok (.getfield 140, 3) := by decide +kernel
theorem dX6_coinsBy_184 : decode cX6_coinsBy 184 = .ok (.lrem, 1) := by decide +kernel
theorem dX6_coinsBy_185 : decode cX6_coinsBy 185 = .ok (.lcmp, 1) := by decide +kernel
theorem dX6_coinsBy_186 : decode cX6_coinsBy 186 = .ok (.ifCond .le 7, 3) := by decide +kernel
theorem dX6_coinsBy_189 : decode cX6_coinsBy 189 = .ok (.iload 7, 2) := by decide +kernel
theorem dX6_coinsBy_191 : decode cX6_coinsBy 191 = .ok (.istore 6, 2) := by decide +kernel
theorem dX6_coinsBy_193 : decode cX6_coinsBy 193 = .ok (.iinc 7 1, 3) := by decide +kernel
theorem dX6_coinsBy_196 : decode cX6_coinsBy 196 = .ok (.goto (-68), 3) := by decide +kernel
theorem dX6_coinsBy_199 : decode cX6_coinsBy 199 = .ok (.aload 5, 2) := by decide +kernel
theorem dX6_coinsBy_201 : decode cX6_coinsBy 201 = .ok (.iload 6, 2) := by decide +kernel
theorem dX6_coinsBy_203 : decode cX6_coinsBy 203 = .ok (.iconst 1, 1) := by decide +kernel
theorem dX6_coinsBy_204 : decode cX6_coinsBy 204 = .ok (.bastore, 1) := by decide +kernel
theorem dX6_coinsBy_205 : decode cX6_coinsBy 205 = .ok (.aload_n 0, 1) := by decide +kernel
theorem dX6_coinsBy_206 : decode cX6_coinsBy 206 = .ok (.getfield 60, 3) := by decide +kernel
theorem dX6_coinsBy_209 : decode cX6_coinsBy 209 = .ok (.iload 6, 2) := by decide +kernel
theorem dX6_coinsBy_211 : decode cX6_coinsBy 211 = .ok (.dup2, 1) := by decide +kernel
theorem dX6_coinsBy_212 : decode cX6_coinsBy 212 = .ok (.iaload, 1) := by decide +kernel
theorem dX6_coinsBy_213 : decode cX6_coinsBy 213 = .ok (.iconst 1, 1) := by decide +kernel
theorem dX6_coinsBy_214 : decode cX6_coinsBy 214 = .ok (.iadd, 1) := by decide +kernel
theorem dX6_coinsBy_215 : decode cX6_coinsBy 215 = .ok (.iastore, 1) := by decide +kernel
theorem dX6_coinsBy_216 : decode cX6_coinsBy 216 = .ok (.lload_n 2, 1) := by decide +kernel
theorem dX6_coinsBy_217 : decode cX6_coinsBy 217 = .ok (.lconst 1, 1) := by decide +kernel
theorem dX6_coinsBy_218 : decode cX6_coinsBy 218 = .ok (.lsub, 1) := by decide +kernel
theorem dX6_coinsBy_219 : decode cX6_coinsBy 219 = .ok (.lstore_n 2, 1) := by decide +kernel
theorem dX6_coinsBy_220 : decode cX6_coinsBy 220 = .ok (.goto (-109), 3) := by decide +kernel
theorem dX6_coinsBy_223 : decode cX6_coinsBy 223 = .ok (.iconst 0, 1) := by decide +kernel
theorem dX6_coinsBy_224 : decode cX6_coinsBy 224 = .ok (.istore 6, 2) := by decide +kernel
theorem dX6_coinsBy_226 : decode cX6_coinsBy 226 = .ok (.iload 6, 2) := by decide +kernel
theorem dX6_coinsBy_228 : decode cX6_coinsBy 228 = .ok (.aload_n 0, 1) := by decide +kernel
theorem dX6_coinsBy_229 : decode cX6_coinsBy 229 = .ok (.getfield 70, 3) := by decide +kernel
theorem dX6_coinsBy_232 : decode cX6_coinsBy 232 = .ok (.if_icmp .ge 36, 3) := by decide +kernel
theorem dX6_coinsBy_235 : decode cX6_coinsBy 235 = .ok (.aload_n 0, 1) := by decide +kernel
theorem dX6_coinsBy_236 : decode cX6_coinsBy 236 = .ok (.getfield 28, 3) := by decide +kernel
theorem dX6_coinsBy_239 : decode cX6_coinsBy 239 = .ok (.iload 6, 2) := by decide +kernel
theorem dX6_coinsBy_241 : decode cX6_coinsBy 241 = .ok (.baload, 1) := by decide +kernel
theorem dX6_coinsBy_242 : decode cX6_coinsBy 242 = .ok (.ifCond .eq 20, 3) := by decide +kernel
theorem dX6_coinsBy_245 : decode cX6_coinsBy 245 = .ok (.aload_n 0, 1) := by decide +kernel
theorem dX6_coinsBy_246 : decode cX6_coinsBy 246 = .ok (.getfield 60, 3) := by decide +kernel
theorem dX6_coinsBy_249 : decode cX6_coinsBy 249 = .ok (.iload 6, 2) := by decide +kernel
theorem dX6_coinsBy_251 : decode cX6_coinsBy 251 = .ok (.dup2, 1) := by decide +kernel
theorem dX6_coinsBy_252 : decode cX6_coinsBy 252 = .ok (.iaload, 1) := by decide +kernel
theorem dX6_coinsBy_253 : decode cX6_coinsBy 253 = .ok (.aload_n 0, 1) := by decide +kernel
theorem dX6_coinsBy_254 : decode cX6_coinsBy 254 = .ok (.getfield 22, 3) := by decide +kernel
theorem dX6_coinsBy_257 : decode cX6_coinsBy 257 = .ok (.iload 6, 2) := by decide +kernel
theorem dX6_coinsBy_259 : decode cX6_coinsBy 259 = .ok (.iaload, 1) := by decide +kernel
theorem dX6_coinsBy_260 : decode cX6_coinsBy 260 = .ok (.iadd, 1) := by decide +kernel
theorem dX6_coinsBy_261 : decode cX6_coinsBy 261 = .ok (.iastore, 1) := by decide +kernel
theorem dX6_coinsBy_262 : decode cX6_coinsBy 262 = .ok (.iinc 6 1, 3) := by decide +kernel
theorem dX6_coinsBy_265 : decode cX6_coinsBy 265 = .ok (.goto (-39), 3) := by decide +kernel
theorem dX6_coinsBy_268 : decode cX6_coinsBy 268 = .ok (.return_, 1) := by decide +kernel
theorem dX6_coins_0 : decode cX6_coins 0 = .ok (.aload_n 0, 1) := by decide +kernel
theorem dX6_coins_1 : decode cX6_coins 1 = .ok (.iconst 0, 1) := by decide +kernel
theorem dX6_coins_2 : decode cX6_coins 2 = .ok (.putfield 63, 3) := by decide +kernel
theorem dX6_coins_5 : decode cX6_coins 5 = .ok (.iload_n 1, 1) := by decide +kernel
theorem dX6_coins_6 : decode cX6_coins 6 = .ok (.invokestatic 147, 3) := by decide +kernel
theorem dX6_coins_9 : decode cX6_coins 9 = .ok (.ifCond .eq 11, 3) := by decide +kernel
theorem dX6_coins_12 : decode cX6_coins 12 = .ok (.aload_n 0, 1) := by decide +kernel
theorem dX6_coins_13 : decode cX6_coins 13 = .ok (.iload_n 2, 1) := by decide +kernel
theorem dX6_coins_14 : decode cX6_coins 14 = .ok (.invokevirtual 150, 3) := by decide +kernel
theorem dX6_coins_17 : decode cX6_coins 17 = .ok (.ifCond .ne 6, 3) := by decide +kernel
theorem dX6_coins_20 : decode cX6_coins 20 = .ok (.ldc 156, 2) := by decide +kernel
theorem dX6_coins_22 : decode cX6_coins 22 = .ok (.ireturn, 1) := by decide +kernel
theorem dX6_coins_23 : decode cX6_coins 23 = .ok (.aload_n 0, 1) := by decide +kernel
theorem dX6_coins_24 : decode cX6_coins 24 = .ok (.iload_n 1, 1) := by decide +kernel
theorem dX6_coins_25 : decode cX6_coins 25 = .ok (.invokevirtual 157, 3) := by decide +kernel
theorem dX6_coins_28 : decode cX6_coins 28 = .ok (.aload_n 0, 1) := by decide +kernel
theorem dX6_coins_29 : decode cX6_coins 29 = .ok (.getfield 60, 3) := by decide +kernel
theorem dX6_coins_32 : decode cX6_coins 32 = .ok (.iload_n 2, 1) := by decide +kernel
theorem dX6_coins_33 : decode cX6_coins 33 = .ok (.iaload, 1) := by decide +kernel
theorem dX6_coins_34 : decode cX6_coins 34 = .ok (.ireturn, 1) := by decide +kernel
theorem dX6_leaving_0 : decode cX6_leaving 0 = .ok (.aload_n 0, 1) := by decide +kernel
theorem dX6_leaving_1 : decode cX6_leaving 1 = .ok (.iconst 0, 1) := by decide +kernel
theorem dX6_leaving_2 : decode cX6_leaving 2 = .ok (.putfield 63, 3) := by decide +kernel
theorem dX6_leaving_5 : decode cX6_leaving 5 = .ok (.iload_n 1, 1) := by decide +kernel
theorem dX6_leaving_6 : decode cX6_leaving 6 = .ok (.invokestatic 147, 3) := by decide +kernel
theorem dX6_leaving_9 : decode cX6_leaving 9 = .ok (.ifCond .ne 5, 3) := by decide +kernel
theorem dX6_leaving_12 : decode cX6_leaving 12 = .ok (.iconst (-1), 1) := by decide +kernel
theorem dX6_leaving_13 : decode cX6_leaving 13 = .ok (.ireturn, 1) := by decide +kernel
theorem dX6_leaving_14 : decode cX6_leaving 14 = .ok (.aload_n 0, 1) := by decide +kernel
theorem dX6_leaving_15 : decode cX6_leaving 15 = .ok (.iload_n 1, 1) := by decide +kernel
theorem dX6_leaving_16 : decode cX6_leaving 16 = .ok (.invokevirtual 153, 3) := by decide +kernel
theorem dX6_leaving_19 : decode cX6_leaving 19 = .ok (.iconst 1, 1) := by decide +kernel
theorem dX6_leaving_20 : decode cX6_leaving 20 = .ok (.istore_n 2, 1) := by decide +kernel
theorem dX6_leaving_21 : decode cX6_leaving 21 = .ok (.iload_n 2, 1) := by decide +kernel
theorem dX6_leaving_22 : decode cX6_leaving 22 = .ok (.sipush 256, 3) := by decide +kernel
theorem dX6_leaving_25 : decode cX6_leaving 25 = .ok (.if_icmp .ge 85, 3) := by decide +kernel
theorem dX6_leaving_28 : decode cX6_leaving 28 = .ok (.iload_n 2, 1) := by decide +kernel
theorem dX6_leaving_29 : decode cX6_leaving 29 = .ok (.aload_n 0, 1) := by decide +kernel
theorem dX6_leaving_30 : decode cX6_leaving 30 = .ok (.getfield 137, 3) := by decide +kernel
theorem dX6_leaving_33 : decode cX6_leaving 33 = .ok (.iconst (-1), 1) := by decide +kernel
theorem dX6_leaving_34 : decode cX6_leaving 34 = .ok (.ixor, 1) := by decide +kernel
theorem dX6_leaving_35 : decode cX6_leaving 35 = .ok (.iand, 1) := by decide +kernel
theorem dX6_leaving_36 : decode cX6_leaving 36 = .ok (.ifCond .eq 6, 3) := by decide +kernel
theorem dX6_leaving_39 : decode cX6_leaving 39 = .ok (.goto 65, 3) := by decide +kernel
theorem dX6_leaving_42 : decode cX6_leaving 42 = .ok (.lconst 0, 1) := by decide +kernel
theorem dX6_leaving_43 : decode cX6_leaving 43 = .ok (.lstore_n 3, 1) := by decide +kernel
theorem dX6_leaving_44 : decode cX6_leaving 44 = .ok (.iconst 0, 1) := by decide +kernel
theorem dX6_leaving_45 : decode cX6_leaving 45 = .ok (.istore 5, 2) := by decide +kernel
theorem dX6_leaving_47 : decode cX6_leaving 47 = .ok (.iload 5, 2) := by decide +kernel
theorem dX6_leaving_49 : decode cX6_leaving 49 = .ok (.aload_n 0, 1) := by decide +kernel
theorem dX6_leaving_50 : decode cX6_leaving 50 = .ok (.getfield 70, 3) := by decide +kernel
theorem dX6_leaving_53 : decode cX6_leaving 53 = .ok (.if_icmp .ge 33, 3) := by decide +kernel
theorem dX6_leaving_56 : decode cX6_leaving 56 = .ok (.lload_n 3, 1) := by decide +kernel
theorem dX6_leaving_57 : decode cX6_leaving 57 = .ok (.iload_n 2, 1) := by decide +kernel
theorem dX6_leaving_58 : decode cX6_leaving 58 = .ok (.iload 5, 2) := by decide +kernel
theorem dX6_leaving_60 : decode cX6_leaving 60 = .ok (.ishr, 1) := by decide +kernel
theorem dX6_leaving_61 : decode cX6_leaving 61 = .ok (.iconst 1, 1) := by decide +kernel
theorem dX6_leaving_62 : decode cX6_leaving 62 = .ok (.iand, 1) := by decide +kernel
theorem dX6_leaving_63 : decode cX6_leaving 63 = .ok (.iconst 1, 1) := by decide +kernel
theorem dX6_leaving_64 : decode cX6_leaving 64 = .ok (.if_icmp .ne 13, 3) := by decide +kernel
theorem dX6_leaving_67 : decode cX6_leaving 67 = .ok (.aload_n 0, 1) := by decide +kernel
theorem dX6_leaving_68 : decode cX6_leaving 68 = .ok (.getfield 54, 3) := by decide +kernel
theorem dX6_leaving_71 : decode cX6_leaving 71 = .ok (.iload 5, 2) := by decide +kernel
theorem dX6_leaving_73 : decode cX6_leaving 73 = .ok (.laload, 1) := by decide +kernel
theorem dX6_leaving_74 : decode cX6_leaving 74 = .ok (.goto 4, 3) := by decide +kernel
theorem dX6_leaving_77 : decode cX6_leaving 77 = .ok (.lconst 0, 1) := by decide +kernel
theorem dX6_leaving_78 : decode cX6_leaving 78 = .ok (.ladd, 1) := by decide +kernel
theorem dX6_leaving_79 : decode cX6_leaving 79 = .ok (.lstore_n 3, 1) := by decide +kernel
theorem dX6_leaving_80 : decode cX6_leaving 80 = .ok (.iinc 5 1, 3) := by decide +kernel
theorem dX6_leaving_83 : decode cX6_leaving 83 = .ok (.goto (-36), 3) := by decide +kernel
theorem dX6_leaving_86 : decode cX6_leaving 86 = .ok (.lload_n 3, 1) := by decide +kernel
theorem dX6_leaving_87 : decode cX6_leaving 87 = .ok (.aload_n 0, 1) := by decide +kernel
theorem dX6_leaving_88 : decode cX6_leaving 88 = .ok (.iload_n 2, 1) := by decide +kernel
theorem dX6_leaving_89 : decode cX6_leaving 89 = .ok (.invokevirtual 104, 3) := by decide +kernel
theorem dX6_leaving_92 : decode cX6_leaving 92 = .ok (.i2l, 1) := by decide +kernel
theorem dX6_leaving_93 : decode cX6_leaving 93 = .ok (.aload_n 0, 1) := by decide +kernel
theorem dX6_leaving_94 : decode cX6_leaving 94 = .ok (.getfield 140, 3) := by decide +kernel
theorem dX6_leaving_97 : decode cX6_leaving 97 = .ok (.lmul, 1) := by decide +kernel
theorem dX6_leaving_98 : decode cX6_leaving 98 = .ok (.lcmp, 1) := by decide +kernel
theorem dX6_leaving_99 : decode cX6_leaving 99 = .ok (.ifCond .le 5, 3) := by decide +kernel
theorem dX6_leaving_102 : decode cX6_leaving 102 = .ok (.iload_n 2, 1) := by decide +kernel
theorem dX6_leaving_103 : decode cX6_leaving 103 = .ok (.ireturn, 1) := by decide +kernel
theorem dX6_leaving_104 : decode cX6_leaving 104 = .ok (.iinc 2 1, 3) := by decide +kernel
theorem dX6_leaving_107 : decode cX6_leaving 107 = .ok (.goto (-86), 3) := by decide +kernel
theorem dX6_leaving_110 : decode cX6_leaving 110 = .ok (.iconst 0, 1) := by decide +kernel
theorem dX6_leaving_111 : decode cX6_leaving 111 = .ok (.ireturn, 1) := by decide +kernel
theorem dX6_saved_0 : decode cX6_saved 0 = .ok (.aload_n 0, 1) := by decide +kernel
theorem dX6_saved_1 : decode cX6_saved 1 = .ok (.iconst 0, 1) := by decide +kernel
theorem dX6_saved_2 : decode cX6_saved 2 = .ok (.putfield 63, 3) := by decide +kernel
theorem dX6_saved_5 : decode cX6_saved 5 = .ok (.aload_n 0, 1) := by decide +kernel
theorem dX6_saved_6 : decode cX6_saved 6 = .ok (.iload_n 1, 1) := by decide +kernel
theorem dX6_saved_7 : decode cX6_saved 7 = .ok (.invokevirtual 150, 3) := by decide +kernel
theorem dX6_saved_10 : decode cX6_saved 10 = .ok (.ifCond .eq 29, 3) := by decide +kernel
theorem dX6_saved_13 : decode cX6_saved 13 = .ok (.aload_n 0, 1) := by decide +kernel
theorem dX6_saved_14 : decode cX6_saved 14 = .ok (.aload_n 0, 1) := by decide +kernel
theorem dX6_saved_15 : decode cX6_saved 15 = .ok (.invokevirtual 100, 3) := by decide +kernel
theorem dX6_saved_18 : decode cX6_saved 18 = .ok (.invokevirtual 104, 3) := by decide +kernel
theorem dX6_saved_21 : decode cX6_saved 21 = .ok (.aload_n 0, 1) := by decide +kernel
theorem dX6_saved_22 : decode cX6_saved 22 = .ok (.aload_n 0, 1) := by decide +kernel
theorem dX6_saved_23 : decode cX6_saved 23 = .ok (.invokevirtual 100, 3) := by decide +kernel
theorem dX6_saved_26 : decode cX6_saved 26 = .ok (.iconst 1, 1) := by decide +kernel
theorem dX6_saved_27 : decode cX6_saved 27 = .ok (.iload_n 1, 1) := by decide +kernel
theorem dX6_saved_28 : decode cX6_saved 28 = .ok (.ishl, 1) := by decide +kernel
theorem dX6_saved_29 : decode cX6_saved 29 = .ok (.iconst (-1), 1) := by decide +kernel
theorem dX6_saved_30 : decode cX6_saved 30 = .ok (.ixor, 1) := by decide +kernel
theorem dX6_saved_31 : decode cX6_saved 31 = .ok (.iand, 1) := by decide +kernel
theorem dX6_saved_32 : decode cX6_saved 32 = .ok (.invokevirtual 104, 3) := by decide +kernel
theorem dX6_saved_35 : decode cX6_saved 35 = .ok (.isub, 1) := by decide +kernel
theorem dX6_saved_36 : decode cX6_saved 36 = .ok (.goto 4, 3) := by decide +kernel
theorem dX6_saved_39 : decode cX6_saved 39 = .ok (.iconst (-1), 1) := by decide +kernel
theorem dX6_saved_40 : decode cX6_saved 40 = .ok (.ireturn, 1) := by decide +kernel
theorem dX6_differ_0 : decode cX6_differ 0 = .ok (.aload_n 0, 1) := by decide +kernel
theorem dX6_differ_1 : decode cX6_differ 1 = .ok (.iconst 0, 1) := by decide +kernel
theorem dX6_differ_2 : decode cX6_differ 2 = .ok (.putfield 63, 3) := by decide +kernel
theorem dX6_differ_5 : decode cX6_differ 5 = .ok (.iload_n 1, 1) := by decide +kernel
theorem dX6_differ_6 : decode cX6_differ 6 = .ok (.invokestatic 147, 3) := by decide +kernel
theorem dX6_differ_9 : decode cX6_differ 9 = .ok (.ifCond .eq 10, 3) := by decide +kernel
theorem dX6_differ_12 : decode cX6_differ 12 = .ok (.iload_n 2, 1) := by decide +kernel
theorem dX6_differ_13 : decode cX6_differ 13 = .ok (.invokestatic 147, 3) := by decide +kernel
theorem dX6_differ_16 : decode cX6_differ 16 = .ok (.ifCond .ne 5, 3) := by decide +kernel
theorem dX6_differ_19 : decode cX6_differ 19 = .ok (.iconst (-1), 1) := by decide +kernel
theorem dX6_differ_20 : decode cX6_differ 20 = .ok (.ireturn, 1) := by decide +kernel
theorem dX6_differ_21 : decode cX6_differ 21 = .ok (.aload_n 0, 1) := by decide +kernel
theorem dX6_differ_22 : decode cX6_differ 22 = .ok (.iload_n 1, 1) := by decide +kernel
theorem dX6_differ_23 : decode cX6_differ 23 = .ok (.invokevirtual 157, 3) := by decide +kernel
theorem dX6_differ_26 : decode cX6_differ 26 = .ok (.aload_n 0, 1) := by decide +kernel
theorem dX6_differ_27 : decode cX6_differ 27 = .ok (.getfield 60, 3) := by decide +kernel
theorem dX6_differ_30 : decode cX6_differ 30 = .ok (.invokevirtual 160, 3) := by decide +kernel
theorem dX6_differ_33 : decode cX6_differ 33 = .ok (.checkcast 161, 3) := by decide +kernel
theorem dX6_differ_36 : decode cX6_differ 36 = .ok (.astore_n 3, 1) := by decide +kernel
theorem dX6_differ_37 : decode cX6_differ 37 = .ok (.aload_n 0, 1) := by decide +kernel
theorem dX6_differ_38 : decode cX6_differ 38 = .ok (.iload_n 2, 1) := by decide +kernel
theorem dX6_differ_39 : decode cX6_differ 39 = .ok (.invokevirtual 157, 3) := by decide +kernel
theorem dX6_differ_42 : decode cX6_differ 42 = .ok (.iconst 0, 1) := by decide +kernel
theorem dX6_differ_43 : decode cX6_differ 43 = .ok (.istore 4, 2) := by decide +kernel
theorem dX6_differ_45 : decode cX6_differ 45 = .ok (.iconst 0, 1) := by decide +kernel
theorem dX6_differ_46 : decode cX6_differ 46 = .ok (.istore 5, 2) := by decide +kernel
theorem dX6_differ_48 : decode cX6_differ 48 = .ok (.iload 5, 2) := by decide +kernel
theorem dX6_differ_50 : decode cX6_differ 50 = .ok (.aload_n 0, 1) := by decide +kernel
theorem dX6_differ_51 : decode cX6_differ 51 = .ok (.getfield 70, 3) := by decide +kernel
theorem dX6_differ_54 : decode cX6_differ 54 = .ok (.if_icmp .ge 29, 3) := by decide +kernel
theorem dX6_differ_57 : decode cX6_differ 57 = .ok (.iload 4, 2) := by decide +kernel
theorem dX6_differ_59 : decode cX6_differ 59 = .ok (.aload_n 3, 1) := by decide +kernel
theorem dX6_differ_60 : decode cX6_differ 60 = .ok (.iload 5, 2) := by decide +kernel
theorem dX6_differ_62 : decode cX6_differ 62 = .ok (.iaload, 1) := by decide +kernel
theorem dX6_differ_63 : decode cX6_differ 63 = .ok (.aload_n 0, 1) := by decide +kernel
theorem dX6_differ_64 : decode cX6_differ 64 = .ok (.getfield 60, 3) := by decide +kernel
theorem dX6_differ_67 : decode cX6_differ 67 = .ok (.iload 5, 2) := by decide +kernel
theorem dX6_differ_69 : decode cX6_differ 69 = .ok (.iaload, 1) := by decide +kernel
theorem dX6_differ_70 : decode cX6_differ 70 = .ok (.isub, 1) := by decide +kernel
theorem dX6_differ_71 : decode cX6_differ 71 = .ok (.invokestatic 165, 3) := by decide +kernel
theorem dX6_differ_74 : decode cX6_differ 74 = .ok (.iadd, 1) := by decide +kernel
theorem dX6_differ_75 : decode cX6_differ 75 = .ok (.istore 4, 2) := by decide +kernel
theorem dX6_differ_77 : decode cX6_differ 77 = .ok (.iinc 5 1, 3) := by decide +kernel
theorem dX6_differ_80 : decode cX6_differ 80 = .ok (.goto (-32), 3) := by decide +kernel
theorem dX6_differ_83 : decode cX6_differ 83 = .ok (.iload 4, 2) := by decide +kernel
theorem dX6_differ_85 : decode cX6_differ 85 = .ok (.ireturn, 1) := by decide +kernel
theorem dX6_book_0 : decode cX6_book 0 = .ok (.aload_n 0, 1) := by decide +kernel
theorem dX6_book_1 : decode cX6_book 1 = .ok (.iconst 0, 1) := by decide +kernel
theorem dX6_book_2 : decode cX6_book 2 = .ok (.putfield 63, 3) := by decide +kernel
theorem dX6_book_5 : decode cX6_book 5 = .ok (.iload_n 1, 1) := by decide +kernel
theorem dX6_book_6 : decode cX6_book 6 = .ok (.invokestatic 147, 3) := by decide +kernel
theorem dX6_book_9 : decode cX6_book 9 = .ok (.ifCond .ne 5, 3) := by decide +kernel
theorem dX6_book_12 : decode cX6_book 12 = .ok (.iconst (-1), 1) := by decide +kernel
theorem dX6_book_13 : decode cX6_book 13 = .ok (.ireturn, 1) := by decide +kernel
theorem dX6_book_14 : decode cX6_book 14 = .ok (.aload_n 0, 1) := by decide +kernel
theorem dX6_book_15 : decode cX6_book 15 = .ok (.iload_n 1, 1) := by decide +kernel
theorem dX6_book_16 : decode cX6_book 16 = .ok (.invokevirtual 157, 3) := by decide +kernel
theorem dX6_book_19 : decode cX6_book 19 = .ok (.iconst 0, 1) := by decide +kernel
theorem dX6_book_20 : decode cX6_book 20 = .ok (.istore_n 2, 1) := by decide +kernel
theorem dX6_book_21 : decode cX6_book 21 = .ok (.iconst 0, 1) := by decide +kernel
theorem dX6_book_22 : decode cX6_book 22 = .ok (.istore_n 3, 1) := by decide +kernel
theorem dX6_book_23 : decode cX6_book 23 = .ok (.iload_n 3, 1) := by decide +kernel
theorem dX6_book_24 : decode cX6_book 24 = .ok (.aload_n 0, 1) := by decide +kernel
theorem dX6_book_25 : decode cX6_book 25 = .ok (.getfield 70, 3) := by decide +kernel
theorem dX6_book_28 : decode cX6_book 28 = .ok (.if_icmp .ge 32, 3) := by decide +kernel
theorem dX6_book_31 : decode cX6_book 31 = .ok (.iload_n 2, 1) := by decide +kernel
theorem dX6_book_32 : decode cX6_book 32 = .ok (.aload_n 0, 1) := by decide +kernel
theorem dX6_book_33 : decode cX6_book 33 = .ok (.getfield 60, 3) := by decide +kernel
theorem dX6_book_36 : decode cX6_book 36 = .ok (.iload_n 3, 1) := by decide +kernel
theorem dX6_book_37 : decode cX6_book 37 = .ok (.iaload, 1) := by decide +kernel
theorem dX6_book_38 : decode cX6_book 38 = .ok (.aload_n 0, 1) := by decide +kernel
theorem dX6_book_39 : decode cX6_book 39 = .ok (.getfield 25, 3) := by decide +kernel
theorem dX6_book_42 : decode cX6_book 42 = .ok (.iload_n 3, 1) := by decide +kernel
theorem dX6_book_43 : decode cX6_book 43 = .ok (.iaload, 1) := by decide +kernel
theorem dX6_book_44 : decode cX6_book 44 = .ok (.if_icmp .eq 7, 3) := by decide +kernel
theorem dX6_book_47 : decode cX6_book 47 = .ok (.iconst 1, 1) := by decide +kernel
theorem dX6_book_48 : decode cX6_book 48 = .ok (.goto 4, 3) := by decide +kernel
theorem dX6_book_51 : decode cX6_book 51 = .ok (.iconst 0, 1) := by decide +kernel
theorem dX6_book_52 : decode cX6_book 52 = .ok (.iadd, 1) := by decide +kernel
theorem dX6_book_53 : decode cX6_book 53 = .ok (.istore_n 2, 1) := by decide +kernel
theorem dX6_book_54 : decode cX6_book 54 = .ok (.iinc 3 1, 3) := by decide +kernel
theorem dX6_book_57 : decode cX6_book 57 = .ok (.goto (-34), 3) := by decide +kernel
theorem dX6_book_60 : decode cX6_book 60 = .ok (.aload_n 0, 1) := by decide +kernel
theorem dX6_book_61 : decode cX6_book 61 = .ok (.getfield 167, 3) := by decide +kernel
theorem dX6_book_64 : decode cX6_book 64 = .ok (.iload_n 2, 1) := by decide +kernel
theorem dX6_book_65 : decode cX6_book 65 = .ok (.iadd, 1) := by decide +kernel
theorem dX6_book_66 : decode cX6_book 66 = .ok (.sipush 400, 3) := by decide +kernel
theorem dX6_book_69 : decode cX6_book 69 = .ok (.if_icmp .le 5, 3) := by decide +kernel
theorem dX6_book_72 : decode cX6_book 72 = .ok (.iconst (-1), 1) := by decide +kernel
theorem dX6_book_73 : decode cX6_book 73 = .ok (.ireturn, 1) := by decide +kernel
theorem dX6_book_74 : decode cX6_book 74 = .ok (.iconst 0, 1) := by decide +kernel
theorem dX6_book_75 : decode cX6_book 75 = .ok (.istore_n 3, 1) := by decide +kernel
theorem dX6_book_76 : decode cX6_book 76 = .ok (.iload_n 3, 1) := by decide +kernel
theorem dX6_book_77 : decode cX6_book 77 = .ok (.aload_n 0, 1) := by decide +kernel
theorem dX6_book_78 : decode cX6_book 78 = .ok (.getfield 70, 3) := by decide +kernel
theorem dX6_book_81 : decode cX6_book 81 = .ok (.if_icmp .ge 94, 3) := by decide +kernel
theorem dX6_book_84 : decode cX6_book 84 = .ok (.aload_n 0, 1) := by decide +kernel
theorem dX6_book_85 : decode cX6_book 85 = .ok (.getfield 60, 3) := by decide +kernel
theorem dX6_book_88 : decode cX6_book 88 = .ok (.iload_n 3, 1) := by decide +kernel
theorem dX6_book_89 : decode cX6_book 89 = .ok (.iaload, 1) := by decide +kernel
theorem dX6_book_90 : decode cX6_book 90 = .ok (.aload_n 0, 1) := by decide +kernel
theorem dX6_book_91 : decode cX6_book 91 = .ok (.getfield 25, 3) := by decide +kernel
theorem dX6_book_94 : decode cX6_book 94 = .ok (.iload_n 3, 1) := by decide +kernel
theorem dX6_book_95 : decode cX6_book 95 = .ok (.iaload, 1) := by decide +kernel
theorem dX6_book_96 : decode cX6_book 96 = .ok (.if_icmp .ne 6, 3) := by decide +kernel
theorem dX6_book_99 : decode cX6_book 99 = .ok (.goto 70, 3) := by decide +kernel
theorem dX6_book_102 : decode cX6_book 102 = .ok (.aload_n 0, 1) := by decide +kernel
theorem dX6_book_103 : decode cX6_book 103 = .ok (.getfield 32, 3) := by decide +kernel
theorem dX6_book_106 : decode cX6_book 106 = .ok (.aload_n 0, 1) := by decide +kernel
theorem dX6_book_107 : decode cX6_book 107 = .ok (.getfield 167, 3) := by decide +kernel
theorem dX6_book_110 : decode cX6_book 110 = .ok (.aload_n 0, 1) := by decide +kernel
theorem dX6_book_111 : decode cX6_book 111 = .ok (.getfield 170, 3) := by decide +kernel
theorem dX6_book_114 : decode cX6_book 114 = .ok (.iastore, 1) := by decide +kernel
theorem dX6_book_115 : decode cX6_book 115 = .ok (.aload_n 0, 1) := by decide +kernel
theorem dX6_book_116 : decode cX6_book 116 = .ok (.getfield 35, 3) := by decide +kernel
theorem dX6_book_119 : decode cX6_book 119 = .ok (.aload_n 0, 1) := by decide +kernel
theorem dX6_book_120 : decode cX6_book 120 = .ok (.getfield 167, 3) := by decide +kernel
theorem dX6_book_123 : decode cX6_book 123 = .ok (.iload_n 3, 1) := by decide +kernel
theorem dX6_book_124 : decode cX6_book 124 = .ok (.iastore, 1) := by decide +kernel
theorem dX6_book_125 : decode cX6_book 125 = .ok (.aload_n 0, 1) := by decide +kernel
theorem dX6_book_126 : decode cX6_book 126 = .ok (.getfield 38, 3) := by decide +kernel
theorem dX6_book_129 : decode cX6_book 129 = .ok (.aload_n 0, 1) := by decide +kernel
theorem dX6_book_130 : decode cX6_book 130 = .ok (.getfield 167, 3) := by decide +kernel
theorem dX6_book_133 : decode cX6_book 133 = .ok (.aload_n 0, 1) := by decide +kernel
theorem dX6_book_134 : decode cX6_book 134 = .ok (.getfield 60, 3) := by decide +kernel
theorem dX6_book_137 : decode cX6_book 137 = .ok (.iload_n 3, 1) := by decide +kernel
theorem dX6_book_138 : decode cX6_book 138 = .ok (.iaload, 1) := by decide +kernel
theorem dX6_book_139 : decode cX6_book 139 = .ok (.aload_n 0, 1) := by decide +kernel
theorem dX6_book_140 : decode cX6_book 140 = .ok (.getfield 25, 3) := by decide +kernel
theorem dX6_book_143 : decode cX6_book 143 = .ok (.iload_n 3, 1) := by decide +kernel
theorem dX6_book_144 : decode cX6_book 144 = .ok (.iaload, 1) := by decide +kernel
theorem dX6_book_145 : decode cX6_book 145 = .ok (.isub, 1) := by decide +kernel
theorem dX6_book_146 : decode cX6_book 146 = .ok (.iastore, 1) := by decide +kernel
theorem dX6_book_147 : decode cX6_book 147 = .ok (.aload_n 0, 1) := by decide +kernel
theorem dX6_book_148 : decode cX6_book 148 = .ok (.dup, 1) := by decide +kernel
theorem dX6_book_149 : decode cX6_book 149 = .ok (.getfield 167, 3) := by decide +kernel
theorem dX6_book_152 : decode cX6_book 152 = .ok (.iconst 1, 1) := by decide +kernel
theorem dX6_book_153 : decode cX6_book 153 = .ok (.iadd, 1) := by decide +kernel
theorem dX6_book_154 : decode cX6_book 154 = .ok (.putfield 167, 3) := by decide +kernel
theorem dX6_book_157 : decode cX6_book 157 = .ok (.aload_n 0, 1) := by decide +kernel
theorem dX6_book_158 : decode cX6_book 158 = .ok (.getfield 25, 3) := by decide +kernel
theorem dX6_book_161 : decode cX6_book 161 = .ok (.iload_n 3, 1) := by decide +kernel
theorem dX6_book_162 : decode cX6_book 162 = .ok (.aload_n 0, 1) := by decide +kernel
theorem dX6_book_163 : decode cX6_book 163 = .ok (.getfield 60, 3) := by decide +kernel
theorem dX6_book_166 : decode cX6_book 166 = .ok (.iload_n 3, 1) := by decide +kernel
theorem dX6_book_167 : decode cX6_book 167 = .ok (.iaload, 1) := by decide +kernel
theorem dX6_book_168 : decode cX6_book 168 = .ok (.iastore, 1) := by decide +kernel
theorem dX6_book_169 : decode cX6_book 169 = .ok (.iinc 3 1, 3) := by decide +kernel
theorem dX6_book_172 : decode cX6_book 172 = .ok (.goto (-96), 3) := by decide +kernel
theorem dX6_book_175 : decode cX6_book 175 = .ok (.aload_n 0, 1) := by decide +kernel
theorem dX6_book_176 : decode cX6_book 176 = .ok (.dup, 1) := by decide +kernel
theorem dX6_book_177 : decode cX6_book 177 = .ok (.getfield 170, 3) := by decide +kernel
theorem dX6_book_180 : decode cX6_book 180 = .ok (.iconst 1, 1) := by decide +kernel
theorem dX6_book_181 : decode cX6_book 181 = .ok (.iadd, 1) := by decide +kernel
theorem dX6_book_182 : decode cX6_book 182 = .ok (.putfield 170, 3) := by decide +kernel
theorem dX6_book_185 : decode cX6_book 185 = .ok (.iload_n 2, 1) := by decide +kernel
theorem dX6_book_186 : decode cX6_book 186 = .ok (.ireturn, 1) := by decide +kernel
theorem dX6_booked_0 : decode cX6_booked 0 = .ok (.aload_n 0, 1) := by decide +kernel
theorem dX6_booked_1 : decode cX6_booked 1 = .ok (.iconst 0, 1) := by decide +kernel
theorem dX6_booked_2 : decode cX6_booked 2 = .ok (.putfield 63, 3) := by decide +kernel
theorem dX6_booked_5 : decode cX6_booked 5 = .ok (.aload_n 0, 1) := by decide +kernel
theorem dX6_booked_6 : decode cX6_booked 6 = .ok (.iload_n 1, 1) := by decide +kernel
theorem dX6_booked_7 : decode cX6_booked 7 = .ok (.invokevirtual 73, 3) := by decide +kernel
theorem dX6_booked_10 : decode cX6_booked 10 = .ok (.ifCond .eq 12, 3) := by decide +kernel
theorem dX6_booked_13 : decode cX6_booked 13 = .ok (.aload_n 0, 1) := by decide +kernel
theorem dX6_booked_14 : decode cX6_booked 14 = .ok (.getfield 25, 3) := by decide +kernel
theorem dX6_booked_17 : decode cX6_booked 17 = .ok (.iload_n 1, 1) := by decide +kernel
theorem dX6_booked_18 : decode cX6_booked 18 = .ok (.iaload, 1) := by decide +kernel
theorem dX6_booked_19 : decode cX6_booked 19 = .ok (.goto 4, 3) := by decide +kernel
theorem dX6_booked_22 : decode cX6_booked 22 = .ok (.iconst 0, 1) := by decide +kernel
theorem dX6_booked_23 : decode cX6_booked 23 = .ok (.ireturn, 1) := by decide +kernel
theorem dX6_line_0 : decode cX6_line 0 = .ok (.aload_n 0, 1) := by decide +kernel
theorem dX6_line_1 : decode cX6_line 1 = .ok (.iconst 0, 1) := by decide +kernel
theorem dX6_line_2 : decode cX6_line 2 = .ok (.putfield 63, 3) := by decide +kernel
theorem dX6_line_5 : decode cX6_line 5 = .ok (.iload_n 1, 1) := by decide +kernel
theorem dX6_line_6 : decode cX6_line 6 = .ok (.ifCond .lt 11, 3) := by decide +kernel
theorem dX6_line_9 : decode cX6_line 9 = .ok (.iload_n 1, 1) := by decide +kernel
theorem dX6_line_10 : decode cX6_line 10 = .ok (.aload_n 0, 1) := by decide +kernel
theorem dX6_line_11 : decode cX6_line 11 = .ok (.getfield 167, 3) := by decide +kernel
theorem dX6_line_14 : decode cX6_line 14 = .ok (.if_icmp .lt 6, 3) := by decide +kernel
theorem dX6_line_17 : decode cX6_line 17 = .ok (.ldc 156, 2) := by decide +kernel
theorem dX6_line_19 : decode cX6_line 19 = .ok (.ireturn, 1) := by decide +kernel
theorem dX6_line_20 : decode cX6_line 20 = .ok (.iload_n 2, 1) := by decide +kernel
theorem dX6_line_21 : decode cX6_line 21 = .ok (.ifCond .ne 12, 3) := by decide +kernel
theorem dX6_line_24 : decode cX6_line 24 = .ok (.aload_n 0, 1) := by decide +kernel
theorem dX6_line_25 : decode cX6_line 25 = .ok (.getfield 32, 3) := by decide +kernel
theorem dX6_line_28 : decode cX6_line 28 = .ok (.iload_n 1, 1) := by decide +kernel
theorem dX6_line_29 : decode cX6_line 29 = .ok (.iaload, 1) := by decide +kernel
theorem dX6_line_30 : decode cX6_line 30 = .ok (.goto 33, 3) := by decide +kernel
theorem dX6_line_33 : decode cX6_line 33 = .ok (.iload_n 2, 1) := by decide +kernel
theorem dX6_line_34 : decode cX6_line 34 = .ok (.iconst 1, 1) := by decide +kernel
theorem dX6_line_35 : decode cX6_line 35 = .ok (.if_icmp .ne 12, 3) := by decide +kernel
theorem dX6_line_38 : decode cX6_line 38 = .ok (.aload_n 0, 1) := by decide +kernel
theorem dX6_line_39 : decode cX6_line 39 = .ok (.getfield 35, 3) := by decide +kernel
theorem dX6_line_42 : decode cX6_line 42 = .ok (.iload_n 1, 1) := by decide +kernel
theorem dX6_line_43 : decode cX6_line 43 = .ok (.iaload, 1) := by decide +kernel
theorem dX6_line_44 : decode cX6_line 44 = .ok (.goto 19, 3) := by decide +kernel
theorem dX6_line_47 : decode cX6_line 47 = .ok (.iload_n 2, 1) := by decide +kernel
theorem dX6_line_48 : decode cX6_line 48 = .ok (.iconst 2, 1) := by decide +kernel
theorem dX6_line_49 : decode cX6_line 49 = .ok (.if_icmp .ne 12, 3) := by decide +kernel
theorem dX6_line_52 : decode cX6_line 52 = .ok (.aload_n 0, 1) := by decide +kernel
theorem dX6_line_53 : decode cX6_line 53 = .ok (.getfield 38, 3) := by decide +kernel
theorem dX6_line_56 : decode cX6_line 56 = .ok (.iload_n 1, 1) := by decide +kernel
theorem dX6_line_57 : decode cX6_line 57 = .ok (.iaload, 1) := by decide +kernel
theorem dX6_line_58 : decode cX6_line 58 = .ok (.goto 5, 3) := by decide +kernel
theorem dX6_line_61 : decode cX6_line 61 = .ok (.ldc 156, 2) := by decide +kernel
theorem dX6_line_63 : decode cX6_line 63 = .ok (.ireturn, 1) := by decide +kernel
theorem dX6_count_0 : decode cX6_count 0 = .ok (.aload_n 0, 1) := by decide +kernel
theorem dX6_count_1 : decode cX6_count 1 = .ok (.iconst 0, 1) := by decide +kernel
theorem dX6_count_2 : decode cX6_count 2 = .ok (.putfield 63, 3) := by decide +kernel
theorem dX6_count_5 : decode cX6_count 5 = .ok (.iconst 0, 1) := by decide +kernel
theorem dX6_count_6 : decode cX6_count 6 = .ok (.istore_n 2, 1) := by decide +kernel
theorem dX6_count_7 : decode cX6_count 7 = .ok (.iload_n 1, 1) := by decide +kernel
theorem dX6_count_8 : decode cX6_count 8 = .ok (.tableswitch 139 0 6 #[44, 49, 54, 62, 67, 72, 112], 44) := by decide +kernel
theorem dX6_count_52 : decode cX6_count 52 = .ok (.aload_n 0, 1) := by decide +kernel
theorem dX6_count_53 : decode cX6_count 53 = .ok (.getfield 67, 3) := by decide +kernel
theorem dX6_count_56 : decode cX6_count 56 = .ok (.ireturn, 1) := by decide +kernel
theorem dX6_count_57 : decode cX6_count 57 = .ok (.aload_n 0, 1) := by decide +kernel
theorem dX6_count_58 : decode cX6_count 58 = .ok (.getfield 70, 3) := by decide +kernel
theorem dX6_count_61 : decode cX6_count 61 = .ok (.ireturn, 1) := by decide +kernel
theorem dX6_count_62 : decode cX6_count 62 = .ok (.aload_n 0, 1) := by decide +kernel
theorem dX6_count_63 : decode cX6_count 63 = .ok (.invokevirtual 100, 3) := by decide +kernel
theorem dX6_count_66 : decode cX6_count 66 = .ok (.invokestatic 173, 3) := by decide +kernel
theorem dX6_count_69 : decode cX6_count 69 = .ok (.ireturn, 1) := by decide +kernel
theorem dX6_count_70 : decode cX6_count 70 = .ok (.aload_n 0, 1) := by decide +kernel
theorem dX6_count_71 : decode cX6_count 71 = .ok (.getfield 167, 3) := by decide +kernel
theorem dX6_count_74 : decode cX6_count 74 = .ok (.ireturn, 1) := by decide +kernel
theorem dX6_count_75 : decode cX6_count 75 = .ok (.aload_n 0, 1) := by decide +kernel
theorem dX6_count_76 : decode cX6_count 76 = .ok (.getfield 170, 3) := by decide +kernel
theorem dX6_count_79 : decode cX6_count 79 = .ok (.ireturn, 1) := by decide +kernel
theorem dX6_count_80 : decode cX6_count 80 = .ok (.iconst 0, 1) := by decide +kernel
theorem dX6_count_81 : decode cX6_count 81 = .ok (.istore_n 3, 1) := by decide +kernel
theorem dX6_count_82 : decode cX6_count 82 = .ok (.iload_n 3, 1) := by decide +kernel
theorem dX6_count_83 : decode cX6_count 83 = .ok (.aload_n 0, 1) := by decide +kernel
theorem dX6_count_84 : decode cX6_count 84 = .ok (.getfield 70, 3) := by decide +kernel
theorem dX6_count_87 : decode cX6_count 87 = .ok (.if_icmp .ge 31, 3) := by decide +kernel
theorem dX6_count_90 : decode cX6_count 90 = .ok (.iload_n 2, 1) := by decide +kernel
theorem dX6_count_91 : decode cX6_count 91 = .ok (.aload_n 0, 1) := by decide +kernel
theorem dX6_count_92 : decode cX6_count 92 = .ok (.getfield 28, 3) := by decide +kernel
theorem dX6_count_95 : decode cX6_count 95 = .ok (.iload_n 3, 1) := by decide +kernel
theorem dX6_count_96 : decode cX6_count 96 = .ok (.baload, 1) := by decide +kernel
theorem dX6_count_97 : decode cX6_count 97 = .ok (.ifCond .eq 12, 3) := by decide +kernel
theorem dX6_count_100 : decode cX6_count 100 = .ok (.aload_n 0, 1) := by decide +kernel
theorem dX6_count_101 : decode cX6_count 101 = .ok (.getfield 22, 3) := by decide +kernel
theorem dX6_count_104 : decode cX6_count 104 = .ok (.iload_n 3, 1) := by decide +kernel
theorem dX6_count_105 : decode cX6_count 105 = .ok (.iaload, 1) := by decide +kernel
theorem dX6_count_106 : decode cX6_count 106 = .ok (.goto 4, 3) := by decide +kernel
theorem dX6_count_109 : decode cX6_count 109 = .ok (.iconst 0, 1) := by decide +kernel
theorem dX6_count_110 : decode cX6_count 110 = .ok (.iadd, 1) := by decide +kernel
theorem dX6_count_111 : decode cX6_count 111 = .ok (.istore_n 2, 1) := by decide +kernel
theorem dX6_count_112 : decode cX6_count 112 = .ok (.iinc 3 1, 3) := by decide +kernel
theorem dX6_count_115 : decode cX6_count 115 = .ok (.goto (-33), 3) := by decide +kernel
theorem dX6_count_118 : decode cX6_count 118 = .ok (.iload_n 2, 1) := by decide +kernel
theorem dX6_count_119 : decode cX6_count 119 = .ok (.ireturn, 1) := by decide +kernel
theorem dX6_count_120 : decode cX6_count 120 = .ok (.iconst 0, 1) := by decide +kernel
theorem dX6_count_121 : decode cX6_count 121 = .ok (.istore_n 3, 1) := by decide +kernel
theorem dX6_count_122 : decode cX6_count 122 = .ok (.iload_n 3, 1) := by decide +kernel
theorem dX6_count_123 : decode cX6_count 123 = .ok (.aload_n 0, 1) := by decide +kernel
theorem dX6_count_124 : decode cX6_count 124 = .ok (.getfield 70, 3) := by decide +kernel
theorem dX6_count_127 : decode cX6_count 127 = .ok (.if_icmp .ge 18, 3) := by decide +kernel
theorem dX6_count_130 : decode cX6_count 130 = .ok (.iload_n 2, 1) := by decide +kernel
theorem dX6_count_131 : decode cX6_count 131 = .ok (.aload_n 0, 1) := by decide +kernel
theorem dX6_count_132 : decode cX6_count 132 = .ok (.getfield 25, 3) := by decide +kernel
theorem dX6_count_135 : decode cX6_count 135 = .ok (.iload_n 3, 1) := by decide +kernel
theorem dX6_count_136 : decode cX6_count 136 = .ok (.iaload, 1) := by decide +kernel
theorem dX6_count_137 : decode cX6_count 137 = .ok (.iadd, 1) := by decide +kernel
theorem dX6_count_138 : decode cX6_count 138 = .ok (.istore_n 2, 1) := by decide +kernel
theorem dX6_count_139 : decode cX6_count 139 = .ok (.iinc 3 1, 3) := by decide +kernel
theorem dX6_count_142 : decode cX6_count 142 = .ok (.goto (-20), 3) := by decide +kernel
theorem dX6_count_145 : decode cX6_count 145 = .ok (.iload_n 2, 1) := by decide +kernel
theorem dX6_count_146 : decode cX6_count 146 = .ok (.ireturn, 1) := by decide +kernel
theorem dX6_count_147 : decode cX6_count 147 = .ok (.ldc 156, 2) := by decide +kernel
theorem dX6_count_149 : decode cX6_count 149 = .ok (.ireturn, 1) := by decide +kernel
theorem dJ6_bitCount_0f7a4_0 : decode cJ6_bitCount_0f7a4 0 = .ok (.iload_n 0, 1) := by decide +kernel
theorem dJ6_bitCount_0f7a4_1 : decode cJ6_bitCount_0f7a4 1 = .ok (.iload_n 0, 1) := by decide +kernel
theorem dJ6_bitCount_0f7a4_2 : decode cJ6_bitCount_0f7a4 2 = .ok (.iconst 1, 1) := by decide +kernel
theorem dJ6_bitCount_0f7a4_3 : decode cJ6_bitCount_0f7a4 3 = .ok (.iushr, 1) := by decide +kernel
theorem dJ6_bitCount_0f7a4_4 : decode cJ6_bitCount_0f7a4 4 = .ok (.ldc_w 265, 3) := by decide +kernel
theorem dJ6_bitCount_0f7a4_7 : decode cJ6_bitCount_0f7a4 7 = .ok (.iand, 1) := by decide +kernel
theorem dJ6_bitCount_0f7a4_8 : decode cJ6_bitCount_0f7a4 8 = .ok (.isub, 1) := by decide +kernel
theorem dJ6_bitCount_0f7a4_9 : decode cJ6_bitCount_0f7a4 9 = .ok (.istore_n 0, 1) := by decide +kernel
theorem dJ6_bitCount_0f7a4_10 : decode cJ6_bitCount_0f7a4 10 = .ok (.iload_n 0, 1) := by decide +kernel
theorem dJ6_bitCount_0f7a4_11 : decode cJ6_bitCount_0f7a4 11 = .ok (.ldc_w 266, 3) := by decide +kernel
theorem dJ6_bitCount_0f7a4_14 : decode cJ6_bitCount_0f7a4 14 = .ok (.iand, 1) := by decide +kernel
theorem dJ6_bitCount_0f7a4_15 : decode cJ6_bitCount_0f7a4 15 = .ok (.iload_n 0, 1) := by decide +kernel
theorem dJ6_bitCount_0f7a4_16 : decode cJ6_bitCount_0f7a4 16 = .ok (.iconst 2, 1) := by decide +kernel
theorem dJ6_bitCount_0f7a4_17 : decode cJ6_bitCount_0f7a4 17 = .ok (.iushr, 1) := by decide +kernel
theorem dJ6_bitCount_0f7a4_18 : decode cJ6_bitCount_0f7a4 18 = .ok (.ldc_w 266, 3) := by decide +kernel
theorem dJ6_bitCount_0f7a4_21 : decode cJ6_bitCount_0f7a4 21 = .ok (.iand, 1) := by decide +kernel
theorem dJ6_bitCount_0f7a4_22 : decode cJ6_bitCount_0f7a4 22 = .ok (.iadd, 1) := by decide +kernel
theorem dJ6_bitCount_0f7a4_23 : decode cJ6_bitCount_0f7a4 23 = .ok (.istore_n 0, 1) := by decide +kernel
theorem dJ6_bitCount_0f7a4_24 : decode cJ6_bitCount_0f7a4 24 = .ok (.iload_n 0, 1) := by decide +kernel
theorem dJ6_bitCount_0f7a4_25 : decode cJ6_bitCount_0f7a4 25 = .ok (.iload_n 0, 1) := by decide +kernel
theorem dJ6_bitCount_0f7a4_26 : decode cJ6_bitCount_0f7a4 26 = .ok (.iconst 4, 1) := by decide +kernel
theorem dJ6_bitCount_0f7a4_27 : decode cJ6_bitCount_0f7a4 27 = .ok (.iushr, 1) := by decide +kernel
theorem dJ6_bitCount_0f7a4_28 : decode cJ6_bitCount_0f7a4 28 = .ok (.iadd, 1) := by decide +kernel
theorem dJ6_bitCount_0f7a4_29 : decode cJ6_bitCount_0f7a4 29 = .ok (.ldc_w 267, 3) := by decide +kernel
theorem dJ6_bitCount_0f7a4_32 : decode cJ6_bitCount_0f7a4 32 = .ok (.iand, 1) := by decide +kernel
theorem dJ6_bitCount_0f7a4_33 : decode cJ6_bitCount_0f7a4 33 = .ok (.istore_n 0, 1) := by decide +kernel
theorem dJ6_bitCount_0f7a4_34 : decode cJ6_bitCount_0f7a4 34 = .ok (.iload_n 0, 1) := by decide +kernel
theorem dJ6_bitCount_0f7a4_35 : decode cJ6_bitCount_0f7a4 35 = .ok (.iload_n 0, 1) := by decide +kernel
theorem dJ6_bitCount_0f7a4_36 : decode cJ6_bitCount_0f7a4 36 = .ok (.bipush 8, 2) := by decide +kernel
theorem dJ6_bitCount_0f7a4_38 : decode cJ6_bitCount_0f7a4 38 = .ok (.iushr, 1) := by decide +kernel
theorem dJ6_bitCount_0f7a4_39 : decode cJ6_bitCount_0f7a4 39 = .ok (.iadd, 1) := by decide +kernel
theorem dJ6_bitCount_0f7a4_40 : decode cJ6_bitCount_0f7a4 40 = .ok (.istore_n 0, 1) := by decide +kernel
theorem dJ6_bitCount_0f7a4_41 : decode cJ6_bitCount_0f7a4 41 = .ok (.iload_n 0, 1) := by decide +kernel
theorem dJ6_bitCount_0f7a4_42 : decode cJ6_bitCount_0f7a4 42 = .ok (.iload_n 0, 1) := by decide +kernel
theorem dJ6_bitCount_0f7a4_43 : decode cJ6_bitCount_0f7a4 43 = .ok (.bipush 16, 2) := by decide +kernel
theorem dJ6_bitCount_0f7a4_45 : decode cJ6_bitCount_0f7a4 45 = .ok (.iushr, 1) := by decide +kernel
theorem dJ6_bitCount_0f7a4_46 : decode cJ6_bitCount_0f7a4 46 = .ok (.iadd, 1) := by decide +kernel
theorem dJ6_bitCount_0f7a4_47 : decode cJ6_bitCount_0f7a4 47 = .ok (.istore_n 0, 1) := by decide +kernel
theorem dJ6_bitCount_0f7a4_48 : decode cJ6_bitCount_0f7a4 48 = .ok (.iload_n 0, 1) := by decide +kernel
theorem dJ6_bitCount_0f7a4_49 : decode cJ6_bitCount_0f7a4 49 = .ok (.bipush 63, 2) := by decide +kernel
theorem dJ6_bitCount_0f7a4_51 : decode cJ6_bitCount_0f7a4 51 = .ok (.iand, 1) := by decide +kernel
theorem dJ6_bitCount_0f7a4_52 : decode cJ6_bitCount_0f7a4 52 = .ok (.ireturn, 1) := by decide +kernel
theorem dJ9_abs_0f7a4_0 : decode cJ9_abs_0f7a4 0 = .ok (.iload_n 0, 1) := by decide +kernel
theorem dJ9_abs_0f7a4_1 : decode cJ9_abs_0f7a4 1 = .ok (.ifCond .ge 8, 3) := by decide +kernel
theorem dJ9_abs_0f7a4_4 : decode cJ9_abs_0f7a4 4 = .ok (.iload_n 0, 1) := by decide +kernel
theorem dJ9_abs_0f7a4_5 : decode cJ9_abs_0f7a4 5 = .ok (.ineg, 1) := by decide +kernel
theorem dJ9_abs_0f7a4_6 : decode cJ9_abs_0f7a4 6 = .ok (.goto 4, 3) := by decide +kernel
theorem dJ9_abs_0f7a4_9 : decode cJ9_abs_0f7a4 9 = .ok (.iload_n 0, 1) := by decide +kernel
theorem dJ9_abs_0f7a4_10 : decode cJ9_abs_0f7a4 10 = .ok (.ireturn, 1) := by decide +kernel
theorem dJ9_abs_067f4_0 : decode cJ9_abs_067f4 0 = .ok (.lload_n 0, 1) := by decide +kernel
theorem dJ9_abs_067f4_1 : decode cJ9_abs_067f4 1 = .ok (.lconst 0, 1) := by decide +kernel
theorem dJ9_abs_067f4_2 : decode cJ9_abs_067f4 2 = .ok (.lcmp, 1) := by decide +kernel
theorem dJ9_abs_067f4_3 : decode cJ9_abs_067f4 3 = .ok (.ifCond .ge 8, 3) := by decide +kernel
theorem dJ9_abs_067f4_6 : decode cJ9_abs_067f4 6 = .ok (.lload_n 0, 1) := by decide +kernel
theorem dJ9_abs_067f4_7 : decode cJ9_abs_067f4 7 = .ok (.lneg, 1) := by decide +kernel
theorem dJ9_abs_067f4_8 : decode cJ9_abs_067f4 8 = .ok (.goto 4, 3) := by decide +kernel
theorem dJ9_abs_067f4_11 : decode cJ9_abs_067f4 11 = .ok (.lload_n 0, 1) := by decide +kernel
theorem dJ9_abs_067f4_12 : decode cJ9_abs_067f4 12 = .ok (.lreturn, 1) := by decide +kernel
theorem dJ7_fill_d0a16_0 : decode cJ7_fill_d0a16 0 = .ok (.iconst 0, 1) := by decide +kernel
theorem dJ7_fill_d0a16_1 : decode cJ7_fill_d0a16 1 = .ok (.istore_n 3, 1) := by decide +kernel
theorem dJ7_fill_d0a16_2 : decode cJ7_fill_d0a16 2 = .ok (.aload_n 0, 1) := by decide +kernel
theorem dJ7_fill_d0a16_3 : decode cJ7_fill_d0a16 3 = .ok (.arraylength, 1) := by decide +kernel
theorem dJ7_fill_d0a16_4 : decode cJ7_fill_d0a16 4 = .ok (.istore 4, 2) := by decide +kernel
theorem dJ7_fill_d0a16_6 : decode cJ7_fill_d0a16 6 = .ok (.iload_n 3, 1) := by decide +kernel
theorem dJ7_fill_d0a16_7 : decode cJ7_fill_d0a16 7 = .ok (.iload 4, 2) := by decide +kernel
theorem dJ7_fill_d0a16_9 : decode cJ7_fill_d0a16 9 = .ok (.if_icmp .ge 13, 3) := by decide +kernel
theorem dJ7_fill_d0a16_12 : decode cJ7_fill_d0a16 12 = .ok (.aload_n 0, 1) := by decide +kernel
theorem dJ7_fill_d0a16_13 : decode cJ7_fill_d0a16 13 = .ok (.iload_n 3, 1) := by decide +kernel
theorem dJ7_fill_d0a16_14 : decode cJ7_fill_d0a16 14 = .ok (.lload_n 1, 1) := by decide +kernel
theorem dJ7_fill_d0a16_15 : decode cJ7_fill_d0a16 15 = .ok (.lastore, 1) := by decide +kernel
theorem dJ7_fill_d0a16_16 : decode cJ7_fill_d0a16 16 = .ok (.iinc 3 1, 3) := by decide +kernel
theorem dJ7_fill_d0a16_19 : decode cJ7_fill_d0a16 19 = .ok (.goto (-13), 3) := by decide +kernel
theorem dJ7_fill_d0a16_22 : decode cJ7_fill_d0a16 22 = .ok (.return_, 1) := by decide +kernel
theorem dJ7_fill_53178_0 : decode cJ7_fill_53178 0 = .ok (.iconst 0, 1) := by decide +kernel
theorem dJ7_fill_53178_1 : decode cJ7_fill_53178 1 = .ok (.istore_n 2, 1) := by decide +kernel
theorem dJ7_fill_53178_2 : decode cJ7_fill_53178 2 = .ok (.aload_n 0, 1) := by decide +kernel
theorem dJ7_fill_53178_3 : decode cJ7_fill_53178 3 = .ok (.arraylength, 1) := by decide +kernel
theorem dJ7_fill_53178_4 : decode cJ7_fill_53178 4 = .ok (.istore_n 3, 1) := by decide +kernel
theorem dJ7_fill_53178_5 : decode cJ7_fill_53178 5 = .ok (.iload_n 2, 1) := by decide +kernel
theorem dJ7_fill_53178_6 : decode cJ7_fill_53178 6 = .ok (.iload_n 3, 1) := by decide +kernel
theorem dJ7_fill_53178_7 : decode cJ7_fill_53178 7 = .ok (.if_icmp .ge 13, 3) := by decide +kernel
theorem dJ7_fill_53178_10 : decode cJ7_fill_53178 10 = .ok (.aload_n 0, 1) := by decide +kernel
theorem dJ7_fill_53178_11 : decode cJ7_fill_53178 11 = .ok (.iload_n 2, 1) := by decide +kernel
theorem dJ7_fill_53178_12 : decode cJ7_fill_53178 12 = .ok (.iload_n 1, 1) := by decide +kernel
theorem dJ7_fill_53178_13 : decode cJ7_fill_53178 13 = .ok (.iastore, 1) := by decide +kernel
theorem dJ7_fill_53178_14 : decode cJ7_fill_53178 14 = .ok (.iinc 2 1, 3) := by decide +kernel
theorem dJ7_fill_53178_17 : decode cJ7_fill_53178 17 = .ok (.goto (-12), 3) := by decide +kernel
theorem dJ7_fill_53178_20 : decode cJ7_fill_53178 20 = .ok (.return_, 1) := by decide +kernel
theorem dL_law_0 : decode cL_law 0 = .ok (.new 7, 3) := by decide +kernel
theorem dL_law_3 : decode cL_law 3 = .ok (.dup, 1) := by decide +kernel
theorem dL_law_4 : decode cL_law 4 = .ok (.invokespecial 9, 3) := by decide +kernel
theorem dL_law_7 : decode cL_law 7 = .ok (.astore_n 1, 1) := by decide +kernel
theorem dL_law_8 : decode cL_law 8 = .ok (.new 10, 3) := by decide +kernel
theorem dL_law_11 : decode cL_law 11 = .ok (.dup, 1) := by decide +kernel
theorem dL_law_12 : decode cL_law 12 = .ok (.invokespecial 12, 3) := by decide +kernel
theorem dL_law_15 : decode cL_law 15 = .ok (.astore_n 2, 1) := by decide +kernel
theorem dL_law_16 : decode cL_law 16 = .ok (.iconst 0, 1) := by decide +kernel
theorem dL_law_17 : decode cL_law 17 = .ok (.istore_n 3, 1) := by decide +kernel
theorem dL_law_18 : decode cL_law 18 = .ok (.iload_n 3, 1) := by decide +kernel
theorem dL_law_19 : decode cL_law 19 = .ok (.aload_n 0, 1) := by decide +kernel
theorem dL_law_20 : decode cL_law 20 = .ok (.arraylength, 1) := by decide +kernel
theorem dL_law_21 : decode cL_law 21 = .ok (.iconst 4, 1) := by decide +kernel
theorem dL_law_22 : decode cL_law 22 = .ok (.isub, 1) := by decide +kernel
theorem dL_law_23 : decode cL_law 23 = .ok (.if_icmp .gt 736, 3) := by decide +kernel
theorem dL_law_26 : decode cL_law 26 = .ok (.aload_n 0, 1) := by decide +kernel
theorem dL_law_27 : decode cL_law 27 = .ok (.iload_n 3, 1) := by decide +kernel
theorem dL_law_28 : decode cL_law 28 = .ok (.iaload, 1) := by decide +kernel
theorem dL_law_29 : decode cL_law 29 = .ok (.bipush 31, 2) := by decide +kernel
theorem dL_law_31 : decode cL_law 31 = .ok (.iand, 1) := by decide +kernel
theorem dL_law_32 : decode cL_law 32 = .ok (.tableswitch 721 0 20 #[100, 133, 146, 189, 232, 275, 324, 357, 370, 383, 406, 429, 463, 507, 540, 563, 586, 619, 642, 665, 698], 100) := by decide +kernel
theorem dL_law_132 : decode cL_law 132 = .ok (.aload_n 1, 1) := by decide +kernel
theorem dL_law_133 : decode cL_law 133 = .ok (.aload_n 0, 1) := by decide +kernel
theorem dL_law_134 : decode cL_law 134 = .ok (.iload_n 3, 1) := by decide +kernel
theorem dL_law_135 : decode cL_law 135 = .ok (.iconst 1, 1) := by decide +kernel
theorem dL_law_136 : decode cL_law 136 = .ok (.iadd, 1) := by decide +kernel
theorem dL_law_137 : decode cL_law 137 = .ok (.iaload, 1) := by decide +kernel
theorem dL_law_138 : decode cL_law 138 = .ok (.aload_n 0, 1) := by decide +kernel
theorem dL_law_139 : decode cL_law 139 = .ok (.iload_n 3, 1) := by decide +kernel
theorem dL_law_140 : decode cL_law 140 = .ok (.iconst 2, 1) := by decide +kernel
theorem dL_law_141 : decode cL_law 141 = .ok (.iadd, 1) := by decide +kernel
theorem dL_law_142 : decode cL_law 142 = .ok (.iaload, 1) := by decide +kernel
theorem dL_law_143 : decode cL_law 143 = .ok (.invokevirtual 13, 3) := by decide +kernel
theorem dL_law_146 : decode cL_law 146 = .ok (.aload_n 2, 1) := by decide +kernel
theorem dL_law_147 : decode cL_law 147 = .ok (.aload_n 0, 1) := by decide +kernel
theorem dL_law_148 : decode cL_law 148 = .ok (.iload_n 3, 1) := by decide +kernel
theorem dL_law_149 : decode cL_law 149 = .ok (.iconst 1, 1) := by decide +kernel
theorem dL_law_150 : decode cL_law 150 = .ok (.iadd, 1) := by decide +kernel
theorem dL_law_151 : decode cL_law 151 = .ok (.iaload, 1) := by decide +kernel
theorem dL_law_152 : decode cL_law 152 = .ok (.aload_n 0, 1) := by decide +kernel
theorem dL_law_153 : decode cL_law 153 = .ok (.iload_n 3, 1) := by decide +kernel
theorem dL_law_154 : decode cL_law 154 = .ok (.iconst 2, 1) := by decide +kernel
theorem dL_law_155 : decode cL_law 155 = .ok (.iadd, 1) := by decide +kernel
theorem dL_law_156 : decode cL_law 156 = .ok (.iaload, 1) := by decide +kernel
theorem dL_law_157 : decode cL_law 157 = .ok (.invokevirtual 17, 3) := by decide +kernel
theorem dL_law_160 : decode cL_law 160 = .ok (.if_icmp .eq 593, 3) := by decide +kernel
theorem dL_law_163 : decode cL_law 163 = .ok (.iconst 0, 1) := by decide +kernel
theorem dL_law_164 : decode cL_law 164 = .ok (.ireturn, 1) := by decide +kernel
theorem dL_law_165 : decode cL_law 165 = .ok (.aload_n 1, 1) := by decide +kernel
theorem dL_law_166 : decode cL_law 166 = .ok (.invokevirtual 18, 3) := by decide +kernel
theorem dL_law_169 : decode cL_law 169 = .ok (.aload_n 2, 1) := by decide +kernel
theorem dL_law_170 : decode cL_law 170 = .ok (.invokevirtual 22, 3) := by decide +kernel
theorem dL_law_173 : decode cL_law 173 = .ok (.if_icmp .eq 580, 3) := by decide +kernel
theorem dL_law_176 : decode cL_law 176 = .ok (.iconst 0, 1) := by decide +kernel
theorem dL_law_177 : decode cL_law 177 = .ok (.ireturn, 1) := by decide +kernel
theorem dL_law_178 : decode cL_law 178 = .ok (.aload_n 1, 1) := by decide +kernel
theorem dL_law_179 : decode cL_law 179 = .ok (.aload_n 0, 1) := by decide +kernel
theorem dL_law_180 : decode cL_law 180 = .ok (.iload_n 3, 1) := by decide +kernel
theorem dL_law_181 : decode cL_law 181 = .ok (.iconst 1, 1) := by decide +kernel
theorem dL_law_182 : decode cL_law 182 = .ok (.iadd, 1) := by decide +kernel
theorem dL_law_183 : decode cL_law 183 = .ok (.iaload, 1) := by decide +kernel
theorem dL_law_184 : decode cL_law 184 = .ok (.aload_n 0, 1) := by decide +kernel
theorem dL_law_185 : decode cL_law 185 = .ok (.iload_n 3, 1) := by decide +kernel
theorem dL_law_186 : decode cL_law 186 = .ok (.iconst 2, 1) := by decide +kernel
theorem dL_law_187 : decode cL_law 187 = .ok (.iadd, 1) := by decide +kernel
theorem dL_law_188 : decode cL_law 188 = .ok (.iaload, 1) := by decide +kernel
theorem dL_law_189 : decode cL_law 189 = .ok (.aload_n 0, 1) := by decide +kernel
theorem dL_law_190 : decode cL_law 190 = .ok (.iload_n 3, 1) := by decide +kernel
theorem dL_law_191 : decode cL_law 191 = .ok (.iconst 3, 1) := by decide +kernel
theorem dL_law_192 : decode cL_law 192 = .ok (.iadd, 1) := by decide +kernel
theorem dL_law_193 : decode cL_law 193 = .ok (.iaload, 1) := by decide +kernel
theorem dL_law_194 : decode cL_law 194 = .ok (.invokevirtual 23, 3) := by decide +kernel
theorem dL_law_197 : decode cL_law 197 = .ok (.aload_n 2, 1) := by decide +kernel
theorem dL_law_198 : decode cL_law 198 = .ok (.aload_n 0, 1) := by decide +kernel
theorem dL_law_199 : decode cL_law 199 = .ok (.iload_n 3, 1) := by decide +kernel
theorem dL_law_200 : decode cL_law 200 = .ok (.iconst 1, 1) := by decide +kernel
theorem dL_law_201 : decode cL_law 201 = .ok (.iadd, 1) := by decide +kernel
theorem dL_law_202 : decode cL_law 202 = .ok (.iaload, 1) := by decide +kernel
theorem dL_law_203 : decode cL_law 203 = .ok (.aload_n 0, 1) := by decide +kernel
theorem dL_law_204 : decode cL_law 204 = .ok (.iload_n 3, 1) := by decide +kernel
theorem dL_law_205 : decode cL_law 205 = .ok (.iconst 2, 1) := by decide +kernel
theorem dL_law_206 : decode cL_law 206 = .ok (.iadd, 1) := by decide +kernel
theorem dL_law_207 : decode cL_law 207 = .ok (.iaload, 1) := by decide +kernel
theorem dL_law_208 : decode cL_law 208 = .ok (.aload_n 0, 1) := by decide +kernel
theorem dL_law_209 : decode cL_law 209 = .ok (.iload_n 3, 1) := by decide +kernel
theorem dL_law_210 : decode cL_law 210 = .ok (.iconst 3, 1) := by decide +kernel
theorem dL_law_211 : decode cL_law 211 = .ok (.iadd, 1) := by decide +kernel
theorem dL_law_212 : decode cL_law 212 = .ok (.iaload, 1) := by decide +kernel
theorem dL_law_213 : decode cL_law 213 = .ok (.invokevirtual 27, 3) := by decide +kernel
theorem dL_law_216 : decode cL_law 216 = .ok (.if_icmp .eq 537, 3) := by decide +kernel
theorem dL_law_219 : decode cL_law 219 = .ok (.iconst 0, 1) := by decide +kernel
theorem dL_law_220 : decode cL_law 220 = .ok (.ireturn, 1) := by decide +kernel
theorem dL_law_221 : decode cL_law 221 = .ok (.aload_n 1, 1) := by decide +kernel
theorem dL_law_222 : decode cL_law 222 = .ok (.aload_n 0, 1) := by decide +kernel
theorem dL_law_223 : decode cL_law 223 = .ok (.iload_n 3, 1) := by decide +kernel
theorem dL_law_224 : decode cL_law 224 = .ok (.iconst 1, 1) := by decide +kernel
theorem dL_law_225 : decode cL_law 225 = .ok (.iadd, 1) := by decide +kernel
theorem dL_law_226 : decode cL_law 226 = .ok (.iaload, 1) := by decide +kernel
theorem dL_law_227 : decode cL_law 227 = .ok (.aload_n 0, 1) := by decide +kernel
theorem dL_law_228 : decode cL_law 228 = .ok (.iload_n 3, 1) := by decide +kernel
theorem dL_law_229 : decode cL_law 229 = .ok (.iconst 2, 1) := by decide +kernel
theorem dL_law_230 : decode cL_law 230 = .ok (.iadd, 1) := by decide +kernel
theorem dL_law_231 : decode cL_law 231 = .ok (.iaload, 1) := by decide +kernel
theorem dL_law_232 : decode cL_law 232 = .ok (.aload_n 0, 1) := by decide +kernel
theorem dL_law_233 : decode cL_law 233 = .ok (.iload_n 3, 1) := by decide +kernel
theorem dL_law_234 : decode cL_law 234 = .ok (.iconst 3, 1) := by decide +kernel
theorem dL_law_235 : decode cL_law 235 = .ok (.iadd, 1) := by decide +kernel
theorem dL_law_236 : decode cL_law 236 = .ok (.iaload, 1) := by decide +kernel
theorem dL_law_237 : decode cL_law 237 = .ok (.invokevirtual 28, 3) := by decide +kernel
theorem dL_law_240 : decode cL_law 240 = .ok (.aload_n 2, 1) := by decide +kernel
theorem dL_law_241 : decode cL_law 241 = .ok (.aload_n 0, 1) := by decide +kernel
theorem dL_law_242 : decode cL_law 242 = .ok (.iload_n 3, 1) := by decide +kernel
theorem dL_law_243 : decode cL_law 243 = .ok (.iconst 1, 1) := by decide +kernel
theorem dL_law_244 : decode cL_law 244 = .ok (.iadd, 1) := by decide +kernel
theorem dL_law_245 : decode cL_law 245 = .ok (.iaload, 1) := by decide +kernel
theorem dL_law_246 : decode cL_law 246 = .ok (.aload_n 0, 1) := by decide +kernel
theorem dL_law_247 : decode cL_law 247 = .ok (.iload_n 3, 1) := by decide +kernel
theorem dL_law_248 : decode cL_law 248 = .ok (.iconst 2, 1) := by decide +kernel
theorem dL_law_249 : decode cL_law 249 = .ok (.iadd, 1) := by decide +kernel
theorem dL_law_250 : decode cL_law 250 = .ok (.iaload, 1) := by decide +kernel
theorem dL_law_251 : decode cL_law 251 = .ok (.aload_n 0, 1) := by decide +kernel
theorem dL_law_252 : decode cL_law 252 = .ok (.iload_n 3, 1) := by decide +kernel
theorem dL_law_253 : decode cL_law 253 = .ok (.iconst 3, 1) := by decide +kernel
theorem dL_law_254 : decode cL_law 254 = .ok (.iadd, 1) := by decide +kernel
theorem dL_law_255 : decode cL_law 255 = .ok (.iaload, 1) := by decide +kernel
theorem dL_law_256 : decode cL_law 256 = .ok (.invokevirtual 31, 3) := by decide +kernel
theorem dL_law_259 : decode cL_law 259 = .ok (.if_icmp .eq 494, 3) := by decide +kernel
theorem dL_law_262 : decode cL_law 262 = .ok (.iconst 0, 1) := by decide +kernel
theorem dL_law_263 : decode cL_law 263 = .ok (.ireturn, 1) := by decide +kernel
theorem dL_law_264 : decode cL_law 264 = .ok (.aload_n 1, 1) := by decide +kernel
theorem dL_law_265 : decode cL_law 265 = .ok (.aload_n 0, 1) := by decide +kernel
theorem dL_law_266 : decode cL_law 266 = .ok (.iload_n 3, 1) := by decide +kernel
theorem dL_law_267 : decode cL_law 267 = .ok (.iconst 1, 1) := by decide +kernel
theorem dL_law_268 : decode cL_law 268 = .ok (.iadd, 1) := by decide +kernel
theorem dL_law_269 : decode cL_law 269 = .ok (.iaload, 1) := by decide +kernel
theorem dL_law_270 : decode cL_law 270 = .ok (.aload_n 0, 1) := by decide +kernel
theorem dL_law_271 : decode cL_law 271 = .ok (.iload_n 3, 1) := by decide +kernel
theorem dL_law_272 : decode cL_law 272 = .ok (.iconst 2, 1) := by decide +kernel
theorem dL_law_273 : decode cL_law 273 = .ok (.iadd, 1) := by decide +kernel
theorem dL_law_274 : decode cL_law 274 = .ok (.iaload, 1) := by decide +kernel
theorem dL_law_275 : decode cL_law 275 = .ok (.aload_n 0, 1) := by decide +kernel
theorem dL_law_276 : decode cL_law 276 = .ok (.iload_n 3, 1) := by decide +kernel
theorem dL_law_277 : decode cL_law 277 = .ok (.iconst 3, 1) := by decide +kernel
theorem dL_law_278 : decode cL_law 278 = .ok (.iadd, 1) := by decide +kernel
theorem dL_law_279 : decode cL_law 279 = .ok (.iaload, 1) := by decide +kernel
theorem dL_law_280 : decode cL_law 280 = .ok (.invokevirtual 32, 3) := by decide +kernel
theorem dL_law_283 : decode cL_law 283 = .ok (.aload_n 2, 1) := by decide +kernel
theorem dL_law_284 : decode cL_law 284 = .ok (.aload_n 0, 1) := by decide +kernel
theorem dL_law_285 : decode cL_law 285 = .ok (.iload_n 3, 1) := by decide +kernel
theorem dL_law_286 : decode cL_law 286 = .ok (.iconst 1, 1) := by decide +kernel
theorem dL_law_287 : decode cL_law 287 = .ok (.iadd, 1) := by decide +kernel
theorem dL_law_288 : decode cL_law 288 = .ok (.iaload, 1) := by decide +kernel
theorem dL_law_289 : decode cL_law 289 = .ok (.aload_n 0, 1) := by decide +kernel
theorem dL_law_290 : decode cL_law 290 = .ok (.iload_n 3, 1) := by decide +kernel
theorem dL_law_291 : decode cL_law 291 = .ok (.iconst 2, 1) := by decide +kernel
theorem dL_law_292 : decode cL_law 292 = .ok (.iadd, 1) := by decide +kernel
theorem dL_law_293 : decode cL_law 293 = .ok (.iaload, 1) := by decide +kernel
theorem dL_law_294 : decode cL_law 294 = .ok (.aload_n 0, 1) := by decide +kernel
theorem dL_law_295 : decode cL_law 295 = .ok (.iload_n 3, 1) := by decide +kernel
theorem dL_law_296 : decode cL_law 296 = .ok (.iconst 3, 1) := by decide +kernel
theorem dL_law_297 : decode cL_law 297 = .ok (.iadd, 1) := by decide +kernel
theorem dL_law_298 : decode cL_law 298 = .ok (.iaload, 1) := by decide +kernel
theorem dL_law_299 : decode cL_law 299 = .ok (.invokevirtual 35, 3) := by decide +kernel
theorem dL_law_302 : decode cL_law 302 = .ok (.if_icmp .eq 451, 3) := by decide +kernel
theorem dL_law_305 : decode cL_law 305 = .ok (.iconst 0, 1) := by decide +kernel
theorem dL_law_306 : decode cL_law 306 = .ok (.ireturn, 1) := by decide +kernel
theorem dL_law_307 : decode cL_law 307 = .ok (.aload_n 1, 1) := by decide +kernel
theorem dL_law_308 : decode cL_law 308 = .ok (.aload_n 0, 1) := by decide +kernel
theorem dL_law_309 : decode cL_law 309 = .ok (.iload_n 3, 1) := by decide +kernel
theorem dL_law_310 : decode cL_law 310 = .ok (.iconst 1, 1) := by decide +kernel
theorem dL_law_311 : decode cL_law 311 = .ok (.iadd, 1) := by decide +kernel
theorem dL_law_312 : decode cL_law 312 = .ok (.iaload, 1) := by decide +kernel
theorem dL_law_313 : decode cL_law 313 = .ok (.aload_n 0, 1) := by decide +kernel
theorem dL_law_314 : decode cL_law 314 = .ok (.iload_n 3, 1) := by decide +kernel
theorem dL_law_315 : decode cL_law 315 = .ok (.iconst 2, 1) := by decide +kernel
theorem dL_law_316 : decode cL_law 316 = .ok (.iadd, 1) := by decide +kernel
theorem dL_law_317 : decode cL_law 317 = .ok (.iaload, 1) := by decide +kernel
theorem dL_law_318 : decode cL_law 318 = .ok (.ifCond .eq 7, 3) := by decide +kernel
theorem dL_law_321 : decode cL_law 321 = .ok (.iconst 1, 1) := by decide +kernel
theorem dL_law_322 : decode cL_law 322 = .ok (.goto 4, 3) := by decide +kernel
theorem dL_law_325 : decode cL_law 325 = .ok (.iconst 0, 1) := by decide +kernel
theorem dL_law_326 : decode cL_law 326 = .ok (.invokevirtual 36, 3) := by decide +kernel
theorem dL_law_329 : decode cL_law 329 = .ok (.aload_n 2, 1) := by decide +kernel
theorem dL_law_330 : decode cL_law 330 = .ok (.aload_n 0, 1) := by decide +kernel
theorem dL_law_331 : decode cL_law 331 = .ok (.iload_n 3, 1) := by decide +kernel
theorem dL_law_332 : decode cL_law 332 = .ok (.iconst 1, 1) := by decide +kernel
theorem dL_law_333 : decode cL_law 333 = .ok (.iadd, 1) := by decide +kernel
theorem dL_law_334 : decode cL_law 334 = .ok (.iaload, 1) := by decide +kernel
theorem dL_law_335 : decode cL_law 335 = .ok (.aload_n 0, 1) := by decide +kernel
theorem dL_law_336 : decode cL_law 336 = .ok (.iload_n 3, 1) := by decide +kernel
theorem dL_law_337 : decode cL_law 337 = .ok (.iconst 2, 1) := by decide +kernel
theorem dL_law_338 : decode cL_law 338 = .ok (.iadd, 1) := by decide +kernel
theorem dL_law_339 : decode cL_law 339 = .ok (.iaload, 1) := by decide +kernel
theorem dL_law_340 : decode cL_law 340 = .ok (.ifCond .eq 7, 3) := by decide +kernel
theorem dL_law_343 : decode cL_law 343 = .ok (.iconst 1, 1) := by decide +kernel
theorem dL_law_344 : decode cL_law 344 = .ok (.goto 4, 3) := by decide +kernel
theorem dL_law_347 : decode cL_law 347 = .ok (.iconst 0, 1) := by decide +kernel
theorem dL_law_348 : decode cL_law 348 = .ok (.invokevirtual 40, 3) := by decide +kernel
theorem dL_law_351 : decode cL_law 351 = .ok (.if_icmp .eq 402, 3) := by decide +kernel
theorem dL_law_354 : decode cL_law 354 = .ok (.iconst 0, 1) := by decide +kernel
theorem dL_law_355 : decode cL_law 355 = .ok (.ireturn, 1) := by decide +kernel
theorem dL_law_356 : decode cL_law 356 = .ok (.aload_n 1, 1) := by decide +kernel
theorem dL_law_357 : decode cL_law 357 = .ok (.aload_n 0, 1) := by decide +kernel
theorem dL_law_358 : decode cL_law 358 = .ok (.iload_n 3, 1) := by decide +kernel
theorem dL_law_359 : decode cL_law 359 = .ok (.iconst 1, 1) := by decide +kernel
theorem dL_law_360 : decode cL_law 360 = .ok (.iadd, 1) := by decide +kernel
theorem dL_law_361 : decode cL_law 361 = .ok (.iaload, 1) := by decide +kernel
theorem dL_law_362 : decode cL_law 362 = .ok (.aload_n 0, 1) := by decide +kernel
theorem dL_law_363 : decode cL_law 363 = .ok (.iload_n 3, 1) := by decide +kernel
theorem dL_law_364 : decode cL_law 364 = .ok (.iconst 2, 1) := by decide +kernel
theorem dL_law_365 : decode cL_law 365 = .ok (.iadd, 1) := by decide +kernel
theorem dL_law_366 : decode cL_law 366 = .ok (.iaload, 1) := by decide +kernel
theorem dL_law_367 : decode cL_law 367 = .ok (.invokevirtual 41, 3) := by decide +kernel
theorem dL_law_370 : decode cL_law 370 = .ok (.aload_n 2, 1) := by decide +kernel
theorem dL_law_371 : decode cL_law 371 = .ok (.aload_n 0, 1) := by decide +kernel
theorem dL_law_372 : decode cL_law 372 = .ok (.iload_n 3, 1) := by decide +kernel
theorem dL_law_373 : decode cL_law 373 = .ok (.iconst 1, 1) := by decide +kernel
theorem dL_law_374 : decode cL_law 374 = .ok (.iadd, 1) := by decide +kernel
theorem dL_law_375 : decode cL_law 375 = .ok (.iaload, 1) := by decide +kernel
theorem dL_law_376 : decode cL_law 376 = .ok (.aload_n 0, 1) := by decide +kernel
theorem dL_law_377 : decode cL_law 377 = .ok (.iload_n 3, 1) := by decide +kernel
theorem dL_law_378 : decode cL_law 378 = .ok (.iconst 2, 1) := by decide +kernel
theorem dL_law_379 : decode cL_law 379 = .ok (.iadd, 1) := by decide +kernel
theorem dL_law_380 : decode cL_law 380 = .ok (.iaload, 1) := by decide +kernel
theorem dL_law_381 : decode cL_law 381 = .ok (.invokevirtual 44, 3) := by decide +kernel
theorem dL_law_384 : decode cL_law 384 = .ok (.if_icmp .eq 369, 3) := by decide +kernel
theorem dL_law_387 : decode cL_law 387 = .ok (.iconst 0, 1) := by decide +kernel
theorem dL_law_388 : decode cL_law 388 = .ok (.ireturn, 1) := by decide +kernel
theorem dL_law_389 : decode cL_law 389 = .ok (.aload_n 1, 1) := by decide +kernel
theorem dL_law_390 : decode cL_law 390 = .ok (.invokevirtual 45, 3) := by decide +kernel
theorem dL_law_393 : decode cL_law 393 = .ok (.aload_n 2, 1) := by decide +kernel
theorem dL_law_394 : decode cL_law 394 = .ok (.invokevirtual 48, 3) := by decide +kernel
theorem dL_law_397 : decode cL_law 397 = .ok (.if_icmp .eq 356, 3) := by decide +kernel
theorem dL_law_400 : decode cL_law 400 = .ok (.iconst 0, 1) := by decide +kernel
theorem dL_law_401 : decode cL_law 401 = .ok (.ireturn, 1) := by decide +kernel
theorem dL_law_402 : decode cL_law 402 = .ok (.aload_n 1, 1) := by decide +kernel
theorem dL_law_403 : decode cL_law 403 = .ok (.invokevirtual 49, 3) := by decide +kernel
theorem dL_law_406 : decode cL_law 406 = .ok (.aload_n 2, 1) := by decide +kernel
theorem dL_law_407 : decode cL_law 407 = .ok (.invokevirtual 52, 3) := by decide +kernel
theorem dL_law_410 : decode cL_law 410 = .ok (.if_icmp .eq 343, 3) := by decide +kernel
theorem dL_law_413 : decode cL_law 413 = .ok (.iconst 0, 1) := by decide +kernel
theorem dL_law_414 : decode cL_law 414 = .ok (.ireturn, 1) := by decide +kernel
theorem dL_law_415 : decode cL_law 415 = .ok (.aload_n 1, 1) := by decide +kernel
theorem dL_law_416 : decode cL_law 416 = .ok (.aload_n 0, 1) := by decide +kernel
theorem dL_law_417 : decode cL_law 417 = .ok (.iload_n 3, 1) := by decide +kernel
theorem dL_law_418 : decode cL_law 418 = .ok (.iconst 1, 1) := by decide +kernel
theorem dL_law_419 : decode cL_law 419 = .ok (.iadd, 1) := by decide +kernel
theorem dL_law_420 : decode cL_law 420 = .ok (.iaload, 1) := by decide +kernel
theorem dL_law_421 : decode cL_law 421 = .ok (.invokevirtual 53, 3) := by decide +kernel
theorem dL_law_424 : decode cL_law 424 = .ok (.aload_n 2, 1) := by decide +kernel
theorem dL_law_425 : decode cL_law 425 = .ok (.aload_n 0, 1) := by decide +kernel
theorem dL_law_426 : decode cL_law 426 = .ok (.iload_n 3, 1) := by decide +kernel
theorem dL_law_427 : decode cL_law 427 = .ok (.iconst 1, 1) := by decide +kernel
theorem dL_law_428 : decode cL_law 428 = .ok (.iadd, 1) := by decide +kernel
theorem dL_law_429 : decode cL_law 429 = .ok (.iaload, 1) := by decide +kernel
theorem dL_law_430 : decode cL_law 430 = .ok (.invokevirtual 57, 3) := by decide +kernel
theorem dL_law_433 : decode cL_law 433 = .ok (.if_icmp .eq 320, 3) := by decide +kernel
theorem dL_law_436 : decode cL_law 436 = .ok (.iconst 0, 1) := by decide +kernel
theorem dL_law_437 : decode cL_law 437 = .ok (.ireturn, 1) := by decide +kernel
theorem dL_law_438 : decode cL_law 438 = .ok (.aload_n 1, 1) := by decide +kernel
theorem dL_law_439 : decode cL_law 439 = .ok (.aload_n 0, 1) := by decide +kernel
theorem dL_law_440 : decode cL_law 440 = .ok (.iload_n 3, 1) := by decide +kernel
theorem dL_law_441 : decode cL_law 441 = .ok (.iconst 1, 1) := by decide +kernel
theorem dL_law_442 : decode cL_law 442 = .ok (.iadd, 1) := by decide +kernel
theorem dL_law_443 : decode cL_law 443 = .ok (.iaload, 1) := by decide +kernel
theorem dL_law_444 : decode cL_law 444 = .ok (.invokevirtual 58, 3) := by decide +kernel
theorem dL_law_447 : decode cL_law 447 = .ok (.aload_n 2, 1) := by decide +kernel
theorem dL_law_448 : decode cL_law 448 = .ok (.aload_n 0, 1) := by decide +kernel
theorem dL_law_449 : decode cL_law 449 = .ok (.iload_n 3, 1) := by decide +kernel
theorem dL_law_450 : decode cL_law 450 = .ok (.iconst 1, 1) := by decide +kernel
theorem dL_law_451 : decode cL_law 451 = .ok (.iadd, 1) := by decide +kernel
theorem dL_law_452 : decode cL_law 452 = .ok (.iaload, 1) := by decide +kernel
theorem dL_law_453 : decode cL_law 453 = .ok (.invokevirtual 61, 3) := by decide +kernel
theorem dL_law_456 : decode cL_law 456 = .ok (.if_icmp .eq 297, 3) := by decide +kernel
theorem dL_law_459 : decode cL_law 459 = .ok (.iconst 0, 1) := by decide +kernel
theorem dL_law_460 : decode cL_law 460 = .ok (.ireturn, 1) := by decide +kernel
theorem dL_law_461 : decode cL_law 461 = .ok (.aload_n 1, 1) := by decide +kernel
theorem dL_law_462 : decode cL_law 462 = .ok (.aload_n 0, 1) := by decide +kernel
theorem dL_law_463 : decode cL_law 463 = .ok (.iload_n 3, 1) := by decide +kernel
theorem dL_law_464 : decode cL_law 464 = .ok (.iconst 1, 1) := by decide +kernel
theorem dL_law_465 : decode cL_law 465 = .ok (.iadd, 1) := by decide +kernel
theorem dL_law_466 : decode cL_law 466 = .ok (.iaload, 1) := by decide +kernel
theorem dL_law_467 : decode cL_law 467 = .ok (.aload_n 0, 1) := by decide +kernel
theorem dL_law_468 : decode cL_law 468 = .ok (.iload_n 3, 1) := by decide +kernel
theorem dL_law_469 : decode cL_law 469 = .ok (.iconst 2, 1) := by decide +kernel
theorem dL_law_470 : decode cL_law 470 = .ok (.iadd, 1) := by decide +kernel
theorem dL_law_471 : decode cL_law 471 = .ok (.iaload, 1) := by decide +kernel
theorem dL_law_472 : decode cL_law 472 = .ok (.invokevirtual 62, 3) := by decide +kernel
theorem dL_law_475 : decode cL_law 475 = .ok (.aload_n 2, 1) := by decide +kernel
theorem dL_law_476 : decode cL_law 476 = .ok (.aload_n 0, 1) := by decide +kernel
theorem dL_law_477 : decode cL_law 477 = .ok (.iload_n 3, 1) := by decide +kernel
theorem dL_law_478 : decode cL_law 478 = .ok (.iconst 1, 1) := by decide +kernel
theorem dL_law_479 : decode cL_law 479 = .ok (.iadd, 1) := by decide +kernel
theorem dL_law_480 : decode cL_law 480 = .ok (.iaload, 1) := by decide +kernel
theorem dL_law_481 : decode cL_law 481 = .ok (.aload_n 0, 1) := by decide +kernel
theorem dL_law_482 : decode cL_law 482 = .ok (.iload_n 3, 1) := by decide +kernel
theorem dL_law_483 : decode cL_law 483 = .ok (.iconst 2, 1) := by decide +kernel
theorem dL_law_484 : decode cL_law 484 = .ok (.iadd, 1) := by decide +kernel
theorem dL_law_485 : decode cL_law 485 = .ok (.iaload, 1) := by decide +kernel
theorem dL_law_486 : decode cL_law 486 = .ok (.invokevirtual 66, 3) := by decide +kernel
theorem dL_law_489 : decode cL_law 489 = .ok (.lcmp, 1) := by decide +kernel
theorem dL_law_490 : decode cL_law 490 = .ok (.ifCond .eq 263, 3) := by decide +kernel
theorem dL_law_493 : decode cL_law 493 = .ok (.iconst 0, 1) := by decide +kernel
theorem dL_law_494 : decode cL_law 494 = .ok (.ireturn, 1) := by decide +kernel
theorem dL_law_495 : decode cL_law 495 = .ok (.aload_n 1, 1) := by decide +kernel
theorem dL_law_496 : decode cL_law 496 = .ok (.aload_n 0, 1) := by decide +kernel
theorem dL_law_497 : decode cL_law 497 = .ok (.iload_n 3, 1) := by decide +kernel
theorem dL_law_498 : decode cL_law 498 = .ok (.iconst 1, 1) := by decide +kernel
theorem dL_law_499 : decode cL_law 499 = .ok (.iadd, 1) := by decide +kernel
theorem dL_law_500 : decode cL_law 500 = .ok (.iaload, 1) := by decide +kernel
theorem dL_law_501 : decode cL_law 501 = .ok (.aload_n 0, 1) := by decide +kernel
theorem dL_law_502 : decode cL_law 502 = .ok (.iload_n 3, 1) := by decide +kernel
theorem dL_law_503 : decode cL_law 503 = .ok (.iconst 2, 1) := by decide +kernel
theorem dL_law_504 : decode cL_law 504 = .ok (.iadd, 1) := by decide +kernel
theorem dL_law_505 : decode cL_law 505 = .ok (.iaload, 1) := by decide +kernel
theorem dL_law_506 : decode cL_law 506 = .ok (.aload_n 0, 1) := by decide +kernel
theorem dL_law_507 : decode cL_law 507 = .ok (.iload_n 3, 1) := by decide +kernel
theorem dL_law_508 : decode cL_law 508 = .ok (.iconst 3, 1) := by decide +kernel
theorem dL_law_509 : decode cL_law 509 = .ok (.iadd, 1) := by decide +kernel
theorem dL_law_510 : decode cL_law 510 = .ok (.iaload, 1) := by decide +kernel
theorem dL_law_511 : decode cL_law 511 = .ok (.invokevirtual 67, 3) := by decide +kernel
theorem dL_law_514 : decode cL_law 514 = .ok (.aload_n 2, 1) := by decide +kernel
theorem dL_law_515 : decode cL_law 515 = .ok (.aload_n 0, 1) := by decide +kernel
theorem dL_law_516 : decode cL_law 516 = .ok (.iload_n 3, 1) := by decide +kernel
theorem dL_law_517 : decode cL_law 517 = .ok (.iconst 1, 1) := by decide +kernel
theorem dL_law_518 : decode cL_law 518 = .ok (.iadd, 1) := by decide +kernel
theorem dL_law_519 : decode cL_law 519 = .ok (.iaload, 1) := by decide +kernel
theorem dL_law_520 : decode cL_law 520 = .ok (.aload_n 0, 1) := by decide +kernel
theorem dL_law_521 : decode cL_law 521 = .ok (.iload_n 3, 1) := by decide +kernel
theorem dL_law_522 : decode cL_law 522 = .ok (.iconst 2, 1) := by decide +kernel
theorem dL_law_523 : decode cL_law 523 = .ok (.iadd, 1) := by decide +kernel
theorem dL_law_524 : decode cL_law 524 = .ok (.iaload, 1) := by decide +kernel
theorem dL_law_525 : decode cL_law 525 = .ok (.aload_n 0, 1) := by decide +kernel
theorem dL_law_526 : decode cL_law 526 = .ok (.iload_n 3, 1) := by decide +kernel
theorem dL_law_527 : decode cL_law 527 = .ok (.iconst 3, 1) := by decide +kernel
theorem dL_law_528 : decode cL_law 528 = .ok (.iadd, 1) := by decide +kernel
theorem dL_law_529 : decode cL_law 529 = .ok (.iaload, 1) := by decide +kernel
theorem dL_law_530 : decode cL_law 530 = .ok (.invokevirtual 71, 3) := by decide +kernel
theorem dL_law_533 : decode cL_law 533 = .ok (.lcmp, 1) := by decide +kernel
theorem dL_law_534 : decode cL_law 534 = .ok (.ifCond .eq 219, 3) := by decide +kernel
theorem dL_law_537 : decode cL_law 537 = .ok (.iconst 0, 1) := by decide +kernel
theorem dL_law_538 : decode cL_law 538 = .ok (.ireturn, 1) := by decide +kernel
theorem dL_law_539 : decode cL_law 539 = .ok (.aload_n 1, 1) := by decide +kernel
theorem dL_law_540 : decode cL_law 540 = .ok (.aload_n 0, 1) := by decide +kernel
theorem dL_law_541 : decode cL_law 541 = .ok (.iload_n 3, 1) := by decide +kernel
theorem dL_law_542 : decode cL_law 542 = .ok (.iconst 1, 1) := by decide +kernel
theorem dL_law_543 : decode cL_law 543 = .ok (.iadd, 1) := by decide +kernel
theorem dL_law_544 : decode cL_law 544 = .ok (.iaload, 1) := by decide +kernel
theorem dL_law_545 : decode cL_law 545 = .ok (.aload_n 0, 1) := by decide +kernel
theorem dL_law_546 : decode cL_law 546 = .ok (.iload_n 3, 1) := by decide +kernel
theorem dL_law_547 : decode cL_law 547 = .ok (.iconst 2, 1) := by decide +kernel
theorem dL_law_548 : decode cL_law 548 = .ok (.iadd, 1) := by decide +kernel
theorem dL_law_549 : decode cL_law 549 = .ok (.iaload, 1) := by decide +kernel
theorem dL_law_550 : decode cL_law 550 = .ok (.invokevirtual 72, 3) := by decide +kernel
theorem dL_law_553 : decode cL_law 553 = .ok (.aload_n 2, 1) := by decide +kernel
theorem dL_law_554 : decode cL_law 554 = .ok (.aload_n 0, 1) := by decide +kernel
theorem dL_law_555 : decode cL_law 555 = .ok (.iload_n 3, 1) := by decide +kernel
theorem dL_law_556 : decode cL_law 556 = .ok (.iconst 1, 1) := by decide +kernel
theorem dL_law_557 : decode cL_law 557 = .ok (.iadd, 1) := by decide +kernel
theorem dL_law_558 : decode cL_law 558 = .ok (.iaload, 1) := by decide +kernel
theorem dL_law_559 : decode cL_law 559 = .ok (.aload_n 0, 1) := by decide +kernel
theorem dL_law_560 : decode cL_law 560 = .ok (.iload_n 3, 1) := by decide +kernel
theorem dL_law_561 : decode cL_law 561 = .ok (.iconst 2, 1) := by decide +kernel
theorem dL_law_562 : decode cL_law 562 = .ok (.iadd, 1) := by decide +kernel
theorem dL_law_563 : decode cL_law 563 = .ok (.iaload, 1) := by decide +kernel
theorem dL_law_564 : decode cL_law 564 = .ok (.invokevirtual 75, 3) := by decide +kernel
theorem dL_law_567 : decode cL_law 567 = .ok (.if_icmp .eq 186, 3) := by decide +kernel
theorem dL_law_570 : decode cL_law 570 = .ok (.iconst 0, 1) := by decide +kernel
theorem dL_law_571 : decode cL_law 571 = .ok (.ireturn, 1) := by decide +kernel
theorem dL_law_572 : decode cL_law 572 = .ok (.aload_n 1, 1) := by decide +kernel
theorem dL_law_573 : decode cL_law 573 = .ok (.aload_n 0, 1) := by decide +kernel
theorem dL_law_574 : decode cL_law 574 = .ok (.iload_n 3, 1) := by decide +kernel
theorem dL_law_575 : decode cL_law 575 = .ok (.iconst 1, 1) := by decide +kernel
theorem dL_law_576 : decode cL_law 576 = .ok (.iadd, 1) := by decide +kernel
theorem dL_law_577 : decode cL_law 577 = .ok (.iaload, 1) := by decide +kernel
theorem dL_law_578 : decode cL_law 578 = .ok (.invokevirtual 76, 3) := by decide +kernel
theorem dL_law_581 : decode cL_law 581 = .ok (.aload_n 2, 1) := by decide +kernel
theorem dL_law_582 : decode cL_law 582 = .ok (.aload_n 0, 1) := by decide +kernel
theorem dL_law_583 : decode cL_law 583 = .ok (.iload_n 3, 1) := by decide +kernel
theorem dL_law_584 : decode cL_law 584 = .ok (.iconst 1, 1) := by decide +kernel
theorem dL_law_585 : decode cL_law 585 = .ok (.iadd, 1) := by decide +kernel
theorem dL_law_586 : decode cL_law 586 = .ok (.iaload, 1) := by decide +kernel
theorem dL_law_587 : decode cL_law 587 = .ok (.invokevirtual 79, 3) := by decide +kernel
theorem dL_law_590 : decode cL_law 590 = .ok (.if_icmp .eq 163, 3) := by decide +kernel
theorem dL_law_593 : decode cL_law 593 = .ok (.iconst 0, 1) := by decide +kernel
theorem dL_law_594 : decode cL_law 594 = .ok (.ireturn, 1) := by decide +kernel
theorem dL_law_595 : decode cL_law 595 = .ok (.aload_n 1, 1) := by decide +kernel
theorem dL_law_596 : decode cL_law 596 = .ok (.aload_n 0, 1) := by decide +kernel
theorem dL_law_597 : decode cL_law 597 = .ok (.iload_n 3, 1) := by decide +kernel
theorem dL_law_598 : decode cL_law 598 = .ok (.iconst 1, 1) := by decide +kernel
theorem dL_law_599 : decode cL_law 599 = .ok (.iadd, 1) := by decide +kernel
theorem dL_law_600 : decode cL_law 600 = .ok (.iaload, 1) := by decide +kernel
theorem dL_law_601 : decode cL_law 601 = .ok (.invokevirtual 80, 3) := by decide +kernel
theorem dL_law_604 : decode cL_law 604 = .ok (.aload_n 2, 1) := by decide +kernel
theorem dL_law_605 : decode cL_law 605 = .ok (.aload_n 0, 1) := by decide +kernel
theorem dL_law_606 : decode cL_law 606 = .ok (.iload_n 3, 1) := by decide +kernel
theorem dL_law_607 : decode cL_law 607 = .ok (.iconst 1, 1) := by decide +kernel
theorem dL_law_608 : decode cL_law 608 = .ok (.iadd, 1) := by decide +kernel
theorem dL_law_609 : decode cL_law 609 = .ok (.iaload, 1) := by decide +kernel
theorem dL_law_610 : decode cL_law 610 = .ok (.invokevirtual 83, 3) := by decide +kernel
theorem dL_law_613 : decode cL_law 613 = .ok (.if_icmp .eq 140, 3) := by decide +kernel
theorem dL_law_616 : decode cL_law 616 = .ok (.iconst 0, 1) := by decide +kernel
theorem dL_law_617 : decode cL_law 617 = .ok (.ireturn, 1) := by decide +kernel
theorem dL_law_618 : decode cL_law 618 = .ok (.aload_n 1, 1) := by decide +kernel
theorem dL_law_619 : decode cL_law 619 = .ok (.aload_n 0, 1) := by decide +kernel
theorem dL_law_620 : decode cL_law 620 = .ok (.iload_n 3, 1) := by decide +kernel
theorem dL_law_621 : decode cL_law 621 = .ok (.iconst 1, 1) := by decide +kernel
theorem dL_law_622 : decode cL_law 622 = .ok (.iadd, 1) := by decide +kernel
theorem dL_law_623 : decode cL_law 623 = .ok (.iaload, 1) := by decide +kernel
theorem dL_law_624 : decode cL_law 624 = .ok (.aload_n 0, 1) := by decide +kernel
theorem dL_law_625 : decode cL_law 625 = .ok (.iload_n 3, 1) := by decide +kernel
theorem dL_law_626 : decode cL_law 626 = .ok (.iconst 2, 1) := by decide +kernel
theorem dL_law_627 : decode cL_law 627 = .ok (.iadd, 1) := by decide +kernel
theorem dL_law_628 : decode cL_law 628 = .ok (.iaload, 1) := by decide +kernel
theorem dL_law_629 : decode cL_law 629 = .ok (.invokevirtual 84, 3) := by decide +kernel
theorem dL_law_632 : decode cL_law 632 = .ok (.aload_n 2, 1) := by decide +kernel
theorem dL_law_633 : decode cL_law 633 = .ok (.aload_n 0, 1) := by decide +kernel
theorem dL_law_634 : decode cL_law 634 = .ok (.iload_n 3, 1) := by decide +kernel
theorem dL_law_635 : decode cL_law 635 = .ok (.iconst 1, 1) := by decide +kernel
theorem dL_law_636 : decode cL_law 636 = .ok (.iadd, 1) := by decide +kernel
theorem dL_law_637 : decode cL_law 637 = .ok (.iaload, 1) := by decide +kernel
theorem dL_law_638 : decode cL_law 638 = .ok (.aload_n 0, 1) := by decide +kernel
theorem dL_law_639 : decode cL_law 639 = .ok (.iload_n 3, 1) := by decide +kernel
theorem dL_law_640 : decode cL_law 640 = .ok (.iconst 2, 1) := by decide +kernel
theorem dL_law_641 : decode cL_law 641 = .ok (.iadd, 1) := by decide +kernel
theorem dL_law_642 : decode cL_law 642 = .ok (.iaload, 1) := by decide +kernel
theorem dL_law_643 : decode cL_law 643 = .ok (.invokevirtual 87, 3) := by decide +kernel
theorem dL_law_646 : decode cL_law 646 = .ok (.if_icmp .eq 107, 3) := by decide +kernel
theorem dL_law_649 : decode cL_law 649 = .ok (.iconst 0, 1) := by decide +kernel
theorem dL_law_650 : decode cL_law 650 = .ok (.ireturn, 1) := by decide +kernel
theorem dL_law_651 : decode cL_law 651 = .ok (.aload_n 1, 1) := by decide +kernel
theorem dL_law_652 : decode cL_law 652 = .ok (.aload_n 0, 1) := by decide +kernel
theorem dL_law_653 : decode cL_law 653 = .ok (.iload_n 3, 1) := by decide +kernel
theorem dL_law_654 : decode cL_law 654 = .ok (.iconst 1, 1) := by decide +kernel
theorem dL_law_655 : decode cL_law 655 = .ok (.iadd, 1) := by decide +kernel
theorem dL_law_656 : decode cL_law 656 = .ok (.iaload, 1) := by decide +kernel
theorem dL_law_657 : decode cL_law 657 = .ok (.invokevirtual 88, 3) := by decide +kernel
theorem dL_law_660 : decode cL_law 660 = .ok (.aload_n 2, 1) := by decide +kernel
theorem dL_law_661 : decode cL_law 661 = .ok (.aload_n 0, 1) := by decide +kernel
theorem dL_law_662 : decode cL_law 662 = .ok (.iload_n 3, 1) := by decide +kernel
theorem dL_law_663 : decode cL_law 663 = .ok (.iconst 1, 1) := by decide +kernel
theorem dL_law_664 : decode cL_law 664 = .ok (.iadd, 1) := by decide +kernel
theorem dL_law_665 : decode cL_law 665 = .ok (.iaload, 1) := by decide +kernel
theorem dL_law_666 : decode cL_law 666 = .ok (.invokevirtual 91, 3) := by decide +kernel
theorem dL_law_669 : decode cL_law 669 = .ok (.if_icmp .eq 84, 3) := by decide +kernel
theorem dL_law_672 : decode cL_law 672 = .ok (.iconst 0, 1) := by decide +kernel
theorem dL_law_673 : decode cL_law 673 = .ok (.ireturn, 1) := by decide +kernel
theorem dL_law_674 : decode cL_law 674 = .ok (.aload_n 1, 1) := by decide +kernel
theorem dL_law_675 : decode cL_law 675 = .ok (.aload_n 0, 1) := by decide +kernel
theorem dL_law_676 : decode cL_law 676 = .ok (.iload_n 3, 1) := by decide +kernel
theorem dL_law_677 : decode cL_law 677 = .ok (.iconst 1, 1) := by decide +kernel
theorem dL_law_678 : decode cL_law 678 = .ok (.iadd, 1) := by decide +kernel
theorem dL_law_679 : decode cL_law 679 = .ok (.iaload, 1) := by decide +kernel
theorem dL_law_680 : decode cL_law 680 = .ok (.invokevirtual 92, 3) := by decide +kernel
theorem dL_law_683 : decode cL_law 683 = .ok (.aload_n 2, 1) := by decide +kernel
theorem dL_law_684 : decode cL_law 684 = .ok (.aload_n 0, 1) := by decide +kernel
theorem dL_law_685 : decode cL_law 685 = .ok (.iload_n 3, 1) := by decide +kernel
theorem dL_law_686 : decode cL_law 686 = .ok (.iconst 1, 1) := by decide +kernel
theorem dL_law_687 : decode cL_law 687 = .ok (.iadd, 1) := by decide +kernel
theorem dL_law_688 : decode cL_law 688 = .ok (.iaload, 1) := by decide +kernel
theorem dL_law_689 : decode cL_law 689 = .ok (.invokevirtual 95, 3) := by decide +kernel
theorem dL_law_692 : decode cL_law 692 = .ok (.if_icmp .eq 61, 3) := by decide +kernel
theorem dL_law_695 : decode cL_law 695 = .ok (.iconst 0, 1) := by decide +kernel
theorem dL_law_696 : decode cL_law 696 = .ok (.ireturn, 1) := by decide +kernel
theorem dL_law_697 : decode cL_law 697 = .ok (.aload_n 1, 1) := by decide +kernel
theorem dL_law_698 : decode cL_law 698 = .ok (.aload_n 0, 1) := by decide +kernel
theorem dL_law_699 : decode cL_law 699 = .ok (.iload_n 3, 1) := by decide +kernel
theorem dL_law_700 : decode cL_law 700 = .ok (.iconst 1, 1) := by decide +kernel
theorem dL_law_701 : decode cL_law 701 = .ok (.iadd, 1) := by decide +kernel
theorem dL_law_702 : decode cL_law 702 = .ok (.iaload, 1) := by decide +kernel
theorem dL_law_703 : decode cL_law 703 = .ok (.aload_n 0, 1) := by decide +kernel
theorem dL_law_704 : decode cL_law 704 = .ok (.iload_n 3, 1) := by decide +kernel
theorem dL_law_705 : decode cL_law 705 = .ok (.iconst 2, 1) := by decide +kernel
theorem dL_law_706 : decode cL_law 706 = .ok (.iadd, 1) := by decide +kernel
theorem dL_law_707 : decode cL_law 707 = .ok (.iaload, 1) := by decide +kernel
theorem dL_law_708 : decode cL_law 708 = .ok (.invokevirtual 96, 3) := by decide +kernel
theorem dL_law_711 : decode cL_law 711 = .ok (.aload_n 2, 1) := by decide +kernel
theorem dL_law_712 : decode cL_law 712 = .ok (.aload_n 0, 1) := by decide +kernel
theorem dL_law_713 : decode cL_law 713 = .ok (.iload_n 3, 1) := by decide +kernel
theorem dL_law_714 : decode cL_law 714 = .ok (.iconst 1, 1) := by decide +kernel
theorem dL_law_715 : decode cL_law 715 = .ok (.iadd, 1) := by decide +kernel
theorem dL_law_716 : decode cL_law 716 = .ok (.iaload, 1) := by decide +kernel
theorem dL_law_717 : decode cL_law 717 = .ok (.aload_n 0, 1) := by decide +kernel
theorem dL_law_718 : decode cL_law 718 = .ok (.iload_n 3, 1) := by decide +kernel
theorem dL_law_719 : decode cL_law 719 = .ok (.iconst 2, 1) := by decide +kernel
theorem dL_law_720 : decode cL_law 720 = .ok (.iadd, 1) := by decide +kernel
theorem dL_law_721 : decode cL_law 721 = .ok (.iaload, 1) := by decide +kernel
theorem dL_law_722 : decode cL_law 722 = .ok (.invokevirtual 99, 3) := by decide +kernel
theorem dL_law_725 : decode cL_law 725 = .ok (.if_icmp .eq 28, 3) := by decide +kernel
theorem dL_law_728 : decode cL_law 728 = .ok (.iconst 0, 1) := by decide +kernel
theorem dL_law_729 : decode cL_law 729 = .ok (.ireturn, 1) := by decide +kernel
theorem dL_law_730 : decode cL_law 730 = .ok (.aload_n 1, 1) := by decide +kernel
theorem dL_law_731 : decode cL_law 731 = .ok (.aload_n 0, 1) := by decide +kernel
theorem dL_law_732 : decode cL_law 732 = .ok (.iload_n 3, 1) := by decide +kernel
theorem dL_law_733 : decode cL_law 733 = .ok (.iconst 1, 1) := by decide +kernel
theorem dL_law_734 : decode cL_law 734 = .ok (.iadd, 1) := by decide +kernel
theorem dL_law_735 : decode cL_law 735 = .ok (.iaload, 1) := by decide +kernel
theorem dL_law_736 : decode cL_law 736 = .ok (.invokevirtual 100, 3) := by decide +kernel
theorem dL_law_739 : decode cL_law 739 = .ok (.aload_n 2, 1) := by decide +kernel
theorem dL_law_740 : decode cL_law 740 = .ok (.aload_n 0, 1) := by decide +kernel
theorem dL_law_741 : decode cL_law 741 = .ok (.iload_n 3, 1) := by decide +kernel
theorem dL_law_742 : decode cL_law 742 = .ok (.iconst 1, 1) := by decide +kernel
theorem dL_law_743 : decode cL_law 743 = .ok (.iadd, 1) := by decide +kernel
theorem dL_law_744 : decode cL_law 744 = .ok (.iaload, 1) := by decide +kernel
theorem dL_law_745 : decode cL_law 745 = .ok (.invokevirtual 103, 3) := by decide +kernel
theorem dL_law_748 : decode cL_law 748 = .ok (.if_icmp .eq 5, 3) := by decide +kernel
theorem dL_law_751 : decode cL_law 751 = .ok (.iconst 0, 1) := by decide +kernel
theorem dL_law_752 : decode cL_law 752 = .ok (.ireturn, 1) := by decide +kernel
theorem dL_law_753 : decode cL_law 753 = .ok (.iinc 3 4, 3) := by decide +kernel
theorem dL_law_756 : decode cL_law 756 = .ok (.goto (-738), 3) := by decide +kernel
theorem dL_law_759 : decode cL_law 759 = .ok (.iconst 1, 1) := by decide +kernel
theorem dL_law_760 : decode cL_law 760 = .ok (.ireturn, 1) := by decide +kernel
