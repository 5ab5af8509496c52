theorem dX5_differ_1 : decode cX5_differ 1 = .ok (.invokestatic 143, 3) := by decide +kernel
theorem dX5_differ_4 : decode cX5_differ 4 = .ok (.ifCond .eq 10, 3) := by decide +kernel
theorem dX5_differ_7 : decode cX5_differ 7 = .ok (.iload_n 2, 1) := by decide +kernel
theorem dX5_differ_8 : decode cX5_differ 8 = .ok (.invokestatic 143, 3) := by decide +kernel
theorem dX5_differ_11 : decode cX5_differ 11 = .ok (.ifCond .ne 5, 3) := by decide +kernel
theorem dX5_differ_14 : decode cX5_differ 14 = .ok (.iconst (-1), 1) := by decide +kernel
theorem dX5_differ_15 : decode cX5_differ 15 = .ok (.ireturn, 1) := by decide +kernel
theorem dX5_differ_16 : decode cX5_differ 16 = .ok (.aload_n 0, 1) := by decide +kernel
theorem dX5_differ_17 : decode cX5_differ 17 = .ok (.iload_n 1, 1) := by decide +kernel
theorem dX5_differ_18 : decode cX5_differ 18 = .ok (.aload_n 0, 1) := by decide +kernel
theorem dX5_differ_19 : decode cX5_differ 19 = .ok (.getfield 44, 3) := by decide +kernel
theorem dX5_differ_22 : decode cX5_differ 22 = .ok (.invokevirtual 152, 3) := by decide +kernel
theorem dX5_differ_25 : decode cX5_differ 25 = .ok (.aload_n 0, 1) := by decide +kernel
theorem dX5_differ_26 : decode cX5_differ 26 = .ok (.iload_n 2, 1) := by decide +kernel
theorem dX5_differ_27 : decode cX5_differ 27 = .ok (.aload_n 0, 1) := by decide +kernel
theorem dX5_differ_28 : decode cX5_differ 28 = .ok (.getfield 48, 3) := by decide +kernel
theorem dX5_differ_31 : decode cX5_differ 31 = .ok (.invokevirtual 152, 3) := by decide +kernel
theorem dX5_differ_34 : decode cX5_differ 34 = .ok (.iconst 0, 1) := by decide +kernel
theorem dX5_differ_35 : decode cX5_differ 35 = .ok (.istore_n 3, 1) := by decide +kernel
theorem dX5_differ_36 : decode cX5_differ 36 = .ok (.iconst 0, 1) := by decide +kernel
theorem dX5_differ_37 : decode cX5_differ 37 = .ok (.istore 4, 2) := by decide +kernel
theorem dX5_differ_39 : decode cX5_differ 39 = .ok (.iload 4, 2) := by decide +kernel
theorem dX5_differ_41 : decode cX5_differ 41 = .ok (.bipush 8, 2) := by decide +kernel
theorem dX5_differ_43 : decode cX5_differ 43 = .ok (.if_icmp .ge 30, 3) := by decide +kernel
theorem dX5_differ_46 : decode cX5_differ 46 = .ok (.iload_n 3, 1) := by decide +kernel
theorem dX5_differ_47 : decode cX5_differ 47 = .ok (.aload_n 0, 1) := by decide +kernel
theorem dX5_differ_48 : decode cX5_differ 48 = .ok (.getfield 44, 3) := by decide +kernel
theorem dX5_differ_51 : decode cX5_differ 51 = .ok (.iload 4, 2) := by decide +kernel
theorem dX5_differ_53 : decode cX5_differ 53 = .ok (.iaload, 1) := by decide +kernel
theorem dX5_differ_54 : decode cX5_differ 54 = .ok (.aload_n 0, 1) := by decide +kernel
theorem dX5_differ_55 : decode cX5_differ 55 = .ok (.getfield 48, 3) := by decide +kernel
theorem dX5_differ_58 : decode cX5_differ 58 = .ok (.iload 4, 2) := by decide +kernel
theorem dX5_differ_60 : decode cX5_differ 60 = .ok (.iaload, 1) := by decide +kernel
theorem dX5_differ_61 : decode cX5_differ 61 = .ok (.isub, 1) := by decide +kernel
theorem dX5_differ_62 : decode cX5_differ 62 = .ok (.invokestatic 160, 3) := by decide +kernel
theorem dX5_differ_65 : decode cX5_differ 65 = .ok (.iadd, 1) := by decide +kernel
theorem dX5_differ_66 : decode cX5_differ 66 = .ok (.istore_n 3, 1) := by decide +kernel
theorem dX5_differ_67 : decode cX5_differ 67 = .ok (.iinc 4 1, 3) := by decide +kernel
theorem dX5_differ_70 : decode cX5_differ 70 = .ok (.goto (-31), 3) := by decide +kernel
theorem dX5_differ_73 : decode cX5_differ 73 = .ok (.iload_n 3, 1) := by decide +kernel
theorem dX5_differ_74 : decode cX5_differ 74 = .ok (.ireturn, 1) := by decide +kernel
theorem dX5_book_0 : decode cX5_book 0 = .ok (.iload_n 1, 1) := by decide +kernel
theorem dX5_book_1 : decode cX5_book 1 = .ok (.invokestatic 143, 3) := by decide +kernel
theorem dX5_book_4 : decode cX5_book 4 = .ok (.ifCond .ne 5, 3) := by decide +kernel
theorem dX5_book_7 : decode cX5_book 7 = .ok (.iconst (-1), 1) := by decide +kernel
theorem dX5_book_8 : decode cX5_book 8 = .ok (.ireturn, 1) := by decide +kernel
theorem dX5_book_9 : decode cX5_book 9 = .ok (.aload_n 0, 1) := by decide +kernel
theorem dX5_book_10 : decode cX5_book 10 = .ok (.iload_n 1, 1) := by decide +kernel
theorem dX5_book_11 : decode cX5_book 11 = .ok (.aload_n 0, 1) := by decide +kernel
theorem dX5_book_12 : decode cX5_book 12 = .ok (.getfield 44, 3) := by decide +kernel
theorem dX5_book_15 : decode cX5_book 15 = .ok (.invokevirtual 152, 3) := by decide +kernel
theorem dX5_book_18 : decode cX5_book 18 = .ok (.aload_n 0, 1) := by decide +kernel
theorem dX5_book_19 : decode cX5_book 19 = .ok (.getfield 40, 3) := by decide +kernel
theorem dX5_book_22 : decode cX5_book 22 = .ok (.aload_n 0, 1) := by decide +kernel
theorem dX5_book_23 : decode cX5_book 23 = .ok (.getfield 44, 3) := by decide +kernel
theorem dX5_book_26 : decode cX5_book 26 = .ok (.invokevirtual 165, 3) := by decide +kernel
theorem dX5_book_29 : decode cX5_book 29 = .ok (.istore_n 2, 1) := by decide +kernel
theorem dX5_book_30 : decode cX5_book 30 = .ok (.aload_n 0, 1) := by decide +kernel
theorem dX5_book_31 : decode cX5_book 31 = .ok (.getfield 40, 3) := by decide +kernel
theorem dX5_book_34 : decode cX5_book 34 = .ok (.getfield 169, 3) := by decide +kernel
theorem dX5_book_37 : decode cX5_book 37 = .ok (.iload_n 2, 1) := by decide +kernel
theorem dX5_book_38 : decode cX5_book 38 = .ok (.iadd, 1) := by decide +kernel
theorem dX5_book_39 : decode cX5_book 39 = .ok (.sipush 400, 3) := by decide +kernel
theorem dX5_book_42 : decode cX5_book 42 = .ok (.if_icmp .le 5, 3) := by decide +kernel
theorem dX5_book_45 : decode cX5_book 45 = .ok (.iconst (-1), 1) := by decide +kernel
theorem dX5_book_46 : decode cX5_book 46 = .ok (.ireturn, 1) := by decide +kernel
theorem dX5_book_47 : decode cX5_book 47 = .ok (.aload_n 0, 1) := by decide +kernel
theorem dX5_book_48 : decode cX5_book 48 = .ok (.getfield 40, 3) := by decide +kernel
theorem dX5_book_51 : decode cX5_book 51 = .ok (.aload_n 0, 1) := by decide +kernel
theorem dX5_book_52 : decode cX5_book 52 = .ok (.getfield 44, 3) := by decide +kernel
theorem dX5_book_55 : decode cX5_book 55 = .ok (.invokevirtual 172, 3) := by decide +kernel
theorem dX5_book_58 : decode cX5_book 58 = .ok (.iload_n 2, 1) := by decide +kernel
theorem dX5_book_59 : decode cX5_book 59 = .ok (.ireturn, 1) := by decide +kernel
theorem dX5_booked_0 : decode cX5_booked 0 = .ok (.aload_n 0, 1) := by decide +kernel
theorem dX5_booked_1 : decode cX5_booked 1 = .ok (.getfield 19, 3) := by decide +kernel
theorem dX5_booked_4 : decode cX5_booked 4 = .ok (.iload_n 1, 1) := by decide +kernel
theorem dX5_booked_5 : decode cX5_booked 5 = .ok (.invokevirtual 75, 3) := by decide +kernel
theorem dX5_booked_8 : decode cX5_booked 8 = .ok (.ifCond .eq 15, 3) := by decide +kernel
theorem dX5_booked_11 : decode cX5_booked 11 = .ok (.aload_n 0, 1) := by decide +kernel
theorem dX5_booked_12 : decode cX5_booked 12 = .ok (.getfield 40, 3) := by decide +kernel
theorem dX5_booked_15 : decode cX5_booked 15 = .ok (.getfield 176, 3) := by decide +kernel
theorem dX5_booked_18 : decode cX5_booked 18 = .ok (.iload_n 1, 1) := by decide +kernel
theorem dX5_booked_19 : decode cX5_booked 19 = .ok (.iaload, 1) := by decide +kernel
theorem dX5_booked_20 : decode cX5_booked 20 = .ok (.goto 4, 3) := by decide +kernel
theorem dX5_booked_23 : decode cX5_booked 23 = .ok (.iconst 0, 1) := by decide +kernel
theorem dX5_booked_24 : decode cX5_booked 24 = .ok (.ireturn, 1) := by decide +kernel
theorem dX5_line_0 : decode cX5_line 0 = .ok (.iload_n 1, 1) := by decide +kernel
theorem dX5_line_1 : decode cX5_line 1 = .ok (.ifCond .lt 14, 3) := by decide +kernel
theorem dX5_line_4 : decode cX5_line 4 = .ok (.iload_n 1, 1) := by decide +kernel
theorem dX5_line_5 : decode cX5_line 5 = .ok (.aload_n 0, 1) := by decide +kernel
theorem dX5_line_6 : decode cX5_line 6 = .ok (.getfield 40, 3) := by decide +kernel
theorem dX5_line_9 : decode cX5_line 9 = .ok (.getfield 169, 3) := by decide +kernel
theorem dX5_line_12 : decode cX5_line 12 = .ok (.if_icmp .lt 6, 3) := by decide +kernel
theorem dX5_line_15 : decode cX5_line 15 = .ok (.ldc 151, 2) := by decide +kernel
theorem dX5_line_17 : decode cX5_line 17 = .ok (.ireturn, 1) := by decide +kernel
theorem dX5_line_18 : decode cX5_line 18 = .ok (.iload_n 2, 1) := by decide +kernel
theorem dX5_line_19 : decode cX5_line 19 = .ok (.tableswitch 55 0 2 #[25, 35, 45], 25) := by decide +kernel
theorem dX5_line_44 : decode cX5_line 44 = .ok (.aload_n 0, 1) := by decide +kernel
theorem dX5_line_45 : decode cX5_line 45 = .ok (.getfield 40, 3) := by decide +kernel
theorem dX5_line_48 : decode cX5_line 48 = .ok (.getfield 179, 3) := by decide +kernel
theorem dX5_line_51 : decode cX5_line 51 = .ok (.iload_n 1, 1) := by decide +kernel
theorem dX5_line_52 : decode cX5_line 52 = .ok (.iaload, 1) := by decide +kernel
theorem dX5_line_53 : decode cX5_line 53 = .ok (.ireturn, 1) := by decide +kernel
theorem dX5_line_54 : decode cX5_line 54 = .ok (.aload_n 0, 1) := by decide +kernel
theorem dX5_line_55 : decode cX5_line 55 = .ok (.getfield 40, 3) := by decide +kernel
theorem dX5_line_58 : decode cX5_line 58 = .ok (.getfield 182, 3) := by decide +kernel
theorem dX5_line_61 : decode cX5_line 61 = .ok (.iload_n 1, 1) := by decide +kernel
theorem dX5_line_62 : decode cX5_line 62 = .ok (.iaload, 1) := by decide +kernel
theorem dX5_line_63 : decode cX5_line 63 = .ok (.ireturn, 1) := by decide +kernel
theorem dX5_line_64 : decode cX5_line 64 = .ok (.aload_n 0, 1) := by decide +kernel
theorem dX5_line_65 : decode cX5_line 65 = .ok (.getfield 40, 3) := by decide +kernel
theorem dX5_line_68 : decode cX5_line 68 = .ok (.getfield 185, 3) := by decide +kernel
theorem dX5_line_71 : decode cX5_line 71 = .ok (.iload_n 1, 1) := by decide +kernel
theorem dX5_line_72 : decode cX5_line 72 = .ok (.iaload, 1) := by decide +kernel
theorem dX5_line_73 : decode cX5_line 73 = .ok (.ireturn, 1) := by decide +kernel
theorem dX5_line_74 : decode cX5_line 74 = .ok (.ldc 151, 2) := by decide +kernel
theorem dX5_line_76 : decode cX5_line 76 = .ok (.ireturn, 1) := by decide +kernel
theorem dX5_count_0 : decode cX5_count 0 = .ok (.iload_n 1, 1) := by decide +kernel
theorem dX5_count_1 : decode cX5_count 1 = .ok (.tableswitch 102 0 6 #[43, 51, 59, 70, 78, 86, 94], 43) := by decide +kernel
theorem dX5_count_44 : decode cX5_count 44 = .ok (.aload_n 0, 1) := by decide +kernel
theorem dX5_count_45 : decode cX5_count 45 = .ok (.getfield 10, 3) := by decide +kernel
theorem dX5_count_48 : decode cX5_count 48 = .ok (.getfield 51, 3) := by decide +kernel
theorem dX5_count_51 : decode cX5_count 51 = .ok (.ireturn, 1) := by decide +kernel
theorem dX5_count_52 : decode cX5_count 52 = .ok (.aload_n 0, 1) := by decide +kernel
theorem dX5_count_53 : decode cX5_count 53 = .ok (.getfield 19, 3) := by decide +kernel
theorem dX5_count_56 : decode cX5_count 56 = .ok (.getfield 63, 3) := by decide +kernel
theorem dX5_count_59 : decode cX5_count 59 = .ok (.ireturn, 1) := by decide +kernel
theorem dX5_count_60 : decode cX5_count 60 = .ok (.aload_n 0, 1) := by decide +kernel
theorem dX5_count_61 : decode cX5_count 61 = .ok (.getfield 19, 3) := by decide +kernel
theorem dX5_count_64 : decode cX5_count 64 = .ok (.getfield 99, 3) := by decide +kernel
theorem dX5_count_67 : decode cX5_count 67 = .ok (.invokestatic 188, 3) := by decide +kernel
theorem dX5_count_70 : decode cX5_count 70 = .ok (.ireturn, 1) := by decide +kernel
theorem dX5_count_71 : decode cX5_count 71 = .ok (.aload_n 0, 1) := by decide +kernel
theorem dX5_count_72 : decode cX5_count 72 = .ok (.getfield 40, 3) := by decide +kernel
theorem dX5_count_75 : decode cX5_count 75 = .ok (.getfield 169, 3) := by decide +kernel
theorem dX5_count_78 : decode cX5_count 78 = .ok (.ireturn, 1) := by decide +kernel
theorem dX5_count_79 : decode cX5_count 79 = .ok (.aload_n 0, 1) := by decide +kernel
theorem dX5_count_80 : decode cX5_count 80 = .ok (.getfield 40, 3) := by decide +kernel
theorem dX5_count_83 : decode cX5_count 83 = .ok (.getfield 193, 3) := by decide +kernel
theorem dX5_count_86 : decode cX5_count 86 = .ok (.ireturn, 1) := by decide +kernel
theorem dX5_count_87 : decode cX5_count 87 = .ok (.aload_n 0, 1) := by decide +kernel
theorem dX5_count_88 : decode cX5_count 88 = .ok (.getfield 19, 3) := by decide +kernel
theorem dX5_count_91 : decode cX5_count 91 = .ok (.invokevirtual 196, 3) := by decide +kernel
theorem dX5_count_94 : decode cX5_count 94 = .ok (.ireturn, 1) := by decide +kernel
theorem dX5_count_95 : decode cX5_count 95 = .ok (.aload_n 0, 1) := by decide +kernel
theorem dX5_count_96 : decode cX5_count 96 = .ok (.getfield 40, 3) := by decide +kernel
theorem dX5_count_99 : decode cX5_count 99 = .ok (.invokevirtual 199, 3) := by decide +kernel
theorem dX5_count_102 : decode cX5_count 102 = .ok (.ireturn, 1) := by decide +kernel
theorem dX5_count_103 : decode cX5_count 103 = .ok (.ldc 151, 2) := by decide +kernel
theorem dX5_count_105 : decode cX5_count 105 = .ok (.ireturn, 1) := by decide +kernel
theorem dX5_areCosts_0 : decode cX5_areCosts 0 = .ok (.iload_n 0, 1) := by decide +kernel
theorem dX5_areCosts_1 : decode cX5_areCosts 1 = .ok (.ifCond .lt 24, 3) := by decide +kernel
theorem dX5_areCosts_4 : decode cX5_areCosts 4 = .ok (.iload_n 0, 1) := by decide +kernel
theorem dX5_areCosts_5 : decode cX5_areCosts 5 = .ok (.sipush 10000, 3) := by decide +kernel
theorem dX5_areCosts_8 : decode cX5_areCosts 8 = .ok (.if_icmp .gt 17, 3) := by decide +kernel
theorem dX5_areCosts_11 : decode cX5_areCosts 11 = .ok (.iload_n 1, 1) := by decide +kernel
theorem dX5_areCosts_12 : decode cX5_areCosts 12 = .ok (.ifCond .lt 13, 3) := by decide +kernel
theorem dX5_areCosts_15 : decode cX5_areCosts 15 = .ok (.iload_n 1, 1) := by decide +kernel
theorem dX5_areCosts_16 : decode cX5_areCosts 16 = .ok (.bipush 100, 2) := by decide +kernel
theorem dX5_areCosts_18 : decode cX5_areCosts 18 = .ok (.if_icmp .gt 7, 3) := by decide +kernel
theorem dX5_areCosts_21 : decode cX5_areCosts 21 = .ok (.iconst 1, 1) := by decide +kernel
theorem dX5_areCosts_22 : decode cX5_areCosts 22 = .ok (.goto 4, 3) := by decide +kernel
theorem dX5_areCosts_25 : decode cX5_areCosts 25 = .ok (.iconst 0, 1) := by decide +kernel
theorem dX5_areCosts_26 : decode cX5_areCosts 26 = .ok (.ireturn, 1) := by decide +kernel
theorem dX5_areUnits_0 : decode cX5_areUnits 0 = .ok (.iload_n 0, 1) := by decide +kernel
theorem dX5_areUnits_1 : decode cX5_areUnits 1 = .ok (.ifCond .lt 13, 3) := by decide +kernel
theorem dX5_areUnits_4 : decode cX5_areUnits 4 = .ok (.iload_n 0, 1) := by decide +kernel
theorem dX5_areUnits_5 : decode cX5_areUnits 5 = .ok (.bipush 9, 2) := by decide +kernel
theorem dX5_areUnits_7 : decode cX5_areUnits 7 = .ok (.if_icmp .gt 7, 3) := by decide +kernel
theorem dX5_areUnits_10 : decode cX5_areUnits 10 = .ok (.iconst 1, 1) := by decide +kernel
theorem dX5_areUnits_11 : decode cX5_areUnits 11 = .ok (.goto 4, 3) := by decide +kernel
theorem dX5_areUnits_14 : decode cX5_areUnits 14 = .ok (.iconst 0, 1) := by decide +kernel
theorem dX5_areUnits_15 : decode cX5_areUnits 15 = .ok (.ireturn, 1) := by decide +kernel
theorem dX5_isRule_0 : decode cX5_isRule 0 = .ok (.iload_n 0, 1) := by decide +kernel
theorem dX5_isRule_1 : decode cX5_isRule 1 = .ok (.ifCond .lt 12, 3) := by decide +kernel
theorem dX5_isRule_4 : decode cX5_isRule 4 = .ok (.iload_n 0, 1) := by decide +kernel
theorem dX5_isRule_5 : decode cX5_isRule 5 = .ok (.iconst 2, 1) := by decide +kernel
theorem dX5_isRule_6 : decode cX5_isRule 6 = .ok (.if_icmp .gt 7, 3) := by decide +kernel
theorem dX5_isRule_9 : decode cX5_isRule 9 = .ok (.iconst 1, 1) := by decide +kernel
theorem dX5_isRule_10 : decode cX5_isRule 10 = .ok (.goto 4, 3) := by decide +kernel
theorem dX5_isRule_13 : decode cX5_isRule 13 = .ok (.iconst 0, 1) := by decide +kernel
theorem dX5_isRule_14 : decode cX5_isRule 14 = .ok (.ireturn, 1) := by decide +kernel
theorem dX5_isPart_0 : decode cX5_isPart 0 = .ok (.iload_n 0, 1) := by decide +kernel
theorem dX5_isPart_1 : decode cX5_isPart 1 = .ok (.ifCond .eq 8, 3) := by decide +kernel
theorem dX5_isPart_4 : decode cX5_isPart 4 = .ok (.iload_n 0, 1) := by decide +kernel
theorem dX5_isPart_5 : decode cX5_isPart 5 = .ok (.iconst 1, 1) := by decide +kernel
theorem dX5_isPart_6 : decode cX5_isPart 6 = .ok (.if_icmp .ne 7, 3) := by decide +kernel
theorem dX5_isPart_9 : decode cX5_isPart 9 = .ok (.iconst 1, 1) := by decide +kernel
theorem dX5_isPart_10 : decode cX5_isPart 10 = .ok (.goto 4, 3) := by decide +kernel
theorem dX5_isPart_13 : decode cX5_isPart 13 = .ok (.iconst 0, 1) := by decide +kernel
theorem dX5_isPart_14 : decode cX5_isPart 14 = .ok (.ireturn, 1) := by decide +kernel
theorem dX5_isIn_0 : decode cX5_isIn 0 = .ok (.iload_n 0, 1) := by decide +kernel
theorem dX5_isIn_1 : decode cX5_isIn 1 = .ok (.iload_n 1, 1) := by decide +kernel
theorem dX5_isIn_2 : decode cX5_isIn 2 = .ok (.ishr, 1) := by decide +kernel
theorem dX5_isIn_3 : decode cX5_isIn 3 = .ok (.iconst 1, 1) := by decide +kernel
theorem dX5_isIn_4 : decode cX5_isIn 4 = .ok (.iand, 1) := by decide +kernel
theorem dX5_isIn_5 : decode cX5_isIn 5 = .ok (.ifCond .eq 7, 3) := by decide +kernel
theorem dX5_isIn_8 : decode cX5_isIn 8 = .ok (.iconst 1, 1) := by decide +kernel
theorem dX5_isIn_9 : decode cX5_isIn 9 = .ok (.goto 4, 3) := by decide +kernel
theorem dX5_isIn_12 : decode cX5_isIn 12 = .ok (.iconst 0, 1) := by decide +kernel
theorem dX5_isIn_13 : decode cX5_isIn 13 = .ok (.ireturn, 1) := by decide +kernel
theorem dX5_isNeededNow_0 : decode cX5_isNeededNow 0 = .ok (.aload_n 0, 1) := by decide +kernel
theorem dX5_isNeededNow_1 : decode cX5_isNeededNow 1 = .ok (.getfield 10, 3) := by decide +kernel
theorem dX5_isNeededNow_4 : decode cX5_isNeededNow 4 = .ok (.iload_n 1, 1) := by decide +kernel
theorem dX5_isNeededNow_5 : decode cX5_isNeededNow 5 = .ok (.invokevirtual 67, 3) := by decide +kernel
theorem dX5_isNeededNow_8 : decode cX5_isNeededNow 8 = .ok (.ifCond .eq 28, 3) := by decide +kernel
theorem dX5_isNeededNow_11 : decode cX5_isNeededNow 11 = .ok (.aload_n 0, 1) := by decide +kernel
theorem dX5_isNeededNow_12 : decode cX5_isNeededNow 12 = .ok (.getfield 10, 3) := by decide +kernel
theorem dX5_isNeededNow_15 : decode cX5_isNeededNow 15 = .ok (.aload_n 0, 1) := by decide +kernel
theorem dX5_isNeededNow_16 : decode cX5_isNeededNow 16 = .ok (.getfield 19, 3) := by decide +kernel
theorem dX5_isNeededNow_19 : decode cX5_isNeededNow 19 = .ok (.getfield 99, 3) := by decide +kernel
theorem dX5_isNeededNow_22 : decode cX5_isNeededNow 22 = .ok (.invokevirtual 102, 3) := by decide +kernel
theorem dX5_isNeededNow_25 : decode cX5_isNeededNow 25 = .ok (.iload_n 1, 1) := by decide +kernel
theorem dX5_isNeededNow_26 : decode cX5_isNeededNow 26 = .ok (.invokestatic 202, 3) := by decide +kernel
theorem dX5_isNeededNow_29 : decode cX5_isNeededNow 29 = .ok (.ifCond .eq 7, 3) := by decide +kernel
theorem dX5_isNeededNow_32 : decode cX5_isNeededNow 32 = .ok (.iconst 1, 1) := by decide +kernel
theorem dX5_isNeededNow_33 : decode cX5_isNeededNow 33 = .ok (.goto 4, 3) := by decide +kernel
theorem dX5_isNeededNow_36 : decode cX5_isNeededNow 36 = .ok (.iconst 0, 1) := by decide +kernel
theorem dX5_isNeededNow_37 : decode cX5_isNeededNow 37 = .ok (.ireturn, 1) := by decide +kernel
theorem dX5_shareOut_0 : decode cX5_shareOut 0 = .ok (.iload_n 1, 1) := by decide +kernel
theorem dX5_shareOut_1 : decode cX5_shareOut 1 = .ok (.ifCond .ne 46, 3) := by decide +kernel
theorem dX5_shareOut_4 : decode cX5_shareOut 4 = .ok (.aload_n 0, 1) := by decide +kernel
theorem dX5_shareOut_5 : decode cX5_shareOut 5 = .ok (.getfield 26, 3) := by decide +kernel
theorem dX5_shareOut_8 : decode cX5_shareOut 8 = .ok (.aload_n 0, 1) := by decide +kernel
theorem dX5_shareOut_9 : decode cX5_shareOut 9 = .ok (.getfield 10, 3) := by decide +kernel
theorem dX5_shareOut_12 : decode cX5_shareOut 12 = .ok (.aload_n 0, 1) := by decide +kernel
theorem dX5_shareOut_13 : decode cX5_shareOut 13 = .ok (.getfield 19, 3) := by decide +kernel
theorem dX5_shareOut_16 : decode cX5_shareOut 16 = .ok (.getfield 99, 3) := by decide +kernel
theorem dX5_shareOut_19 : decode cX5_shareOut 19 = .ok (.invokevirtual 127, 3) := by decide +kernel
theorem dX5_shareOut_22 : decode cX5_shareOut 22 = .ok (.aload_n 0, 1) := by decide +kernel
theorem dX5_shareOut_23 : decode cX5_shareOut 23 = .ok (.getfield 33, 3) := by decide +kernel
theorem dX5_shareOut_26 : decode cX5_shareOut 26 = .ok (.aload_n 0, 1) := by decide +kernel
theorem dX5_shareOut_27 : decode cX5_shareOut 27 = .ok (.getfield 10, 3) := by decide +kernel
theorem dX5_shareOut_30 : decode cX5_shareOut 30 = .ok (.aload_n 0, 1) := by decide +kernel
theorem dX5_shareOut_31 : decode cX5_shareOut 31 = .ok (.getfield 26, 3) := by decide +kernel
theorem dX5_shareOut_34 : decode cX5_shareOut 34 = .ok (.aload_n 0, 1) := by decide +kernel
theorem dX5_shareOut_35 : decode cX5_shareOut 35 = .ok (.getfield 19, 3) := by decide +kernel
theorem dX5_shareOut_38 : decode cX5_shareOut 38 = .ok (.getfield 99, 3) := by decide +kernel
theorem dX5_shareOut_41 : decode cX5_shareOut 41 = .ok (.invokevirtual 205, 3) := by decide +kernel
theorem dX5_shareOut_44 : decode cX5_shareOut 44 = .ok (.goto 47, 3) := by decide +kernel
theorem dX5_shareOut_47 : decode cX5_shareOut 47 = .ok (.iload_n 1, 1) := by decide +kernel
theorem dX5_shareOut_48 : decode cX5_shareOut 48 = .ok (.iconst 1, 1) := by decide +kernel
theorem dX5_shareOut_49 : decode cX5_shareOut 49 = .ok (.if_icmp .ne 24, 3) := by decide +kernel
theorem dX5_shareOut_52 : decode cX5_shareOut 52 = .ok (.aload_n 0, 1) := by decide +kernel
theorem dX5_shareOut_53 : decode cX5_shareOut 53 = .ok (.getfield 33, 3) := by decide +kernel
theorem dX5_shareOut_56 : decode cX5_shareOut 56 = .ok (.aload_n 0, 1) := by decide +kernel
theorem dX5_shareOut_57 : decode cX5_shareOut 57 = .ok (.getfield 10, 3) := by decide +kernel
theorem dX5_shareOut_60 : decode cX5_shareOut 60 = .ok (.aload_n 0, 1) := by decide +kernel
theorem dX5_shareOut_61 : decode cX5_shareOut 61 = .ok (.getfield 19, 3) := by decide +kernel
theorem dX5_shareOut_64 : decode cX5_shareOut 64 = .ok (.getfield 99, 3) := by decide +kernel
theorem dX5_shareOut_67 : decode cX5_shareOut 67 = .ok (.invokevirtual 209, 3) := by decide +kernel
theorem dX5_shareOut_70 : decode cX5_shareOut 70 = .ok (.goto 21, 3) := by decide +kernel
theorem dX5_shareOut_73 : decode cX5_shareOut 73 = .ok (.aload_n 0, 1) := by decide +kernel
theorem dX5_shareOut_74 : decode cX5_shareOut 74 = .ok (.getfield 33, 3) := by decide +kernel
theorem dX5_shareOut_77 : decode cX5_shareOut 77 = .ok (.aload_n 0, 1) := by decide +kernel
theorem dX5_shareOut_78 : decode cX5_shareOut 78 = .ok (.getfield 10, 3) := by decide +kernel
theorem dX5_shareOut_81 : decode cX5_shareOut 81 = .ok (.aload_n 0, 1) := by decide +kernel
theorem dX5_shareOut_82 : decode cX5_shareOut 82 = .ok (.getfield 19, 3) := by decide +kernel
theorem dX5_shareOut_85 : decode cX5_shareOut 85 = .ok (.getfield 99, 3) := by decide +kernel
theorem dX5_shareOut_88 : decode cX5_shareOut 88 = .ok (.invokevirtual 212, 3) := by decide +kernel
theorem dX5_shareOut_91 : decode cX5_shareOut 91 = .ok (.return_, 1) := by decide +kernel
theorem dX5_fillCoins_0 : decode cX5_fillCoins 0 = .ok (.aload_n 0, 1) := by decide +kernel
theorem dX5_fillCoins_1 : decode cX5_fillCoins 1 = .ok (.iload_n 1, 1) := by decide +kernel
theorem dX5_fillCoins_2 : decode cX5_fillCoins 2 = .ok (.invokevirtual 146, 3) := by decide +kernel
theorem dX5_fillCoins_5 : decode cX5_fillCoins 5 = .ok (.aload_n 0, 1) := by decide +kernel
theorem dX5_fillCoins_6 : decode cX5_fillCoins 6 = .ok (.getfield 33, 3) := by decide +kernel
theorem dX5_fillCoins_9 : decode cX5_fillCoins 9 = .ok (.aload_n 2, 1) := by decide +kernel
theorem dX5_fillCoins_10 : decode cX5_fillCoins 10 = .ok (.aload_n 0, 1) := by decide +kernel
theorem dX5_fillCoins_11 : decode cX5_fillCoins 11 = .ok (.getfield 10, 3) := by decide +kernel
theorem dX5_fillCoins_14 : decode cX5_fillCoins 14 = .ok (.aload_n 0, 1) := by decide +kernel
theorem dX5_fillCoins_15 : decode cX5_fillCoins 15 = .ok (.getfield 19, 3) := by decide +kernel
theorem dX5_fillCoins_18 : decode cX5_fillCoins 18 = .ok (.getfield 99, 3) := by decide +kernel
theorem dX5_fillCoins_21 : decode cX5_fillCoins 21 = .ok (.invokevirtual 119, 3) := by decide +kernel
theorem dX5_fillCoins_24 : decode cX5_fillCoins 24 = .ok (.aload_n 0, 1) := by decide +kernel
theorem dX5_fillCoins_25 : decode cX5_fillCoins 25 = .ok (.getfield 19, 3) := by decide +kernel
theorem dX5_fillCoins_28 : decode cX5_fillCoins 28 = .ok (.getfield 99, 3) := by decide +kernel
theorem dX5_fillCoins_31 : decode cX5_fillCoins 31 = .ok (.invokevirtual 215, 3) := by decide +kernel
theorem dX5_fillCoins_34 : decode cX5_fillCoins 34 = .ok (.iconst 0, 1) := by decide +kernel
theorem dX5_fillCoins_35 : decode cX5_fillCoins 35 = .ok (.istore_n 3, 1) := by decide +kernel
theorem dX5_fillCoins_36 : decode cX5_fillCoins 36 = .ok (.iload_n 3, 1) := by decide +kernel
theorem dX5_fillCoins_37 : decode cX5_fillCoins 37 = .ok (.bipush 8, 2) := by decide +kernel
theorem dX5_fillCoins_39 : decode cX5_fillCoins 39 = .ok (.if_icmp .ge 35, 3) := by decide +kernel
theorem dX5_fillCoins_42 : decode cX5_fillCoins 42 = .ok (.aload_n 0, 1) := by decide +kernel
theorem dX5_fillCoins_43 : decode cX5_fillCoins 43 = .ok (.getfield 19, 3) := by decide +kernel
theorem dX5_fillCoins_46 : decode cX5_fillCoins 46 = .ok (.iload_n 3, 1) := by decide +kernel
theorem dX5_fillCoins_47 : decode cX5_fillCoins 47 = .ok (.invokevirtual 85, 3) := by decide +kernel
theorem dX5_fillCoins_50 : decode cX5_fillCoins 50 = .ok (.ifCond .eq 18, 3) := by decide +kernel
theorem dX5_fillCoins_53 : decode cX5_fillCoins 53 = .ok (.aload_n 2, 1) := by decide +kernel
theorem dX5_fillCoins_54 : decode cX5_fillCoins 54 = .ok (.iload_n 3, 1) := by decide +kernel
theorem dX5_fillCoins_55 : decode cX5_fillCoins 55 = .ok (.dup2, 1) := by decide +kernel
theorem dX5_fillCoins_56 : decode cX5_fillCoins 56 = .ok (.iaload, 1) := by decide +kernel
theorem dX5_fillCoins_57 : decode cX5_fillCoins 57 = .ok (.aload_n 0, 1) := by decide +kernel
theorem dX5_fillCoins_58 : decode cX5_fillCoins 58 = .ok (.getfield 19, 3) := by decide +kernel
theorem dX5_fillCoins_61 : decode cX5_fillCoins 61 = .ok (.getfield 92, 3) := by decide +kernel
theorem dX5_fillCoins_64 : decode cX5_fillCoins 64 = .ok (.iload_n 3, 1) := by decide +kernel
theorem dX5_fillCoins_65 : decode cX5_fillCoins 65 = .ok (.iaload, 1) := by decide +kernel
theorem dX5_fillCoins_66 : decode cX5_fillCoins 66 = .ok (.iadd, 1) := by decide +kernel
theorem dX5_fillCoins_67 : decode cX5_fillCoins 67 = .ok (.iastore, 1) := by decide +kernel
theorem dX5_fillCoins_68 : decode cX5_fillCoins 68 = .ok (.iinc 3 1, 3) := by decide +kernel
theorem dX5_fillCoins_71 : decode cX5_fillCoins 71 = .ok (.goto (-35), 3) := by decide +kernel
theorem dX5_fillCoins_74 : decode cX5_fillCoins 74 = .ok (.return_, 1) := by decide +kernel
theorem dX5_partOfFraction_0 : decode cX5_partOfFraction 0 = .ok (.lload_n 0, 1) := by decide +kernel
theorem dX5_partOfFraction_1 : decode cX5_partOfFraction 1 = .ok (.invokestatic 219, 3) := by decide +kernel
theorem dX5_partOfFraction_4 : decode cX5_partOfFraction 4 = .ok (.lload_n 2, 1) := by decide +kernel
theorem dX5_partOfFraction_5 : decode cX5_partOfFraction 5 = .ok (.invokestatic 222, 3) := by decide +kernel
theorem dX5_partOfFraction_8 : decode cX5_partOfFraction 8 = .ok (.lstore 5, 2) := by decide +kernel
theorem dX5_partOfFraction_10 : decode cX5_partOfFraction 10 = .ok (.lload 5, 2) := by decide +kernel
theorem dX5_partOfFraction_12 : decode cX5_partOfFraction 12 = .ok (.lconst 0, 1) := by decide +kernel
theorem dX5_partOfFraction_13 : decode cX5_partOfFraction 13 = .ok (.lcmp, 1) := by decide +kernel
theorem dX5_partOfFraction_14 : decode cX5_partOfFraction 14 = .ok (.ifCond .ne 7, 3) := by decide +kernel
theorem dX5_partOfFraction_17 : decode cX5_partOfFraction 17 = .ok (.ldc2_w 125, 3) := by decide +kernel
theorem dX5_partOfFraction_20 : decode cX5_partOfFraction 20 = .ok (.lreturn, 1) := by decide +kernel
theorem dX5_partOfFraction_21 : decode cX5_partOfFraction 21 = .ok (.iload 4, 2) := by decide +kernel
theorem dX5_partOfFraction_23 : decode cX5_partOfFraction 23 = .ok (.ifCond .ne 7, 3) := by decide +kernel
theorem dX5_partOfFraction_26 : decode cX5_partOfFraction 26 = .ok (.lload_n 0, 1) := by decide +kernel
theorem dX5_partOfFraction_27 : decode cX5_partOfFraction 27 = .ok (.goto 4, 3) := by decide +kernel
theorem dX5_partOfFraction_30 : decode cX5_partOfFraction 30 = .ok (.lload_n 2, 1) := by decide +kernel
theorem dX5_partOfFraction_31 : decode cX5_partOfFraction 31 = .ok (.lload 5, 2) := by decide +kernel
theorem dX5_partOfFraction_33 : decode cX5_partOfFraction 33 = .ok (.ldiv, 1) := by decide +kernel
theorem dX5_partOfFraction_34 : decode cX5_partOfFraction 34 = .ok (.lreturn, 1) := by decide +kernel
theorem dX5_commonDivisor_0 : decode cX5_commonDivisor 0 = .ok (.iconst 0, 1) := by decide +kernel
theorem dX5_commonDivisor_1 : decode cX5_commonDivisor 1 = .ok (.istore 4, 2) := by decide +kernel
theorem dX5_commonDivisor_3 : decode cX5_commonDivisor 3 = .ok (.iload 4, 2) := by decide +kernel
theorem dX5_commonDivisor_5 : decode cX5_commonDivisor 5 = .ok (.bipush 100, 2) := by decide +kernel
theorem dX5_commonDivisor_7 : decode cX5_commonDivisor 7 = .ok (.if_icmp .ge 25, 3) := by decide +kernel
theorem dX5_commonDivisor_10 : decode cX5_commonDivisor 10 = .ok (.lload_n 2, 1) := by decide +kernel
theorem dX5_commonDivisor_11 : decode cX5_commonDivisor 11 = .ok (.lconst 0, 1) := by decide +kernel
theorem dX5_commonDivisor_12 : decode cX5_commonDivisor 12 = .ok (.lcmp, 1) := by decide +kernel
theorem dX5_commonDivisor_13 : decode cX5_commonDivisor 13 = .ok (.ifCond .eq 19, 3) := by decide +kernel
theorem dX5_commonDivisor_16 : decode cX5_commonDivisor 16 = .ok (.lload_n 0, 1) := by decide +kernel
theorem dX5_commonDivisor_17 : decode cX5_commonDivisor 17 = .ok (.lload_n 2, 1) := by decide +kernel
theorem dX5_commonDivisor_18 : decode cX5_commonDivisor 18 = .ok (.lrem, 1) := by decide +kernel
theorem dX5_commonDivisor_19 : decode cX5_commonDivisor 19 = .ok (.lstore 5, 2) := by decide +kernel
theorem dX5_commonDivisor_21 : decode cX5_commonDivisor 21 = .ok (.lload_n 2, 1) := by decide +kernel
theorem dX5_commonDivisor_22 : decode cX5_commonDivisor 22 = .ok (.lstore_n 0, 1) := by decide +kernel
theorem dX5_commonDivisor_23 : decode cX5_commonDivisor 23 = .ok (.lload 5, 2) := by decide +kernel
theorem dX5_commonDivisor_25 : decode cX5_commonDivisor 25 = .ok (.lstore_n 2, 1) := by decide +kernel
theorem dX5_commonDivisor_26 : decode cX5_commonDivisor 26 = .ok (.iinc 4 1, 3) := by decide +kernel
theorem dX5_commonDivisor_29 : decode cX5_commonDivisor 29 = .ok (.goto (-26), 3) := by decide +kernel
theorem dX5_commonDivisor_32 : decode cX5_commonDivisor 32 = .ok (.lload_n 0, 1) := by decide +kernel
theorem dX5_commonDivisor_33 : decode cX5_commonDivisor 33 = .ok (.lreturn, 1) := by decide +kernel
theorem dX6_init_0 : decode cX6_init 0 = .ok (.aload_n 0, 1) := by decide +kernel
theorem dX6_init_1 : decode cX6_init 1 = .ok (.invokespecial 3, 3) := by decide +kernel
theorem dX6_init_4 : decode cX6_init 4 = .ok (.aload_n 0, 1) := by decide +kernel
theorem dX6_init_5 : decode cX6_init 5 = .ok (.bipush 6, 2) := by decide +kernel
theorem dX6_init_7 : decode cX6_init 7 = .ok (.newarray .int, 2) := by decide +kernel
theorem dX6_init_9 : decode cX6_init 9 = .ok (.putfield 9, 3) := by decide +kernel
theorem dX6_init_12 : decode cX6_init 12 = .ok (.aload_n 0, 1) := by decide +kernel
theorem dX6_init_13 : decode cX6_init 13 = .ok (.bipush 6, 2) := by decide +kernel
theorem dX6_init_15 : decode cX6_init 15 = .ok (.newarray .int, 2) := by decide +kernel
theorem dX6_init_17 : decode cX6_init 17 = .ok (.putfield 13, 3) := by decide +kernel
theorem dX6_init_20 : decode cX6_init 20 = .ok (.aload_n 0, 1) := by decide +kernel
theorem dX6_init_21 : decode cX6_init 21 = .ok (.bipush 48, 2) := by decide +kernel
theorem dX6_init_23 : decode cX6_init 23 = .ok (.newarray .int, 2) := by decide +kernel
theorem dX6_init_25 : decode cX6_init 25 = .ok (.putfield 16, 3) := by decide +kernel
theorem dX6_init_28 : decode cX6_init 28 = .ok (.aload_n 0, 1) := by decide +kernel
theorem dX6_init_29 : decode cX6_init 29 = .ok (.bipush 36, 2) := by decide +kernel
theorem dX6_init_31 : decode cX6_init 31 = .ok (.newarray .int, 2) := by decide +kernel
theorem dX6_init_33 : decode cX6_init 33 = .ok (.putfield 19, 3) := by decide +kernel
theorem dX6_init_36 : decode cX6_init 36 = .ok (.aload_n 0, 1) := by decide +kernel
theorem dX6_init_37 : decode cX6_init 37 = .ok (.bipush 8, 2) := by decide +kernel
theorem dX6_init_39 : decode cX6_init 39 = .ok (.newarray .int, 2) := by decide +kernel
theorem dX6_init_41 : decode cX6_init 41 = .ok (.putfield 22, 3) := by decide +kernel
theorem dX6_init_44 : decode cX6_init 44 = .ok (.aload_n 0, 1) := by decide +kernel
theorem dX6_init_45 : decode cX6_init 45 = .ok (.bipush 8, 2) := by decide +kernel
theorem dX6_init_47 : decode cX6_init 47 = .ok (.newarray .int, 2) := by decide +kernel
theorem dX6_init_49 : decode cX6_init 49 = .ok (.putfield 25, 3) := by decide +kernel
theorem dX6_init_52 : decode cX6_init 52 = .ok (.aload_n 0, 1) := by decide +kernel
theorem dX6_init_53 : decode cX6_init 53 = .ok (.bipush 8, 2) := by decide +kernel
theorem dX6_init_55 : decode cX6_init 55 = .ok (.newarray .boolean, 2) := by decide +kernel
theorem dX6_init_57 : decode cX6_init 57 = .ok (.putfield 28, 3) := by decide +kernel
theorem dX6_init_60 : decode cX6_init 60 = .ok (.aload_n 0, 1) := by decide +kernel
theorem dX6_init_61 : decode cX6_init 61 = .ok (.sipush 400, 3) := by decide +kernel
theorem dX6_init_64 : decode cX6_init 64 = .ok (.newarray .int, 2) := by decide +kernel
theorem dX6_init_66 : decode cX6_init 66 = .ok (.putfield 32, 3) := by decide +kernel
theorem dX6_init_69 : decode cX6_init 69 = .ok (.aload_n 0, 1) := by decide +kernel
theorem dX6_init_70 : decode cX6_init 70 = .ok (.sipush 400, 3) := by decide +kernel
theorem dX6_init_73 : decode cX6_init 73 = .ok (.newarray .int, 2) := by decide +kernel
theorem dX6_init_75 : decode cX6_init 75 = .ok (.putfield 35, 3) := by decide +kernel
theorem dX6_init_78 : decode cX6_init 78 = .ok (.aload_n 0, 1) := by decide +kernel
theorem dX6_init_79 : decode cX6_init 79 = .ok (.sipush 400, 3) := by decide +kernel
theorem dX6_init_82 : decode cX6_init 82 = .ok (.newarray .int, 2) := by decide +kernel
theorem dX6_init_84 : decode cX6_init 84 = .ok (.putfield 38, 3) := by decide +kernel
theorem dX6_init_87 : decode cX6_init 87 = .ok (.aload_n 0, 1) := by decide +kernel
theorem dX6_init_88 : decode cX6_init 88 = .ok (.bipush 6, 2) := by decide +kernel
theorem dX6_init_90 : decode cX6_init 90 = .ok (.newarray .int, 2) := by decide +kernel
theorem dX6_init_92 : decode cX6_init 92 = .ok (.putfield 41, 3) := by decide +kernel
theorem dX6_init_95 : decode cX6_init 95 = .ok (.aload_n 0, 1) := by decide +kernel
theorem dX6_init_96 : decode cX6_init 96 = .ok (.bipush 36, 2) := by decide +kernel
theorem dX6_init_98 : decode cX6_init 98 = .ok (.newarray .long, 2) := by decide +kernel
theorem dX6_init_100 : decode cX6_init 100 = .ok (.putfield 44, 3) := by decide +kernel
theorem dX6_init_103 : decode cX6_init 103 = .ok (.aload_n 0, 1) := by decide +kernel
theorem dX6_init_104 : decode cX6_init 104 = .ok (.bipush 6, 2) := by decide +kernel
theorem dX6_init_106 : decode cX6_init 106 = .ok (.newarray .long, 2) := by decide +kernel
theorem dX6_init_108 : decode cX6_init 108 = .ok (.putfield 48, 3) := by decide +kernel
theorem dX6_init_111 : decode cX6_init 111 = .ok (.aload_n 0, 1) := by decide +kernel
theorem dX6_init_112 : decode cX6_init 112 = .ok (.bipush 6, 2) := by decide +kernel
theorem dX6_init_114 : decode cX6_init 114 = .ok (.newarray .long, 2) := by decide +kernel
theorem dX6_init_116 : decode cX6_init 116 = .ok (.putfield 51, 3) := by decide +kernel
theorem dX6_init_119 : decode cX6_init 119 = .ok (.aload_n 0, 1) := by decide +kernel
theorem dX6_init_120 : decode cX6_init 120 = .ok (.bipush 8, 2) := by decide +kernel
theorem dX6_init_122 : decode cX6_init 122 = .ok (.newarray .long, 2) := by decide +kernel
theorem dX6_init_124 : decode cX6_init 124 = .ok (.putfield 54, 3) := by decide +kernel
theorem dX6_init_127 : decode cX6_init 127 = .ok (.aload_n 0, 1) := by decide +kernel
theorem dX6_init_128 : decode cX6_init 128 = .ok (.sipush 256, 3) := by decide +kernel
theorem dX6_init_131 : decode cX6_init 131 = .ok (.newarray .int, 2) := by decide +kernel
theorem dX6_init_133 : decode cX6_init 133 = .ok (.putfield 57, 3) := by decide +kernel
theorem dX6_init_136 : decode cX6_init 136 = .ok (.aload_n 0, 1) := by decide +kernel
theorem dX6_init_137 : decode cX6_init 137 = .ok (.bipush 8, 2) := by decide +kernel
theorem dX6_init_139 : decode cX6_init 139 = .ok (.newarray .int, 2) := by decide +kernel
theorem dX6_init_141 : decode cX6_init 141 = .ok (.putfield 60, 3) := by decide +kernel
theorem dX6_init_144 : decode cX6_init 144 = .ok (.return_, 1) := by decide +kernel
theorem dX6_isIn_0 : decode cX6_isIn 0 = .ok (.iload_n 0, 1) := by decide +kernel
theorem dX6_isIn_1 : decode cX6_isIn 1 = .ok (.iload_n 1, 1) := by decide +kernel
theorem dX6_isIn_2 : decode cX6_isIn 2 = .ok (.if_icmp .lt 12, 3) := by decide +kernel
theorem dX6_isIn_5 : decode cX6_isIn 5 = .ok (.iload_n 0, 1) := by decide +kernel
theorem dX6_isIn_6 : decode cX6_isIn 6 = .ok (.iload_n 2, 1) := by decide +kernel
theorem dX6_isIn_7 : decode cX6_isIn 7 = .ok (.if_icmp .gt 7, 3) := by decide +kernel
theorem dX6_isIn_10 : decode cX6_isIn 10 = .ok (.iconst 1, 1) := by decide +kernel
theorem dX6_isIn_11 : decode cX6_isIn 11 = .ok (.goto 4, 3) := by decide +kernel
theorem dX6_isIn_14 : decode cX6_isIn 14 = .ok (.iconst 0, 1) := by decide +kernel
theorem dX6_isIn_15 : decode cX6_isIn 15 = .ok (.ireturn, 1) := by decide +kernel
theorem dX6_isWork_0 : decode cX6_isWork 0 = .ok (.iload_n 1, 1) := by decide +kernel
theorem dX6_isWork_1 : decode cX6_isWork 1 = .ok (.ifCond .lt 15, 3) := by decide +kernel
theorem dX6_isWork_4 : decode cX6_isWork 4 = .ok (.iload_n 1, 1) := by decide +kernel
theorem dX6_isWork_5 : decode cX6_isWork 5 = .ok (.aload_n 0, 1) := by decide +kernel
theorem dX6_isWork_6 : decode cX6_isWork 6 = .ok (.getfield 67, 3) := by decide +kernel
theorem dX6_isWork_9 : decode cX6_isWork 9 = .ok (.if_icmp .ge 7, 3) := by decide +kernel
theorem dX6_isWork_12 : decode cX6_isWork 12 = .ok (.iconst 1, 1) := by decide +kernel
theorem dX6_isWork_13 : decode cX6_isWork 13 = .ok (.goto 4, 3) := by decide +kernel
theorem dX6_isWork_16 : decode cX6_isWork 16 = .ok (.iconst 0, 1) := by decide +kernel
theorem dX6_isWork_17 : decode cX6_isWork 17 = .ok (.ireturn, 1) := by decide +kernel
theorem dX6_isUser_0 : decode cX6_isUser 0 = .ok (.iload_n 1, 1) := by decide +kernel
theorem dX6_isUser_1 : decode cX6_isUser 1 = .ok (.ifCond .lt 15, 3) := by decide +kernel
theorem dX6_isUser_4 : decode cX6_isUser 4 = .ok (.iload_n 1, 1) := by decide +kernel
theorem dX6_isUser_5 : decode cX6_isUser 5 = .ok (.aload_n 0, 1) := by decide +kernel
theorem dX6_isUser_6 : decode cX6_isUser 6 = .ok (.getfield 70, 3) := by decide +kernel
theorem dX6_isUser_9 : decode cX6_isUser 9 = .ok (.if_icmp .ge 7, 3) := by decide +kernel
theorem dX6_isUser_12 : decode cX6_isUser 12 = .ok (.iconst 1, 1) := by decide +kernel
theorem dX6_isUser_13 : decode cX6_isUser 13 = .ok (.goto 4, 3) := by decide +kernel
theorem dX6_isUser_16 : decode cX6_isUser 16 = .ok (.iconst 0, 1) := by decide +kernel
theorem dX6_isUser_17 : decode cX6_isUser 17 = .ok (.ireturn, 1) := by decide +kernel
theorem dX6_isThere_0 : decode cX6_isThere 0 = .ok (.aload_n 0, 1) := by decide +kernel
theorem dX6_isThere_1 : decode cX6_isThere 1 = .ok (.iload_n 1, 1) := by decide +kernel
theorem dX6_isThere_2 : decode cX6_isThere 2 = .ok (.invokevirtual 73, 3) := by decide +kernel
theorem dX6_isThere_5 : decode cX6_isThere 5 = .ok (.ifCond .eq 16, 3) := by decide +kernel
theorem dX6_isThere_8 : decode cX6_isThere 8 = .ok (.aload_n 0, 1) := by decide +kernel
theorem dX6_isThere_9 : decode cX6_isThere 9 = .ok (.getfield 28, 3) := by decide +kernel
theorem dX6_isThere_12 : decode cX6_isThere 12 = .ok (.iload_n 1, 1) := by decide +kernel
theorem dX6_isThere_13 : decode cX6_isThere 13 = .ok (.baload, 1) := by decide +kernel
theorem dX6_isThere_14 : decode cX6_isThere 14 = .ok (.ifCond .eq 7, 3) := by decide +kernel
theorem dX6_isThere_17 : decode cX6_isThere 17 = .ok (.iconst 1, 1) := by decide +kernel
theorem dX6_isThere_18 : decode cX6_isThere 18 = .ok (.goto 4, 3) := by decide +kernel
theorem dX6_isThere_21 : decode cX6_isThere 21 = .ok (.iconst 0, 1) := by decide +kernel
theorem dX6_isThere_22 : decode cX6_isThere 22 = .ok (.ireturn, 1) := by decide +kernel
theorem dX6_work_0 : decode cX6_work 0 = .ok (.aload_n 0, 1) := by decide +kernel
theorem dX6_work_1 : decode cX6_work 1 = .ok (.iconst 0, 1) := by decide +kernel
theorem dX6_work_2 : decode cX6_work 2 = .ok (.putfield 63, 3) := by decide +kernel
theorem dX6_work_5 : decode cX6_work 5 = .ok (.aload_n 0, 1) := by decide +kernel
theorem dX6_work_6 : decode cX6_work 6 = .ok (.getfield 67, 3) := by decide +kernel
theorem dX6_work_9 : decode cX6_work 9 = .ok (.bipush 6, 2) := by decide +kernel
theorem dX6_work_11 : decode cX6_work 11 = .ok (.if_icmp .eq 24, 3) := by decide +kernel
theorem dX6_work_14 : decode cX6_work 14 = .ok (.iload_n 1, 1) := by decide +kernel
theorem dX6_work_15 : decode cX6_work 15 = .ok (.iconst 0, 1) := by decide +kernel
theorem dX6_work_16 : decode cX6_work 16 = .ok (.sipush 10000, 3) := by decide +kernel
theorem dX6_work_19 : decode cX6_work 19 = .ok (.invokestatic 77, 3) := by decide +kernel
theorem dX6_work_22 : decode cX6_work 22 = .ok (.ifCond .eq 13, 3) := by decide +kernel
theorem dX6_work_25 : decode cX6_work 25 = .ok (.iload_n 2, 1) := by decide +kernel
theorem dX6_work_26 : decode cX6_work 26 = .ok (.iconst 0, 1) := by decide +kernel
theorem dX6_work_27 : decode cX6_work 27 = .ok (.bipush 100, 2) := by decide +kernel
theorem dX6_work_29 : decode cX6_work 29 = .ok (.invokestatic 77, 3) := by decide +kernel
theorem dX6_work_32 : decode cX6_work 32 = .ok (.ifCond .ne 5, 3) := by decide +kernel
theorem dX6_work_35 : decode cX6_work 35 = .ok (.iconst (-1), 1) := by decide +kernel
theorem dX6_work_36 : decode cX6_work 36 = .ok (.ireturn, 1) := by decide +kernel
theorem dX6_work_37 : decode cX6_work 37 = .ok (.aload_n 0, 1) := by decide +kernel
theorem dX6_work_38 : decode cX6_work 38 = .ok (.getfield 9, 3) := by decide +kernel
theorem dX6_work_41 : decode cX6_work 41 = .ok (.aload_n 0, 1) := by decide +kernel
theorem dX6_work_42 : decode cX6_work 42 = .ok (.getfield 67, 3) := by decide +kernel
theorem dX6_work_45 : decode cX6_work 45 = .ok (.iload_n 1, 1) := by decide +kernel
theorem dX6_work_46 : decode cX6_work 46 = .ok (.iastore, 1) := by decide +kernel
theorem dX6_work_47 : decode cX6_work 47 = .ok (.aload_n 0, 1) := by decide +kernel
theorem dX6_work_48 : decode cX6_work 48 = .ok (.getfield 13, 3) := by decide +kernel
theorem dX6_work_51 : decode cX6_work 51 = .ok (.aload_n 0, 1) := by decide +kernel
theorem dX6_work_52 : decode cX6_work 52 = .ok (.getfield 67, 3) := by decide +kernel
theorem dX6_work_55 : decode cX6_work 55 = .ok (.iload_n 2, 1) := by decide +kernel
theorem dX6_work_56 : decode cX6_work 56 = .ok (.iastore, 1) := by decide +kernel
theorem dX6_work_57 : decode cX6_work 57 = .ok (.aload_n 0, 1) := by decide +kernel
theorem dX6_work_58 : decode cX6_work 58 = .ok (.dup, 1) := by decide +kernel
theorem dX6_work_59 : decode cX6_work 59 = .ok (.getfield 67, 3) := by decide +kernel
theorem dX6_work_62 : decode cX6_work 62 = .ok (.iconst 1, 1) := by decide +kernel
theorem dX6_work_63 : decode cX6_work 63 = .ok (.iadd, 1) := by decide +kernel
theorem dX6_work_64 : decode cX6_work 64 = .ok (.putfield 67, 3) := by decide +kernel
theorem dX6_work_67 : decode cX6_work 67 = .ok (.aload_n 0, 1) := by decide +kernel
theorem dX6_work_68 : decode cX6_work 68 = .ok (.getfield 67, 3) := by decide +kernel
theorem dX6_work_71 : decode cX6_work 71 = .ok (.iconst 1, 1) := by decide +kernel
theorem dX6_work_72 : decode cX6_work 72 = .ok (.isub, 1) := by decide +kernel
theorem dX6_work_73 : decode cX6_work 73 = .ok (.ireturn, 1) := by decide +kernel
theorem dX6_user_0 : decode cX6_user 0 = .ok (.aload_n 0, 1) := by decide +kernel
theorem dX6_user_1 : decode cX6_user 1 = .ok (.iconst 0, 1) := by decide +kernel
theorem dX6_user_2 : decode cX6_user 2 = .ok (.putfield 63, 3) := by decide +kernel
theorem dX6_user_5 : decode cX6_user 5 = .ok (.aload_n 0, 1) := by decide +kernel
theorem dX6_user_6 : decode cX6_user 6 = .ok (.getfield 70, 3) := by decide +kernel
theorem dX6_user_9 : decode cX6_user 9 = .ok (.bipush 8, 2) := by decide +kernel
theorem dX6_user_11 : decode cX6_user 11 = .ok (.if_icmp .ne 5, 3) := by decide +kernel
theorem dX6_user_14 : decode cX6_user 14 = .ok (.iconst (-1), 1) := by decide +kernel
theorem dX6_user_15 : decode cX6_user 15 = .ok (.ireturn, 1) := by decide +kernel
theorem dX6_user_16 : decode cX6_user 16 = .ok (.aload_n 0, 1) := by decide +kernel
theorem dX6_user_17 : decode cX6_user 17 = .ok (.getfield 28, 3) := by decide +kernel
theorem dX6_user_20 : decode cX6_user 20 = .ok (.aload_n 0, 1) := by decide +kernel
theorem dX6_user_21 : decode cX6_user 21 = .ok (.getfield 70, 3) := by decide +kernel
theorem dX6_user_24 : decode cX6_user 24 = .ok (.iconst 1, 1) := by decide +kernel
theorem dX6_user_25 : decode cX6_user 25 = .ok (.bastore, 1) := by decide +kernel
theorem dX6_user_26 : decode cX6_user 26 = .ok (.aload_n 0, 1) := by decide +kernel
theorem dX6_user_27 : decode cX6_user 27 = .ok (.dup, 1) := by decide +kernel
theorem dX6_user_28 : decode cX6_user 28 = .ok (.getfield 70, 3) := by decide +kernel
theorem dX6_user_31 : decode cX6_user 31 = .ok (.iconst 1, 1) := by decide +kernel
theorem dX6_user_32 : decode cX6_user 32 = .ok (.iadd, 1) := by decide +kernel
theorem dX6_user_33 : decode cX6_user 33 = .ok (.putfield 70, 3) := by decide +kernel
theorem dX6_user_36 : decode cX6_user 36 = .ok (.aload_n 0, 1) := by decide +kernel
theorem dX6_user_37 : decode cX6_user 37 = .ok (.getfield 70, 3) := by decide +kernel
theorem dX6_user_40 : decode cX6_user 40 = .ok (.iconst 1, 1) := by decide +kernel
theorem dX6_user_41 : decode cX6_user 41 = .ok (.isub, 1) := by decide +kernel
theorem dX6_user_42 : decode cX6_user 42 = .ok (.ireturn, 1) := by decide +kernel
theorem dX6_change_0 : decode cX6_change 0 = .ok (.aload_n 0, 1) := by decide +kernel
theorem dX6_change_1 : decode cX6_change 1 = .ok (.iconst 0, 1) := by decide +kernel
theorem dX6_change_2 : decode cX6_change 2 = .ok (.putfield 63, 3) := by decide +kernel
theorem dX6_change_5 : decode cX6_change 5 = .ok (.aload_n 0, 1) := by decide +kernel
theorem dX6_change_6 : decode cX6_change 6 = .ok (.iload_n 1, 1) := by decide +kernel
theorem dX6_change_7 : decode cX6_change 7 = .ok (.invokevirtual 81, 3) := by decide +kernel
theorem dX6_change_10 : decode cX6_change 10 = .ok (.ifCond .eq 24, 3) := by decide +kernel
theorem dX6_change_13 : decode cX6_change 13 = .ok (.iload_n 2, 1) := by decide +kernel
theorem dX6_change_14 : decode cX6_change 14 = .ok (.iconst 0, 1) := by decide +kernel
theorem dX6_change_15 : decode cX6_change 15 = .ok (.sipush 10000, 3) := by decide +kernel
theorem dX6_change_18 : decode cX6_change 18 = .ok (.invokestatic 77, 3) := by decide +kernel
theorem dX6_change_21 : decode cX6_change 21 = .ok (.ifCond .eq 13, 3) := by decide +kernel
theorem dX6_change_24 : decode cX6_change 24 = .ok (.iload_n 3, 1) := by decide +kernel
theorem dX6_change_25 : decode cX6_change 25 = .ok (.iconst 0, 1) := by decide +kernel
theorem dX6_change_26 : decode cX6_change 26 = .ok (.bipush 100, 2) := by decide +kernel
theorem dX6_change_28 : decode cX6_change 28 = .ok (.invokestatic 77, 3) := by decide +kernel
theorem dX6_change_31 : decode cX6_change 31 = .ok (.ifCond .ne 5, 3) := by decide +kernel
theorem dX6_change_34 : decode cX6_change 34 = .ok (.iconst 0, 1) := by decide +kernel
theorem dX6_change_35 : decode cX6_change 35 = .ok (.ireturn, 1) := by decide +kernel
theorem dX6_change_36 : decode cX6_change 36 = .ok (.aload_n 0, 1) := by decide +kernel
theorem dX6_change_37 : decode cX6_change 37 = .ok (.getfield 9, 3) := by decide +kernel
theorem dX6_change_40 : decode cX6_change 40 = .ok (.iload_n 1, 1) := by decide +kernel
theorem dX6_change_41 : decode cX6_change 41 = .ok (.iload_n 2, 1) := by decide +kernel
theorem dX6_change_42 : decode cX6_change 42 = .ok (.iastore, 1) := by decide +kernel
theorem dX6_change_43 : decode cX6_change 43 = .ok (.aload_n 0, 1) := by decide +kernel
theorem dX6_change_44 : decode cX6_change 44 = .ok (.getfield 13, 3) := by decide +kernel
theorem dX6_change_47 : decode cX6_change 47 = .ok (.iload_n 1, 1) := by decide +kernel
theorem dX6_change_48 : decode cX6_change 48 = .ok (.iload_n 3, 1) := by decide +kernel
theorem dX6_change_49 : decode cX6_change 49 = .ok (.iastore, 1) := by decide +kernel
theorem dX6_change_50 : decode cX6_change 50 = .ok (.iconst 1, 1) := by decide +kernel
theorem dX6_change_51 : decode cX6_change 51 = .ok (.ireturn, 1) := by decide +kernel
theorem dX6_use_0 : decode cX6_use 0 = .ok (.aload_n 0, 1) := by decide +kernel
theorem dX6_use_1 : decode cX6_use 1 = .ok (.iconst 0, 1) := by decide +kernel
theorem dX6_use_2 : decode cX6_use 2 = .ok (.putfield 63, 3) := by decide +kernel
theorem dX6_use_5 : decode cX6_use 5 = .ok (.aload_n 0, 1) := by decide +kernel
theorem dX6_use_6 : decode cX6_use 6 = .ok (.iload_n 1, 1) := by decide +kernel
theorem dX6_use_7 : decode cX6_use 7 = .ok (.invokevirtual 81, 3) := by decide +kernel
theorem dX6_use_10 : decode cX6_use 10 = .ok (.ifCond .eq 21, 3) := by decide +kernel
theorem dX6_use_13 : decode cX6_use 13 = .ok (.aload_n 0, 1) := by decide +kernel
theorem dX6_use_14 : decode cX6_use 14 = .ok (.iload_n 2, 1) := by decide +kernel
theorem dX6_use_15 : decode cX6_use 15 = .ok (.invokevirtual 73, 3) := by decide +kernel
theorem dX6_use_18 : decode cX6_use 18 = .ok (.ifCond .eq 13, 3) := by decide +kernel
theorem dX6_use_21 : decode cX6_use 21 = .ok (.iload_n 3, 1) := by decide +kernel
theorem dX6_use_22 : decode cX6_use 22 = .ok (.iconst 0, 1) := by decide +kernel
theorem dX6_use_23 : decode cX6_use 23 = .ok (.bipush 9, 2) := by decide +kernel
theorem dX6_use_25 : decode cX6_use 25 = .ok (.invokestatic 77, 3) := by decide +kernel
theorem dX6_use_28 : decode cX6_use 28 = .ok (.ifCond .ne 5, 3) := by decide +kernel
theorem dX6_use_31 : decode cX6_use 31 = .ok (.iconst 0, 1) := by decide +kernel
theorem dX6_use_32 : decode cX6_use 32 = .ok (.ireturn, 1) := by decide +kernel
theorem dX6_use_33 : decode cX6_use 33 = .ok (.aload_n 0, 1) := by decide +kernel
theorem dX6_use_34 : decode cX6_use 34 = .ok (.getfield 16, 3) := by decide +kernel
theorem dX6_use_37 : decode cX6_use 37 = .ok (.bipush 8, 2) := by decide +kernel
theorem dX6_use_39 : decode cX6_use 39 = .ok (.iload_n 1, 1) := by decide +kernel
theorem dX6_use_40 : decode cX6_use 40 = .ok (.imul, 1) := by decide +kernel
theorem dX6_use_41 : decode cX6_use 41 = .ok (.iload_n 2, 1) := by decide +kernel
theorem dX6_use_42 : decode cX6_use 42 = .ok (.iadd, 1) := by decide +kernel
theorem dX6_use_43 : decode cX6_use 43 = .ok (.iload_n 3, 1) := by decide +kernel
theorem dX6_use_44 : decode cX6_use 44 = .ok (.iastore, 1) := by decide +kernel
theorem dX6_use_45 : decode cX6_use 45 = .ok (.iconst 1, 1) := by decide +kernel
theorem dX6_use_46 : decode cX6_use 46 = .ok (.ireturn, 1) := by decide +kernel
theorem dX6_feed_0 : decode cX6_feed 0 = .ok (.aload_n 0, 1) := by decide +kernel
theorem dX6_feed_1 : decode cX6_feed 1 = .ok (.iconst 0, 1) := by decide +kernel
theorem dX6_feed_2 : decode cX6_feed 2 = .ok (.putfield 63, 3) := by decide +kernel
theorem dX6_feed_5 : decode cX6_feed 5 = .ok (.aload_n 0, 1) := by decide +kernel
theorem dX6_feed_6 : decode cX6_feed 6 = .ok (.iload_n 1, 1) := by decide +kernel
theorem dX6_feed_7 : decode cX6_feed 7 = .ok (.invokevirtual 81, 3) := by decide +kernel
theorem dX6_feed_10 : decode cX6_feed 10 = .ok (.ifCond .eq 26, 3) := by decide +kernel
theorem dX6_feed_13 : decode cX6_feed 13 = .ok (.aload_n 0, 1) := by decide +kernel
theorem dX6_feed_14 : decode cX6_feed 14 = .ok (.iload_n 2, 1) := by decide +kernel
theorem dX6_feed_15 : decode cX6_feed 15 = .ok (.invokevirtual 81, 3) := by decide +kernel
theorem dX6_feed_18 : decode cX6_feed 18 = .ok (.ifCond .eq 18, 3) := by decide +kernel
theorem dX6_feed_21 : decode cX6_feed 21 = .ok (.iload_n 1, 1) := by decide +kernel
theorem dX6_feed_22 : decode cX6_feed 22 = .ok (.iload_n 2, 1) := by decide +kernel
theorem dX6_feed_23 : decode cX6_feed 23 = .ok (.if_icmp .eq 13, 3) := by decide +kernel
theorem dX6_feed_26 : decode cX6_feed 26 = .ok (.iload_n 3, 1) := by decide +kernel
theorem dX6_feed_27 : decode cX6_feed 27 = .ok (.iconst 0, 1) := by decide +kernel
theorem dX6_feed_28 : decode cX6_feed 28 = .ok (.bipush 9, 2) := by decide +kernel
theorem dX6_feed_30 : decode cX6_feed 30 = .ok (.invokestatic 77, 3) := by decide +kernel
theorem dX6_feed_33 : decode cX6_feed 33 = .ok (.ifCond .ne 5, 3) := by decide +kernel
theorem dX6_feed_36 : decode cX6_feed 36 = .ok (.iconst 0, 1) := by decide +kernel
theorem dX6_feed_37 : decode cX6_feed 37 = .ok (.ireturn, 1) := by decide +kernel
theorem dX6_feed_38 : decode cX6_feed 38 = .ok (.aload_n 0, 1) := by decide +kernel
theorem dX6_feed_39 : decode cX6_feed 39 = .ok (.getfield 19, 3) := by decide +kernel
theorem dX6_feed_42 : decode cX6_feed 42 = .ok (.bipush 6, 2) := by decide +kernel
theorem dX6_feed_44 : decode cX6_feed 44 = .ok (.iload_n 1, 1) := by decide +kernel
theorem dX6_feed_45 : decode cX6_feed 45 = .ok (.imul, 1) := by decide +kernel
theorem dX6_feed_46 : decode cX6_feed 46 = .ok (.iload_n 2, 1) := by decide +kernel
theorem dX6_feed_47 : decode cX6_feed 47 = .ok (.iadd, 1) := by decide +kernel
theorem dX6_feed_48 : decode cX6_feed 48 = .ok (.iload_n 3, 1) := by decide +kernel
theorem dX6_feed_49 : decode cX6_feed 49 = .ok (.iastore, 1) := by decide +kernel
theorem dX6_feed_50 : decode cX6_feed 50 = .ok (.iconst 1, 1) := by decide +kernel
theorem dX6_feed_51 : decode cX6_feed 51 = .ok (.ireturn, 1) := by decide +kernel
theorem dX6_set_0 : decode cX6_set 0 = .ok (.aload_n 0, 1) := by decide +kernel
theorem dX6_set_1 : decode cX6_set 1 = .ok (.iconst 0, 1) := by decide +kernel
theorem dX6_set_2 : decode cX6_set 2 = .ok (.putfield 63, 3) := by decide +kernel
theorem dX6_set_5 : decode cX6_set 5 = .ok (.aload_n 0, 1) := by decide +kernel
theorem dX6_set_6 : decode cX6_set 6 = .ok (.iload_n 1, 1) := by decide +kernel
theorem dX6_set_7 : decode cX6_set 7 = .ok (.invokevirtual 73, 3) := by decide +kernel
theorem dX6_set_10 : decode cX6_set 10 = .ok (.ifCond .eq 13, 3) := by decide +kernel
theorem dX6_set_13 : decode cX6_set 13 = .ok (.aload_n 0, 1) := by decide +kernel
theorem dX6_set_14 : decode cX6_set 14 = .ok (.getfield 28, 3) := by decide +kernel
theorem dX6_set_17 : decode cX6_set 17 = .ok (.iload_n 1, 1) := by decide +kernel
theorem dX6_set_18 : decode cX6_set 18 = .ok (.baload, 1) := by decide +kernel
theorem dX6_set_19 : decode cX6_set 19 = .ok (.iload_n 2, 1) := by decide +kernel
theorem dX6_set_20 : decode cX6_set 20 = .ok (.if_icmp .ne 5, 3) := by decide +kernel
theorem dX6_set_23 : decode cX6_set 23 = .ok (.iconst 0, 1) := by decide +kernel
theorem dX6_set_24 : decode cX6_set 24 = .ok (.ireturn, 1) := by decide +kernel
theorem dX6_set_25 : decode cX6_set 25 = .ok (.aload_n 0, 1) := by decide +kernel
theorem dX6_set_26 : decode cX6_set 26 = .ok (.getfield 28, 3) := by decide +kernel
theorem dX6_set_29 : decode cX6_set 29 = .ok (.iload_n 1, 1) := by decide +kernel
theorem dX6_set_30 : decode cX6_set 30 = .ok (.iload_n 2, 1) := by decide +kernel
theorem dX6_set_31 : decode cX6_set 31 = .ok (.bastore, 1) := by decide +kernel
theorem dX6_set_32 : decode cX6_set 32 = .ok (.iconst 1, 1) := by decide +kernel
theorem dX6_set_33 : decode cX6_set 33 = .ok (.ireturn, 1) := by decide +kernel
theorem dX6_mark_0 : decode cX6_mark 0 = .ok (.aload_n 0, 1) := by decide +kernel
theorem dX6_mark_1 : decode cX6_mark 1 = .ok (.iconst 0, 1) := by decide +kernel
theorem dX6_mark_2 : decode cX6_mark 2 = .ok (.putfield 63, 3) := by decide +kernel
theorem dX6_mark_5 : decode cX6_mark 5 = .ok (.aload_n 0, 1) := by decide +kernel
theorem dX6_mark_6 : decode cX6_mark 6 = .ok (.iload_n 1, 1) := by decide +kernel
theorem dX6_mark_7 : decode cX6_mark 7 = .ok (.invokevirtual 73, 3) := by decide +kernel
theorem dX6_mark_10 : decode cX6_mark 10 = .ok (.ifCond .ne 7, 3) := by decide +kernel
theorem dX6_mark_13 : decode cX6_mark 13 = .ok (.sipush (-20000), 3) := by decide +kernel
theorem dX6_mark_16 : decode cX6_mark 16 = .ok (.ireturn, 1) := by decide +kernel
theorem dX6_mark_17 : decode cX6_mark 17 = .ok (.aload_n 0, 1) := by decide +kernel
theorem dX6_mark_18 : decode cX6_mark 18 = .ok (.getfield 22, 3) := by decide +kernel
theorem dX6_mark_21 : decode cX6_mark 21 = .ok (.iload_n 1, 1) := by decide +kernel
theorem dX6_mark_22 : decode cX6_mark 22 = .ok (.iaload, 1) := by decide +kernel
theorem dX6_mark_23 : decode cX6_mark 23 = .ok (.i2l, 1) := by decide +kernel
theorem dX6_mark_24 : decode cX6_mark 24 = .ok (.iload_n 2, 1) := by decide +kernel
theorem dX6_mark_25 : decode cX6_mark 25 = .ok (.i2l, 1) := by decide +kernel
theorem dX6_mark_26 : decode cX6_mark 26 = .ok (.ladd, 1) := by decide +kernel
theorem dX6_mark_27 : decode cX6_mark 27 = .ok (.lstore_n 3, 1) := by decide +kernel
theorem dX6_mark_28 : decode cX6_mark 28 = .ok (.lload_n 3, 1) := by decide +kernel
theorem dX6_mark_29 : decode cX6_mark 29 = .ok (.ldc2_w 84, 3) := by decide +kernel
theorem dX6_mark_32 : decode cX6_mark 32 = .ok (.lcmp, 1) := by decide +kernel
theorem dX6_mark_33 : decode cX6_mark 33 = .ok (.ifCond .lt 11, 3) := by decide +kernel
theorem dX6_mark_36 : decode cX6_mark 36 = .ok (.lload_n 3, 1) := by decide +kernel
theorem dX6_mark_37 : decode cX6_mark 37 = .ok (.ldc2_w 86, 3) := by decide +kernel
theorem dX6_mark_40 : decode cX6_mark 40 = .ok (.lcmp, 1) := by decide +kernel
theorem dX6_mark_41 : decode cX6_mark 41 = .ok (.ifCond .le 7, 3) := by decide +kernel
theorem dX6_mark_44 : decode cX6_mark 44 = .ok (.sipush (-20000), 3) := by decide +kernel
theorem dX6_mark_47 : decode cX6_mark 47 = .ok (.ireturn, 1) := by decide +kernel
theorem dX6_mark_48 : decode cX6_mark 48 = .ok (.aload_n 0, 1) := by decide +kernel
theorem dX6_mark_49 : decode cX6_mark 49 = .ok (.getfield 22, 3) := by decide +kernel
theorem dX6_mark_52 : decode cX6_mark 52 = .ok (.iload_n 1, 1) := by decide +kernel
theorem dX6_mark_53 : decode cX6_mark 53 = .ok (.lload_n 3, 1) := by decide +kernel
theorem dX6_mark_54 : decode cX6_mark 54 = .ok (.l2i, 1) := by decide +kernel
theorem dX6_mark_55 : decode cX6_mark 55 = .ok (.iastore, 1) := by decide +kernel
theorem dX6_mark_56 : decode cX6_mark 56 = .ok (.aload_n 0, 1) := by decide +kernel
theorem dX6_mark_57 : decode cX6_mark 57 = .ok (.getfield 22, 3) := by decide +kernel
theorem dX6_mark_60 : decode cX6_mark 60 = .ok (.iload_n 1, 1) := by decide +kernel
theorem dX6_mark_61 : decode cX6_mark 61 = .ok (.iaload, 1) := by decide +kernel
theorem dX6_mark_62 : decode cX6_mark 62 = .ok (.ireturn, 1) := by decide +kernel
theorem dX6_thereSet_0 : decode cX6_thereSet 0 = .ok (.iconst 0, 1) := by decide +kernel
theorem dX6_thereSet_1 : decode cX6_thereSet 1 = .ok (.istore_n 1, 1) := by decide +kernel
theorem dX6_thereSet_2 : decode cX6_thereSet 2 = .ok (.iconst 0, 1) := by decide +kernel
theorem dX6_thereSet_3 : decode cX6_thereSet 3 = .ok (.istore_n 2, 1) := by decide +kernel
theorem dX6_thereSet_4 : decode cX6_thereSet 4 = .ok (.iload_n 2, 1) := by decide +kernel
theorem dX6_thereSet_5 : decode cX6_thereSet 5 = .ok (.aload_n 0, 1) := by decide +kernel
theorem dX6_thereSet_6 : decode cX6_thereSet 6 = .ok (.getfield 70, 3) := by decide +kernel
theorem dX6_thereSet_9 : decode cX6_thereSet 9 = .ok (.if_icmp .ge 28, 3) := by decide +kernel
theorem dX6_thereSet_12 : decode cX6_thereSet 12 = .ok (.iload_n 1, 1) := by decide +kernel
theorem dX6_thereSet_13 : decode cX6_thereSet 13 = .ok (.aload_n 0, 1) := by decide +kernel
theorem dX6_thereSet_14 : decode cX6_thereSet 14 = .ok (.getfield 28, 3) := by decide +kernel
theorem dX6_thereSet_17 : decode cX6_thereSet 17 = .ok (.iload_n 2, 1) := by decide +kernel
theorem dX6_thereSet_18 : decode cX6_thereSet 18 = .ok (.baload, 1) := by decide +kernel
theorem dX6_thereSet_19 : decode cX6_thereSet 19 = .ok (.ifCond .eq 9, 3) := by decide +kernel
theorem dX6_thereSet_22 : decode cX6_thereSet 22 = .ok (.iconst 1, 1) := by decide +kernel
theorem dX6_thereSet_23 : decode cX6_thereSet 23 = .ok (.iload_n 2, 1) := by decide +kernel
theorem dX6_thereSet_24 : decode cX6_thereSet 24 = .ok (.ishl, 1) := by decide +kernel
theorem dX6_thereSet_25 : decode cX6_thereSet 25 = .ok (.goto 4, 3) := by decide +kernel
theorem dX6_thereSet_28 : decode cX6_thereSet 28 = .ok (.iconst 0, 1) := by decide +kernel
theorem dX6_thereSet_29 : decode cX6_thereSet 29 = .ok (.ior, 1) := by decide +kernel
theorem dX6_thereSet_30 : decode cX6_thereSet 30 = .ok (.istore_n 1, 1) := by decide +kernel
theorem dX6_thereSet_31 : decode cX6_thereSet 31 = .ok (.iinc 2 1, 3) := by decide +kernel
theorem dX6_thereSet_34 : decode cX6_thereSet 34 = .ok (.goto (-30), 3) := by decide +kernel
theorem dX6_thereSet_37 : decode cX6_thereSet 37 = .ok (.iload_n 1, 1) := by decide +kernel
theorem dX6_thereSet_38 : decode cX6_thereSet 38 = .ok (.ireturn, 1) := by decide +kernel
theorem dX6_neededBy_0 : decode cX6_neededBy 0 = .ok (.iconst 0, 1) := by decide +kernel
theorem dX6_neededBy_1 : decode cX6_neededBy 1 = .ok (.istore_n 2, 1) := by decide +kernel
theorem dX6_neededBy_2 : decode cX6_neededBy 2 = .ok (.iconst 0, 1) := by decide +kernel
theorem dX6_neededBy_3 : decode cX6_neededBy 3 = .ok (.istore_n 3, 1) := by decide +kernel
theorem dX6_neededBy_4 : decode cX6_neededBy 4 = .ok (.iload_n 3, 1) := by decide +kernel
theorem dX6_neededBy_5 : decode cX6_neededBy 5 = .ok (.aload_n 0, 1) := by decide +kernel
theorem dX6_neededBy_6 : decode cX6_neededBy 6 = .ok (.getfield 67, 3) := by decide +kernel
theorem dX6_neededBy_9 : decode cX6_neededBy 9 = .ok (.if_icmp .ge 58, 3) := by decide +kernel
theorem dX6_neededBy_12 : decode cX6_neededBy 12 = .ok (.iconst 0, 1) := by decide +kernel
theorem dX6_neededBy_13 : decode cX6_neededBy 13 = .ok (.istore 4, 2) := by decide +kernel
theorem dX6_neededBy_15 : decode cX6_neededBy 15 = .ok (.iload 4, 2) := by decide +kernel
theorem dX6_neededBy_17 : decode cX6_neededBy 17 = .ok (.aload_n 0, 1) := by decide +kernel
theorem dX6_neededBy_18 : decode cX6_neededBy 18 = .ok (.getfield 70, 3) := by decide +kernel
theorem dX6_neededBy_21 : decode cX6_neededBy 21 = .ok (.if_icmp .ge 40, 3) := by decide +kernel
theorem dX6_neededBy_24 : decode cX6_neededBy 24 = .ok (.iload_n 1, 1) := by decide +kernel
theorem dX6_neededBy_25 : decode cX6_neededBy 25 = .ok (.iload 4, 2) := by decide +kernel
theorem dX6_neededBy_27 : decode cX6_neededBy 27 = .ok (.ishr, 1) := by decide +kernel
theorem dX6_neededBy_28 : decode cX6_neededBy 28 = .ok (.iconst 1, 1) := by decide +kernel
theorem dX6_neededBy_29 : decode cX6_neededBy 29 = .ok (.iand, 1) := by decide +kernel
theorem dX6_neededBy_30 : decode cX6_neededBy 30 = .ok (.iconst 1, 1) := by decide +kernel
theorem dX6_neededBy_31 : decode cX6_neededBy 31 = .ok (.if_icmp .ne 24, 3) := by decide +kernel
theorem dX6_neededBy_34 : decode cX6_neededBy 34 = .ok (.aload_n 0, 1) := by decide +kernel
theorem dX6_neededBy_35 : decode cX6_neededBy 35 = .ok (.getfield 16, 3) := by decide +kernel
theorem dX6_neededBy_38 : decode cX6_neededBy 38 = .ok (.bipush 8, 2) := by decide +kernel
theorem dX6_neededBy_40 : decode cX6_neededBy 40 = .ok (.iload_n 3, 1) := by decide +kernel
theorem dX6_neededBy_41 : decode cX6_neededBy 41 = .ok (.imul, 1) := by decide +kernel
theorem dX6_neededBy_42 : decode cX6_neededBy 42 = .ok (.iload 4, 2) := by decide +kernel
theorem dX6_neededBy_44 : decode cX6_neededBy 44 = .ok (.iadd, 1) := by decide +kernel
theorem dX6_neededBy_45 : decode cX6_neededBy 45 = .ok (.iaload, 1) := by decide +kernel
theorem dX6_neededBy_46 : decode cX6_neededBy 46 = .ok (.ifCond .le 9, 3) := by decide +kernel
theorem dX6_neededBy_49 : decode cX6_neededBy 49 = .ok (.iload_n 2, 1) := by decide +kernel
theorem dX6_neededBy_50 : decode cX6_neededBy 50 = .ok (.iconst 1, 1) := by decide +kernel
theorem dX6_neededBy_51 : decode cX6_neededBy 51 = .ok (.iload_n 3, 1) := by decide +kernel
theorem dX6_neededBy_52 : decode cX6_neededBy 52 = .ok (.ishl, 1) := by decide +kernel
theorem dX6_neededBy_53 : decode cX6_neededBy 53 = .ok (.ior, 1) := by decide +kernel
theorem dX6_neededBy_54 : decode cX6_neededBy 54 = .ok (.istore_n 2, 1) := by decide +kernel
theorem dX6_neededBy_55 : decode cX6_neededBy 55 = .ok (.iinc 4 1, 3) := by decide +kernel
theorem dX6_neededBy_58 : decode cX6_neededBy 58 = .ok (.goto (-43), 3) := by decide +kernel
theorem dX6_neededBy_61 : decode cX6_neededBy 61 = .ok (.iinc 3 1, 3) := by decide +kernel
theorem dX6_neededBy_64 : decode cX6_neededBy 64 = .ok (.goto (-60), 3) := by decide +kernel
theorem dX6_neededBy_67 : decode cX6_neededBy 67 = .ok (.iconst 0, 1) := by decide +kernel
theorem dX6_neededBy_68 : decode cX6_neededBy 68 = .ok (.istore_n 3, 1) := by decide +kernel
theorem dX6_neededBy_69 : decode cX6_neededBy 69 = .ok (.iload_n 3, 1) := by decide +kernel
theorem dX6_neededBy_70 : decode cX6_neededBy 70 = .ok (.aload_n 0, 1) := by decide +kernel
theorem dX6_neededBy_71 : decode cX6_neededBy 71 = .ok (.getfield 67, 3) := by decide +kernel
theorem dX6_neededBy_74 : decode cX6_neededBy 74 = .ok (.if_icmp .ge 78, 3) := by decide +kernel
theorem dX6_neededBy_77 : decode cX6_neededBy 77 = .ok (.iconst 0, 1) := by decide +kernel
theorem dX6_neededBy_78 : decode cX6_neededBy 78 = .ok (.istore 4, 2) := by decide +kernel
theorem dX6_neededBy_80 : decode cX6_neededBy 80 = .ok (.iload 4, 2) := by decide +kernel
theorem dX6_neededBy_82 : decode cX6_neededBy 82 = .ok (.aload_n 0, 1) := by decide +kernel
theorem dX6_neededBy_83 : decode cX6_neededBy 83 = .ok (.getfield 67, 3) := by decide +kernel
theorem dX6_neededBy_86 : decode cX6_neededBy 86 = .ok (.if_icmp .ge 60, 3) := by decide +kernel
theorem dX6_neededBy_89 : decode cX6_neededBy 89 = .ok (.iconst 0, 1) := by decide +kernel
theorem dX6_neededBy_90 : decode cX6_neededBy 90 = .ok (.istore 5, 2) := by decide +kernel
theorem dX6_neededBy_92 : decode cX6_neededBy 92 = .ok (.iload 5, 2) := by decide +kernel
theorem dX6_neededBy_94 : decode cX6_neededBy 94 = .ok (.aload_n 0, 1) := by decide +kernel
theorem dX6_neededBy_95 : decode cX6_neededBy 95 = .ok (.getfield 67, 3) := by decide +kernel
theorem dX6_neededBy_98 : decode cX6_neededBy 98 = .ok (.if_icmp .ge 42, 3) := by decide +kernel
theorem dX6_neededBy_101 : decode cX6_neededBy 101 = .ok (.iload_n 2, 1) := by decide +kernel
theorem dX6_neededBy_102 : decode cX6_neededBy 102 = .ok (.iload 5, 2) := by decide +kernel
theorem dX6_neededBy_104 : decode cX6_neededBy 104 = .ok (.ishr, 1) := by decide +kernel
theorem dX6_neededBy_105 : decode cX6_neededBy 105 = .ok (.iconst 1, 1) := by decide +kernel
theorem dX6_neededBy_106 : decode cX6_neededBy 106 = .ok (.iand, 1) := by decide +kernel
theorem dX6_neededBy_107 : decode cX6_neededBy 107 = .ok (.iconst 1, 1) := by decide +kernel
theorem dX6_neededBy_108 : decode cX6_neededBy 108 = .ok (.if_icmp .ne 26, 3) := by decide +kernel
theorem dX6_neededBy_111 : decode cX6_neededBy 111 = .ok (.aload_n 0, 1) := by decide +kernel
theorem dX6_neededBy_112 : decode cX6_neededBy 112 = .ok (.getfield 19, 3) := by decide +kernel
theorem dX6_neededBy_115 : decode cX6_neededBy 115 = .ok (.bipush 6, 2) := by decide +kernel
theorem dX6_neededBy_117 : decode cX6_neededBy 117 = .ok (.iload 4, 2) := by decide +kernel
theorem dX6_neededBy_119 : decode cX6_neededBy 119 = .ok (.imul, 1) := by decide +kernel
theorem dX6_neededBy_120 : decode cX6_neededBy 120 = .ok (.iload 5, 2) := by decide +kernel
theorem dX6_neededBy_122 : decode cX6_neededBy 122 = .ok (.iadd, 1) := by decide +kernel
theorem dX6_neededBy_123 : decode cX6_neededBy 123 = .ok (.iaload, 1) := by decide +kernel
theorem dX6_neededBy_124 : decode cX6_neededBy 124 = .ok (.ifCond .le 10, 3) := by decide +kernel
theorem dX6_neededBy_127 : decode cX6_neededBy 127 = .ok (.iload_n 2, 1) := by decide +kernel
theorem dX6_neededBy_128 : decode cX6_neededBy 128 = .ok (.iconst 1, 1) := by decide +kernel
theorem dX6_neededBy_129 : decode cX6_neededBy 129 = .ok (.iload 4, 2) := by decide +kernel
theorem dX6_neededBy_131 : decode cX6_neededBy 131 = .ok (.ishl, 1) := by decide +kernel
theorem dX6_neededBy_132 : decode cX6_neededBy 132 = .ok (.ior, 1) := by decide +kernel
theorem dX6_neededBy_133 : decode cX6_neededBy 133 = .ok (.istore_n 2, 1) := by decide +kernel
theorem dX6_neededBy_134 : decode cX6_neededBy 134 = .ok (.iinc 5 1, 3) := by decide +kernel
theorem dX6_neededBy_137 : decode cX6_neededBy 137 = .ok (.goto (-45), 3) := by decide +kernel
theorem dX6_neededBy_140 : decode cX6_neededBy 140 = .ok (.iinc 4 1, 3) := by decide +kernel
theorem dX6_neededBy_143 : decode cX6_neededBy 143 = .ok (.goto (-63), 3) := by decide +kernel
theorem dX6_neededBy_146 : decode cX6_neededBy 146 = .ok (.iinc 3 1, 3) := by decide +kernel
theorem dX6_neededBy_149 : decode cX6_neededBy 149 = .ok (.goto (-80), 3) := by decide +kernel
theorem dX6_neededBy_152 : decode cX6_neededBy 152 = .ok (.iload_n 2, 1) := by decide +kernel
theorem dX6_neededBy_153 : decode cX6_neededBy 153 = .ok (.ireturn, 1) := by decide +kernel
theorem dX6_totalOf_0 : decode cX6_totalOf 0 = .ok (.iconst 0, 1) := by decide +kernel
theorem dX6_totalOf_1 : decode cX6_totalOf 1 = .ok (.istore 4, 2) := by decide +kernel
theorem dX6_totalOf_3 : decode cX6_totalOf 3 = .ok (.iconst 0, 1) := by decide +kernel
theorem dX6_totalOf_4 : decode cX6_totalOf 4 = .ok (.istore 5, 2) := by decide +kernel
theorem dX6_totalOf_6 : decode cX6_totalOf 6 = .ok (.iload 5, 2) := by decide +kernel
theorem dX6_totalOf_8 : decode cX6_totalOf 8 = .ok (.aload_n 0, 1) := by decide +kernel
theorem dX6_totalOf_9 : decode cX6_totalOf 9 = .ok (.getfield 70, 3) := by decide +kernel
theorem dX6_totalOf_12 : decode cX6_totalOf 12 = .ok (.if_icmp .ge 40, 3) := by decide +kernel
theorem dX6_totalOf_15 : decode cX6_totalOf 15 = .ok (.iload 4, 2) := by decide +kernel
theorem dX6_totalOf_17 : decode cX6_totalOf 17 = .ok (.iload_n 2, 1) := by decide +kernel
theorem dX6_totalOf_18 : decode cX6_totalOf 18 = .ok (.iload 5, 2) := by decide +kernel
theorem dX6_totalOf_20 : decode cX6_totalOf 20 = .ok (.ishr, 1) := by decide +kernel
theorem dX6_totalOf_21 : decode cX6_totalOf 21 = .ok (.iconst 1, 1) := by decide +kernel
theorem dX6_totalOf_22 : decode cX6_totalOf 22 = .ok (.iand, 1) := by decide +kernel
theorem dX6_totalOf_23 : decode cX6_totalOf 23 = .ok (.iconst 1, 1) := by decide +kernel
theorem dX6_totalOf_24 : decode cX6_totalOf 24 = .ok (.if_icmp .ne 18, 3) := by decide +kernel
theorem dX6_totalOf_27 : decode cX6_totalOf 27 = .ok (.aload_n 0, 1) := by decide +kernel
theorem dX6_totalOf_28 : decode cX6_totalOf 28 = .ok (.getfield 16, 3) := by decide +kernel
theorem dX6_totalOf_31 : decode cX6_totalOf 31 = .ok (.bipush 8, 2) := by decide +kernel
theorem dX6_totalOf_33 : decode cX6_totalOf 33 = .ok (.iload_n 1, 1) := by decide +kernel
theorem dX6_totalOf_34 : decode cX6_totalOf 34 = .ok (.imul, 1) := by decide +kernel
theorem dX6_totalOf_35 : decode cX6_totalOf 35 = .ok (.iload 5, 2) := by decide +kernel
theorem dX6_totalOf_37 : decode cX6_totalOf 37 = .ok (.iadd, 1) := by decide +kernel
theorem dX6_totalOf_38 : decode cX6_totalOf 38 = .ok (.iaload, 1) := by decide +kernel
theorem dX6_totalOf_39 : decode cX6_totalOf 39 = .ok (.goto 4, 3) := by decide +kernel
theorem dX6_totalOf_42 : decode cX6_totalOf 42 = .ok (.iconst 0, 1) := by decide +kernel
theorem dX6_totalOf_43 : decode cX6_totalOf 43 = .ok (.iadd, 1) := by decide +kernel
theorem dX6_totalOf_44 : decode cX6_totalOf 44 = .ok (.istore 4, 2) := by decide +kernel
theorem dX6_totalOf_46 : decode cX6_totalOf 46 = .ok (.iinc 5 1, 3) := by decide +kernel
theorem dX6_totalOf_49 : decode cX6_totalOf 49 = .ok (.goto (-43), 3) := by decide +kernel
theorem dX6_totalOf_52 : decode cX6_totalOf 52 = .ok (.iconst 0, 1) := by decide +kernel
theorem dX6_totalOf_53 : decode cX6_totalOf 53 = .ok (.istore 5, 2) := by decide +kernel
theorem dX6_totalOf_55 : decode cX6_totalOf 55 = .ok (.iload 5, 2) := by decide +kernel
theorem dX6_totalOf_57 : decode cX6_totalOf 57 = .ok (.aload_n 0, 1) := by decide +kernel
theorem dX6_totalOf_58 : decode cX6_totalOf 58 = .ok (.getfield 67, 3) := by decide +kernel
theorem dX6_totalOf_61 : decode cX6_totalOf 61 = .ok (.if_icmp .ge 40, 3) := by decide +kernel
theorem dX6_totalOf_64 : decode cX6_totalOf 64 = .ok (.iload 4, 2) := by decide +kernel
theorem dX6_totalOf_66 : decode cX6_totalOf 66 = .ok (.iload_n 3, 1) := by decide +kernel
theorem dX6_totalOf_67 : decode cX6_totalOf 67 = .ok (.iload 5, 2) := by decide +kernel
theorem dX6_totalOf_69 : decode cX6_totalOf 69 = .ok (.ishr, 1) := by decide +kernel
theorem dX6_totalOf_70 : decode cX6_totalOf 70 = .ok (.iconst 1, 1) := by decide +kernel
theorem dX6_totalOf_71 : decode cX6_totalOf 71 = .ok (.iand, 1) := by decide +kernel
theorem dX6_totalOf_72 : decode cX6_totalOf 72 = .ok (.iconst 1, 1) := by decide +kernel
theorem dX6_totalOf_73 : decode cX6_totalOf 73 = .ok (.if_icmp .ne 18, 3) := by decide +kernel
theorem dX6_totalOf_76 : decode cX6_totalOf 76 = .ok (.aload_n 0, 1) := by decide +kernel
theorem dX6_totalOf_77 : decode cX6_totalOf 77 = .ok (.getfield 19, 3) := by decide +kernel
theorem dX6_totalOf_80 : decode cX6_totalOf 80 = .ok (.bipush 6, 2) := by decide +kernel
theorem dX6_totalOf_82 : decode cX6_totalOf 82 = .ok (.iload_n 1, 1) := by decide +kernel
theorem dX6_totalOf_83 : decode cX6_totalOf 83 = .ok (.imul, 1) := by decide +kernel
theorem dX6_totalOf_84 : decode cX6_totalOf 84 = .ok (.iload 5, 2) := by decide +kernel
theorem dX6_totalOf_86 : decode cX6_totalOf 86 = .ok (.iadd, 1) := by decide +kernel
theorem dX6_totalOf_87 : decode cX6_totalOf 87 = .ok (.iaload, 1) := by decide +kernel
theorem dX6_totalOf_88 : decode cX6_totalOf 88 = .ok (.goto 4, 3) := by decide +kernel
theorem dX6_totalOf_91 : decode cX6_totalOf 91 = .ok (.iconst 0, 1) := by decide +kernel
theorem dX6_totalOf_92 : decode cX6_totalOf 92 = .ok (.iadd, 1) := by decide +kernel
theorem dX6_totalOf_93 : decode cX6_totalOf 93 = .ok (.istore 4, 2) := by decide +kernel
theorem dX6_totalOf_95 : decode cX6_totalOf 95 = .ok (.iinc 5 1, 3) := by decide +kernel
theorem dX6_totalOf_98 : decode cX6_totalOf 98 = .ok (.goto (-43), 3) := by decide +kernel
theorem dX6_totalOf_101 : decode cX6_totalOf 101 = .ok (.iload 4, 2) := by decide +kernel
theorem dX6_totalOf_103 : decode cX6_totalOf 103 = .ok (.ireturn, 1) := by decide +kernel
theorem dX6_workCost_0 : decode cX6_workCost 0 = .ok (.aload_n 0, 1) := by decide +kernel
theorem dX6_workCost_1 : decode cX6_workCost 1 = .ok (.getfield 9, 3) := by decide +kernel
theorem dX6_workCost_4 : decode cX6_workCost 4 = .ok (.iload_n 1, 1) := by decide +kernel
theorem dX6_workCost_5 : decode cX6_workCost 5 = .ok (.iaload, 1) := by decide +kernel
theorem dX6_workCost_6 : decode cX6_workCost 6 = .ok (.aload_n 0, 1) := by decide +kernel
theorem dX6_workCost_7 : decode cX6_workCost 7 = .ok (.getfield 13, 3) := by decide +kernel
theorem dX6_workCost_10 : decode cX6_workCost 10 = .ok (.iload_n 1, 1) := by decide +kernel
theorem dX6_workCost_11 : decode cX6_workCost 11 = .ok (.iaload, 1) := by decide +kernel
theorem dX6_workCost_12 : decode cX6_workCost 12 = .ok (.iload_n 2, 1) := by decide +kernel
theorem dX6_workCost_13 : decode cX6_workCost 13 = .ok (.bipush 9, 2) := by decide +kernel
theorem dX6_workCost_15 : decode cX6_workCost 15 = .ok (.iadd, 1) := by decide +kernel
theorem dX6_workCost_16 : decode cX6_workCost 16 = .ok (.bipush 10, 2) := by decide +kernel
theorem dX6_workCost_18 : decode cX6_workCost 18 = .ok (.idiv, 1) := by decide +kernel
theorem dX6_workCost_19 : decode cX6_workCost 19 = .ok (.imul, 1) := by decide +kernel
theorem dX6_workCost_20 : decode cX6_workCost 20 = .ok (.iadd, 1) := by decide +kernel
theorem dX6_workCost_21 : decode cX6_workCost 21 = .ok (.ireturn, 1) := by decide +kernel
theorem dX6_costOf_0 : decode cX6_costOf 0 = .ok (.aload_n 0, 1) := by decide +kernel
theorem dX6_costOf_1 : decode cX6_costOf 1 = .ok (.iload_n 1, 1) := by decide +kernel
theorem dX6_costOf_2 : decode cX6_costOf 2 = .ok (.invokevirtual 88, 3) := by decide +kernel
theorem dX6_costOf_5 : decode cX6_costOf 5 = .ok (.istore_n 2, 1) := by decide +kernel
theorem dX6_costOf_6 : decode cX6_costOf 6 = .ok (.iconst 0, 1) := by decide +kernel
theorem dX6_costOf_7 : decode cX6_costOf 7 = .ok (.istore_n 3, 1) := by decide +kernel
theorem dX6_costOf_8 : decode cX6_costOf 8 = .ok (.iconst 0, 1) := by decide +kernel
theorem dX6_costOf_9 : decode cX6_costOf 9 = .ok (.istore 4, 2) := by decide +kernel
theorem dX6_costOf_11 : decode cX6_costOf 11 = .ok (.iload 4, 2) := by decide +kernel
theorem dX6_costOf_13 : decode cX6_costOf 13 = .ok (.aload_n 0, 1) := by decide +kernel
theorem dX6_costOf_14 : decode cX6_costOf 14 = .ok (.getfield 67, 3) := by decide +kernel
theorem dX6_costOf_17 : decode cX6_costOf 17 = .ok (.if_icmp .ge 36, 3) := by decide +kernel
theorem dX6_costOf_20 : decode cX6_costOf 20 = .ok (.iload_n 2, 1) := by decide +kernel
theorem dX6_costOf_21 : decode cX6_costOf 21 = .ok (.iload 4, 2) := by decide +kernel
theorem dX6_costOf_23 : decode cX6_costOf 23 = .ok (.ishr, 1) := by decide +kernel
theorem dX6_costOf_24 : decode cX6_costOf 24 = .ok (.iconst 1, 1) := by decide +kernel
theorem dX6_costOf_25 : decode cX6_costOf 25 = .ok (.iand, 1) := by decide +kernel
theorem dX6_costOf_26 : decode cX6_costOf 26 = .ok (.iconst 1, 1) := by decide +kernel
theorem dX6_costOf_27 : decode cX6_costOf 27 = .ok (.if_icmp .ne 20, 3) := by decide +kernel
theorem dX6_costOf_30 : decode cX6_costOf 30 = .ok (.iload_n 3, 1) := by decide +kernel
theorem dX6_costOf_31 : decode cX6_costOf 31 = .ok (.aload_n 0, 1) := by decide +kernel
theorem dX6_costOf_32 : decode cX6_costOf 32 = .ok (.iload 4, 2) := by decide +kernel
theorem dX6_costOf_34 : decode cX6_costOf 34 = .ok (.aload_n 0, 1) := by decide +kernel
theorem dX6_costOf_35 : decode cX6_costOf 35 = .ok (.iload 4, 2) := by decide +kernel
theorem dX6_costOf_37 : decode cX6_costOf 37 = .ok (.iload_n 1, 1) := by decide +kernel
theorem dX6_costOf_38 : decode cX6_costOf 38 = .ok (.iload_n 2, 1) := by decide +kernel
theorem dX6_costOf_39 : decode cX6_costOf 39 = .ok (.invokevirtual 92, 3) := by decide +kernel
theorem dX6_costOf_42 : decode cX6_costOf 42 = .ok (.invokevirtual 96, 3) := by decide +kernel
theorem dX6_costOf_45 : decode cX6_costOf 45 = .ok (.iadd, 1) := by decide +kernel
theorem dX6_costOf_46 : decode cX6_costOf 46 = .ok (.istore_n 3, 1) := by decide +kernel
theorem dX6_costOf_47 : decode cX6_costOf 47 = .ok (.iinc 4 1, 3) := by decide +kernel
theorem dX6_costOf_50 : decode cX6_costOf 50 = .ok (.goto (-39), 3) := by decide +kernel
theorem dX6_costOf_53 : decode cX6_costOf 53 = .ok (.iload_n 3, 1) := by decide +kernel
theorem dX6_costOf_54 : decode cX6_costOf 54 = .ok (.ireturn, 1) := by decide +kernel
theorem dX6_needed_0 : decode cX6_needed 0 = .ok (.aload_n 0, 1) := by decide +kernel
theorem dX6_needed_1 : decode cX6_needed 1 = .ok (.iconst 0, 1) := by decide +kernel
theorem dX6_needed_2 : decode cX6_needed 2 = .ok (.putfield 63, 3) := by decide +kernel
theorem dX6_needed_5 : decode cX6_needed 5 = .ok (.aload_n 0, 1) := by decide +kernel
theorem dX6_needed_6 : decode cX6_needed 6 = .ok (.aload_n 0, 1) := by decide +kernel
theorem dX6_needed_7 : decode cX6_needed 7 = .ok (.invokevirtual 100, 3) := by decide +kernel
theorem dX6_needed_10 : decode cX6_needed 10 = .ok (.invokevirtual 88, 3) := by decide +kernel
theorem dX6_needed_13 : decode cX6_needed 13 = .ok (.ireturn, 1) := by decide +kernel
theorem dX6_idle_0 : decode cX6_idle 0 = .ok (.aload_n 0, 1) := by decide +kernel
theorem dX6_idle_1 : decode cX6_idle 1 = .ok (.iconst 0, 1) := by decide +kernel
theorem dX6_idle_2 : decode cX6_idle 2 = .ok (.putfield 63, 3) := by decide +kernel
theorem dX6_idle_5 : decode cX6_idle 5 = .ok (.aload_n 0, 1) := by decide +kernel
theorem dX6_idle_6 : decode cX6_idle 6 = .ok (.aload_n 0, 1) := by decide +kernel
theorem dX6_idle_7 : decode cX6_idle 7 = .ok (.invokevirtual 100, 3) := by decide +kernel
theorem dX6_idle_10 : decode cX6_idle 10 = .ok (.invokevirtual 88, 3) := by decide +kernel
theorem dX6_idle_13 : decode cX6_idle 13 = .ok (.istore_n 1, 1) := by decide +kernel
theorem dX6_idle_14 : decode cX6_idle 14 = .ok (.iconst 0, 1) := by decide +kernel
theorem dX6_idle_15 : decode cX6_idle 15 = .ok (.istore_n 2, 1) := by decide +kernel
theorem dX6_idle_16 : decode cX6_idle 16 = .ok (.iconst 0, 1) := by decide +kernel
theorem dX6_idle_17 : decode cX6_idle 17 = .ok (.istore_n 3, 1) := by decide +kernel
theorem dX6_idle_18 : decode cX6_idle 18 = .ok (.iload_n 3, 1) := by decide +kernel
theorem dX6_idle_19 : decode cX6_idle 19 = .ok (.aload_n 0, 1) := by decide +kernel
theorem dX6_idle_20 : decode cX6_idle 20 = .ok (.getfield 67, 3) := by decide +kernel
theorem dX6_idle_23 : decode cX6_idle 23 = .ok (.if_icmp .ge 168, 3) := by decide +kernel
theorem dX6_idle_26 : decode cX6_idle 26 = .ok (.iconst 0, 1) := by decide +kernel
theorem dX6_idle_27 : decode cX6_idle 27 = .ok (.istore 4, 2) := by decide +kernel
theorem dX6_idle_29 : decode cX6_idle 29 = .ok (.iconst 0, 1) := by decide +kernel
theorem dX6_idle_30 : decode cX6_idle 30 = .ok (.istore 5, 2) := by decide +kernel
theorem dX6_idle_32 : decode cX6_idle 32 = .ok (.iload 5, 2) := by decide +kernel
theorem dX6_idle_34 : decode cX6_idle 34 = .ok (.aload_n 0, 1) := by decide +kernel
theorem dX6_idle_35 : decode cX6_idle 35 = .ok (.getfield 67, 3) := by decide +kernel
theorem dX6_idle_38 : decode cX6_idle 38 = .ok (.if_icmp .ge 33, 3) := by decide +kernel
theorem dX6_idle_41 : decode cX6_idle 41 = .ok (.aload_n 0, 1) := by decide +kernel
theorem dX6_idle_42 : decode cX6_idle 42 = .ok (.getfield 19, 3) := by decide +kernel
theorem dX6_idle_45 : decode cX6_idle 45 = .ok (.bipush 6, 2) := by decide +kernel
theorem dX6_idle_47 : decode cX6_idle 47 = .ok (.iload 5, 2) := by decide +kernel
theorem dX6_idle_49 : decode cX6_idle 49 = .ok (.imul, 1) := by decide +kernel
theorem dX6_idle_50 : decode cX6_idle 50 = .ok (.iload_n 3, 1) := by decide +kernel
theorem dX6_idle_51 : decode cX6_idle 51 = .ok (.iadd, 1) := by decide +kernel
theorem dX6_idle_52 : decode cX6_idle 52 = .ok (.iaload, 1) := by decide +kernel
theorem dX6_idle_53 : decode cX6_idle 53 = .ok (.ifCond .le 12, 3) := by decide +kernel
theorem dX6_idle_56 : decode cX6_idle 56 = .ok (.iload 4, 2) := by decide +kernel
theorem dX6_idle_58 : decode cX6_idle 58 = .ok (.iconst 1, 1) := by decide +kernel
theorem dX6_idle_59 : decode cX6_idle 59 = .ok (.iload 5, 2) := by decide +kernel
theorem dX6_idle_61 : decode cX6_idle 61 = .ok (.ishl, 1) := by decide +kernel
theorem dX6_idle_62 : decode cX6_idle 62 = .ok (.ior, 1) := by decide +kernel
theorem dX6_idle_63 : decode cX6_idle 63 = .ok (.istore 4, 2) := by decide +kernel
theorem dX6_idle_65 : decode cX6_idle 65 = .ok (.iinc 5 1, 3) := by decide +kernel
theorem dX6_idle_68 : decode cX6_idle 68 = .ok (.goto (-36), 3) := by decide +kernel
theorem dX6_idle_71 : decode cX6_idle 71 = .ok (.iconst 0, 1) := by decide +kernel
theorem dX6_idle_72 : decode cX6_idle 72 = .ok (.istore 5, 2) := by decide +kernel
theorem dX6_idle_74 : decode cX6_idle 74 = .ok (.iload 5, 2) := by decide +kernel
theorem dX6_idle_76 : decode cX6_idle 76 = .ok (.aload_n 0, 1) := by decide +kernel
theorem dX6_idle_77 : decode cX6_idle 77 = .ok (.getfield 67, 3) := by decide +kernel
theorem dX6_idle_80 : decode cX6_idle 80 = .ok (.if_icmp .ge 81, 3) := by decide +kernel
theorem dX6_idle_83 : decode cX6_idle 83 = .ok (.iconst 0, 1) := by decide +kernel
theorem dX6_idle_84 : decode cX6_idle 84 = .ok (.istore 6, 2) := by decide +kernel
theorem dX6_idle_86 : decode cX6_idle 86 = .ok (.iload 6, 2) := by decide +kernel
theorem dX6_idle_88 : decode cX6_idle 88 = .ok (.aload_n 0, 1) := by decide +kernel
theorem dX6_idle_89 : decode cX6_idle 89 = .ok (.getfield 67, 3) := by decide +kernel
theorem dX6_idle_92 : decode cX6_idle 92 = .ok (.if_icmp .ge 63, 3) := by decide +kernel
theorem dX6_idle_95 : decode cX6_idle 95 = .ok (.iconst 0, 1) := by decide +kernel
theorem dX6_idle_96 : decode cX6_idle 96 = .ok (.istore 7, 2) := by decide +kernel
theorem dX6_idle_98 : decode cX6_idle 98 = .ok (.iload 7, 2) := by decide +kernel
theorem dX6_idle_100 : decode cX6_idle 100 = .ok (.aload_n 0, 1) := by decide +kernel
theorem dX6_idle_101 : decode cX6_idle 101 = .ok (.getfield 67, 3) := by decide +kernel
theorem dX6_idle_104 : decode cX6_idle 104 = .ok (.if_icmp .ge 45, 3) := by decide +kernel
theorem dX6_idle_107 : decode cX6_idle 107 = .ok (.iload 4, 2) := by decide +kernel
theorem dX6_idle_109 : decode cX6_idle 109 = .ok (.iload 7, 2) := by decide +kernel
theorem dX6_idle_111 : decode cX6_idle 111 = .ok (.ishr, 1) := by decide +kernel
theorem dX6_idle_112 : decode cX6_idle 112 = .ok (.iconst 1, 1) := by decide +kernel
theorem dX6_idle_113 : decode cX6_idle 113 = .ok (.iand, 1) := by decide +kernel
theorem dX6_idle_114 : decode cX6_idle 114 = .ok (.iconst 1, 1) := by decide +kernel
theorem dX6_idle_115 : decode cX6_idle 115 = .ok (.if_icmp .ne 28, 3) := by decide +kernel
theorem dX6_idle_118 : decode cX6_idle 118 = .ok (.aload_n 0, 1) := by decide +kernel
theorem dX6_idle_119 : decode cX6_idle 119 = .ok (.getfield 19, 3) := by decide +kernel
theorem dX6_idle_122 : decode cX6_idle 122 = .ok (.bipush 6, 2) := by decide +kernel
theorem dX6_idle_124 : decode cX6_idle 124 = .ok (.iload 6, 2) := by decide +kernel
theorem dX6_idle_126 : decode cX6_idle 126 = .ok (.imul, 1) := by decide +kernel
theorem dX6_idle_127 : decode cX6_idle 127 = .ok (.iload 7, 2) := by decide +kernel
theorem dX6_idle_129 : decode cX6_idle 129 = .ok (.iadd, 1) := by decide +kernel
theorem dX6_idle_130 : decode cX6_idle 130 = .ok (.iaload, 1) := by decide +kernel
theorem dX6_idle_131 : decode cX6_idle 131 = .ok (.ifCond .le 12, 3) := by decide +kernel
theorem dX6_idle_134 : decode cX6_idle 134 = .ok (.iload 4, 2) := by decide +kernel
theorem dX6_idle_136 : decode cX6_idle 136 = .ok (.iconst 1, 1) := by decide +kernel
theorem dX6_idle_137 : decode cX6_idle 137 = .ok (.iload 6, 2) := by decide +kernel
theorem dX6_idle_139 : decode cX6_idle 139 = .ok (.ishl, 1) := by decide +kernel
theorem dX6_idle_140 : decode cX6_idle 140 = .ok (.ior, 1) := by decide +kernel
theorem dX6_idle_141 : decode cX6_idle 141 = .ok (.istore 4, 2) := by decide +kernel
theorem dX6_idle_143 : decode cX6_idle 143 = .ok (.iinc 7 1, 3) := by decide +kernel
theorem dX6_idle_146 : decode cX6_idle 146 = .ok (.goto (-48), 3) := by decide +kernel
theorem dX6_idle_149 : decode cX6_idle 149 = .ok (.iinc 6 1, 3) := by decide +kernel
theorem dX6_idle_152 : decode cX6_idle 152 = .ok (.goto (-66), 3) := by decide +kernel
theorem dX6_idle_155 : decode cX6_idle 155 = .ok (.iinc 5 1, 3) := by decide +kernel
theorem dX6_idle_158 : decode cX6_idle 158 = .ok (.goto (-84), 3) := by decide +kernel
theorem dX6_idle_161 : decode cX6_idle 161 = .ok (.iload_n 1, 1) := by decide +kernel
theorem dX6_idle_162 : decode cX6_idle 162 = .ok (.iload_n 3, 1) := by decide +kernel
theorem dX6_idle_163 : decode cX6_idle 163 = .ok (.ishr, 1) := by decide +kernel
theorem dX6_idle_164 : decode cX6_idle 164 = .ok (.iconst 1, 1) := by decide +kernel
theorem dX6_idle_165 : decode cX6_idle 165 = .ok (.iand, 1) := by decide +kernel
theorem dX6_idle_166 : decode cX6_idle 166 = .ok (.ifCond .ne 19, 3) := by decide +kernel
theorem dX6_idle_169 : decode cX6_idle 169 = .ok (.iload 4, 2) := by decide +kernel
theorem dX6_idle_171 : decode cX6_idle 171 = .ok (.iload_n 3, 1) := by decide +kernel
theorem dX6_idle_172 : decode cX6_idle 172 = .ok (.ishr, 1) := by decide +kernel
theorem dX6_idle_173 : decode cX6_idle 173 = .ok (.iconst 1, 1) := by decide +kernel
theorem dX6_idle_174 : decode cX6_idle 174 = .ok (.iand, 1) := by decide +kernel
theorem dX6_idle_175 : decode cX6_idle 175 = .ok (.iconst 1, 1) := by decide +kernel
theorem dX6_idle_176 : decode cX6_idle 176 = .ok (.if_icmp .ne 9, 3) := by decide +kernel
theorem dX6_idle_179 : decode cX6_idle 179 = .ok (.iload_n 2, 1) := by decide +kernel
theorem dX6_idle_180 : decode cX6_idle 180 = .ok (.iconst 1, 1) := by decide +kernel
theorem dX6_idle_181 : decode cX6_idle 181 = .ok (.iload_n 3, 1) := by decide +kernel
theorem dX6_idle_182 : decode cX6_idle 182 = .ok (.ishl, 1) := by decide +kernel
theorem dX6_idle_183 : decode cX6_idle 183 = .ok (.ior, 1) := by decide +kernel
theorem dX6_idle_184 : decode cX6_idle 184 = .ok (.istore_n 2, 1) := by decide +kernel
theorem dX6_idle_185 : decode cX6_idle 185 = .ok (.iinc 3 1, 3) := by decide +kernel
theorem dX6_idle_188 : decode cX6_idle 188 = .ok (.goto (-170), 3) := by decide +kernel
theorem dX6_idle_191 : decode cX6_idle 191 = .ok (.iload_n 2, 1) := by decide +kernel
theorem dX6_idle_192 : decode cX6_idle 192 = .ok (.ireturn, 1) := by decide +kernel
theorem dX6_total_0 : decode cX6_total 0 = .ok (.aload_n 0, 1) := by decide +kernel
theorem dX6_total_1 : decode cX6_total 1 = .ok (.iconst 0, 1) := by decide +kernel
theorem dX6_total_2 : decode cX6_total 2 = .ok (.putfield 63, 3) := by decide +kernel
theorem dX6_total_5 : decode cX6_total 5 = .ok (.aload_n 0, 1) := by decide +kernel
theorem dX6_total_6 : decode cX6_total 6 = .ok (.invokevirtual 100, 3) := by decide +kernel
theorem dX6_total_9 : decode cX6_total 9 = .ok (.istore_n 2, 1) := by decide +kernel
theorem dX6_total_10 : decode cX6_total 10 = .ok (.aload_n 0, 1) := by decide +kernel
theorem dX6_total_11 : decode cX6_total 11 = .ok (.iload_n 2, 1) := by decide +kernel
theorem dX6_total_12 : decode cX6_total 12 = .ok (.invokevirtual 88, 3) := by decide +kernel
theorem dX6_total_15 : decode cX6_total 15 = .ok (.istore_n 3, 1) := by decide +kernel
theorem dX6_total_16 : decode cX6_total 16 = .ok (.aload_n 0, 1) := by decide +kernel
theorem dX6_total_17 : decode cX6_total 17 = .ok (.iload_n 1, 1) := by decide +kernel
theorem dX6_total_18 : decode cX6_total 18 = .ok (.invokevirtual 81, 3) := by decide +kernel
theorem dX6_total_21 : decode cX6_total 21 = .ok (.ifCond .eq 22, 3) := by decide +kernel
theorem dX6_total_24 : decode cX6_total 24 = .ok (.iload_n 3, 1) := by decide +kernel
theorem dX6_total_25 : decode cX6_total 25 = .ok (.iload_n 1, 1) := by decide +kernel
theorem dX6_total_26 : decode cX6_total 26 = .ok (.ishr, 1) := by decide +kernel
theorem dX6_total_27 : decode cX6_total 27 = .ok (.iconst 1, 1) := by decide +kernel
theorem dX6_total_28 : decode cX6_total 28 = .ok (.iand, 1) := by decide +kernel
theorem dX6_total_29 : decode cX6_total 29 = .ok (.iconst 1, 1) := by decide +kernel
theorem dX6_total_30 : decode cX6_total 30 = .ok (.if_icmp .ne 13, 3) := by decide +kernel
theorem dX6_total_33 : decode cX6_total 33 = .ok (.aload_n 0, 1) := by decide +kernel
theorem dX6_total_34 : decode cX6_total 34 = .ok (.iload_n 1, 1) := by decide +kernel
theorem dX6_total_35 : decode cX6_total 35 = .ok (.iload_n 2, 1) := by decide +kernel
theorem dX6_total_36 : decode cX6_total 36 = .ok (.iload_n 3, 1) := by decide +kernel
theorem dX6_total_37 : decode cX6_total 37 = .ok (.invokevirtual 92, 3) := by decide +kernel
theorem dX6_total_40 : decode cX6_total 40 = .ok (.goto 4, 3) := by decide +kernel
theorem dX6_total_43 : decode cX6_total 43 = .ok (.iconst (-1), 1) := by decide +kernel
theorem dX6_total_44 : decode cX6_total 44 = .ok (.ireturn, 1) := by decide +kernel
theorem dX6_cost_0 : decode cX6_cost 0 = .ok (.aload_n 0, 1) := by decide +kernel
theorem dX6_cost_1 : decode cX6_cost 1 = .ok (.iconst 0, 1) := by decide +kernel
theorem dX6_cost_2 : decode cX6_cost 2 = .ok (.putfield 63, 3) := by decide +kernel
theorem dX6_cost_5 : decode cX6_cost 5 = .ok (.iload_n 1, 1) := by decide +kernel
theorem dX6_cost_6 : decode cX6_cost 6 = .ok (.iconst 0, 1) := by decide +kernel
theorem dX6_cost_7 : decode cX6_cost 7 = .ok (.iconst 1, 1) := by decide +kernel
theorem dX6_cost_8 : decode cX6_cost 8 = .ok (.aload_n 0, 1) := by decide +kernel
theorem dX6_cost_9 : decode cX6_cost 9 = .ok (.getfield 70, 3) := by decide +kernel
theorem dX6_cost_12 : decode cX6_cost 12 = .ok (.ishl, 1) := by decide +kernel
theorem dX6_cost_13 : decode cX6_cost 13 = .ok (.iconst 1, 1) := by decide +kernel
theorem dX6_cost_14 : decode cX6_cost 14 = .ok (.isub, 1) := by decide +kernel
theorem dX6_cost_15 : decode cX6_cost 15 = .ok (.invokestatic 77, 3) := by decide +kernel
theorem dX6_cost_18 : decode cX6_cost 18 = .ok (.ifCond .eq 11, 3) := by decide +kernel
theorem dX6_cost_21 : decode cX6_cost 21 = .ok (.aload_n 0, 1) := by decide +kernel
theorem dX6_cost_22 : decode cX6_cost 22 = .ok (.iload_n 1, 1) := by decide +kernel
theorem dX6_cost_23 : decode cX6_cost 23 = .ok (.invokevirtual 104, 3) := by decide +kernel
theorem dX6_cost_26 : decode cX6_cost 26 = .ok (.goto 4, 3) := by decide +kernel
theorem dX6_cost_29 : decode cX6_cost 29 = .ok (.iconst (-1), 1) := by decide +kernel
theorem dX6_cost_30 : decode cX6_cost 30 = .ok (.ireturn, 1) := by decide +kernel
theorem dX6_determinant_0 : decode cX6_determinant 0 = .ok (.iload_n 1, 1) := by decide +kernel
theorem dX6_determinant_1 : decode cX6_determinant 1 = .ok (.aload_n 0, 1) := by decide +kernel
theorem dX6_determinant_2 : decode cX6_determinant 2 = .ok (.getfield 107, 3) := by decide +kernel
theorem dX6_determinant_5 : decode cX6_determinant 5 = .ok (.if_icmp .ne 5, 3) := by decide +kernel
theorem dX6_determinant_8 : decode cX6_determinant 8 = .ok (.lconst 1, 1) := by decide +kernel
theorem dX6_determinant_9 : decode cX6_determinant 9 = .ok (.lreturn, 1) := by decide +kernel
theorem dX6_determinant_10 : decode cX6_determinant 10 = .ok (.lconst 0, 1) := by decide +kernel
theorem dX6_determinant_11 : decode cX6_determinant 11 = .ok (.lstore 4, 2) := by decide +kernel
theorem dX6_determinant_13 : decode cX6_determinant 13 = .ok (.iconst 1, 1) := by decide +kernel
theorem dX6_determinant_14 : decode cX6_determinant 14 = .ok (.istore 6, 2) := by decide +kernel
theorem dX6_determinant_16 : decode cX6_determinant 16 = .ok (.iconst 0, 1) := by decide +kernel
theorem dX6_determinant_17 : decode cX6_determinant 17 = .ok (.istore 7, 2) := by decide +kernel
theorem dX6_determinant_19 : decode cX6_determinant 19 = .ok (.iload 7, 2) := by decide +kernel
theorem dX6_determinant_21 : decode cX6_determinant 21 = .ok (.aload_n 0, 1) := by decide +kernel
theorem dX6_determinant_22 : decode cX6_determinant 22 = .ok (.getfield 107, 3) := by decide +kernel
theorem dX6_determinant_25 : decode cX6_determinant 25 = .ok (.if_icmp .ge 89, 3) := by decide +kernel
theorem dX6_determinant_28 : decode cX6_determinant 28 = .ok (.iload_n 2, 1) := by decide +kernel
theorem dX6_determinant_29 : decode cX6_determinant 29 = .ok (.iload 7, 2) := by decide +kernel
theorem dX6_determinant_31 : decode cX6_determinant 31 = .ok (.ishr, 1) := by decide +kernel
theorem dX6_determinant_32 : decode cX6_determinant 32 = .ok (.iconst 1, 1) := by decide +kernel
theorem dX6_determinant_33 : decode cX6_determinant 33 = .ok (.iand, 1) := by decide +kernel
theorem dX6_determinant_34 : decode cX6_determinant 34 = .ok (.iconst 1, 1) := by decide +kernel
theorem dX6_determinant_35 : decode cX6_determinant 35 = .ok (.if_icmp .ne 6, 3) := by decide +kernel
theorem dX6_determinant_38 : decode cX6_determinant 38 = .ok (.goto 70, 3) := by decide +kernel
theorem dX6_determinant_41 : decode cX6_determinant 41 = .ok (.iload 7, 2) := by decide +kernel
theorem dX6_determinant_43 : decode cX6_determinant 43 = .ok (.iload_n 3, 1) := by decide +kernel
theorem dX6_determinant_44 : decode cX6_determinant 44 = .ok (.if_icmp .ne 12, 3) := by decide +kernel
theorem dX6_determinant_47 : decode cX6_determinant 47 = .ok (.aload_n 0, 1) := by decide +kernel
theorem dX6_determinant_48 : decode cX6_determinant 48 = .ok (.getfield 48, 3) := by decide +kernel
theorem dX6_determinant_51 : decode cX6_determinant 51 = .ok (.iload_n 1, 1) := by decide +kernel
theorem dX6_determinant_52 : decode cX6_determinant 52 = .ok (.laload, 1) := by decide +kernel
theorem dX6_determinant_53 : decode cX6_determinant 53 = .ok (.goto 15, 3) := by decide +kernel
theorem dX6_determinant_56 : decode cX6_determinant 56 = .ok (.aload_n 0, 1) := by decide +kernel
theorem dX6_determinant_57 : decode cX6_determinant 57 = .ok (.getfield 44, 3) := by decide +kernel
theorem dX6_determinant_60 : decode cX6_determinant 60 = .ok (.bipush 6, 2) := by decide +kernel
theorem dX6_determinant_62 : decode cX6_determinant 62 = .ok (.iload_n 1, 1) := by decide +kernel
theorem dX6_determinant_63 : decode cX6_determinant 63 = .ok (.imul, 1) := by decide +kernel
theorem dX6_determinant_64 : decode cX6_determinant 64 = .ok (.iload 7, 2) := by decide +kernel
theorem dX6_determinant_66 : decode cX6_determinant 66 = .ok (.iadd, 1) := by decide +kernel
theorem dX6_determinant_67 : decode cX6_determinant 67 = .ok (.laload, 1) := by decide +kernel
theorem dX6_determinant_68 : decode cX6_determinant 68 = .ok (.lstore 8, 2) := by decide +kernel
theorem dX6_determinant_70 : decode cX6_determinant 70 = .ok (.lload 8, 2) := by decide +kernel
theorem dX6_determinant_72 : decode cX6_determinant 72 = .ok (.lconst 0, 1) := by decide +kernel
theorem dX6_determinant_73 : decode cX6_determinant 73 = .ok (.lcmp, 1) := by decide +kernel
theorem dX6_determinant_74 : decode cX6_determinant 74 = .ok (.ifCond .eq 29, 3) := by decide +kernel
theorem dX6_determinant_77 : decode cX6_determinant 77 = .ok (.lload 4, 2) := by decide +kernel
theorem dX6_determinant_79 : decode cX6_determinant 79 = .ok (.iload 6, 2) := by decide +kernel
theorem dX6_determinant_81 : decode cX6_determinant 81 = .ok (.i2l, 1) := by decide +kernel
theorem dX6_determinant_82 : decode cX6_determinant 82 = .ok (.lload 8, 2) := by decide +kernel
theorem dX6_determinant_84 : decode cX6_determinant 84 = .ok (.lmul, 1) := by decide +kernel
theorem dX6_determinant_85 : decode cX6_determinant 85 = .ok (.aload_n 0, 1) := by decide +kernel
theorem dX6_determinant_86 : decode cX6_determinant 86 = .ok (.iload_n 1, 1) := by decide +kernel
theorem dX6_determinant_87 : decode cX6_determinant 87 = .ok (.iconst 1, 1) := by decide +kernel
theorem dX6_determinant_88 : decode cX6_determinant 88 = .ok (.iadd, 1) := by decide +kernel
theorem dX6_determinant_89 : decode cX6_determinant 89 = .ok (.iload_n 2, 1) := by decide +kernel
theorem dX6_determinant_90 : decode cX6_determinant 90 = .ok (.iconst 1, 1) := by decide +kernel
theorem dX6_determinant_91 : decode cX6_determinant 91 = .ok (.iload 7, 2) := by decide +kernel
theorem dX6_determinant_93 : decode cX6_determinant 93 = .ok (.ishl, 1) := by decide +kernel
theorem dX6_determinant_94 : decode cX6_determinant 94 = .ok (.ior, 1) := by decide +kernel
theorem dX6_determinant_95 : decode cX6_determinant 95 = .ok (.iload_n 3, 1) := by decide +kernel
theorem dX6_determinant_96 : decode cX6_determinant 96 = .ok (.invokevirtual 110, 3) := by decide +kernel
theorem dX6_determinant_99 : decode cX6_determinant 99 = .ok (.lmul, 1) := by decide +kernel
theorem dX6_determinant_100 : decode cX6_determinant 100 = .ok (.ladd, 1) := by decide +kernel
theorem dX6_determinant_101 : decode cX6_determinant 101 = .ok (.lstore 4, 2) := by decide +kernel
theorem dX6_determinant_103 : decode cX6_determinant 103 = .ok (.iload 6, 2) := by decide +kernel
theorem dX6_determinant_105 : decode cX6_determinant 105 = .ok (.ineg, 1) := by decide +kernel
theorem dX6_determinant_106 : decode cX6_determinant 106 = .ok (.istore 6, 2) := by decide +kernel
theorem dX6_determinant_108 : decode cX6_determinant 108 = .ok (.iinc 7 1, 3) := by decide +kernel
theorem dX6_determinant_111 : decode cX6_determinant 111 = .ok (.goto (-92), 3) := by decide +kernel
theorem dX6_determinant_114 : decode cX6_determinant 114 = .ok (.lload 4, 2) := by decide +kernel
theorem dX6_determinant_116 : decode cX6_determinant 116 = .ok (.lreturn, 1) := by decide +kernel
theorem dX6_prices_0 : decode cX6_prices 0 = .ok (.aload_n 0, 1) := by decide +kernel
theorem dX6_prices_1 : decode cX6_prices 1 = .ok (.invokevirtual 100, 3) := by decide +kernel
theorem dX6_prices_4 : decode cX6_prices 4 = .ok (.istore_n 1, 1) := by decide +kernel
theorem dX6_prices_5 : decode cX6_prices 5 = .ok (.aload_n 0, 1) := by decide +kernel
theorem dX6_prices_6 : decode cX6_prices 6 = .ok (.iload_n 1, 1) := by decide +kernel
theorem dX6_prices_7 : decode cX6_prices 7 = .ok (.invokevirtual 88, 3) := by decide +kernel
theorem dX6_prices_10 : decode cX6_prices 10 = .ok (.istore_n 2, 1) := by decide +kernel
theorem dX6_prices_11 : decode cX6_prices 11 = .ok (.aload_n 0, 1) := by decide +kernel
theorem dX6_prices_12 : decode cX6_prices 12 = .ok (.iconst 0, 1) := by decide +kernel
theorem dX6_prices_13 : decode cX6_prices 13 = .ok (.putfield 107, 3) := by decide +kernel
theorem dX6_prices_16 : decode cX6_prices 16 = .ok (.iconst 0, 1) := by decide +kernel
theorem dX6_prices_17 : decode cX6_prices 17 = .ok (.istore_n 3, 1) := by decide +kernel
theorem dX6_prices_18 : decode cX6_prices 18 = .ok (.iload_n 3, 1) := by decide +kernel
theorem dX6_prices_19 : decode cX6_prices 19 = .ok (.aload_n 0, 1) := by decide +kernel
theorem dX6_prices_20 : decode cX6_prices 20 = .ok (.getfield 67, 3) := by decide +kernel
theorem dX6_prices_23 : decode cX6_prices 23 = .ok (.if_icmp .ge 47, 3) := by decide +kernel
theorem dX6_prices_26 : decode cX6_prices 26 = .ok (.aload_n 0, 1) := by decide +kernel
theorem dX6_prices_27 : decode cX6_prices 27 = .ok (.getfield 51, 3) := by decide +kernel
theorem dX6_prices_30 : decode cX6_prices 30 = .ok (.iload_n 3, 1) := by decide +kernel
theorem dX6_prices_31 : decode cX6_prices 31 = .ok (.lconst 0, 1) := by decide +kernel
theorem dX6_prices_32 : decode cX6_prices 32 = .ok (.lastore, 1) := by decide +kernel
theorem dX6_prices_33 : decode cX6_prices 33 = .ok (.iload_n 2, 1) := by decide +kernel
theorem dX6_prices_34 : decode cX6_prices 34 = .ok (.iload_n 3, 1) := by decide +kernel
theorem dX6_prices_35 : decode cX6_prices 35 = .ok (.ishr, 1) := by decide +kernel
theorem dX6_prices_36 : decode cX6_prices 36 = .ok (.iconst 1, 1) := by decide +kernel
theorem dX6_prices_37 : decode cX6_prices 37 = .ok (.iand, 1) := by decide +kernel
theorem dX6_prices_38 : decode cX6_prices 38 = .ok (.ifCond .ne 6, 3) := by decide +kernel
theorem dX6_prices_41 : decode cX6_prices 41 = .ok (.goto 23, 3) := by decide +kernel
theorem dX6_prices_44 : decode cX6_prices 44 = .ok (.aload_n 0, 1) := by decide +kernel
theorem dX6_prices_45 : decode cX6_prices 45 = .ok (.getfield 41, 3) := by decide +kernel
theorem dX6_prices_48 : decode cX6_prices 48 = .ok (.aload_n 0, 1) := by decide +kernel
theorem dX6_prices_49 : decode cX6_prices 49 = .ok (.getfield 107, 3) := by decide +kernel
theorem dX6_prices_52 : decode cX6_prices 52 = .ok (.iload_n 3, 1) := by decide +kernel
theorem dX6_prices_53 : decode cX6_prices 53 = .ok (.iastore, 1) := by decide +kernel
theorem dX6_prices_54 : decode cX6_prices 54 = .ok (.aload_n 0, 1) := by decide +kernel
theorem dX6_prices_55 : decode cX6_prices 55 = .ok (.dup, 1) := by decide +kernel
theorem dX6_prices_56 : decode cX6_prices 56 = .ok (.getfield 107, 3) := by decide +kernel
theorem dX6_prices_59 : decode cX6_prices 59 = .ok (.iconst 1, 1) := by decide +kernel
theorem dX6_prices_60 : decode cX6_prices 60 = .ok (.iadd, 1) := by decide +kernel
theorem dX6_prices_61 : decode cX6_prices 61 = .ok (.putfield 107, 3) := by decide +kernel
theorem dX6_prices_64 : decode cX6_prices 64 = .ok (.iinc 3 1, 3) := by decide +kernel
theorem dX6_prices_67 : decode cX6_prices 67 = .ok (.goto (-49), 3) := by decide +kernel
theorem dX6_prices_70 : decode cX6_prices 70 = .ok (.iconst 0, 1) := by decide +kernel
theorem dX6_prices_71 : decode cX6_prices 71 = .ok (.istore_n 3, 1) := by decide +kernel
theorem dX6_prices_72 : decode cX6_prices 72 = .ok (.iload_n 3, 1) := by decide +kernel
theorem dX6_prices_73 : decode cX6_prices 73 = .ok (.aload_n 0, 1) := by decide +kernel
theorem dX6_prices_74 : decode cX6_prices 74 = .ok (.getfield 107, 3) := by decide +kernel
theorem dX6_prices_77 : decode cX6_prices 77 = .ok (.if_icmp .ge 104, 3) := by decide +kernel
theorem dX6_prices_80 : decode cX6_prices 80 = .ok (.aload_n 0, 1) := by decide +kernel
theorem dX6_prices_81 : decode cX6_prices 81 = .ok (.getfield 41, 3) := by decide +kernel
theorem dX6_prices_84 : decode cX6_prices 84 = .ok (.iload_n 3, 1) := by decide +kernel
theorem dX6_prices_85 : decode cX6_prices 85 = .ok (.iaload, 1) := by decide +kernel
theorem dX6_prices_86 : decode cX6_prices 86 = .ok (.istore 4, 2) := by decide +kernel
theorem dX6_prices_88 : decode cX6_prices 88 = .ok (.aload_n 0, 1) := by decide +kernel
theorem dX6_prices_89 : decode cX6_prices 89 = .ok (.iload 4, 2) := by decide +kernel
theorem dX6_prices_91 : decode cX6_prices 91 = .ok (.iload_n 1, 1) := by decide +kernel
theorem dX6_prices_92 : decode cX6_prices 92 = .ok (.iload_n 2, 1) := by decide +kernel
theorem dX6_prices_93 : decode cX6_prices 93 = .ok (.invokevirtual 92, 3) := by decide +kernel
theorem dX6_prices_96 : decode cX6_prices 96 = .ok (.istore 5, 2) := by decide +kernel
theorem dX6_prices_98 : decode cX6_prices 98 = .ok (.aload_n 0, 1) := by decide +kernel
theorem dX6_prices_99 : decode cX6_prices 99 = .ok (.getfield 48, 3) := by decide +kernel
theorem dX6_prices_102 : decode cX6_prices 102 = .ok (.iload_n 3, 1) := by decide +kernel
theorem dX6_prices_103 : decode cX6_prices 103 = .ok (.aload_n 0, 1) := by decide +kernel
theorem dX6_prices_104 : decode cX6_prices 104 = .ok (.iload 4, 2) := by decide +kernel
theorem dX6_prices_106 : decode cX6_prices 106 = .ok (.iload 5, 2) := by decide +kernel
theorem dX6_prices_108 : decode cX6_prices 108 = .ok (.invokevirtual 96, 3) := by decide +kernel
theorem dX6_prices_111 : decode cX6_prices 111 = .ok (.i2l, 1) := by decide +kernel
theorem dX6_prices_112 : decode cX6_prices 112 = .ok (.lastore, 1) := by decide +kernel
theorem dX6_prices_113 : decode cX6_prices 113 = .ok (.iconst 0, 1) := by decide +kernel
theorem dX6_prices_114 : decode cX6_prices 114 = .ok (.istore 6, 2) := by decide +kernel
theorem dX6_prices_116 : decode cX6_prices 116 = .ok (.iload 6, 2) := by decide +kernel
theorem dX6_prices_118 : decode cX6_prices 118 = .ok (.aload_n 0, 1) := by decide +kernel
theorem dX6_prices_119 : decode cX6_prices 119 = .ok (.getfield 107, 3) := by decide +kernel
theorem dX6_prices_122 : decode cX6_prices 122 = .ok (.if_icmp .ge 53, 3) := by decide +kernel
theorem dX6_prices_125 : decode cX6_prices 125 = .ok (.aload_n 0, 1) := by decide +kernel
theorem dX6_prices_126 : decode cX6_prices 126 = .ok (.getfield 44, 3) := by decide +kernel
theorem dX6_prices_129 : decode cX6_prices 129 = .ok (.bipush 6, 2) := by decide +kernel
theorem dX6_prices_131 : decode cX6_prices 131 = .ok (.iload_n 3, 1) := by decide +kernel
theorem dX6_prices_132 : decode cX6_prices 132 = .ok (.imul, 1) := by decide +kernel
theorem dX6_prices_133 : decode cX6_prices 133 = .ok (.iload 6, 2) := by decide +kernel
theorem dX6_prices_135 : decode cX6_prices 135 = .ok (.iadd, 1) := by decide +kernel
theorem dX6_prices_136 : decode cX6_prices 136 = .ok (.iload_n 3, 1) := by decide +kernel
theorem dX6_prices_137 : decode cX6_prices 137 = .ok (.iload 6, 2) := by decide +kernel
theorem dX6_prices_139 : decode cX6_prices 139 = .ok (.if_icmp .ne 9, 3) := by decide +kernel
theorem dX6_prices_142 : decode cX6_prices 142 = .ok (.iload 5, 2) := by decide +kernel
theorem dX6_prices_144 : decode cX6_prices 144 = .ok (.i2l, 1) := by decide +kernel
theorem dX6_prices_145 : decode cX6_prices 145 = .ok (.goto 23, 3) := by decide +kernel
theorem dX6_prices_148 : decode cX6_prices 148 = .ok (.aload_n 0, 1) := by decide +kernel
theorem dX6_prices_149 : decode cX6_prices 149 = .ok (.getfield 19, 3) := by decide +kernel
theorem dX6_prices_152 : decode cX6_prices 152 = .ok (.bipush 6, 2) := by decide +kernel
theorem dX6_prices_154 : decode cX6_prices 154 = .ok (.aload_n 0, 1) := by decide +kernel
theorem dX6_prices_155 : decode cX6_prices 155 = .ok (.getfield 41, 3) := by decide +kernel
theorem dX6_prices_158 : decode cX6_prices 158 = .ok (.iload 6, 2) := by decide +kernel
theorem dX6_prices_160 : decode cX6_prices 160 = .ok (.iaload, 1) := by decide +kernel
theorem dX6_prices_161 : decode cX6_prices 161 = .ok (.imul, 1) := by decide +kernel
theorem dX6_prices_162 : decode cX6_prices 162 = .ok (.iload 4, 2) := by decide +kernel
theorem dX6_prices_164 : decode cX6_prices 164 = .ok (.iadd, 1) := by decide +kernel
theorem dX6_prices_165 : decode cX6_prices 165 = .ok (.iaload, 1) := by decide +kernel
theorem dX6_prices_166 : decode cX6_prices 166 = .ok (.ineg, 1) := by decide +kernel
theorem dX6_prices_167 : decode cX6_prices 167 = .ok (.i2l, 1) := by decide +kernel
theorem dX6_prices_168 : decode cX6_prices 168 = .ok (.lastore, 1) := by decide +kernel
theorem dX6_prices_169 : decode cX6_prices 169 = .ok (.iinc 6 1, 3) := by decide +kernel
theorem dX6_prices_172 : decode cX6_prices 172 = .ok (.goto (-56), 3) := by decide +kernel
theorem dX6_prices_175 : decode cX6_prices 175 = .ok (.iinc 3 1, 3) := by decide +kernel
theorem dX6_prices_178 : decode cX6_prices 178 = .ok (.goto (-106), 3) := by decide +kernel
theorem dX6_prices_181 : decode cX6_prices 181 = .ok (.aload_n 0, 1) := by decide +kernel
theorem dX6_prices_182 : decode cX6_prices 182 = .ok (.aload_n 0, 1) := by decide +kernel
theorem dX6_prices_183 : decode cX6_prices 183 = .ok (.iconst 0, 1) := by decide +kernel
theorem dX6_prices_184 : decode cX6_prices 184 = .ok (.iconst 0, 1) := by decide +kernel
theorem dX6_prices_185 : decode cX6_prices 185 = .ok (.iconst (-1), 1) := by decide +kernel
theorem dX6_prices_186 : decode cX6_prices 186 = .ok (.invokevirtual 110, 3) := by decide +kernel
theorem dX6_prices_189 : decode cX6_prices 189 = .ok (.putfield 114, 3) := by decide +kernel
theorem dX6_prices_192 : decode cX6_prices 192 = .ok (.iconst 0, 1) := by decide +kernel
theorem dX6_prices_193 : decode cX6_prices 193 = .ok (.istore_n 3, 1) := by decide +kernel
theorem dX6_prices_194 : decode cX6_prices 194 = .ok (.iload_n 3, 1) := by decide +kernel
theorem dX6_prices_195 : decode cX6_prices 195 = .ok (.aload_n 0, 1) := by decide +kernel
theorem dX6_prices_196 : decode cX6_prices 196 = .ok (.getfield 107, 3) := by decide +kernel
theorem dX6_prices_199 : decode cX6_prices 199 = .ok (.if_icmp .ge 27, 3) := by decide +kernel
theorem dX6_prices_202 : decode cX6_prices 202 = .ok (.aload_n 0, 1) := by decide +kernel
theorem dX6_prices_203 : decode cX6_prices 203 = .ok (.getfield 51, 3) := by decide +kernel
theorem dX6_prices_206 : decode cX6_prices 206 = .ok (.aload_n 0, 1) := by decide +kernel
theorem dX6_prices_207 : decode cX6_prices 207 = .ok (.getfield 41, 3) := by decide +kernel
theorem dX6_prices_210 : decode cX6_prices 210 = .ok (.iload_n 3, 1) := by decide +kernel
theorem dX6_prices_211 : decode cX6_prices 211 = .ok (.iaload, 1) := by decide +kernel
theorem dX6_prices_212 : decode cX6_prices 212 = .ok (.aload_n 0, 1) := by decide +kernel
theorem dX6_prices_213 : decode cX6_prices 213 = .ok (.iconst 0, 1) := by decide +kernel
theorem dX6_prices_214 : decode cX6_prices 214 = .ok (.iconst 0, 1) := by decide +kernel
theorem dX6_prices_215 : decode cX6_prices 215 = .ok (.iload_n 3, 1) := by decide +kernel
theorem dX6_prices_216 : decode cX6_prices 216 = .ok (.invokevirtual 110, 3) := by decide +kernel
theorem dX6_prices_219 : decode cX6_prices 219 = .ok (.lastore, 1) := by decide +kernel
theorem dX6_prices_220 : decode cX6_prices 220 = .ok (.iinc 3 1, 3) := by decide +kernel
theorem dX6_prices_223 : decode cX6_prices 223 = .ok (.goto (-29), 3) := by decide +kernel
theorem dX6_prices_226 : decode cX6_prices 226 = .ok (.return_, 1) := by decide +kernel
theorem dX6_common_0 : decode cX6_common 0 = .ok (.lload_n 0, 1) := by decide +kernel
theorem dX6_common_1 : decode cX6_common 1 = .ok (.invokestatic 118, 3) := by decide +kernel
theorem dX6_common_4 : decode cX6_common 4 = .ok (.lstore 4, 2) := by decide +kernel
theorem dX6_common_6 : decode cX6_common 6 = .ok (.lload_n 2, 1) := by decide +kernel
theorem dX6_common_7 : decode cX6_common 7 = .ok (.invokestatic 118, 3) := by decide +kernel
theorem dX6_common_10 : decode cX6_common 10 = .ok (.lstore 6, 2) := by decide +kernel
theorem dX6_common_12 : decode cX6_common 12 = .ok (.lload 6, 2) := by decide +kernel
theorem dX6_common_14 : decode cX6_common 14 = .ok (.lconst 0, 1) := by decide +kernel
theorem dX6_common_15 : decode cX6_common 15 = .ok (.lcmp, 1) := by decide +kernel
theorem dX6_common_16 : decode cX6_common 16 = .ok (.ifCond .eq 21, 3) := by decide +kernel
theorem dX6_common_19 : decode cX6_common 19 = .ok (.lload 4, 2) := by decide +kernel
theorem dX6_common_21 : decode cX6_common 21 = .ok (.lload 6, 2) := by decide +kernel
theorem dX6_common_23 : decode cX6_common 23 = .ok (.lrem, 1) := by decide +kernel
theorem dX6_common_24 : decode cX6_common 24 = .ok (.lstore 8, 2) := by decide +kernel
theorem dX6_common_26 : decode cX6_common 26 = .ok (.lload 6, 2) := by decide +kernel
theorem dX6_common_28 : decode cX6_common 28 = .ok (.lstore 4, 2) := by decide +kernel
theorem dX6_common_30 : decode cX6_common 30 = .ok (.lload 8, 2) := by decide +kernel
theorem dX6_common_32 : decode cX6_common 32 = .ok (.lstore 6, 2) := by decide +kernel
theorem dX6_common_34 : decode cX6_common 34 = .ok (.goto (-22), 3) := by decide +kernel
theorem dX6_common_37 : decode cX6_common 37 = .ok (.lload 4, 2) := by decide +kernel
theorem dX6_common_39 : decode cX6_common 39 = .ok (.lreturn, 1) := by decide +kernel
theorem dX6_part_0 : decode cX6_part 0 = .ok (.lload_n 0, 1) := by decide +kernel
theorem dX6_part_1 : decode cX6_part 1 = .ok (.lload_n 2, 1) := by decide +kernel
theorem dX6_part_2 : decode cX6_part 2 = .ok (.invokestatic 124, 3) := by decide +kernel
theorem dX6_part_5 : decode cX6_part 5 = .ok (.lstore 5, 2) := by decide +kernel
theorem dX6_part_7 : decode cX6_part 7 = .ok (.iload 4, 2) := by decide +kernel
theorem dX6_part_9 : decode cX6_part 9 = .ok (.ifCond .ne 10, 3) := by decide +kernel
theorem dX6_part_12 : decode cX6_part 12 = .ok (.lload_n 0, 1) := by decide +kernel
theorem dX6_part_13 : decode cX6_part 13 = .ok (.lload 5, 2) := by decide +kernel
theorem dX6_part_15 : decode cX6_part 15 = .ok (.ldiv, 1) := by decide +kernel
theorem dX6_part_16 : decode cX6_part 16 = .ok (.goto 7, 3) := by decide +kernel
theorem dX6_part_19 : decode cX6_part 19 = .ok (.lload_n 2, 1) := by decide +kernel
theorem dX6_part_20 : decode cX6_part 20 = .ok (.lload 5, 2) := by decide +kernel
theorem dX6_part_22 : decode cX6_part 22 = .ok (.ldiv, 1) := by decide +kernel
theorem dX6_part_23 : decode cX6_part 23 = .ok (.lreturn, 1) := by decide +kernel
theorem dX6_price_0 : decode cX6_price 0 = .ok (.aload_n 0, 1) := by decide +kernel
theorem dX6_price_1 : decode cX6_price 1 = .ok (.iconst 0, 1) := by decide +kernel
theorem dX6_price_2 : decode cX6_price 2 = .ok (.putfield 63, 3) := by decide +kernel
theorem dX6_price_5 : decode cX6_price 5 = .ok (.aload_n 0, 1) := by decide +kernel
theorem dX6_price_6 : decode cX6_price 6 = .ok (.iload_n 1, 1) := by decide +kernel
theorem dX6_price_7 : decode cX6_price 7 = .ok (.invokevirtual 81, 3) := by decide +kernel
theorem dX6_price_10 : decode cX6_price 10 = .ok (.ifCond .eq 27, 3) := by decide +kernel
theorem dX6_price_13 : decode cX6_price 13 = .ok (.iload_n 2, 1) := by decide +kernel
theorem dX6_price_14 : decode cX6_price 14 = .ok (.iconst 0, 1) := by decide +kernel
theorem dX6_price_15 : decode cX6_price 15 = .ok (.iconst 1, 1) := by decide +kernel
theorem dX6_price_16 : decode cX6_price 16 = .ok (.invokestatic 77, 3) := by decide +kernel
theorem dX6_price_19 : decode cX6_price 19 = .ok (.ifCond .eq 18, 3) := by decide +kernel
theorem dX6_price_22 : decode cX6_price 22 = .ok (.aload_n 0, 1) := by decide +kernel
theorem dX6_price_23 : decode cX6_price 23 = .ok (.aload_n 0, 1) := by decide +kernel
theorem dX6_price_24 : decode cX6_price 24 = .ok (.invokevirtual 100, 3) := by decide +kernel
theorem dX6_price_27 : decode cX6_price 27 = .ok (.invokevirtual 88, 3) := by decide +kernel
theorem dX6_price_30 : decode cX6_price 30 = .ok (.iload_n 1, 1) := by decide +kernel
theorem dX6_price_31 : decode cX6_price 31 = .ok (.ishr, 1) := by decide +kernel
theorem dX6_price_32 : decode cX6_price 32 = .ok (.iconst 1, 1) := by decide +kernel
theorem dX6_price_33 : decode cX6_price 33 = .ok (.iand, 1) := by decide +kernel
theorem dX6_price_34 : decode cX6_price 34 = .ok (.ifCond .ne 7, 3) := by decide +kernel
theorem dX6_price_37 : decode cX6_price 37 = .ok (.ldc2_w 128, 3) := by decide +kernel
theorem dX6_price_40 : decode cX6_price 40 = .ok (.lreturn, 1) := by decide +kernel
theorem dX6_price_41 : decode cX6_price 41 = .ok (.aload_n 0, 1) := by decide +kernel
theorem dX6_price_42 : decode cX6_price 42 = .ok (.invokevirtual 130, 3) := by decide +kernel
theorem dX6_price_45 : decode cX6_price 45 = .ok (.aload_n 0, 1) := by decide +kernel
theorem dX6_price_46 : decode cX6_price 46 = .ok (.getfield 51, 3) := by decide +kernel
theorem dX6_price_49 : decode cX6_price 49 = .ok (.iload_n 1, 1) := by decide +kernel
theorem dX6_price_50 : decode cX6_price 50 = .ok (.laload, 1) := by decide +kernel
theorem dX6_price_51 : decode cX6_price 51 = .ok (.aload_n 0, 1) := by decide +kernel
theorem dX6_price_52 : decode cX6_price 52 = .ok (.getfield 114, 3) := by decide +kernel
theorem dX6_price_55 : decode cX6_price 55 = .ok (.iload_n 2, 1) := by decide +kernel
theorem dX6_price_56 : decode cX6_price 56 = .ok (.invokestatic 133, 3) := by decide +kernel
theorem dX6_price_59 : decode cX6_price 59 = .ok (.lreturn, 1) := by decide +kernel
theorem dX6_bills_0 : decode cX6_bills 0 = .ok (.aload_n 0, 1) := by decide +kernel
theorem dX6_bills_1 : decode cX6_bills 1 = .ok (.aload_n 0, 1) := by decide +kernel
theorem dX6_bills_2 : decode cX6_bills 2 = .ok (.invokevirtual 100, 3) := by decide +kernel
theorem dX6_bills_5 : decode cX6_bills 5 = .ok (.putfield 137, 3) := by decide +kernel
theorem dX6_bills_8 : decode cX6_bills 8 = .ok (.iconst 0, 1) := by decide +kernel
theorem dX6_bills_9 : decode cX6_bills 9 = .ok (.istore_n 2, 1) := by decide +kernel
theorem dX6_bills_10 : decode cX6_bills 10 = .ok (.iload_n 2, 1) := by decide +kernel
theorem dX6_bills_11 : decode cX6_bills 11 = .ok (.aload_n 0, 1) := by decide +kernel
theorem dX6_bills_12 : decode cX6_bills 12 = .ok (.getfield 70, 3) := by decide +kernel
theorem dX6_bills_15 : decode cX6_bills 15 = .ok (.if_icmp .ge 16, 3) := by decide +kernel
theorem dX6_bills_18 : decode cX6_bills 18 = .ok (.aload_n 0, 1) := by decide +kernel
theorem dX6_bills_19 : decode cX6_bills 19 = .ok (.getfield 54, 3) := by decide +kernel
theorem dX6_bills_22 : decode cX6_bills 22 = .ok (.iload_n 2, 1) := by decide +kernel
theorem dX6_bills_23 : decode cX6_bills 23 = .ok (.lconst 0, 1) := by decide +kernel
theorem dX6_bills_24 : decode cX6_bills 24 = .ok (.lastore, 1) := by decide +kernel
theorem dX6_bills_25 : decode cX6_bills 25 = .ok (.iinc 2 1, 3) := by decide +kernel
theorem dX6_bills_28 : decode cX6_bills 28 = .ok (.goto (-18), 3) := by decide +kernel
theorem dX6_bills_31 : decode cX6_bills 31 = .ok (.aload_n 0, 1) := by decide +kernel
theorem dX6_bills_32 : decode cX6_bills 32 = .ok (.lconst 1, 1) := by decide +kernel
theorem dX6_bills_33 : decode cX6_bills 33 = .ok (.putfield 140, 3) := by decide +kernel
theorem dX6_bills_36 : decode cX6_bills 36 = .ok (.iload_n 1, 1) := by decide +kernel
theorem dX6_bills_37 : decode cX6_bills 37 = .ok (.ifCond .ne 87, 3) := by decide +kernel
theorem dX6_bills_40 : decode cX6_bills 40 = .ok (.aload_n 0, 1) := by decide +kernel
theorem dX6_bills_41 : decode cX6_bills 41 = .ok (.invokevirtual 130, 3) := by decide +kernel
theorem dX6_bills_44 : decode cX6_bills 44 = .ok (.aload_n 0, 1) := by decide +kernel
theorem dX6_bills_45 : decode cX6_bills 45 = .ok (.aload_n 0, 1) := by decide +kernel
theorem dX6_bills_46 : decode cX6_bills 46 = .ok (.getfield 114, 3) := by decide +kernel
theorem dX6_bills_49 : decode cX6_bills 49 = .ok (.putfield 140, 3) := by decide +kernel
theorem dX6_bills_52 : decode cX6_bills 52 = .ok (.iconst 0, 1) := by decide +kernel
theorem dX6_bills_53 : decode cX6_bills 53 = .ok (.istore_n 2, 1) := by decide +kernel
theorem dX6_bills_54 : decode cX6_bills 54 = .ok (.iload_n 2, 1) := by decide +kernel
theorem dX6_bills_55 : decode cX6_bills 55 = .ok (.aload_n 0, 1) := by decide +kernel
theorem dX6_bills_56 : decode cX6_bills 56 = .ok (.getfield 70, 3) := by decide +kernel
theorem dX6_bills_59 : decode cX6_bills 59 = .ok (.if_icmp .ge 62, 3) := by decide +kernel
theorem dX6_bills_62 : decode cX6_bills 62 = .ok (.iconst 0, 1) := by decide +kernel
theorem dX6_bills_63 : decode cX6_bills 63 = .ok (.istore_n 3, 1) := by decide +kernel
theorem dX6_bills_64 : decode cX6_bills 64 = .ok (.iload_n 3, 1) := by decide +kernel
theorem dX6_bills_65 : decode cX6_bills 65 = .ok (.aload_n 0, 1) := by decide +kernel
theorem dX6_bills_66 : decode cX6_bills 66 = .ok (.getfield 67, 3) := by decide +kernel
theorem dX6_bills_69 : decode cX6_bills 69 = .ok (.if_icmp .ge 46, 3) := by decide +kernel
theorem dX6_bills_72 : decode cX6_bills 72 = .ok (.aload_n 0, 1) := by decide +kernel
theorem dX6_bills_73 : decode cX6_bills 73 = .ok (.getfield 28, 3) := by decide +kernel
theorem dX6_bills_76 : decode cX6_bills 76 = .ok (.iload_n 2, 1) := by decide +kernel
theorem dX6_bills_77 : decode cX6_bills 77 = .ok (.baload, 1) := by decide +kernel
theorem dX6_bills_78 : decode cX6_bills 78 = .ok (.ifCond .eq 31, 3) := by decide +kernel
theorem dX6_bills_81 : decode cX6_bills 81 = .ok (.aload_n 0, 1) := by decide +kernel
theorem dX6_bills_82 : decode cX6_bills 82 = .ok (.getfield 54, 3) := by decide +kernel
theorem dX6_bills_85 : decode cX6_bills 85 = .ok (.iload_n 2, 1) := by decide +kernel
theorem dX6_bills_86 : decode cX6_bills 86 = .ok (.dup2, 1) := by decide +kernel
theorem dX6_bills_87 : decode cX6_bills 87 = .ok (.laload, 1) := by decide +kernel
theorem dX6_bills_88 : decode cX6_bills 88 = .ok (.aload_n 0, 1) := by decide +kernel
theorem dX6_bills_89 : decode cX6_bills 89 = .ok (.getfield 16, 3) := by decide +kernel
theorem dX6_bills_92 : decode cX6_bills 92 = .ok (.bipush 8, 2) := by decide +kernel
theorem dX6_bills_94 : decode cX6_bills 94 = .ok (.iload_n 3, 1) := by decide +kernel
theorem dX6_bills_95 : decode cX6_bills 95 = .ok (.imul, 1) := by decide +kernel
theorem dX6_bills_96 : decode cX6_bills 96 = .ok (.iload_n 2, 1) := by decide +kernel
theorem dX6_bills_97 : decode cX6_bills 97 = .ok (.iadd, 1) := by decide +kernel
theorem dX6_bills_98 : decode cX6_bills 98 = .ok (.iaload, 1) := by decide +kernel
theorem dX6_bills_99 : decode cX6_bills 99 = .ok (.i2l, 1) := by decide +kernel
theorem dX6_bills_100 : decode cX6_bills 100 = .ok (.aload_n 0, 1) := by decide +kernel
theorem dX6_bills_101 : decode cX6_bills 101 = .ok (.getfield 51, 3) := by decide +kernel
theorem dX6_bills_104 : decode cX6_bills 104 = .ok (.iload_n 3, 1) := by decide +kernel
theorem dX6_bills_105 : decode cX6_bills 105 = .ok (.laload, 1) := by decide +kernel
theorem dX6_bills_106 : decode cX6_bills 106 = .ok (.lmul, 1) := by decide +kernel
theorem dX6_bills_107 : decode cX6_bills 107 = .ok (.ladd, 1) := by decide +kernel
theorem dX6_bills_108 : decode cX6_bills 108 = .ok (.lastore, 1) := by decide +kernel
theorem dX6_bills_109 : decode cX6_bills 109 = .ok (.iinc 3 1, 3) := by decide +kernel
theorem dX6_bills_112 : decode cX6_bills 112 = .ok (.goto (-48), 3) := by decide +kernel
theorem dX6_bills_115 : decode cX6_bills 115 = .ok (.iinc 2 1, 3) := by decide +kernel
theorem dX6_bills_118 : decode cX6_bills 118 = .ok (.goto (-64), 3) := by decide +kernel
theorem dX6_bills_121 : decode cX6_bills 121 = .ok (.goto 178, 3) := by decide +kernel
theorem dX6_bills_124 : decode cX6_bills 124 = .ok (.iload_n 1, 1) := by decide +kernel
theorem dX6_bills_125 : decode cX6_bills 125 = .ok (.iconst 1, 1) := by decide +kernel
theorem dX6_bills_126 : decode cX6_bills 126 = .ok (.if_icmp .ne 122, 3) := by decide +kernel
theorem dX6_bills_129 : decode cX6_bills 129 = .ok (.lconst 0, 1) := by decide +kernel
theorem dX6_bills_130 : decode cX6_bills 130 = .ok (.lstore_n 2, 1) := by decide +kernel
theorem dX6_bills_131 : decode cX6_bills 131 = .ok (.iconst 0, 1) := by decide +kernel
theorem dX6_bills_132 : decode cX6_bills 132 = .ok (.istore 4, 2) := by decide +kernel
theorem dX6_bills_134 : decode cX6_bills 134 = .ok (.iload 4, 2) := by decide +kernel
theorem dX6_bills_136 : decode cX6_bills 136 = .ok (.aload_n 0, 1) := by decide +kernel
theorem dX6_bills_137 : decode cX6_bills 137 = .ok (.getfield 70, 3) := by decide +kernel
theorem dX6_bills_140 : decode cX6_bills 140 = .ok (.if_icmp .ge 35, 3) := by decide +kernel
theorem dX6_bills_143 : decode cX6_bills 143 = .ok (.lload_n 2, 1) := by decide +kernel
theorem dX6_bills_144 : decode cX6_bills 144 = .ok (.aload_n 0, 1) := by decide +kernel
theorem dX6_bills_145 : decode cX6_bills 145 = .ok (.getfield 28, 3) := by decide +kernel
theorem dX6_bills_148 : decode cX6_bills 148 = .ok (.iload 4, 2) := by decide +kernel
theorem dX6_bills_150 : decode cX6_bills 150 = .ok (.baload, 1) := by decide +kernel
theorem dX6_bills_151 : decode cX6_bills 151 = .ok (.ifCond .eq 15, 3) := by decide +kernel
theorem dX6_bills_154 : decode cX6_bills 154 = .ok (.aload_n 0, 1) := by decide +kernel
theorem dX6_bills_155 : decode cX6_bills 155 = .ok (.iconst 1, 1) := by decide +kernel
theorem dX6_bills_156 : decode cX6_bills 156 = .ok (.iload 4, 2) := by decide +kernel
theorem dX6_bills_158 : decode cX6_bills 158 = .ok (.ishl, 1) := by decide +kernel
theorem dX6_bills_159 : decode cX6_bills 159 = .ok (.invokevirtual 104, 3) := by decide +kernel
theorem dX6_bills_162 : decode cX6_bills 162 = .ok (.i2l, 1) := by decide +kernel
theorem dX6_bills_163 : decode cX6_bills 163 = .ok (.goto 4, 3) := by decide +kernel
theorem dX6_bills_166 : decode cX6_bills 166 = .ok (.lconst 0, 1) := by decide +kernel
theorem dX6_bills_167 : decode cX6_bills 167 = .ok (.ladd, 1) := by decide +kernel
theorem dX6_bills_168 : decode cX6_bills 168 = .ok (.lstore_n 2, 1) := by decide +kernel
theorem dX6_bills_169 : decode cX6_bills 169 = .ok (.iinc 4 1, 3) := by decide +kernel
theorem dX6_bills_172 : decode cX6_bills 172 = .ok (.goto (-38), 3) := by decide +kernel
theorem dX6_bills_175 : decode cX6_bills 175 = .ok (.lload_n 2, 1) := by decide +kernel
theorem dX6_bills_176 : decode cX6_bills 176 = .ok (.lconst 0, 1) := by decide +kernel
theorem dX6_bills_177 : decode cX6_bills 177 = .ok (.lcmp, 1) := by decide +kernel
theorem dX6_bills_178 : decode cX6_bills 178 = .ok (.ifCond .ne 4, 3) := by decide +kernel
theorem dX6_bills_181 : decode cX6_bills 181 = .ok (.return_, 1) := by decide +kernel
theorem dX6_bills_182 : decode cX6_bills 182 = .ok (.aload_n 0, 1) := by decide +kernel
theorem dX6_bills_183 : decode cX6_bills 183 = .ok (.lload_n 2, 1) := by decide +kernel
theorem dX6_bills_184 : decode cX6_bills 184 = .ok (.putfield 140, 3) := by decide +kernel
theorem dX6_bills_187 : decode cX6_bills 187 = .ok (.iconst 0, 1) := by decide +kernel
theorem dX6_bills_188 : decode cX6_bills 188 = .ok (.istore 4, 2) := by decide +kernel
theorem dX6_bills_190 : decode cX6_bills 190 = .ok (.iload 4, 2) := by decide +kernel
theorem dX6_bills_192 : decode cX6_bills 192 = .ok (.aload_n 0, 1) := by decide +kernel
theorem dX6_bills_193 : decode cX6_bills 193 = .ok (.getfield 70, 3) := by decide +kernel
theorem dX6_bills_196 : decode cX6_bills 196 = .ok (.if_icmp .ge 49, 3) := by decide +kernel
theorem dX6_bills_199 : decode cX6_bills 199 = .ok (.aload_n 0, 1) := by decide +kernel
theorem dX6_bills_200 : decode cX6_bills 200 = .ok (.getfield 54, 3) := by decide +kernel
theorem dX6_bills_203 : decode cX6_bills 203 = .ok (.iload 4, 2) := by decide +kernel
theorem dX6_bills_205 : decode cX6_bills 205 = .ok (.aload_n 0, 1) := by decide +kernel
theorem dX6_bills_206 : decode cX6_bills 206 = .ok (.getfield 28, 3) := by decide +kernel
theorem dX6_bills_209 : decode cX6_bills 209 = .ok (.iload 4, 2) := by decide +kernel
theorem dX6_bills_211 : decode cX6_bills 211 = .ok (.baload, 1) := by decide +kernel
theorem dX6_bills_212 : decode cX6_bills 212 = .ok (.ifCond .eq 25, 3) := by decide +kernel
theorem dX6_bills_215 : decode cX6_bills 215 = .ok (.aload_n 0, 1) := by decide +kernel
theorem dX6_bills_216 : decode cX6_bills 216 = .ok (.aload_n 0, 1) := by decide +kernel
theorem dX6_bills_217 : decode cX6_bills 217 = .ok (.getfield 137, 3) := by decide +kernel
theorem dX6_bills_220 : decode cX6_bills 220 = .ok (.invokevirtual 104, 3) := by decide +kernel
theorem dX6_bills_223 : decode cX6_bills 223 = .ok (.i2l, 1) := by decide +kernel
theorem dX6_bills_224 : decode cX6_bills 224 = .ok (.aload_n 0, 1) := by decide +kernel
theorem dX6_bills_225 : decode cX6_bills 225 = .ok (.iconst 1, 1) := by decide +kernel
theorem dX6_bills_226 : decode cX6_bills 226 = .ok (.iload 4, 2) := by decide +kernel
theorem dX6_bills_228 : decode cX6_bills 228 = .ok (.ishl, 1) := by decide +kernel
theorem dX6_bills_229 : decode cX6_bills 229 = .ok (.invokevirtual 104, 3) := by decide +kernel
theorem dX6_bills_232 : decode cX6_bills 232 = .ok (.i2l, 1) := by decide +kernel
theorem dX6_bills_233 : decode cX6_bills 233 = .ok (.lmul, 1) := by decide +kernel
theorem dX6_bills_234 : decode cX6_bills 234 = .ok (.goto 4, 3) := by decide +kernel
theorem dX6_bills_237 : decode cX6_bills 237 = .ok (.lconst 0, 1) := by decide +kernel
theorem dX6_bills_238 : decode cX6_bills 238 = .ok (.lastore, 1) := by decide +kernel
theorem dX6_bills_239 : decode cX6_bills 239 = .ok (.iinc 4 1, 3) := by decide +kernel
theorem dX6_bills_242 : decode cX6_bills 242 = .ok (.goto (-52), 3) := by decide +kernel
theorem dX6_bills_245 : decode cX6_bills 245 = .ok (.goto 54, 3) := by decide +kernel
theorem dX6_bills_248 : decode cX6_bills 248 = .ok (.iconst 0, 1) := by decide +kernel
theorem dX6_bills_249 : decode cX6_bills 249 = .ok (.istore_n 2, 1) := by decide +kernel
theorem dX6_bills_250 : decode cX6_bills 250 = .ok (.iload_n 2, 1) := by decide +kernel
theorem dX6_bills_251 : decode cX6_bills 251 = .ok (.sipush 256, 3) := by decide +kernel
theorem dX6_bills_254 : decode cX6_bills 254 = .ok (.if_icmp .ge 35, 3) := by decide +kernel
theorem dX6_bills_257 : decode cX6_bills 257 = .ok (.aload_n 0, 1) := by decide +kernel
theorem dX6_bills_258 : decode cX6_bills 258 = .ok (.getfield 57, 3) := by decide +kernel
theorem dX6_bills_261 : decode cX6_bills 261 = .ok (.iload_n 2, 1) := by decide +kernel
theorem dX6_bills_262 : decode cX6_bills 262 = .ok (.iload_n 2, 1) := by decide +kernel
theorem dX6_bills_263 : decode cX6_bills 263 = .ok (.aload_n 0, 1) := by decide +kernel
theorem dX6_bills_264 : decode cX6_bills 264 = .ok (.getfield 137, 3) := by decide +kernel
theorem dX6_bills_267 : decode cX6_bills 267 = .ok (.iconst (-1), 1) := by decide +kernel
theorem dX6_bills_268 : decode cX6_bills 268 = .ok (.ixor, 1) := by decide +kernel
theorem dX6_bills_269 : decode cX6_bills 269 = .ok (.iand, 1) := by decide +kernel
theorem dX6_bills_270 : decode cX6_bills 270 = .ok (.ifCond .ne 11, 3) := by decide +kernel
theorem dX6_bills_273 : decode cX6_bills 273 = .ok (.aload_n 0, 1) := by decide +kernel
theorem dX6_bills_274 : decode cX6_bills 274 = .ok (.iload_n 2, 1) := by decide +kernel
theorem dX6_bills_275 : decode cX6_bills 275 = .ok (.invokevirtual 104, 3) := by decide +kernel
theorem dX6_bills_278 : decode cX6_bills 278 = .ok (.goto 4, 3) := by decide +kernel
theorem dX6_bills_281 : decode cX6_bills 281 = .ok (.iconst 0, 1) := by decide +kernel
theorem dX6_bills_282 : decode cX6_bills 282 = .ok (.iastore, 1) := by decide +kernel
theorem dX6_bills_283 : decode cX6_bills 283 = .ok (.iinc 2 1, 3) := by decide +kernel
