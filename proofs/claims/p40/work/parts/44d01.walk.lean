theorem dX9_column_0 : decode cX9_column 0 = .ok (.iload_n 1, 1) := by decide +kernel
theorem dX9_column_1 : decode cX9_column 1 = .ok (.ifCond .lt 19, 3) := by decide +kernel
theorem dX9_column_4 : decode cX9_column 4 = .ok (.iload_n 1, 1) := by decide +kernel
theorem dX9_column_5 : decode cX9_column 5 = .ok (.iconst 2, 1) := by decide +kernel
theorem dX9_column_6 : decode cX9_column 6 = .ok (.if_icmp .gt 14, 3) := by decide +kernel
theorem dX9_column_9 : decode cX9_column 9 = .ok (.iload_n 2, 1) := by decide +kernel
theorem dX9_column_10 : decode cX9_column 10 = .ok (.iconst 1, 1) := by decide +kernel
theorem dX9_column_11 : decode cX9_column 11 = .ok (.if_icmp .lt 9, 3) := by decide +kernel
theorem dX9_column_14 : decode cX9_column 14 = .ok (.iload_n 2, 1) := by decide +kernel
theorem dX9_column_15 : decode cX9_column 15 = .ok (.bipush 60, 2) := by decide +kernel
theorem dX9_column_17 : decode cX9_column 17 = .ok (.if_icmp .le 13, 3) := by decide +kernel
theorem dX9_column_20 : decode cX9_column 20 = .ok (.new 69, 3) := by decide +kernel
theorem dX9_column_23 : decode cX9_column 23 = .ok (.dup, 1) := by decide +kernel
theorem dX9_column_24 : decode cX9_column 24 = .ok (.ldc 71, 2) := by decide +kernel
theorem dX9_column_26 : decode cX9_column 26 = .ok (.invokespecial 73, 3) := by decide +kernel
theorem dX9_column_29 : decode cX9_column 29 = .ok (.athrow, 1) := by decide +kernel
theorem dX9_column_30 : decode cX9_column 30 = .ok (.aload_n 0, 1) := by decide +kernel
theorem dX9_column_31 : decode cX9_column 31 = .ok (.getfield 12, 3) := by decide +kernel
theorem dX9_column_34 : decode cX9_column 34 = .ok (.getfield 76, 3) := by decide +kernel
theorem dX9_column_37 : decode cX9_column 37 = .ok (.invokevirtual 80, 3) := by decide +kernel
theorem dX9_column_40 : decode cX9_column 40 = .ok (.bipush 6, 2) := by decide +kernel
theorem dX9_column_42 : decode cX9_column 42 = .ok (.if_icmp .ge 16, 3) := by decide +kernel
theorem dX9_column_45 : decode cX9_column 45 = .ok (.aload_n 0, 1) := by decide +kernel
theorem dX9_column_46 : decode cX9_column 46 = .ok (.getfield 12, 3) := by decide +kernel
theorem dX9_column_49 : decode cX9_column 49 = .ok (.getfield 86, 3) := by decide +kernel
theorem dX9_column_52 : decode cX9_column 52 = .ok (.invokevirtual 89, 3) := by decide +kernel
theorem dX9_column_55 : decode cX9_column 55 = .ok (.ifCond .ne 13, 3) := by decide +kernel
theorem dX9_column_58 : decode cX9_column 58 = .ok (.new 93, 3) := by decide +kernel
theorem dX9_column_61 : decode cX9_column 61 = .ok (.dup, 1) := by decide +kernel
theorem dX9_column_62 : decode cX9_column 62 = .ok (.ldc 95, 2) := by decide +kernel
theorem dX9_column_64 : decode cX9_column 64 = .ok (.invokespecial 97, 3) := by decide +kernel
theorem dX9_column_67 : decode cX9_column 67 = .ok (.athrow, 1) := by decide +kernel
theorem dX9_column_68 : decode cX9_column 68 = .ok (.aload_n 0, 1) := by decide +kernel
theorem dX9_column_69 : decode cX9_column 69 = .ok (.iconst 1, 1) := by decide +kernel
theorem dX9_column_70 : decode cX9_column 70 = .ok (.putfield 65, 3) := by decide +kernel
theorem dX9_column_73 : decode cX9_column 73 = .ok (.aload_n 0, 1) := by decide +kernel
theorem dX9_column_74 : decode cX9_column 74 = .ok (.getfield 12, 3) := by decide +kernel
theorem dX9_column_77 : decode cX9_column 77 = .ok (.iload_n 1, 1) := by decide +kernel
theorem dX9_column_78 : decode cX9_column 78 = .ok (.iload_n 2, 1) := by decide +kernel
theorem dX9_column_79 : decode cX9_column 79 = .ok (.invokevirtual 98, 3) := by decide +kernel
theorem dX9_column_82 : decode cX9_column 82 = .ok (.ireturn, 1) := by decide +kernel
theorem dX9_row_0 : decode cX9_row 0 = .ok (.iload_n 1, 1) := by decide +kernel
theorem dX9_row_1 : decode cX9_row 1 = .ok (.ifCond .lt 18, 3) := by decide +kernel
theorem dX9_row_4 : decode cX9_row 4 = .ok (.iload_n 1, 1) := by decide +kernel
theorem dX9_row_5 : decode cX9_row 5 = .ok (.iconst 2, 1) := by decide +kernel
theorem dX9_row_6 : decode cX9_row 6 = .ok (.if_icmp .gt 13, 3) := by decide +kernel
theorem dX9_row_9 : decode cX9_row 9 = .ok (.iload_n 2, 1) := by decide +kernel
theorem dX9_row_10 : decode cX9_row 10 = .ok (.ifCond .lt 9, 3) := by decide +kernel
theorem dX9_row_13 : decode cX9_row 13 = .ok (.iload_n 2, 1) := by decide +kernel
theorem dX9_row_14 : decode cX9_row 14 = .ok (.bipush 9, 2) := by decide +kernel
theorem dX9_row_16 : decode cX9_row 16 = .ok (.if_icmp .le 13, 3) := by decide +kernel
theorem dX9_row_19 : decode cX9_row 19 = .ok (.new 69, 3) := by decide +kernel
theorem dX9_row_22 : decode cX9_row 22 = .ok (.dup, 1) := by decide +kernel
theorem dX9_row_23 : decode cX9_row 23 = .ok (.ldc 102, 2) := by decide +kernel
theorem dX9_row_25 : decode cX9_row 25 = .ok (.invokespecial 73, 3) := by decide +kernel
theorem dX9_row_28 : decode cX9_row 28 = .ok (.athrow, 1) := by decide +kernel
theorem dX9_row_29 : decode cX9_row 29 = .ok (.aload_n 0, 1) := by decide +kernel
theorem dX9_row_30 : decode cX9_row 30 = .ok (.getfield 12, 3) := by decide +kernel
theorem dX9_row_33 : decode cX9_row 33 = .ok (.getfield 76, 3) := by decide +kernel
theorem dX9_row_36 : decode cX9_row 36 = .ok (.invokevirtual 89, 3) := by decide +kernel
theorem dX9_row_39 : decode cX9_row 39 = .ok (.ifCond .ne 14, 3) := by decide +kernel
theorem dX9_row_42 : decode cX9_row 42 = .ok (.aload_n 0, 1) := by decide +kernel
theorem dX9_row_43 : decode cX9_row 43 = .ok (.getfield 12, 3) := by decide +kernel
theorem dX9_row_46 : decode cX9_row 46 = .ok (.iload_n 1, 1) := by decide +kernel
theorem dX9_row_47 : decode cX9_row 47 = .ok (.invokevirtual 104, 3) := by decide +kernel
theorem dX9_row_50 : decode cX9_row 50 = .ok (.ifCond .eq 13, 3) := by decide +kernel
theorem dX9_row_53 : decode cX9_row 53 = .ok (.new 93, 3) := by decide +kernel
theorem dX9_row_56 : decode cX9_row 56 = .ok (.dup, 1) := by decide +kernel
theorem dX9_row_57 : decode cX9_row 57 = .ok (.ldc 108, 2) := by decide +kernel
theorem dX9_row_59 : decode cX9_row 59 = .ok (.invokespecial 97, 3) := by decide +kernel
theorem dX9_row_62 : decode cX9_row 62 = .ok (.athrow, 1) := by decide +kernel
theorem dX9_row_63 : decode cX9_row 63 = .ok (.aload_n 0, 1) := by decide +kernel
theorem dX9_row_64 : decode cX9_row 64 = .ok (.iconst 1, 1) := by decide +kernel
theorem dX9_row_65 : decode cX9_row 65 = .ok (.putfield 65, 3) := by decide +kernel
theorem dX9_row_68 : decode cX9_row 68 = .ok (.aload_n 0, 1) := by decide +kernel
theorem dX9_row_69 : decode cX9_row 69 = .ok (.getfield 12, 3) := by decide +kernel
theorem dX9_row_72 : decode cX9_row 72 = .ok (.iload_n 1, 1) := by decide +kernel
theorem dX9_row_73 : decode cX9_row 73 = .ok (.iload_n 2, 1) := by decide +kernel
theorem dX9_row_74 : decode cX9_row 74 = .ok (.iload_n 3, 1) := by decide +kernel
theorem dX9_row_75 : decode cX9_row 75 = .ok (.invokevirtual 110, 3) := by decide +kernel
theorem dX9_row_78 : decode cX9_row 78 = .ok (.ireturn, 1) := by decide +kernel
theorem dX3_addCell_0 : decode cX3_addCell 0 = .ok (.aload_n 0, 1) := by decide +kernel
theorem dX3_addCell_1 : decode cX3_addCell 1 = .ok (.getfield 21, 3) := by decide +kernel
theorem dX3_addCell_4 : decode cX3_addCell 4 = .ok (.invokevirtual 37, 3) := by decide +kernel
theorem dX3_addCell_7 : decode cX3_addCell 7 = .ok (.istore_n 2, 1) := by decide +kernel
theorem dX3_addCell_8 : decode cX3_addCell 8 = .ok (.aload_n 0, 1) := by decide +kernel
theorem dX3_addCell_9 : decode cX3_addCell 9 = .ok (.aload_n 1, 1) := by decide +kernel
theorem dX3_addCell_10 : decode cX3_addCell 10 = .ok (.getfield 84, 3) := by decide +kernel
theorem dX3_addCell_13 : decode cX3_addCell 13 = .ok (.getfield 51, 3) := by decide +kernel
theorem dX3_addCell_16 : decode cX3_addCell 16 = .ok (.invokevirtual 55, 3) := by decide +kernel
theorem dX3_addCell_19 : decode cX3_addCell 19 = .ok (.astore_n 3, 1) := by decide +kernel
theorem dX3_addCell_20 : decode cX3_addCell 20 = .ok (.aload_n 1, 1) := by decide +kernel
theorem dX3_addCell_21 : decode cX3_addCell 21 = .ok (.getfield 84, 3) := by decide +kernel
theorem dX3_addCell_24 : decode cX3_addCell 24 = .ok (.getfield 75, 3) := by decide +kernel
theorem dX3_addCell_27 : decode cX3_addCell 27 = .ok (.aload_n 1, 1) := by decide +kernel
theorem dX3_addCell_28 : decode cX3_addCell 28 = .ok (.getfield 90, 3) := by decide +kernel
theorem dX3_addCell_31 : decode cX3_addCell 31 = .ok (.iadd, 1) := by decide +kernel
theorem dX3_addCell_32 : decode cX3_addCell 32 = .ok (.aload_n 3, 1) := by decide +kernel
theorem dX3_addCell_33 : decode cX3_addCell 33 = .ok (.invokevirtual 37, 3) := by decide +kernel
theorem dX3_addCell_36 : decode cX3_addCell 36 = .ok (.invokestatic 93, 3) := by decide +kernel
theorem dX3_addCell_39 : decode cX3_addCell 39 = .ok (.istore 4, 2) := by decide +kernel
theorem dX3_addCell_41 : decode cX3_addCell 41 = .ok (.aload_n 1, 1) := by decide +kernel
theorem dX3_addCell_42 : decode cX3_addCell 42 = .ok (.getfield 99, 3) := by decide +kernel
theorem dX3_addCell_45 : decode cX3_addCell 45 = .ok (.aload_n 1, 1) := by decide +kernel
theorem dX3_addCell_46 : decode cX3_addCell 46 = .ok (.getfield 102, 3) := by decide +kernel
theorem dX3_addCell_49 : decode cX3_addCell 49 = .ok (.iadd, 1) := by decide +kernel
theorem dX3_addCell_50 : decode cX3_addCell 50 = .ok (.aload_n 0, 1) := by decide +kernel
theorem dX3_addCell_51 : decode cX3_addCell 51 = .ok (.getfield 12, 3) := by decide +kernel
theorem dX3_addCell_54 : decode cX3_addCell 54 = .ok (.invokevirtual 37, 3) := by decide +kernel
theorem dX3_addCell_57 : decode cX3_addCell 57 = .ok (.invokestatic 93, 3) := by decide +kernel
theorem dX3_addCell_60 : decode cX3_addCell 60 = .ok (.istore 5, 2) := by decide +kernel
theorem dX3_addCell_62 : decode cX3_addCell 62 = .ok (.aload_n 1, 1) := by decide +kernel
theorem dX3_addCell_63 : decode cX3_addCell 63 = .ok (.getfield 84, 3) := by decide +kernel
theorem dX3_addCell_66 : decode cX3_addCell 66 = .ok (.getfield 75, 3) := by decide +kernel
theorem dX3_addCell_69 : decode cX3_addCell 69 = .ok (.istore 6, 2) := by decide +kernel
theorem dX3_addCell_71 : decode cX3_addCell 71 = .ok (.iload 6, 2) := by decide +kernel
theorem dX3_addCell_73 : decode cX3_addCell 73 = .ok (.iload 4, 2) := by decide +kernel
theorem dX3_addCell_75 : decode cX3_addCell 75 = .ok (.if_icmp .ge 44, 3) := by decide +kernel
theorem dX3_addCell_78 : decode cX3_addCell 78 = .ok (.aload_n 1, 1) := by decide +kernel
theorem dX3_addCell_79 : decode cX3_addCell 79 = .ok (.getfield 99, 3) := by decide +kernel
theorem dX3_addCell_82 : decode cX3_addCell 82 = .ok (.istore 7, 2) := by decide +kernel
theorem dX3_addCell_84 : decode cX3_addCell 84 = .ok (.iload 7, 2) := by decide +kernel
theorem dX3_addCell_86 : decode cX3_addCell 86 = .ok (.iload 5, 2) := by decide +kernel
theorem dX3_addCell_88 : decode cX3_addCell 88 = .ok (.if_icmp .ge 25, 3) := by decide +kernel
theorem dX3_addCell_91 : decode cX3_addCell 91 = .ok (.aload_n 3, 1) := by decide +kernel
theorem dX3_addCell_92 : decode cX3_addCell 92 = .ok (.iload 6, 2) := by decide +kernel
theorem dX3_addCell_94 : decode cX3_addCell 94 = .ok (.invokevirtual 45, 3) := by decide +kernel
theorem dX3_addCell_97 : decode cX3_addCell 97 = .ok (.checkcast 49, 3) := by decide +kernel
theorem dX3_addCell_100 : decode cX3_addCell 100 = .ok (.getfield 81, 3) := by decide +kernel
theorem dX3_addCell_103 : decode cX3_addCell 103 = .ok (.iload 7, 2) := by decide +kernel
theorem dX3_addCell_105 : decode cX3_addCell 105 = .ok (.iload_n 2, 1) := by decide +kernel
theorem dX3_addCell_106 : decode cX3_addCell 106 = .ok (.iastore, 1) := by decide +kernel
theorem dX3_addCell_107 : decode cX3_addCell 107 = .ok (.iinc 7 1, 3) := by decide +kernel
theorem dX3_addCell_110 : decode cX3_addCell 110 = .ok (.goto (-26), 3) := by decide +kernel
theorem dX3_addCell_113 : decode cX3_addCell 113 = .ok (.iinc 6 1, 3) := by decide +kernel
theorem dX3_addCell_116 : decode cX3_addCell 116 = .ok (.goto (-45), 3) := by decide +kernel
theorem dX3_addCell_119 : decode cX3_addCell 119 = .ok (.aload_n 1, 1) := by decide +kernel
theorem dX3_addCell_120 : decode cX3_addCell 120 = .ok (.aload_n 0, 1) := by decide +kernel
theorem dX3_addCell_121 : decode cX3_addCell 121 = .ok (.aload_n 1, 1) := by decide +kernel
theorem dX3_addCell_122 : decode cX3_addCell 122 = .ok (.invokevirtual 105, 3) := by decide +kernel
theorem dX3_addCell_125 : decode cX3_addCell 125 = .ok (.putfield 109, 3) := by decide +kernel
theorem dX3_addCell_128 : decode cX3_addCell 128 = .ok (.aload_n 0, 1) := by decide +kernel
theorem dX3_addCell_129 : decode cX3_addCell 129 = .ok (.getfield 21, 3) := by decide +kernel
theorem dX3_addCell_132 : decode cX3_addCell 132 = .ok (.aload_n 1, 1) := by decide +kernel
theorem dX3_addCell_133 : decode cX3_addCell 133 = .ok (.invokevirtual 68, 3) := by decide +kernel
theorem dX3_addCell_136 : decode cX3_addCell 136 = .ok (.pop, 1) := by decide +kernel
theorem dX3_addCell_137 : decode cX3_addCell 137 = .ok (.iload_n 2, 1) := by decide +kernel
theorem dX3_addCell_138 : decode cX3_addCell 138 = .ok (.ireturn, 1) := by decide +kernel
theorem dX9_cell_0 : decode cX9_cell 0 = .ok (.aload_n 0, 1) := by decide +kernel
theorem dX9_cell_1 : decode cX9_cell 1 = .ok (.iload_n 1, 1) := by decide +kernel
theorem dX9_cell_2 : decode cX9_cell 2 = .ok (.invokevirtual 114, 3) := by decide +kernel
theorem dX9_cell_5 : decode cX9_cell 5 = .ok (.aload_n 0, 1) := by decide +kernel
theorem dX9_cell_6 : decode cX9_cell 6 = .ok (.iload_n 2, 1) := by decide +kernel
theorem dX9_cell_7 : decode cX9_cell 7 = .ok (.invokevirtual 118, 3) := by decide +kernel
theorem dX9_cell_10 : decode cX9_cell 10 = .ok (.iload_n 3, 1) := by decide +kernel
theorem dX9_cell_11 : decode cX9_cell 11 = .ok (.iconst 1, 1) := by decide +kernel
theorem dX9_cell_12 : decode cX9_cell 12 = .ok (.if_icmp .lt 21, 3) := by decide +kernel
theorem dX9_cell_15 : decode cX9_cell 15 = .ok (.iload_n 3, 1) := by decide +kernel
theorem dX9_cell_16 : decode cX9_cell 16 = .ok (.iconst 4, 1) := by decide +kernel
theorem dX9_cell_17 : decode cX9_cell 17 = .ok (.if_icmp .gt 16, 3) := by decide +kernel
theorem dX9_cell_20 : decode cX9_cell 20 = .ok (.iload 4, 2) := by decide +kernel
theorem dX9_cell_22 : decode cX9_cell 22 = .ok (.iconst 1, 1) := by decide +kernel
theorem dX9_cell_23 : decode cX9_cell 23 = .ok (.if_icmp .lt 10, 3) := by decide +kernel
theorem dX9_cell_26 : decode cX9_cell 26 = .ok (.iload 4, 2) := by decide +kernel
theorem dX9_cell_28 : decode cX9_cell 28 = .ok (.bipush 6, 2) := by decide +kernel
theorem dX9_cell_30 : decode cX9_cell 30 = .ok (.if_icmp .le 13, 3) := by decide +kernel
theorem dX9_cell_33 : decode cX9_cell 33 = .ok (.new 69, 3) := by decide +kernel
theorem dX9_cell_36 : decode cX9_cell 36 = .ok (.dup, 1) := by decide +kernel
theorem dX9_cell_37 : decode cX9_cell 37 = .ok (.ldc 121, 2) := by decide +kernel
theorem dX9_cell_39 : decode cX9_cell 39 = .ok (.invokespecial 73, 3) := by decide +kernel
theorem dX9_cell_42 : decode cX9_cell 42 = .ok (.athrow, 1) := by decide +kernel
theorem dX9_cell_43 : decode cX9_cell 43 = .ok (.aload_n 0, 1) := by decide +kernel
theorem dX9_cell_44 : decode cX9_cell 44 = .ok (.getfield 12, 3) := by decide +kernel
theorem dX9_cell_47 : decode cX9_cell 47 = .ok (.getfield 86, 3) := by decide +kernel
theorem dX9_cell_50 : decode cX9_cell 50 = .ok (.iload_n 1, 1) := by decide +kernel
theorem dX9_cell_51 : decode cX9_cell 51 = .ok (.invokevirtual 123, 3) := by decide +kernel
theorem dX9_cell_54 : decode cX9_cell 54 = .ok (.checkcast 127, 3) := by decide +kernel
theorem dX9_cell_57 : decode cX9_cell 57 = .ok (.astore 5, 2) := by decide +kernel
theorem dX9_cell_59 : decode cX9_cell 59 = .ok (.aload_n 0, 1) := by decide +kernel
theorem dX9_cell_60 : decode cX9_cell 60 = .ok (.getfield 12, 3) := by decide +kernel
theorem dX9_cell_63 : decode cX9_cell 63 = .ok (.getfield 129, 3) := by decide +kernel
theorem dX9_cell_66 : decode cX9_cell 66 = .ok (.invokevirtual 80, 3) := by decide +kernel
theorem dX9_cell_69 : decode cX9_cell 69 = .ok (.bipush 100, 2) := by decide +kernel
theorem dX9_cell_71 : decode cX9_cell 71 = .ok (.if_icmp .ge 19, 3) := by decide +kernel
theorem dX9_cell_74 : decode cX9_cell 74 = .ok (.aload_n 0, 1) := by decide +kernel
theorem dX9_cell_75 : decode cX9_cell 75 = .ok (.getfield 12, 3) := by decide +kernel
theorem dX9_cell_78 : decode cX9_cell 78 = .ok (.aload 5, 2) := by decide +kernel
theorem dX9_cell_80 : decode cX9_cell 80 = .ok (.iload_n 2, 1) := by decide +kernel
theorem dX9_cell_81 : decode cX9_cell 81 = .ok (.iload_n 3, 1) := by decide +kernel
theorem dX9_cell_82 : decode cX9_cell 82 = .ok (.iload 4, 2) := by decide +kernel
theorem dX9_cell_84 : decode cX9_cell 84 = .ok (.invokevirtual 132, 3) := by decide +kernel
theorem dX9_cell_87 : decode cX9_cell 87 = .ok (.ifCond .ne 13, 3) := by decide +kernel
theorem dX9_cell_90 : decode cX9_cell 90 = .ok (.new 93, 3) := by decide +kernel
theorem dX9_cell_93 : decode cX9_cell 93 = .ok (.dup, 1) := by decide +kernel
theorem dX9_cell_94 : decode cX9_cell 94 = .ok (.ldc 136, 2) := by decide +kernel
theorem dX9_cell_96 : decode cX9_cell 96 = .ok (.invokespecial 97, 3) := by decide +kernel
theorem dX9_cell_99 : decode cX9_cell 99 = .ok (.athrow, 1) := by decide +kernel
theorem dX9_cell_100 : decode cX9_cell 100 = .ok (.aload_n 0, 1) := by decide +kernel
theorem dX9_cell_101 : decode cX9_cell 101 = .ok (.iconst 1, 1) := by decide +kernel
theorem dX9_cell_102 : decode cX9_cell 102 = .ok (.putfield 65, 3) := by decide +kernel
theorem dX9_cell_105 : decode cX9_cell 105 = .ok (.aload_n 0, 1) := by decide +kernel
theorem dX9_cell_106 : decode cX9_cell 106 = .ok (.getfield 12, 3) := by decide +kernel
theorem dX9_cell_109 : decode cX9_cell 109 = .ok (.new 138, 3) := by decide +kernel
theorem dX9_cell_112 : decode cX9_cell 112 = .ok (.dup, 1) := by decide +kernel
theorem dX9_cell_113 : decode cX9_cell 113 = .ok (.aload 5, 2) := by decide +kernel
theorem dX9_cell_115 : decode cX9_cell 115 = .ok (.iload_n 2, 1) := by decide +kernel
theorem dX9_cell_116 : decode cX9_cell 116 = .ok (.iload_n 3, 1) := by decide +kernel
theorem dX9_cell_117 : decode cX9_cell 117 = .ok (.iload 4, 2) := by decide +kernel
theorem dX9_cell_119 : decode cX9_cell 119 = .ok (.invokespecial 140, 3) := by decide +kernel
theorem dX9_cell_122 : decode cX9_cell 122 = .ok (.invokevirtual 143, 3) := by decide +kernel
theorem dX9_cell_125 : decode cX9_cell 125 = .ok (.ireturn, 1) := by decide +kernel
section
variable {p : Program} {l : Launch} {e : Env} {s : State} {m : MethodId} {args : Array Value} {below : List Frame} {meth : Method} {c : Code} {G : Gx} {e0 : Nat} {α : Ax} {κ : Nat → Int} {B : Nat}
def wp_X9_column_20 (κ : Nat → Int) (p1 : Int) (p2 : Int) (Xm : String → Mem → Prop) (Qm : Int → (Nat → Int) → Mem → Prop) (M : Mem) : Prop := Xm xIAE M
def wp_X9_column_58 (κ : Nat → Int) (p1 : Int) (p2 : Int) (Xm : String → Mem → Prop) (Qm : Int → (Nat → Int) → Mem → Prop) (M : Mem) : Prop := Xm xISE M
def wp_X9_column (κ : Nat → Int) (p1 : Int) (p2 : Int) (M : Mem) (Xm : String → Mem → Prop) (Qm : Int → (Nat → Int) → Mem → Prop) : Prop := ((p1 < 0 → wp_X9_column_20 κ p1 p2 Xm Qm M) ∧ (0 ≤ p1 → ((2 < p1 → wp_X9_column_20 κ p1 p2 Xm Qm M) ∧ (p1 ≤ 2 → ((p2 < 1 → wp_X9_column_20 κ p1 p2 Xm Qm M) ∧ (1 ≤ p2 → ((p2 ≤ 60 → ((6 ≤ (M 12 0 (-1)) → wp_X9_column_58 κ p1 p2 Xm Qm M) ∧ ((M 12 0 (-1)) < 6 → ((¬ (if M 13 0 (-1) = 0 then (1 : Int) else 0) = 0 → ∀ M2 : Mem, M2 = up M 10 0 10 1 → wp_addColumn p1 p2 κ M2 Qm) ∧ ((if M 13 0 (-1) = 0 then (1 : Int) else 0) = 0 → wp_X9_column_58 κ p1 p2 Xm Qm M))))) ∧ (60 < p2 → wp_X9_column_20 κ p1 p2 Xm Qm M))))))))
set_option maxHeartbeats 4000000 in
set_option maxRecDepth 100000 in
theorem t_X9_column_20 {p1 : Int} {p2 : Int} (X : CX p m c cX9_column 3 s args RX9 G B κ meth (some .int)) (T : XT l c) (he0 : e0 = G.2.2.2.2.2) (hp1 : inR p1) (hp2 : inR p2) {Xm : String → Mem → Prop} {Qm : Int → (Nat → Int) → Mem → Prop} : ∀ M : Mem, wp_X9_column_20 κ p1 p2 Xm Qm M → ∀ (H : Heap) (locs : List Loc), Rp G e0 α κ B M H → va_S (fun q => B ≤ q) s.heap H locs → ∀ (ls : Array Slot), lv_has ls 3 [] → WXD p l e 8 3 1008 s m args below meth c G e0 α κ B Qm Xm H locs 0 0 20 ls [] := by
  intro M hw H locs hR hS ls hl
  have hw : Xm xIAE M := hw
  exact sx_throw (text := "kind or value is out of range") X T xw_IAE (by decide +kernel) hR hS hl.1 dX9_column_20 dX9_column_23 dX9_column_24 dX9_column_26 dX9_column_29 (by decide) (by decide) (by decide) hw
set_option maxHeartbeats 4000000 in
set_option maxRecDepth 100000 in
theorem t_X9_column_58 {p1 : Int} {p2 : Int} (X : CX p m c cX9_column 3 s args RX9 G B κ meth (some .int)) (T : XT l c) (he0 : e0 = G.2.2.2.2.2) (hp1 : inR p1) (hp2 : inR p2) {Xm : String → Mem → Prop} {Qm : Int → (Nat → Int) → Mem → Prop} : ∀ M : Mem, wp_X9_column_58 κ p1 p2 Xm Qm M → ∀ (H : Heap) (locs : List Loc), Rp G e0 α κ B M H → va_S (fun q => B ≤ q) s.heap H locs → ∀ (ls : Array Slot), lv_has ls 3 [] → WXD p l e 8 3 1008 s m args below meth c G e0 α κ B Qm Xm H locs 0 0 58 ls [] := by
  intro M hw H locs hR hS ls hl
  have hw : Xm xISE M := hw
  exact sx_throw (text := "there are 6 columns, or there is a row") X T xw_ISE (by decide +kernel) hR hS hl.1 dX9_column_58 dX9_column_61 dX9_column_62 dX9_column_64 dX9_column_67 (by decide) (by decide) (by decide) hw
set_option maxHeartbeats 4000000 in
set_option maxRecDepth 100000 in
theorem t_X9_column {p1 : Int} {p2 : Int} (X : CX p m c cX9_column 3 s args RX9 G B κ meth (some .int)) (T : XT l c) (he0 : e0 = G.2.2.2.2.2) (hp1 : inR p1) (hp2 : inR p2) {M : Mem} {Xm : String → Mem → Prop} {Qm : Int → (Nat → Int) → Mem → Prop} (hw : wp_X9_column κ p1 p2 M Xm Qm) (H : Heap) (locs : List Loc) (hR : Rp G e0 α κ B M H) (hS : va_S (fun q => B ≤ q) s.heap H locs) (ls : Array Slot) (hl : lv_has ls 3 [(0, .ref (α 10 0)), (1, .int (Int32.ofInt p1)), (2, .int (Int32.ofInt p2))]) : WXD p l e 8 3 1008 s m args below meth c G e0 α κ B Qm Xm H locs 0 0 0 ls [] := by
  have hw : ((p1 < 0 → wp_X9_column_20 κ p1 p2 Xm Qm M) ∧ (0 ≤ p1 → ((2 < p1 → wp_X9_column_20 κ p1 p2 Xm Qm M) ∧ (p1 ≤ 2 → ((p2 < 1 → wp_X9_column_20 κ p1 p2 Xm Qm M) ∧ (1 ≤ p2 → ((p2 ≤ 60 → ((6 ≤ (M 12 0 (-1)) → wp_X9_column_58 κ p1 p2 Xm Qm M) ∧ ((M 12 0 (-1)) < 6 → ((¬ (if M 13 0 (-1) = 0 then (1 : Int) else 0) = 0 → ∀ M2 : Mem, M2 = up M 10 0 10 1 → wp_addColumn p1 p2 κ M2 Qm) ∧ ((if M 13 0 (-1) = 0 then (1 : Int) else 0) = 0 → wp_X9_column_58 κ p1 p2 Xm Qm M))))) ∧ (60 < p2 → wp_X9_column_20 κ p1 p2 Xm Qm M)))))))) := hw
  refine lv_iload_n X.1.1 X.1.2.1 dX9_column_0 rfl (lv_at hl 1 rfl) ?_
  refine sa_if_lt (tgt := 20) X.1 hp1 dX9_column_1 (by decide) (fun hc => ?_) (fun hc => ?_)
  · have hw := hw.1 hc
    exact t_X9_column_20 X T he0 hp1 hp2 _ hw _ _ hR hS _ (lv_sub hl [] rfl)
  · have hw := hw.2 hc
    refine lv_iload_n X.1.1 X.1.2.1 dX9_column_4 rfl (lv_at hl 1 rfl) ?_
    refine sa_const X.1 dX9_column_5 ?_
    refine sa_icmp_gt (tgt := 20) X.1 hp1 (inR_c (a := 2) rfl) dX9_column_6 (by decide) (fun hc => ?_) (fun hc => ?_)
    · have hw := hw.1 hc
      exact t_X9_column_20 X T he0 hp1 hp2 _ hw _ _ hR hS _ (lv_sub hl [] rfl)
    · have hw := hw.2 hc
      refine lv_iload_n X.1.1 X.1.2.1 dX9_column_9 rfl (lv_at hl 2 rfl) ?_
      refine sa_const X.1 dX9_column_10 ?_
      refine sa_icmp_lt (tgt := 20) X.1 hp2 (inR_c (a := 1) rfl) dX9_column_11 (by decide) (fun hc => ?_) (fun hc => ?_)
      · have hw := hw.1 hc
        exact t_X9_column_20 X T he0 hp1 hp2 _ hw _ _ hR hS _ (lv_sub hl [] rfl)
      · have hw := hw.2 hc
        refine lv_iload_n X.1.1 X.1.2.1 dX9_column_14 rfl (lv_at hl 2 rfl) ?_
        refine sa_bipush X.1 dX9_column_15 (by decide) ?_
        refine sa_icmp_le (tgt := 30) X.1 hp2 (inR_c (a := 60) rfl) dX9_column_17 (by decide) (fun hc => ?_) (fun hc => ?_)
        · have hw := hw.1 hc
          refine lv_aload_n X.1.1 X.1.2.1 dX9_column_30 rfl (lv_at hl 0 rfl) ?_
          refine gt_10_0 X hR (okf X.2.2.1 rfl) kw_332 dX9_column_31 ?_
          refine gt_4_0 X hR (okf X.2.2.1 rfl) kw_113 dX9_column_34 ?_
          refine ls_size (by decide) (by decide) X (kc := 8) rmX_ok ⟨by decide, by decide⟩ (by decide) hR hS kw_753 hl.1 dX9_column_37 (Nat.le_of_ble_eq_true rfl) (fun H locs hR hS => ?_)
          have r1 := hR.r 12 0 (-1)
          refine sa_bipush X.1 dX9_column_40 (by decide) ?_
          refine sa_icmp_ge (tgt := 58) X.1 r1 (inR_c (a := 6) rfl) dX9_column_42 (by decide) (fun hc => ?_) (fun hc => ?_)
          · have hw := hw.1 hc
            exact t_X9_column_58 X T he0 hp1 hp2 _ hw _ _ hR hS _ (lv_sub hl [] rfl)
          · have hw := hw.2 hc
            refine lv_aload_n X.1.1 X.1.2.1 dX9_column_45 rfl (lv_at hl 0 rfl) ?_
            refine gt_10_0 X hR (okf X.2.2.1 rfl) kw_332 dX9_column_46 ?_
            refine gt_4_1 X hR (okf X.2.2.1 rfl) kw_116 dX9_column_49 ?_
            refine ls_isEmpty (by decide) (by decide) X (kc := 8) rmX_ok ⟨by decide, by decide⟩ (by decide) hR hS kw_754 hl.1 dX9_column_52 (Nat.le_of_ble_eq_true rfl) (fun H locs hR hS => ?_)
            refine sa_if_ne (tgt := 68) X.1 (inR_ite (inR_c (a := 1) rfl) (inR_c (a := 0) rfl)) dX9_column_55 (by decide) (fun hc => ?_) (fun hc => ?_)
            · have hw := hw.1 hc
              refine lv_aload_n X.1.1 X.1.2.1 dX9_column_68 rfl (lv_at hl 0 rfl) ?_
              refine sa_const X.1 dX9_column_69 ?_
              refine pt_10_10 X hR hS (okf X.2.2.1 rfl) (Or.inr rfl) kw_342 dX9_column_70 (fun H locs hR hS => ?_)
              obtain ⟨M2, e3⟩ : ∃ z : Mem, z = up M 10 0 10 1 := ⟨_, rfl⟩
              rw [← e3] at hR
              have hw := hw M2 e3
              refine lv_aload_n X.1.1 X.1.2.1 dX9_column_73 rfl (lv_at hl 0 rfl) ?_
              refine gt_10_0 X hR (okf X.2.2.1 rfl) kw_332 dX9_column_74 ?_
              refine lv_iload_n X.1.1 X.1.2.1 dX9_column_77 rfl (lv_at hl 1 rfl) ?_
              refine lv_iload_n X.1.1 X.1.2.1 dX9_column_78 rfl (lv_at hl 2 rfl) ?_
              refine sd_callV 7 (n := 2) (As := [.int (Int32.ofInt p1), .int (Int32.ofInt p2)]) (rest := []) X hR hS (m_X3_addColumn he0 X.2.2.1 hp1 hp2 hw) kw_774 kw_775 kw_776 kw_39 kw_777 ⟨rfl, by decide +kernel, by decide +kernel, by decide +kernel⟩ ⟨by decide, by decide⟩ (rc_4 X hR (okf X.2.2.1 rfl)) rfl rfl (Nat.le_of_ble_eq_true rfl) hl.1 dX9_column_79 ⟨by decide, by decide⟩ (fun r κ1 α1 M1 H1 locs1 hq hx hA hk hR hS => ?_)
              exact sd_xiret (X.re hk) hR hS hx hq hA dX9_column_82 (by decide) (by decide)
            · have hw := hw.2 hc
              exact t_X9_column_58 X T he0 hp1 hp2 _ hw _ _ hR hS _ (lv_sub hl [] rfl)
        · have hw := hw.2 hc
          exact t_X9_column_20 X T he0 hp1 hp2 _ hw _ _ hR hS _ (lv_sub hl [] rfl)
theorem m_X9_column {l : Launch} {G : Gx} {e0 : Nat} {α : Ax} {κ : Nat → Int} {B : Nat} {p1 : Int} {p2 : Int} (hlt : l.stackTraces = false) (he0 : e0 = G.2.2.2.2.2) (hκ : kOK κ) (hp1 : inR p1) (hp2 : inR p2) {M : Mem} {Qm : Int → (Nat → Int) → Mem → Prop} {Xm : String → Mem → Prop} (hw : wp_X9_column κ p1 p2 M Xm Qm) : XD l yX9_column (Cond.code yX9_column cX9_column 3 (some .int)) 8 3 1008 G e0 α κ B [.ref (α 10 0), .int (Int32.ofInt p1), .int (Int32.ofInt p2)] M Qm Xm :=
  XD.mk hlt hκ (by decide +kernel) rfl (Nat.le_of_ble_eq_true rfl) (lv := [(0, .ref (α 10 0)), (1, .int (Int32.ofInt p1)), (2, .int (Int32.ofInt p2))]) rfl (fun p e s m args below meth c ls X T hR hS hl => t_X9_column X T he0 hp1 hp2 hw _ _ hR hS ls hl)
def wp_X9_row_19 (κ : Nat → Int) (p1 : Int) (p2 : Int) (p3 : Int) (Xm : String → Mem → Prop) (Qm : Int → (Nat → Int) → Mem → Prop) (M : Mem) : Prop := Xm xIAE M
def wp_X9_row_53 (κ : Nat → Int) (p1 : Int) (p2 : Int) (p3 : Int) (Xm : String → Mem → Prop) (Qm : Int → (Nat → Int) → Mem → Prop) (M : Mem) : Prop := Xm xISE M
def wp_X9_row (κ : Nat → Int) (p1 : Int) (p2 : Int) (p3 : Int) (M : Mem) (Xm : String → Mem → Prop) (Qm : Int → (Nat → Int) → Mem → Prop) : Prop := ((p1 < 0 → wp_X9_row_19 κ p1 p2 p3 Xm Qm M) ∧ (0 ≤ p1 → ((2 < p1 → wp_X9_row_19 κ p1 p2 p3 Xm Qm M) ∧ (p1 ≤ 2 → ((p2 < 0 → wp_X9_row_19 κ p1 p2 p3 Xm Qm M) ∧ (0 ≤ p2 → ((p2 ≤ 9 → ((¬ (if M 12 0 (-1) = 0 then (1 : Int) else 0) = 0 → wp_X9_row_53 κ p1 p2 p3 Xm Qm M) ∧ ((if M 12 0 (-1) = 0 then (1 : Int) else 0) = 0 → wp_X3_isFull p1 M fun (x2 : Int) (M1 : Mem) => ((x2 = 0 → ∀ M4 : Mem, M4 = up M1 10 0 10 1 → wp_addRow p1 p2 p3 κ M4 Qm) ∧ (¬ x2 = 0 → wp_X9_row_53 κ p1 p2 p3 Xm Qm M1))))) ∧ (9 < p2 → wp_X9_row_19 κ p1 p2 p3 Xm Qm M))))))))
set_option maxHeartbeats 4000000 in
set_option maxRecDepth 100000 in
theorem t_X9_row_19 {p1 : Int} {p2 : Int} {p3 : Int} (X : CX p m c cX9_row 4 s args RX9 G B κ meth (some .int)) (T : XT l c) (he0 : e0 = G.2.2.2.2.2) (hp1 : inR p1) (hp2 : inR p2) (hp3 : inR p3) {Xm : String → Mem → Prop} {Qm : Int → (Nat → Int) → Mem → Prop} : ∀ M : Mem, wp_X9_row_19 κ p1 p2 p3 Xm Qm M → ∀ (H : Heap) (locs : List Loc), Rp G e0 α κ B M H → va_S (fun q => B ≤ q) s.heap H locs → ∀ (ls : Array Slot), lv_has ls 4 [] → WXD p l e 8 5 2017 s m args below meth c G e0 α κ B Qm Xm H locs 0 0 19 ls [] := by
  intro M hw H locs hR hS ls hl
  have hw : Xm xIAE M := hw
  exact sx_throw (text := "part or group is out of range") X T xw_IAE (by decide +kernel) hR hS hl.1 dX9_row_19 dX9_row_22 dX9_row_23 dX9_row_25 dX9_row_28 (by decide) (by decide) (by decide) hw
set_option maxHeartbeats 4000000 in
set_option maxRecDepth 100000 in
theorem t_X9_row_53 {p1 : Int} {p2 : Int} {p3 : Int} (X : CX p m c cX9_row 4 s args RX9 G B κ meth (some .int)) (T : XT l c) (he0 : e0 = G.2.2.2.2.2) (hp1 : inR p1) (hp2 : inR p2) (hp3 : inR p3) {Xm : String → Mem → Prop} {Qm : Int → (Nat → Int) → Mem → Prop} : ∀ M : Mem, wp_X9_row_53 κ p1 p2 p3 Xm Qm M → ∀ (H : Heap) (locs : List Loc), Rp G e0 α κ B M H → va_S (fun q => B ≤ q) s.heap H locs → ∀ (ls : Array Slot), lv_has ls 4 [] → WXD p l e 8 5 2017 s m args below meth c G e0 α κ B Qm Xm H locs 0 0 53 ls [] := by
  intro M hw H locs hR hS ls hl
  have hw : Xm xISE M := hw
  exact sx_throw (text := "there is no column, or the part is full") X T xw_ISE (by decide +kernel) hR hS hl.1 dX9_row_53 dX9_row_56 dX9_row_57 dX9_row_59 dX9_row_62 (by decide) (by decide) (by decide) hw
set_option maxHeartbeats 4000000 in
set_option maxRecDepth 100000 in
theorem t_X9_row {p1 : Int} {p2 : Int} {p3 : Int} (X : CX p m c cX9_row 4 s args RX9 G B κ meth (some .int)) (T : XT l c) (he0 : e0 = G.2.2.2.2.2) (hp1 : inR p1) (hp2 : inR p2) (hp3 : inR p3) {M : Mem} {Xm : String → Mem → Prop} {Qm : Int → (Nat → Int) → Mem → Prop} (hw : wp_X9_row κ p1 p2 p3 M Xm Qm) (H : Heap) (locs : List Loc) (hR : Rp G e0 α κ B M H) (hS : va_S (fun q => B ≤ q) s.heap H locs) (ls : Array Slot) (hl : lv_has ls 4 [(0, .ref (α 10 0)), (1, .int (Int32.ofInt p1)), (2, .int (Int32.ofInt p2)), (3, .int (Int32.ofInt p3))]) : WXD p l e 8 5 2017 s m args below meth c G e0 α κ B Qm Xm H locs 0 0 0 ls [] := by
  have hw : ((p1 < 0 → wp_X9_row_19 κ p1 p2 p3 Xm Qm M) ∧ (0 ≤ p1 → ((2 < p1 → wp_X9_row_19 κ p1 p2 p3 Xm Qm M) ∧ (p1 ≤ 2 → ((p2 < 0 → wp_X9_row_19 κ p1 p2 p3 Xm Qm M) ∧ (0 ≤ p2 → ((p2 ≤ 9 → ((¬ (if M 12 0 (-1) = 0 then (1 : Int) else 0) = 0 → wp_X9_row_53 κ p1 p2 p3 Xm Qm M) ∧ ((if M 12 0 (-1) = 0 then (1 : Int) else 0) = 0 → wp_X3_isFull p1 M fun (x2 : Int) (M1 : Mem) => ((x2 = 0 → ∀ M4 : Mem, M4 = up M1 10 0 10 1 → wp_addRow p1 p2 p3 κ M4 Qm) ∧ (¬ x2 = 0 → wp_X9_row_53 κ p1 p2 p3 Xm Qm M1))))) ∧ (9 < p2 → wp_X9_row_19 κ p1 p2 p3 Xm Qm M)))))))) := hw
  refine lv_iload_n X.1.1 X.1.2.1 dX9_row_0 rfl (lv_at hl 1 rfl) ?_
  refine sa_if_lt (tgt := 19) X.1 hp1 dX9_row_1 (by decide) (fun hc => ?_) (fun hc => ?_)
  · have hw := hw.1 hc
    exact t_X9_row_19 X T he0 hp1 hp2 hp3 _ hw _ _ hR hS _ (lv_sub hl [] rfl)
  · have hw := hw.2 hc
    refine lv_iload_n X.1.1 X.1.2.1 dX9_row_4 rfl (lv_at hl 1 rfl) ?_
    refine sa_const X.1 dX9_row_5 ?_
    refine sa_icmp_gt (tgt := 19) X.1 hp1 (inR_c (a := 2) rfl) dX9_row_6 (by decide) (fun hc => ?_) (fun hc => ?_)
    · have hw := hw.1 hc
      exact t_X9_row_19 X T he0 hp1 hp2 hp3 _ hw _ _ hR hS _ (lv_sub hl [] rfl)
    · have hw := hw.2 hc
      refine lv_iload_n X.1.1 X.1.2.1 dX9_row_9 rfl (lv_at hl 2 rfl) ?_
      refine sa_if_lt (tgt := 19) X.1 hp2 dX9_row_10 (by decide) (fun hc => ?_) (fun hc => ?_)
      · have hw := hw.1 hc
        exact t_X9_row_19 X T he0 hp1 hp2 hp3 _ hw _ _ hR hS _ (lv_sub hl [] rfl)
      · have hw := hw.2 hc
        refine lv_iload_n X.1.1 X.1.2.1 dX9_row_13 rfl (lv_at hl 2 rfl) ?_
        refine sa_bipush X.1 dX9_row_14 (by decide) ?_
        refine sa_icmp_le (tgt := 29) X.1 hp2 (inR_c (a := 9) rfl) dX9_row_16 (by decide) (fun hc => ?_) (fun hc => ?_)
        · have hw := hw.1 hc
          refine lv_aload_n X.1.1 X.1.2.1 dX9_row_29 rfl (lv_at hl 0 rfl) ?_
          refine gt_10_0 X hR (okf X.2.2.1 rfl) kw_332 dX9_row_30 ?_
          refine gt_4_0 X hR (okf X.2.2.1 rfl) kw_113 dX9_row_33 ?_
          refine ls_isEmpty (by decide) (by decide) X (kc := 8) rmX_ok ⟨by decide, by decide⟩ (by decide) hR hS kw_754 hl.1 dX9_row_36 (Nat.le_of_ble_eq_true rfl) (fun H locs hR hS => ?_)
          refine sa_if_ne (tgt := 53) X.1 (inR_ite (inR_c (a := 1) rfl) (inR_c (a := 0) rfl)) dX9_row_39 (by decide) (fun hc => ?_) (fun hc => ?_)
          · have hw := hw.1 hc
            exact t_X9_row_53 X T he0 hp1 hp2 hp3 _ hw _ _ hR hS _ (lv_sub hl [] rfl)
          · have hw := hw.2 hc
            refine lv_aload_n X.1.1 X.1.2.1 dX9_row_42 rfl (lv_at hl 0 rfl) ?_
            refine gt_10_0 X hR (okf X.2.2.1 rfl) kw_332 dX9_row_43 ?_
            refine lv_iload_n X.1.1 X.1.2.1 dX9_row_46 rfl (lv_at hl 1 rfl) ?_
            refine cs_X3_isFull X hp1 (kc := 8) rmX_ok ⟨by decide, by decide⟩ (by decide) hR hS kw_868 hl.1 dX9_row_47 (Nat.le_of_ble_eq_true rfl) hw (fun x2 M1 H locs hw r3 hR hS => ?_)
            refine sa_if_eq (tgt := 63) X.1 r3 dX9_row_50 (by decide) (fun hc => ?_) (fun hc => ?_)
            · have hw := hw.1 hc
              refine lv_aload_n X.1.1 X.1.2.1 dX9_row_63 rfl (lv_at hl 0 rfl) ?_
              refine sa_const X.1 dX9_row_64 ?_
              refine pt_10_10 X hR hS (okf X.2.2.1 rfl) (Or.inr rfl) kw_342 dX9_row_65 (fun H locs hR hS => ?_)
              obtain ⟨M4, e5⟩ : ∃ z : Mem, z = up M1 10 0 10 1 := ⟨_, rfl⟩
              rw [← e5] at hR
              have hw := hw M4 e5
              refine lv_aload_n X.1.1 X.1.2.1 dX9_row_68 rfl (lv_at hl 0 rfl) ?_
              refine gt_10_0 X hR (okf X.2.2.1 rfl) kw_332 dX9_row_69 ?_
              refine lv_iload_n X.1.1 X.1.2.1 dX9_row_72 rfl (lv_at hl 1 rfl) ?_
              refine lv_iload_n X.1.1 X.1.2.1 dX9_row_73 rfl (lv_at hl 2 rfl) ?_
              refine lv_iload_n X.1.1 X.1.2.1 dX9_row_74 rfl (lv_at hl 3 rfl) ?_
              refine sd_callV 7 (n := 3) (As := [.int (Int32.ofInt p1), .int (Int32.ofInt p2), .int (Int32.ofInt p3)]) (rest := []) X hR hS (m_X3_addRow he0 X.2.2.1 hp1 hp2 hp3 hw) kw_876 kw_877 kw_878 kw_39 kw_879 ⟨rfl, by decide +kernel, by decide +kernel, by decide +kernel⟩ ⟨by decide, by decide⟩ (rc_4 X hR (okf X.2.2.1 rfl)) rfl rfl (Nat.le_of_ble_eq_true rfl) hl.1 dX9_row_75 ⟨by decide, by decide⟩ (fun r κ1 α1 M1 H1 locs1 hq hx hA hk hR hS => ?_)
              exact sd_xiret (X.re hk) hR hS hx hq hA dX9_row_78 (by decide) (by decide)
            · have hw := hw.2 hc
              exact t_X9_row_53 X T he0 hp1 hp2 hp3 _ hw _ _ hR hS _ (lv_sub hl [] rfl)
        · have hw := hw.2 hc
          exact t_X9_row_19 X T he0 hp1 hp2 hp3 _ hw _ _ hR hS _ (lv_sub hl [] rfl)
theorem m_X9_row {l : Launch} {G : Gx} {e0 : Nat} {α : Ax} {κ : Nat → Int} {B : Nat} {p1 : Int} {p2 : Int} {p3 : Int} (hlt : l.stackTraces = false) (he0 : e0 = G.2.2.2.2.2) (hκ : kOK κ) (hp1 : inR p1) (hp2 : inR p2) (hp3 : inR p3) {M : Mem} {Qm : Int → (Nat → Int) → Mem → Prop} {Xm : String → Mem → Prop} (hw : wp_X9_row κ p1 p2 p3 M Xm Qm) : XD l yX9_row (Cond.code yX9_row cX9_row 4 (some .int)) 8 5 2017 G e0 α κ B [.ref (α 10 0), .int (Int32.ofInt p1), .int (Int32.ofInt p2), .int (Int32.ofInt p3)] M Qm Xm :=
  XD.mk hlt hκ (by decide +kernel) rfl (Nat.le_of_ble_eq_true rfl) (lv := [(0, .ref (α 10 0)), (1, .int (Int32.ofInt p1)), (2, .int (Int32.ofInt p2)), (3, .int (Int32.ofInt p3))]) rfl (fun p e s m args below meth c ls X T hR hS hl => t_X9_row X T he0 hp1 hp2 hp3 hw _ _ hR hS ls hl)
def wp_X3_addCell_84 (κ : Nat → Int) (u1 : Int) (Qm : Int → (Nat → Int) → Mem → Prop) (K71 : Int → Nat → Int → Int → Int → Mem → Prop) : Nat → Int → Nat → Int → Int → Int → Int → Mem → Prop
  | 0 => fun _ _ _ _ _ _ _ => False
  | n + 1 => fun y2 q3 y4 y5 y6 y7 M => ((y5 ≤ y7 → (inR (y6 + 1)) ∧ K71 y2 q3 y4 y5 (y6 + 1) M) ∧ (y7 < y5 → (0 ≤ y6 ∧ y6 < M q3 0 (-1)) ∧ (0 ≤ y7 ∧ y7 < 6) ∧ ∀ M28 : Mem, M28 = up M 37 (M q3 0 y6) y7 y2 → (inR (y7 + 1)) ∧ wp_X3_addCell_84 κ u1 Qm K71 n y2 q3 y4 y5 y6 (y7 + 1) M28))
def wp_X3_addCell_71 (κ : Nat → Int) (u1 : Int) (Qm : Int → (Nat → Int) → Mem → Prop) : Nat → Int → Nat → Int → Int → Int → Mem → Prop
  | 0 => fun _ _ _ _ _ _ => False
  | n + 1 => fun y2 q3 y4 y5 y6 M => ((y4 ≤ y6 → wp_X3_countShown u1 M fun (x16 : Int) (M15 : Mem) => ∀ M18 : Mem, M18 = up M15 1 u1 12 x16 → (inR u1) ∧ (inR (M18 14 0 (-2) + 1)) ∧ (capN (M18 14 0 (-1)) (M18 (14 + 6) 0 (-1)) ≤ 1000) ∧ ∀ Mz : Mem, Mz = adM M18 14 u1 → Qm y2 (kad κ (14 + 6)) Mz) ∧ (y6 < y4 → (∃ n31 : Nat, wp_X3_addCell_84 κ u1 Qm (wp_X3_addCell_71 κ u1 Qm n) n31 y2 q3 y4 y5 y6 (M 1 u1 1) M)))
def wp_X3_addCell (κ : Nat → Int) (u1 : Int) (M : Mem) (Qm : Int → (Nat → Int) → Mem → Prop) : Prop := (inR ((M 6 (M 1 u1 0) 6) + (M 1 u1 2))) ∧ (inR ((M 1 u1 1) + (M 1 u1 3))) ∧ (∃ n32 : Nat, wp_X3_addCell_71 κ u1 Qm n32 (M 14 0 (-1)) (rowL (M 6 (M 1 u1 0) 1)) (min ((M 6 (M 1 u1 0) 6) + (M 1 u1 2)) (M (rowL (M 6 (M 1 u1 0) 1)) 0 (-1))) (min ((M 1 u1 1) + (M 1 u1 3)) (M 12 0 (-1))) (M 6 (M 1 u1 0) 6) M)
set_option maxHeartbeats 4000000 in
set_option maxRecDepth 100000 in
theorem t_X3_addCell_84 {u1 : Int} (X : CX p m c cX3_addCell 8 s args RX3 G B κ meth (some .int)) (he0 : e0 = G.2.2.2.2.2) (hu1 : okk κ 1 u1) {Qm : Int → (Nat → Int) → Mem → Prop} {K71 : Int → Nat → Int → Int → Int → Mem → Prop} (hK71 : ∀ y2 : Int, ∀ q3 : Nat, ∀ y4 : Int, ∀ y5 : Int, ∀ y6 : Int, ∀ M : Mem, K71 y2 q3 y4 y5 y6 M → inR y2 → RLs q3 → inR y4 → inR y5 → inR y6 → ∀ (H : Heap) (locs : List Loc), Rp G e0 α κ B M H → va_S (fun q => B ≤ q) s.heap H locs → ∀ (ls : Array Slot), lv_has ls 8 [(0, .ref (α 4 0)), (1, .ref (α 1 u1)), (2, .int (Int32.ofInt y2)), (3, .ref (α q3 0)), (4, .int (Int32.ofInt y4)), (5, .int (Int32.ofInt y5)), (6, .int (Int32.ofInt y6))] → WD p l e 7 1 1000 s m args below meth c G e0 α B Qm H locs 0 0 71 ls []) : ∀ n : Nat, ∀ y2 : Int, ∀ q3 : Nat, ∀ y4 : Int, ∀ y5 : Int, ∀ y6 : Int, ∀ y7 : Int, ∀ M : Mem, wp_X3_addCell_84 κ u1 Qm K71 n y2 q3 y4 y5 y6 y7 M → inR y2 → RLs q3 → inR y4 → inR y5 → inR y6 → inR y7 → ∀ (H : Heap) (locs : List Loc), Rp G e0 α κ B M H → va_S (fun q => B ≤ q) s.heap H locs → ∀ (ls : Array Slot), lv_has ls 8 [(0, .ref (α 4 0)), (1, .ref (α 1 u1)), (2, .int (Int32.ofInt y2)), (3, .ref (α q3 0)), (4, .int (Int32.ofInt y4)), (5, .int (Int32.ofInt y5)), (6, .int (Int32.ofInt y6)), (7, .int (Int32.ofInt y7))] → WD p l e 7 1 1000 s m args below meth c G e0 α B Qm H locs 0 0 84 ls [] := by
  intro n
  induction n with
  | zero =>
    intro y2 q3 y4 y5 y6 y7 M hw hy2 hq3 hy4 hy5 hy6 hy7 H locs hR hS ls hl
    exact hw.elim
  | succ n ih =>
    intro y2 q3 y4 y5 y6 y7 M hw hy2 hq3 hy4 hy5 hy6 hy7 H locs hR hS ls hl
    have hw : ((y5 ≤ y7 → (inR (y6 + 1)) ∧ K71 y2 q3 y4 y5 (y6 + 1) M) ∧ (y7 < y5 → (0 ≤ y6 ∧ y6 < M q3 0 (-1)) ∧ (0 ≤ y7 ∧ y7 < 6) ∧ ∀ M28 : Mem, M28 = up M 37 (M q3 0 y6) y7 y2 → (inR (y7 + 1)) ∧ wp_X3_addCell_84 κ u1 Qm K71 n y2 q3 y4 y5 y6 (y7 + 1) M28)) := hw
    refine lv_iload X.1.1 X.1.2.1 dX3_addCell_84 (lv_at hl 7 rfl) ?_
    refine lv_iload X.1.1 X.1.2.1 dX3_addCell_86 (lv_at hl 5 rfl) ?_
    refine sa_icmp_ge (tgt := 113) X.1 hy7 hy5 dX3_addCell_88 (by decide) (fun hc => ?_) (fun hc => ?_)
    · have hw := hw.1 hc
      have c24 := hw.1
      have hw := hw.2
      refine lv_iinc (v := Int32.ofInt (y6 + 1)) (lv' := [(6, .int (Int32.ofInt (y6 + 1))), (0, .ref (α 4 0)), (1, .ref (α 1 u1)), (2, .int (Int32.ofInt y2)), (3, .ref (α q3 0)), (4, .int (Int32.ofInt y4)), (5, .int (Int32.ofInt y5)), (7, .int (Int32.ofInt y7))]) X.1.1 X.1.2.1 dX3_addCell_113 hl (k := 6) rfl (Int32.ofInt_add _ _).symm (by decide) rfl (fun ls hl => ?_)
      refine lv_goto (tgt := 71) X.1.1 X.1.2.1 dX3_addCell_116 (by decide) ?_
      exact hK71 _ _ _ _ _ _ hw hy2 hq3 hy4 hy5 c24 _ _ hR hS _ (lv_sub hl [1, 2, 3, 4, 5, 6, 0] rfl)
    · have hw := hw.2 hc
      refine lv_aload_n X.1.1 X.1.2.1 dX3_addCell_91 rfl (lv_at hl 3 rfl) ?_
      refine lv_iload X.1.1 X.1.2.1 dX3_addCell_92 (lv_at hl 6 rfl) ?_
      have c25 := hw.1
      have hw := hw.2
      refine ls_get (ci := 6) (Nat.le_trans (by decide) hq3.1) hq3.2 (RLs.lcl hq3) X c25 (kc := 7) rmX_ok ⟨by decide, by decide⟩ (by decide) hR hS kw_442 hl.1 dX3_addCell_94 (Nat.le_of_ble_eq_true rfl) (fun H locs o26 hR hS => ?_)
      refine ck_6 X hR o26 kw_580 dX3_addCell_97 ?_
      refine gt_6_5 X hR o26 kw_903 dX3_addCell_100 ?_
      refine lv_iload X.1.1 X.1.2.1 dX3_addCell_103 (lv_at hl 7 rfl) ?_
      refine lv_iload_n X.1.1 X.1.2.1 dX3_addCell_105 rfl (lv_at hl 2 rfl) ?_
      have c27 := hw.1
      have hw := hw.2
      refine wa_37 X hR hS (ok4 X.2.2.1 rfl o26) c27 hy2 dX3_addCell_106 (fun H locs hR hS => ?_)
      obtain ⟨M28, e29⟩ : ∃ z : Mem, z = up M 37 (M q3 0 y6) y7 y2 := ⟨_, rfl⟩
      rw [← e29] at hR
      have hw := hw M28 e29
      have c30 := hw.1
      have hw := hw.2
      refine lv_iinc (v := Int32.ofInt (y7 + 1)) (lv' := [(7, .int (Int32.ofInt (y7 + 1))), (0, .ref (α 4 0)), (1, .ref (α 1 u1)), (2, .int (Int32.ofInt y2)), (3, .ref (α q3 0)), (4, .int (Int32.ofInt y4)), (5, .int (Int32.ofInt y5)), (6, .int (Int32.ofInt y6))]) X.1.1 X.1.2.1 dX3_addCell_107 hl (k := 7) rfl (Int32.ofInt_add _ _).symm (by decide) rfl (fun ls hl => ?_)
      refine lv_goto (tgt := 84) X.1.1 X.1.2.1 dX3_addCell_110 (by decide) ?_
      exact ih _ _ _ _ _ _ _ hw hy2 hq3 hy4 hy5 hy6 c30 _ _ hR hS _ (lv_sub hl [1, 2, 3, 4, 5, 6, 7, 0] rfl)
set_option maxHeartbeats 4000000 in
set_option maxRecDepth 100000 in
theorem t_X3_addCell_71 {u1 : Int} (X : CX p m c cX3_addCell 8 s args RX3 G B κ meth (some .int)) (he0 : e0 = G.2.2.2.2.2) (hu1 : okk κ 1 u1) {Qm : Int → (Nat → Int) → Mem → Prop} : ∀ n : Nat, ∀ y2 : Int, ∀ q3 : Nat, ∀ y4 : Int, ∀ y5 : Int, ∀ y6 : Int, ∀ M : Mem, wp_X3_addCell_71 κ u1 Qm n y2 q3 y4 y5 y6 M → inR y2 → RLs q3 → inR y4 → inR y5 → inR y6 → ∀ (H : Heap) (locs : List Loc), Rp G e0 α κ B M H → va_S (fun q => B ≤ q) s.heap H locs → ∀ (ls : Array Slot), lv_has ls 8 [(0, .ref (α 4 0)), (1, .ref (α 1 u1)), (2, .int (Int32.ofInt y2)), (3, .ref (α q3 0)), (4, .int (Int32.ofInt y4)), (5, .int (Int32.ofInt y5)), (6, .int (Int32.ofInt y6))] → WD p l e 7 1 1000 s m args below meth c G e0 α B Qm H locs 0 0 71 ls [] := by
  intro n
  induction n with
  | zero =>
    intro y2 q3 y4 y5 y6 M hw hy2 hq3 hy4 hy5 hy6 H locs hR hS ls hl
    exact hw.elim
  | succ n ih =>
    intro y2 q3 y4 y5 y6 M hw hy2 hq3 hy4 hy5 hy6 H locs hR hS ls hl
    have hw : ((y4 ≤ y6 → wp_X3_countShown u1 M fun (x16 : Int) (M15 : Mem) => ∀ M18 : Mem, M18 = up M15 1 u1 12 x16 → (inR u1) ∧ (inR (M18 14 0 (-2) + 1)) ∧ (capN (M18 14 0 (-1)) (M18 (14 + 6) 0 (-1)) ≤ 1000) ∧ ∀ Mz : Mem, Mz = adM M18 14 u1 → Qm y2 (kad κ (14 + 6)) Mz) ∧ (y6 < y4 → (∃ n31 : Nat, wp_X3_addCell_84 κ u1 Qm (wp_X3_addCell_71 κ u1 Qm n) n31 y2 q3 y4 y5 y6 (M 1 u1 1) M))) := hw
    refine lv_iload X.1.1 X.1.2.1 dX3_addCell_71 (lv_at hl 6 rfl) ?_
    refine lv_iload X.1.1 X.1.2.1 dX3_addCell_73 (lv_at hl 4 rfl) ?_
    refine sa_icmp_ge (tgt := 119) X.1 hy6 hy4 dX3_addCell_75 (by decide) (fun hc => ?_) (fun hc => ?_)
    · have hw := hw.1 hc
      refine lv_aload_n X.1.1 X.1.2.1 dX3_addCell_119 rfl (lv_at hl 1 rfl) ?_
      refine lv_aload_n X.1.1 X.1.2.1 dX3_addCell_120 rfl (lv_at hl 0 rfl) ?_
      refine lv_aload_n X.1.1 X.1.2.1 dX3_addCell_121 rfl (lv_at hl 1 rfl) ?_
      refine cs_X3_countShown X hu1 (kc := 7) rmX_ok ⟨by decide, by decide⟩ (by decide) hR hS kw_1050 hl.1 dX3_addCell_122 (Nat.le_of_ble_eq_true rfl) hw (fun x16 M15 H locs hw r17 hR hS => ?_)
      refine pt_1_12 X hR hS hu1 r17 kw_1018 dX3_addCell_125 (fun H locs hR hS => ?_)
      obtain ⟨M18, e19⟩ : ∃ z : Mem, z = up M15 1 u1 12 x16 := ⟨_, rfl⟩
      rw [← e19] at hR
      have hw := hw M18 e19
      refine lv_aload_n X.1.1 X.1.2.1 dX3_addCell_128 rfl (lv_at hl 0 rfl) ?_
      refine gt_4_2 X hR (okf X.2.2.1 rfl) kw_118 dX3_addCell_129 ?_
      refine lv_aload_n X.1.1 X.1.2.1 dX3_addCell_132 rfl (lv_at hl 1 rfl) ?_
      have c20 := hw.1
      have hw := hw.2
      have c21 := hw.1
      have hw := hw.2
      have c22 := hw.1
      have hw := hw.2
      exact sd_addret X he0 hR hS hu1 c20 c21 c22 hl.1 kw_801 dX3_addCell_133 dX3_addCell_136 dX3_addCell_137 dX3_addCell_138 (lv_at hl 2 rfl) hy2 ⟨by decide, by decide⟩ hw (by decide)
    · have hw := hw.2 hc
      refine lv_aload_n X.1.1 X.1.2.1 dX3_addCell_78 rfl (lv_at hl 1 rfl) ?_
      refine gt_1_1 X hR hu1 kw_989 dX3_addCell_79 ?_
      have r23 := hR.r 1 u1 1
      refine lv_istore (lv' := [(7, .int (Int32.ofInt (M 1 u1 1))), (0, .ref (α 4 0)), (1, .ref (α 1 u1)), (2, .int (Int32.ofInt y2)), (3, .ref (α q3 0)), (4, .int (Int32.ofInt y4)), (5, .int (Int32.ofInt y5)), (6, .int (Int32.ofInt y6))]) X.1.1 X.1.2.1 dX3_addCell_82 hl (by decide) rfl (fun ls hl => ?_)
      obtain ⟨n31, hw⟩ := hw
      exact t_X3_addCell_84 X he0 hu1 ih n31 _ _ _ _ _ _ _ hw hy2 hq3 hy4 hy5 hy6 r23 _ _ hR hS _ (lv_sub hl [1, 2, 3, 4, 5, 6, 7, 0] rfl)
set_option maxHeartbeats 4000000 in
set_option maxRecDepth 100000 in
theorem t_X3_addCell {u1 : Int} (X : CX p m c cX3_addCell 8 s args RX3 G B κ meth (some .int)) (he0 : e0 = G.2.2.2.2.2) (hu1 : okk κ 1 u1) {M : Mem} {Qm : Int → (Nat → Int) → Mem → Prop} (hw : wp_X3_addCell κ u1 M Qm) (H : Heap) (locs : List Loc) (hR : Rp G e0 α κ B M H) (hS : va_S (fun q => B ≤ q) s.heap H locs) (ls : Array Slot) (hl : lv_has ls 8 [(0, .ref (α 4 0)), (1, .ref (α 1 u1))]) : WD p l e 7 1 1000 s m args below meth c G e0 α B Qm H locs 0 0 0 ls [] := by
  have hw : (inR ((M 6 (M 1 u1 0) 6) + (M 1 u1 2))) ∧ (inR ((M 1 u1 1) + (M 1 u1 3))) ∧ (∃ n32 : Nat, wp_X3_addCell_71 κ u1 Qm n32 (M 14 0 (-1)) (rowL (M 6 (M 1 u1 0) 1)) (min ((M 6 (M 1 u1 0) 6) + (M 1 u1 2)) (M (rowL (M 6 (M 1 u1 0) 1)) 0 (-1))) (min ((M 1 u1 1) + (M 1 u1 3)) (M 12 0 (-1))) (M 6 (M 1 u1 0) 6) M) := hw
  refine lv_aload_n X.1.1 X.1.2.1 dX3_addCell_0 rfl (lv_at hl 0 rfl) ?_
  refine gt_4_2 X hR (okf X.2.2.1 rfl) kw_118 dX3_addCell_1 ?_
  refine ls_size (by decide) (by decide) X (kc := 7) rmX_ok ⟨by decide, by decide⟩ (by decide) hR hS kw_441 hl.1 dX3_addCell_4 (Nat.le_of_ble_eq_true rfl) (fun H locs hR hS => ?_)
  have r1 := hR.r 14 0 (-1)
  refine lv_istore_n (lv' := [(2, .int (Int32.ofInt (M 14 0 (-1)))), (0, .ref (α 4 0)), (1, .ref (α 1 u1))]) X.1.1 X.1.2.1 dX3_addCell_7 rfl hl (by decide) rfl (fun ls hl => ?_)
  refine lv_aload_n X.1.1 X.1.2.1 dX3_addCell_8 rfl (lv_at hl 1 rfl) ?_
  refine lv_aload_n X.1.1 X.1.2.1 dX3_addCell_9 rfl (lv_at hl 2 rfl) ?_
  refine gt_1_0 X hR hu1 kw_986 dX3_addCell_10 ?_
  have o2 := hR.2.2.2.1 _ hu1
  refine gt_6_1 X hR o2 kw_893 dX3_addCell_13 ?_
  have r3 := hR.r 6 (M 1 u1 0) 1
  refine cs_rowsOf X r3 (kc := 7) rmX_ok ⟨by decide, by decide⟩ (by decide) hR hS kw_872 hl.1 dX3_addCell_16 (Nat.le_of_ble_eq_true rfl) (fun H locs hR hS => ?_)
  refine lv_astore_n (lv' := [(3, .ref (α (rowL (M 6 (M 1 u1 0) 1)) 0)), (2, .int (Int32.ofInt (M 14 0 (-1)))), (0, .ref (α 4 0)), (1, .ref (α 1 u1))]) X.1.1 X.1.2.1 dX3_addCell_19 rfl hl (by decide) rfl (fun ls hl => ?_)
  refine lv_aload_n X.1.1 X.1.2.1 dX3_addCell_20 rfl (lv_at hl 3 rfl) ?_
  refine gt_1_0 X hR hu1 kw_986 dX3_addCell_21 ?_
  have o4 := hR.2.2.2.1 _ hu1
  refine gt_6_6 X hR o4 kw_905 dX3_addCell_24 ?_
  have r5 := hR.r 6 (M 1 u1 0) 6
  refine lv_aload_n X.1.1 X.1.2.1 dX3_addCell_27 rfl (lv_at hl 3 rfl) ?_
  refine gt_1_2 X hR hu1 kw_994 dX3_addCell_28 ?_
  have r6 := hR.r 1 u1 2
  have c7 := hw.1
  have hw := hw.2
  refine sa_iadd X.1 dX3_addCell_31 ?_
  refine lv_aload_n X.1.1 X.1.2.1 dX3_addCell_32 rfl (lv_at hl 0 rfl) ?_
  refine ls_size (Nat.le_trans (by decide) (rowL_ok (M 6 (M 1 u1 0) 1)).1) (rowL_ok (M 6 (M 1 u1 0) 1)).2 X (kc := 7) rmX_ok ⟨by decide, by decide⟩ (by decide) hR hS kw_441 hl.1 dX3_addCell_33 (Nat.le_of_ble_eq_true rfl) (fun H locs hR hS => ?_)
  have r8 := hR.r (rowL (M 6 (M 1 u1 0) 1)) 0 (-1)
  refine sa_min (R := rmX 7 1 1000) X.1 c7 r8 kw_471 hl.1 kmath_min_s kmath_i kmath_min_c (by decide) (Nat.le_of_ble_eq_true rfl) ⟨by decide, by decide⟩ dX3_addCell_36 ?_
  refine lv_istore (lv' := [(4, .int (Int32.ofInt (min ((M 6 (M 1 u1 0) 6) + (M 1 u1 2)) (M (rowL (M 6 (M 1 u1 0) 1)) 0 (-1))))), (3, .ref (α (rowL (M 6 (M 1 u1 0) 1)) 0)), (2, .int (Int32.ofInt (M 14 0 (-1)))), (0, .ref (α 4 0)), (1, .ref (α 1 u1))]) X.1.1 X.1.2.1 dX3_addCell_39 hl (by decide) rfl (fun ls hl => ?_)
  refine lv_aload_n X.1.1 X.1.2.1 dX3_addCell_41 rfl (lv_at hl 4 rfl) ?_
  refine gt_1_1 X hR hu1 kw_989 dX3_addCell_42 ?_
  have r9 := hR.r 1 u1 1
  refine lv_aload_n X.1.1 X.1.2.1 dX3_addCell_45 rfl (lv_at hl 4 rfl) ?_
  refine gt_1_3 X hR hu1 kw_998 dX3_addCell_46 ?_
  have r10 := hR.r 1 u1 3
  have c11 := hw.1
  have hw := hw.2
  refine sa_iadd X.1 dX3_addCell_49 ?_
  refine lv_aload_n X.1.1 X.1.2.1 dX3_addCell_50 rfl (lv_at hl 3 rfl) ?_
  refine gt_4_0 X hR (okf X.2.2.1 rfl) kw_112 dX3_addCell_51 ?_
  refine ls_size (by decide) (by decide) X (kc := 7) rmX_ok ⟨by decide, by decide⟩ (by decide) hR hS kw_441 hl.1 dX3_addCell_54 (Nat.le_of_ble_eq_true rfl) (fun H locs hR hS => ?_)
  have r12 := hR.r 12 0 (-1)
  refine sa_min (R := rmX 7 1 1000) X.1 c11 r12 kw_471 hl.1 kmath_min_s kmath_i kmath_min_c (by decide) (Nat.le_of_ble_eq_true rfl) ⟨by decide, by decide⟩ dX3_addCell_57 ?_
  refine lv_istore (lv' := [(5, .int (Int32.ofInt (min ((M 1 u1 1) + (M 1 u1 3)) (M 12 0 (-1))))), (4, .int (Int32.ofInt (min ((M 6 (M 1 u1 0) 6) + (M 1 u1 2)) (M (rowL (M 6 (M 1 u1 0) 1)) 0 (-1))))), (3, .ref (α (rowL (M 6 (M 1 u1 0) 1)) 0)), (2, .int (Int32.ofInt (M 14 0 (-1)))), (0, .ref (α 4 0)), (1, .ref (α 1 u1))]) X.1.1 X.1.2.1 dX3_addCell_60 hl (by decide) rfl (fun ls hl => ?_)
  refine lv_aload_n X.1.1 X.1.2.1 dX3_addCell_62 rfl (lv_at hl 5 rfl) ?_
  refine gt_1_0 X hR hu1 kw_986 dX3_addCell_63 ?_
  have o13 := hR.2.2.2.1 _ hu1
  refine gt_6_6 X hR o13 kw_905 dX3_addCell_66 ?_
  have r14 := hR.r 6 (M 1 u1 0) 6
  refine lv_istore (lv' := [(6, .int (Int32.ofInt (M 6 (M 1 u1 0) 6))), (5, .int (Int32.ofInt (min ((M 1 u1 1) + (M 1 u1 3)) (M 12 0 (-1))))), (4, .int (Int32.ofInt (min ((M 6 (M 1 u1 0) 6) + (M 1 u1 2)) (M (rowL (M 6 (M 1 u1 0) 1)) 0 (-1))))), (3, .ref (α (rowL (M 6 (M 1 u1 0) 1)) 0)), (2, .int (Int32.ofInt (M 14 0 (-1)))), (0, .ref (α 4 0)), (1, .ref (α 1 u1))]) X.1.1 X.1.2.1 dX3_addCell_69 hl (by decide) rfl (fun ls hl => ?_)
  obtain ⟨n32, hw⟩ := hw
  exact t_X3_addCell_71 X he0 hu1 n32 _ _ _ _ _ _ hw r1 (rowL_ok (M 6 (M 1 u1 0) 1)) (inR_min c7 r8) (inR_min c11 r12) r14 _ _ hR hS _ (lv_sub hl [5, 6, 4, 3, 2, 1, 0] rfl)
theorem m_X3_addCell {l : Launch} {G : Gx} {e0 : Nat} {α : Ax} {κ : Nat → Int} {B : Nat} {u1 : Int} (he0 : e0 = G.2.2.2.2.2) (hκ : kOK κ) (hu1 : okk κ 1 u1) {M : Mem} {Qm : Int → (Nat → Int) → Mem → Prop} (hw : wp_X3_addCell κ u1 M Qm) : DI l yX3_addCell (Cond.code yX3_addCell cX3_addCell 8 (some .int)) 7 1 1000 G e0 α κ B [.ref (α 4 0), .ref (α 1 u1)] M Qm :=
  DI.mk hκ (by decide +kernel) rfl (Nat.le_of_ble_eq_true rfl) (lv := [(0, .ref (α 4 0)), (1, .ref (α 1 u1))]) rfl (fun p e s m args below meth c ls X hR hS hl => t_X3_addCell X he0 hu1 hw _ _ hR hS ls hl)
def wp_X9_cell_33 (κ : Nat → Int) (p1 : Int) (p2 : Int) (p3 : Int) (p4 : Int) (Xm : String → Mem → Prop) (Qm : Int → (Nat → Int) → Mem → Prop) (M : Mem) : Prop := Xm xIAE M
def wp_X9_cell_90 (κ : Nat → Int) (p1 : Int) (p2 : Int) (p3 : Int) (p4 : Int) (Xm : String → Mem → Prop) (Qm : Int → (Nat → Int) → Mem → Prop) (M : Mem) : Prop := Xm xISE M
def wp_X9_cell (κ : Nat → Int) (p1 : Int) (p2 : Int) (p3 : Int) (p4 : Int) (M : Mem) (Xm : String → Mem → Prop) (Qm : Int → (Nat → Int) → Mem → Prop) : Prop := wp_X9_requireRow p1 M Xm fun (M1 : Mem) => wp_X9_requireColumn p2 M1 Xm fun (M2 : Mem) => ((p3 < 1 → wp_X9_cell_33 κ p1 p2 p3 p4 Xm Qm M2) ∧ (1 ≤ p3 → ((4 < p3 → wp_X9_cell_33 κ p1 p2 p3 p4 Xm Qm M2) ∧ (p3 ≤ 4 → ((p4 < 1 → wp_X9_cell_33 κ p1 p2 p3 p4 Xm Qm M2) ∧ (1 ≤ p4 → ((p4 ≤ 6 → (0 ≤ p1 ∧ p1 < M2 13 0 (-1)) ∧ ((100 ≤ (M2 14 0 (-1)) → wp_X9_cell_90 κ p1 p2 p3 p4 Xm Qm M2) ∧ ((M2 14 0 (-1)) < 100 → wp_X3_hasFreePlaces (M2 13 0 p1) p2 p3 p4 M2 fun (x7 : Int) (M6 : Mem) => ((¬ x7 = 0 → ∀ M9 : Mem, M9 = up M6 10 0 10 1 → (0 ≤ κ 1) ∧ (inR (κ 1)) ∧ (inR (M2 13 0 p1)) ∧ ∀ Mz : Mem, Mz = nwC M9 (κ 1) (M2 13 0 p1) p2 p3 p4 → wp_X3_addCell (kup [1, 24, 25, 26] κ) (κ 1) Mz Qm) ∧ (x7 = 0 → wp_X9_cell_90 κ p1 p2 p3 p4 Xm Qm M6))))) ∧ (6 < p4 → wp_X9_cell_33 κ p1 p2 p3 p4 Xm Qm M2))))))))
set_option maxHeartbeats 4000000 in
set_option maxRecDepth 100000 in
theorem t_X9_cell_33 {p1 : Int} {p2 : Int} {p3 : Int} {p4 : Int} (X : CX p m c cX9_cell 6 s args RX9 G B κ meth (some .int)) (T : XT l c) (he0 : e0 = G.2.2.2.2.2) (hp1 : inR p1) (hp2 : inR p2) (hp3 : inR p3) (hp4 : inR p4) {Xm : String → Mem → Prop} {Qm : Int → (Nat → Int) → Mem → Prop} : ∀ M : Mem, wp_X9_cell_33 κ p1 p2 p3 p4 Xm Qm M → ∀ (H : Heap) (locs : List Loc), Rp G e0 α κ B M H → va_S (fun q => B ≤ q) s.heap H locs → ∀ (ls : Array Slot), lv_has ls 6 [] → WXD p l e 8 7 1053 s m args below meth c G e0 α κ B Qm Xm H locs 2 12 33 ls [] := by
  intro M hw H locs hR hS ls hl
  have hw : Xm xIAE M := hw
  exact sx_throw (text := "rows or columns is out of range") X T xw_IAE (by decide +kernel) hR hS hl.1 dX9_cell_33 dX9_cell_36 dX9_cell_37 dX9_cell_39 dX9_cell_42 (by decide) (by decide) (by decide) hw
set_option maxHeartbeats 4000000 in
set_option maxRecDepth 100000 in
theorem t_X9_cell_90 {p1 : Int} {p2 : Int} {p3 : Int} {p4 : Int} (X : CX p m c cX9_cell 6 s args RX9 G B κ meth (some .int)) (T : XT l c) (he0 : e0 = G.2.2.2.2.2) (hp1 : inR p1) (hp2 : inR p2) (hp3 : inR p3) (hp4 : inR p4) {Xm : String → Mem → Prop} {Qm : Int → (Nat → Int) → Mem → Prop} : ∀ M : Mem, wp_X9_cell_90 κ p1 p2 p3 p4 Xm Qm M → ∀ (H : Heap) (locs : List Loc), Rp G e0 α κ B M H → va_S (fun q => B ≤ q) s.heap H locs → ∀ (ls : Array Slot), lv_has ls 6 [] → WXD p l e 8 7 1053 s m args below meth c G e0 α κ B Qm Xm H locs 2 12 90 ls [] := by
  intro M hw H locs hR hS ls hl
  have hw : Xm xISE M := hw
  exact sx_throw (text := "there are 100 cells, or no free places for it") X T xw_ISE (by decide +kernel) hR hS hl.1 dX9_cell_90 dX9_cell_93 dX9_cell_94 dX9_cell_96 dX9_cell_99 (by decide) (by decide) (by decide) hw
set_option maxHeartbeats 4000000 in
set_option maxRecDepth 100000 in
theorem t_X9_cell {p1 : Int} {p2 : Int} {p3 : Int} {p4 : Int} (X : CX p m c cX9_cell 6 s args RX9 G B κ meth (some .int)) (T : XT l c) (he0 : e0 = G.2.2.2.2.2) (hp1 : inR p1) (hp2 : inR p2) (hp3 : inR p3) (hp4 : inR p4) {M : Mem} {Xm : String → Mem → Prop} {Qm : Int → (Nat → Int) → Mem → Prop} (hw : wp_X9_cell κ p1 p2 p3 p4 M Xm Qm) (H : Heap) (locs : List Loc) (hR : Rp G e0 α κ B M H) (hS : va_S (fun q => B ≤ q) s.heap H locs) (ls : Array Slot) (hl : lv_has ls 6 [(0, .ref (α 10 0)), (1, .int (Int32.ofInt p1)), (2, .int (Int32.ofInt p2)), (3, .int (Int32.ofInt p3)), (4, .int (Int32.ofInt p4))]) : WXD p l e 8 7 1053 s m args below meth c G e0 α κ B Qm Xm H locs 0 0 0 ls [] := by
  have hw : wp_X9_requireRow p1 M Xm fun (M1 : Mem) => wp_X9_requireColumn p2 M1 Xm fun (M2 : Mem) => ((p3 < 1 → wp_X9_cell_33 κ p1 p2 p3 p4 Xm Qm M2) ∧ (1 ≤ p3 → ((4 < p3 → wp_X9_cell_33 κ p1 p2 p3 p4 Xm Qm M2) ∧ (p3 ≤ 4 → ((p4 < 1 → wp_X9_cell_33 κ p1 p2 p3 p4 Xm Qm M2) ∧ (1 ≤ p4 → ((p4 ≤ 6 → (0 ≤ p1 ∧ p1 < M2 13 0 (-1)) ∧ ((100 ≤ (M2 14 0 (-1)) → wp_X9_cell_90 κ p1 p2 p3 p4 Xm Qm M2) ∧ ((M2 14 0 (-1)) < 100 → wp_X3_hasFreePlaces (M2 13 0 p1) p2 p3 p4 M2 fun (x7 : Int) (M6 : Mem) => ((¬ x7 = 0 → ∀ M9 : Mem, M9 = up M6 10 0 10 1 → (0 ≤ κ 1) ∧ (inR (κ 1)) ∧ (inR (M2 13 0 p1)) ∧ ∀ Mz : Mem, Mz = nwC M9 (κ 1) (M2 13 0 p1) p2 p3 p4 → wp_X3_addCell (kup [1, 24, 25, 26] κ) (κ 1) Mz Qm) ∧ (x7 = 0 → wp_X9_cell_90 κ p1 p2 p3 p4 Xm Qm M6))))) ∧ (6 < p4 → wp_X9_cell_33 κ p1 p2 p3 p4 Xm Qm M2)))))))) := hw
  refine lv_aload_n X.1.1 X.1.2.1 dX9_cell_0 rfl (lv_at hl 0 rfl) ?_
  refine lv_iload_n X.1.1 X.1.2.1 dX9_cell_1 rfl (lv_at hl 1 rfl) ?_
  refine cx_X9_requireRow X T hp1 (by decide) ⟨by decide, by decide⟩ hR hS kw_938 hl.1 dX9_cell_2 (Nat.le_of_ble_eq_true rfl) hw (fun M1 H locs hw hR hS => ?_)
  refine W.widen (k := 1) (n := 6) (by decide) (by decide) ?_
  refine lv_aload_n X.1.1 X.1.2.1 dX9_cell_5 rfl (lv_at hl 0 rfl) ?_
  refine lv_iload_n X.1.1 X.1.2.1 dX9_cell_6 rfl (lv_at hl 2 rfl) ?_
  refine cx_X9_requireColumn X T hp2 (by decide) ⟨by decide, by decide⟩ hR hS kw_959 hl.1 dX9_cell_7 (Nat.le_of_ble_eq_true rfl) hw (fun M2 H locs hw hR hS => ?_)
  refine W.widen (k := 2) (n := 12) (by decide) (by decide) ?_
  refine lv_iload_n X.1.1 X.1.2.1 dX9_cell_10 rfl (lv_at hl 3 rfl) ?_
  refine sa_const X.1 dX9_cell_11 ?_
  refine sa_icmp_lt (tgt := 33) X.1 hp3 (inR_c (a := 1) rfl) dX9_cell_12 (by decide) (fun hc => ?_) (fun hc => ?_)
  · have hw := hw.1 hc
    exact t_X9_cell_33 X T he0 hp1 hp2 hp3 hp4 _ hw _ _ hR hS _ (lv_sub hl [] rfl)
  · have hw := hw.2 hc
    refine lv_iload_n X.1.1 X.1.2.1 dX9_cell_15 rfl (lv_at hl 3 rfl) ?_
    refine sa_const X.1 dX9_cell_16 ?_
    refine sa_icmp_gt (tgt := 33) X.1 hp3 (inR_c (a := 4) rfl) dX9_cell_17 (by decide) (fun hc => ?_) (fun hc => ?_)
    · have hw := hw.1 hc
      exact t_X9_cell_33 X T he0 hp1 hp2 hp3 hp4 _ hw _ _ hR hS _ (lv_sub hl [] rfl)
    · have hw := hw.2 hc
      refine lv_iload X.1.1 X.1.2.1 dX9_cell_20 (lv_at hl 4 rfl) ?_
      refine sa_const X.1 dX9_cell_22 ?_
      refine sa_icmp_lt (tgt := 33) X.1 hp4 (inR_c (a := 1) rfl) dX9_cell_23 (by decide) (fun hc => ?_) (fun hc => ?_)
      · have hw := hw.1 hc
        exact t_X9_cell_33 X T he0 hp1 hp2 hp3 hp4 _ hw _ _ hR hS _ (lv_sub hl [] rfl)
      · have hw := hw.2 hc
        refine lv_iload X.1.1 X.1.2.1 dX9_cell_26 (lv_at hl 4 rfl) ?_
        refine sa_bipush X.1 dX9_cell_28 (by decide) ?_
        refine sa_icmp_le (tgt := 43) X.1 hp4 (inR_c (a := 6) rfl) dX9_cell_30 (by decide) (fun hc => ?_) (fun hc => ?_)
        · have hw := hw.1 hc
          refine lv_aload_n X.1.1 X.1.2.1 dX9_cell_43 rfl (lv_at hl 0 rfl) ?_
          refine gt_10_0 X hR (okf X.2.2.1 rfl) kw_332 dX9_cell_44 ?_
          refine gt_4_1 X hR (okf X.2.2.1 rfl) kw_116 dX9_cell_47 ?_
          refine lv_iload_n X.1.1 X.1.2.1 dX9_cell_50 rfl (lv_at hl 1 rfl) ?_
          have c3 := hw.1
          have hw := hw.2
          refine ls_get (ci := 6) (by decide) (by decide) rfl X c3 (kc := 8) rmX_ok ⟨by decide, by decide⟩ (by decide) hR hS kw_969 hl.1 dX9_cell_51 (Nat.le_of_ble_eq_true rfl) (fun H locs o4 hR hS => ?_)
          refine ck_6 X hR o4 kw_970 dX9_cell_54 ?_
          refine lv_astore (lv' := [(5, .ref (α 6 (M2 13 0 p1))), (0, .ref (α 10 0)), (1, .int (Int32.ofInt p1)), (2, .int (Int32.ofInt p2)), (3, .int (Int32.ofInt p3)), (4, .int (Int32.ofInt p4))]) X.1.1 X.1.2.1 dX9_cell_57 hl (by decide) rfl (fun ls hl => ?_)
          refine lv_aload_n X.1.1 X.1.2.1 dX9_cell_59 rfl (lv_at hl 1 rfl) ?_
          refine gt_10_0 X hR (okf X.2.2.1 rfl) kw_332 dX9_cell_60 ?_
          refine gt_4_2 X hR (okf X.2.2.1 rfl) kw_121 dX9_cell_63 ?_
          refine ls_size (by decide) (by decide) X (kc := 8) rmX_ok ⟨by decide, by decide⟩ (by decide) hR hS kw_753 hl.1 dX9_cell_66 (Nat.le_of_ble_eq_true rfl) (fun H locs hR hS => ?_)
          have r5 := hR.r 14 0 (-1)
          refine sa_bipush X.1 dX9_cell_69 (by decide) ?_
          refine sa_icmp_ge (tgt := 90) X.1 r5 (inR_c (a := 100) rfl) dX9_cell_71 (by decide) (fun hc => ?_) (fun hc => ?_)
          · have hw := hw.1 hc
            exact t_X9_cell_90 X T he0 hp1 hp2 hp3 hp4 _ hw _ _ hR hS _ (lv_sub hl [] rfl)
          · have hw := hw.2 hc
            refine lv_aload_n X.1.1 X.1.2.1 dX9_cell_74 rfl (lv_at hl 1 rfl) ?_
            refine gt_10_0 X hR (okf X.2.2.1 rfl) kw_332 dX9_cell_75 ?_
            refine lv_aload X.1.1 X.1.2.1 dX9_cell_78 (lv_at hl 0 rfl) ?_
            refine lv_iload_n X.1.1 X.1.2.1 dX9_cell_80 rfl (lv_at hl 3 rfl) ?_
            refine lv_iload_n X.1.1 X.1.2.1 dX9_cell_81 rfl (lv_at hl 4 rfl) ?_
            refine lv_iload X.1.1 X.1.2.1 dX9_cell_82 (lv_at hl 5 rfl) ?_
            refine cs_X3_hasFreePlaces X o4 hp2 hp3 hp4 (kc := 8) rmX_ok ⟨by decide, by decide⟩ (by decide) hR hS kw_971 hl.1 dX9_cell_84 (Nat.le_of_ble_eq_true rfl) hw (fun x7 M6 H locs hw r8 hR hS => ?_)
            refine sa_if_ne (tgt := 100) X.1 r8 dX9_cell_87 (by decide) (fun hc => ?_) (fun hc => ?_)
            · have hw := hw.1 hc
              refine lv_aload_n X.1.1 X.1.2.1 dX9_cell_100 rfl (lv_at hl 1 rfl) ?_
              refine sa_const X.1 dX9_cell_101 ?_
              refine pt_10_10 X hR hS (okf X.2.2.1 rfl) (Or.inr rfl) kw_342 dX9_cell_102 (fun H locs hR hS => ?_)
              obtain ⟨M9, e10⟩ : ∃ z : Mem, z = up M6 10 0 10 1 := ⟨_, rfl⟩
              rw [← e10] at hR
              have hw := hw M9 e10
              refine lv_aload_n X.1.1 X.1.2.1 dX9_cell_105 rfl (lv_at hl 1 rfl) ?_
              refine gt_10_0 X hR (okf X.2.2.1 rfl) kw_332 dX9_cell_106 ?_
              obtain ⟨w0, w1, w2, hw⟩ := hw
              have hw := hw _ rfl
              have hBH : B ≤ H.size := Nat.le_trans X.2.1.2.2 hS.1
              refine cn_newF (ci := 1) (N := 13) (fs := [.null, .int 0, .int 0, .int 0, .null, .null, .null, .int 0, .int 0, .int 0, .int 0, .int 0, .int 0]) X.1 X.2.1 rfl tyX0 tyX0_ok gf_X0 (by intro j hj; have h : j = 0 ∨ j = 1 ∨ j = 2 ∨ j = 3 ∨ j = 4 ∨ j = 5 ∨ j = 6 ∨ j = 7 ∨ j = 8 ∨ j = 9 ∨ j = 10 ∨ j = 11 ∨ j = 12 := (by omega); rcases h with rfl | rfl | rfl | rfl | rfl | rfl | rfl | rfl | rfl | rfl | rfl | rfl | rfl <;> rfl) kw_976 kw_523 kw_52 hS (by decide) (by decide) dX9_cell_109 (fun H1 hP z1 o1 hS => ?_)
              refine lv_dup X.1.1 X.1.2.1 dX9_cell_112 rfl ?_
              refine lv_aload X.1.1 X.1.2.1 dX9_cell_113 (lv_at hl 0 rfl) ?_
              refine lv_iload_n X.1.1 X.1.2.1 dX9_cell_115 rfl (lv_at hl 3 rfl) ?_
              refine lv_iload_n X.1.1 X.1.2.1 dX9_cell_116 rfl (lv_at hl 4 rfl) ?_
              refine lv_iload X.1.1 X.1.2.1 dX9_cell_117 (lv_at hl 5 rfl) ?_
              refine cn_callF (n := 4) (As := [.ref (α 6 (M2 13 0 p1)), .int (Int32.ofInt p2), .int (Int32.ofInt p3), .int (Int32.ofInt p4)]) (rest := [.ref H.size, .ref (α 4 0)]) X.1 X.2.1 hP hBH hS n_X0_init kw_977 kw_978 kw_52 kw_979 rfl ⟨by decide +kernel, by decide +kernel, by decide +kernel⟩ ⟨(Nat.le_of_ble_eq_true rfl), (Nat.le_of_ble_eq_true rfl)⟩ rfl rfl (Nat.le_of_ble_eq_true rfl) hl.1 dX9_cell_119 ⟨by decide, by decide⟩ (fun u H2 locs ho hP hD hz hk hS => ?_)
              obtain ⟨q1, q2, q3, rfl⟩ := ho
              have h01 : H.size ≠ q1 := fun z => absurd (hD.1 0 1 _ _ rfl rfl z) (by decide)
              have h02 : H.size ≠ q2 := fun z => absurd (hD.1 0 2 _ _ rfl rfl z) (by decide)
              have h03 : H.size ≠ q3 := fun z => absurd (hD.1 0 3 _ _ rfl rfl z) (by decide)
              have h12 : q1 ≠ q2 := fun z => absurd (hD.1 1 2 _ _ rfl rfl z) (by decide)
              have h13 : q1 ≠ q3 := fun z => absurd (hD.1 1 3 _ _ rfl rfl z) (by decide)
              have h23 : q2 ≠ q3 := fun z => absurd (hD.1 2 3 _ _ rfl rfl z) (by decide)
              have bq1 : H.size ≤ q1 := An_ge (hD.2 1 _ rfl) (Nat.le_refl _) (by omega)
              have bq2 : H.size ≤ q2 := An_ge (hD.2 2 _ rfl) (Nat.le_refl _) (by omega)
              have bq3 : H.size ≤ q3 := An_ge (hD.2 3 _ rfl) (Nat.le_refl _) (by omega)
              obtain ⟨hR1, hκ1⟩ := Rp.new1 (r := (M2 13 0 p1)) X.2.2.1 hR hBH w2 hp2 hp3 hp4 ⟨o4.1, by show _ < κ 6; exact o4.2⟩ hP (Nat.le_refl _) bq1 bq2 bq3 h01 h02 h03 h12 h13 h23 (fun x hx => (hk x (by omega) (by omega)).trans (o1 x hx))
              obtain ⟨α1, ha1⟩ : ∃ z : Ax, z = upA (upA (upA (upA α 1 (κ 1) H.size) 24 (κ 1) q1) 25 (κ 1) q2) 26 (κ 1) q3 := ⟨_, rfl⟩
              rw [← ha1] at hR1
              have e4 : α 4 0 = α1 4 0 := by rw [ha1, upA_s _ _ _ (by decide), upA_s _ _ _ (by decide), upA_s _ _ _ (by decide), upA_s _ _ _ (by decide)]
              have ew : H.size = α1 1 (κ 1) := by rw [ha1, upA_s _ _ _ (by decide), upA_s _ _ _ (by decide), upA_s _ _ _ (by decide), upA_eq]
              have X1 := X.re hκ1
              rw [e4, ew]
              refine sd_callV 7 (n := 1) (As := [.ref (α1 1 (κ 1))]) (rest := []) X1 hR1 hS (m_X3_addCell he0 hκ1 ⟨w0, by show κ 1 < κ 1 + 1; omega⟩ hw) kw_1046 kw_1047 kw_1048 kw_39 kw_1049 ⟨rfl, by decide +kernel, by decide +kernel, by decide +kernel⟩ ⟨by decide, by decide⟩ (rc_4 X1 hR1 (okf hκ1 rfl)) rfl rfl (Nat.le_of_ble_eq_true rfl) hl.1 dX9_cell_122 ⟨by decide, by decide⟩ (fun r κ2 α2 M2 H1 locs1 hq hx hA hk hR hS => ?_)
              exact sd_xiret (X.re hk) hR hS hx hq (Ak.tr (by rw [ha1]; exact (((Ak.rf.up (Or.inl (by decide))).up (Or.inr ⟨by decide, by decide⟩)).up (Or.inr ⟨by decide, by decide⟩)).up (Or.inr ⟨by decide, by decide⟩)) hA) dX9_cell_125 (by decide) (by decide)
            · have hw := hw.2 hc
              exact t_X9_cell_90 X T he0 hp1 hp2 hp3 hp4 _ hw _ _ hR hS _ (lv_sub hl [] rfl)
        · have hw := hw.2 hc
          exact t_X9_cell_33 X T he0 hp1 hp2 hp3 hp4 _ hw _ _ hR hS _ (lv_sub hl [] rfl)
theorem m_X9_cell {l : Launch} {G : Gx} {e0 : Nat} {α : Ax} {κ : Nat → Int} {B : Nat} {p1 : Int} {p2 : Int} {p3 : Int} {p4 : Int} (hlt : l.stackTraces = false) (he0 : e0 = G.2.2.2.2.2) (hκ : kOK κ) (hp1 : inR p1) (hp2 : inR p2) (hp3 : inR p3) (hp4 : inR p4) {M : Mem} {Qm : Int → (Nat → Int) → Mem → Prop} {Xm : String → Mem → Prop} (hw : wp_X9_cell κ p1 p2 p3 p4 M Xm Qm) : XD l yX9_cell (Cond.code yX9_cell cX9_cell 6 (some .int)) 8 7 1053 G e0 α κ B [.ref (α 10 0), .int (Int32.ofInt p1), .int (Int32.ofInt p2), .int (Int32.ofInt p3), .int (Int32.ofInt p4)] M Qm Xm :=
  XD.mk hlt hκ (by decide +kernel) rfl (Nat.le_of_ble_eq_true rfl) (lv := [(0, .ref (α 10 0)), (1, .int (Int32.ofInt p1)), (2, .int (Int32.ofInt p2)), (3, .int (Int32.ofInt p3)), (4, .int (Int32.ofInt p4))]) rfl (fun p e s m args below meth c ls X T hR hS hl => t_X9_cell X T he0 hp1 hp2 hp3 hp4 hw _ _ hR hS ls hl)
end
