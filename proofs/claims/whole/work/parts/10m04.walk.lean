theorem dX10_laysHeights_0 : decode cX10_laysHeights 0 = .ok (.aload_n 0, 1) := by decide +kernel
theorem dX10_laysHeights_1 : decode cX10_laysHeights 1 = .ok (.invokevirtual 265, 3) := by decide +kernel
theorem dX10_laysHeights_4 : decode cX10_laysHeights 4 = .ok (.aload_n 0, 1) := by decide +kernel
theorem dX10_laysHeights_5 : decode cX10_laysHeights 5 = .ok (.invokevirtual 280, 3) := by decide +kernel
theorem dX10_laysHeights_8 : decode cX10_laysHeights 8 = .ok (.return_, 1) := by decide +kernel
theorem dX10_sumOf_0 : decode cX10_sumOf 0 = .ok (.iconst 0, 1) := by decide +kernel
theorem dX10_sumOf_1 : decode cX10_sumOf 1 = .ok (.istore_n 2, 1) := by decide +kernel
theorem dX10_sumOf_2 : decode cX10_sumOf 2 = .ok (.iconst 0, 1) := by decide +kernel
theorem dX10_sumOf_3 : decode cX10_sumOf 3 = .ok (.istore_n 3, 1) := by decide +kernel
theorem dX10_sumOf_4 : decode cX10_sumOf 4 = .ok (.iload_n 3, 1) := by decide +kernel
theorem dX10_sumOf_5 : decode cX10_sumOf 5 = .ok (.aload_n 0, 1) := by decide +kernel
theorem dX10_sumOf_6 : decode cX10_sumOf 6 = .ok (.getfield 35, 3) := by decide +kernel
theorem dX10_sumOf_9 : decode cX10_sumOf 9 = .ok (.iload_n 1, 1) := by decide +kernel
theorem dX10_sumOf_10 : decode cX10_sumOf 10 = .ok (.iaload, 1) := by decide +kernel
theorem dX10_sumOf_11 : decode cX10_sumOf 11 = .ok (.if_icmp .ge 28, 3) := by decide +kernel
theorem dX10_sumOf_14 : decode cX10_sumOf 14 = .ok (.iload_n 2, 1) := by decide +kernel
theorem dX10_sumOf_15 : decode cX10_sumOf 15 = .ok (.aload_n 0, 1) := by decide +kernel
theorem dX10_sumOf_16 : decode cX10_sumOf 16 = .ok (.getfield 105, 3) := by decide +kernel
theorem dX10_sumOf_19 : decode cX10_sumOf 19 = .ok (.aload_n 0, 1) := by decide +kernel
theorem dX10_sumOf_20 : decode cX10_sumOf 20 = .ok (.getfield 32, 3) := by decide +kernel
theorem dX10_sumOf_23 : decode cX10_sumOf 23 = .ok (.bipush 24, 2) := by decide +kernel
theorem dX10_sumOf_25 : decode cX10_sumOf 25 = .ok (.iload_n 1, 1) := by decide +kernel
theorem dX10_sumOf_26 : decode cX10_sumOf 26 = .ok (.imul, 1) := by decide +kernel
theorem dX10_sumOf_27 : decode cX10_sumOf 27 = .ok (.iload_n 3, 1) := by decide +kernel
theorem dX10_sumOf_28 : decode cX10_sumOf 28 = .ok (.iadd, 1) := by decide +kernel
theorem dX10_sumOf_29 : decode cX10_sumOf 29 = .ok (.iaload, 1) := by decide +kernel
theorem dX10_sumOf_30 : decode cX10_sumOf 30 = .ok (.iaload, 1) := by decide +kernel
theorem dX10_sumOf_31 : decode cX10_sumOf 31 = .ok (.iadd, 1) := by decide +kernel
theorem dX10_sumOf_32 : decode cX10_sumOf 32 = .ok (.istore_n 2, 1) := by decide +kernel
theorem dX10_sumOf_33 : decode cX10_sumOf 33 = .ok (.iinc 3 1, 3) := by decide +kernel
theorem dX10_sumOf_36 : decode cX10_sumOf 36 = .ok (.goto (-32), 3) := by decide +kernel
theorem dX10_sumOf_39 : decode cX10_sumOf 39 = .ok (.iload_n 2, 1) := by decide +kernel
theorem dX10_sumOf_40 : decode cX10_sumOf 40 = .ok (.ireturn, 1) := by decide +kernel
theorem dX10_lines_0 : decode cX10_lines 0 = .ok (.aload_n 0, 1) := by decide +kernel
theorem dX10_lines_1 : decode cX10_lines 1 = .ok (.aload_n 0, 1) := by decide +kernel
theorem dX10_lines_2 : decode cX10_lines 2 = .ok (.iload_n 1, 1) := by decide +kernel
theorem dX10_lines_3 : decode cX10_lines 3 = .ok (.invokevirtual 194, 3) := by decide +kernel
theorem dX10_lines_6 : decode cX10_lines 6 = .ok (.iconst 1, 1) := by decide +kernel
theorem dX10_lines_7 : decode cX10_lines 7 = .ok (.iconst 1, 1) := by decide +kernel
theorem dX10_lines_8 : decode cX10_lines 8 = .ok (.invokevirtual 175, 3) := by decide +kernel
theorem dX10_lines_11 : decode cX10_lines 11 = .ok (.ifCond .ne 5, 3) := by decide +kernel
theorem dX10_lines_14 : decode cX10_lines 14 = .ok (.iconst 0, 1) := by decide +kernel
theorem dX10_lines_15 : decode cX10_lines 15 = .ok (.ireturn, 1) := by decide +kernel
theorem dX10_lines_16 : decode cX10_lines 16 = .ok (.aload_n 0, 1) := by decide +kernel
theorem dX10_lines_17 : decode cX10_lines 17 = .ok (.invokevirtual 265, 3) := by decide +kernel
theorem dX10_lines_20 : decode cX10_lines 20 = .ok (.aload_n 0, 1) := by decide +kernel
theorem dX10_lines_21 : decode cX10_lines 21 = .ok (.iload_n 1, 1) := by decide +kernel
theorem dX10_lines_22 : decode cX10_lines 22 = .ok (.invokevirtual 277, 3) := by decide +kernel
theorem dX10_lines_25 : decode cX10_lines 25 = .ok (.ireturn, 1) := by decide +kernel
theorem dX10_height_0 : decode cX10_height 0 = .ok (.aload_n 0, 1) := by decide +kernel
theorem dX10_height_1 : decode cX10_height 1 = .ok (.aload_n 0, 1) := by decide +kernel
theorem dX10_height_2 : decode cX10_height 2 = .ok (.iload_n 1, 1) := by decide +kernel
theorem dX10_height_3 : decode cX10_height 3 = .ok (.invokevirtual 183, 3) := by decide +kernel
theorem dX10_height_6 : decode cX10_height 6 = .ok (.iconst 1, 1) := by decide +kernel
theorem dX10_height_7 : decode cX10_height 7 = .ok (.iconst 1, 1) := by decide +kernel
theorem dX10_height_8 : decode cX10_height 8 = .ok (.invokevirtual 175, 3) := by decide +kernel
theorem dX10_height_11 : decode cX10_height 11 = .ok (.ifCond .ne 5, 3) := by decide +kernel
theorem dX10_height_14 : decode cX10_height 14 = .ok (.iconst 0, 1) := by decide +kernel
theorem dX10_height_15 : decode cX10_height 15 = .ok (.ireturn, 1) := by decide +kernel
theorem dX10_height_16 : decode cX10_height 16 = .ok (.aload_n 0, 1) := by decide +kernel
theorem dX10_height_17 : decode cX10_height 17 = .ok (.invokevirtual 283, 3) := by decide +kernel
theorem dX10_height_20 : decode cX10_height 20 = .ok (.aload_n 0, 1) := by decide +kernel
theorem dX10_height_21 : decode cX10_height 21 = .ok (.getfield 105, 3) := by decide +kernel
theorem dX10_height_24 : decode cX10_height 24 = .ok (.iload_n 1, 1) := by decide +kernel
theorem dX10_height_25 : decode cX10_height 25 = .ok (.iaload, 1) := by decide +kernel
theorem dX10_height_26 : decode cX10_height 26 = .ok (.ireturn, 1) := by decide +kernel
theorem dX10_heightByCells_0 : decode cX10_heightByCells 0 = .ok (.aload_n 0, 1) := by decide +kernel
theorem dX10_heightByCells_1 : decode cX10_heightByCells 1 = .ok (.iload_n 1, 1) := by decide +kernel
theorem dX10_heightByCells_2 : decode cX10_heightByCells 2 = .ok (.invokevirtual 286, 3) := by decide +kernel
theorem dX10_heightByCells_5 : decode cX10_heightByCells 5 = .ok (.ireturn, 1) := by decide +kernel
theorem dX10_tableHeight_0 : decode cX10_tableHeight 0 = .ok (.aload_n 0, 1) := by decide +kernel
theorem dX10_tableHeight_1 : decode cX10_tableHeight 1 = .ok (.iconst 0, 1) := by decide +kernel
theorem dX10_tableHeight_2 : decode cX10_tableHeight 2 = .ok (.putfield 159, 3) := by decide +kernel
theorem dX10_tableHeight_5 : decode cX10_tableHeight 5 = .ok (.aload_n 0, 1) := by decide +kernel
theorem dX10_tableHeight_6 : decode cX10_tableHeight 6 = .ok (.invokevirtual 283, 3) := by decide +kernel
theorem dX10_tableHeight_9 : decode cX10_tableHeight 9 = .ok (.aload_n 0, 1) := by decide +kernel
theorem dX10_tableHeight_10 : decode cX10_tableHeight 10 = .ok (.iconst 1, 1) := by decide +kernel
theorem dX10_tableHeight_11 : decode cX10_tableHeight 11 = .ok (.invokevirtual 289, 3) := by decide +kernel
theorem dX10_tableHeight_14 : decode cX10_tableHeight 14 = .ok (.ireturn, 1) := by decide +kernel
theorem dX10_goesOn_0 : decode cX10_goesOn 0 = .ok (.iconst 0, 1) := by decide +kernel
theorem dX10_goesOn_1 : decode cX10_goesOn 1 = .ok (.istore_n 1, 1) := by decide +kernel
theorem dX10_goesOn_2 : decode cX10_goesOn 2 = .ok (.iload_n 1, 1) := by decide +kernel
theorem dX10_goesOn_3 : decode cX10_goesOn 3 = .ok (.aload_n 0, 1) := by decide +kernel
theorem dX10_goesOn_4 : decode cX10_goesOn 4 = .ok (.getfield 162, 3) := by decide +kernel
theorem dX10_goesOn_7 : decode cX10_goesOn 7 = .ok (.if_icmp .ge 74, 3) := by decide +kernel
theorem dX10_goesOn_10 : decode cX10_goesOn 10 = .ok (.aload_n 0, 1) := by decide +kernel
theorem dX10_goesOn_11 : decode cX10_goesOn 11 = .ok (.iload_n 1, 1) := by decide +kernel
theorem dX10_goesOn_12 : decode cX10_goesOn 12 = .ok (.invokevirtual 262, 3) := by decide +kernel
theorem dX10_goesOn_15 : decode cX10_goesOn 15 = .ok (.ifCond .eq 60, 3) := by decide +kernel
theorem dX10_goesOn_18 : decode cX10_goesOn 18 = .ok (.aload_n 0, 1) := by decide +kernel
theorem dX10_goesOn_19 : decode cX10_goesOn 19 = .ok (.getfield 102, 3) := by decide +kernel
theorem dX10_goesOn_22 : decode cX10_goesOn 22 = .ok (.iload_n 1, 1) := by decide +kernel
theorem dX10_goesOn_23 : decode cX10_goesOn 23 = .ok (.iaload, 1) := by decide +kernel
theorem dX10_goesOn_24 : decode cX10_goesOn 24 = .ok (.aload_n 0, 1) := by decide +kernel
theorem dX10_goesOn_25 : decode cX10_goesOn 25 = .ok (.getfield 99, 3) := by decide +kernel
theorem dX10_goesOn_28 : decode cX10_goesOn 28 = .ok (.iload_n 1, 1) := by decide +kernel
theorem dX10_goesOn_29 : decode cX10_goesOn 29 = .ok (.iaload, 1) := by decide +kernel
theorem dX10_goesOn_30 : decode cX10_goesOn 30 = .ok (.if_icmp .ge 33, 3) := by decide +kernel
theorem dX10_goesOn_33 : decode cX10_goesOn 33 = .ok (.aload_n 0, 1) := by decide +kernel
theorem dX10_goesOn_34 : decode cX10_goesOn 34 = .ok (.getfield 102, 3) := by decide +kernel
theorem dX10_goesOn_37 : decode cX10_goesOn 37 = .ok (.iload_n 1, 1) := by decide +kernel
theorem dX10_goesOn_38 : decode cX10_goesOn 38 = .ok (.iaload, 1) := by decide +kernel
theorem dX10_goesOn_39 : decode cX10_goesOn 39 = .ok (.aload_n 0, 1) := by decide +kernel
theorem dX10_goesOn_40 : decode cX10_goesOn 40 = .ok (.getfield 96, 3) := by decide +kernel
theorem dX10_goesOn_43 : decode cX10_goesOn 43 = .ok (.iload_n 1, 1) := by decide +kernel
theorem dX10_goesOn_44 : decode cX10_goesOn 44 = .ok (.iaload, 1) := by decide +kernel
theorem dX10_goesOn_45 : decode cX10_goesOn 45 = .ok (.bipush 8, 2) := by decide +kernel
theorem dX10_goesOn_47 : decode cX10_goesOn 47 = .ok (.iadd, 1) := by decide +kernel
theorem dX10_goesOn_48 : decode cX10_goesOn 48 = .ok (.if_icmp .ge 15, 3) := by decide +kernel
theorem dX10_goesOn_51 : decode cX10_goesOn 51 = .ok (.aload_n 0, 1) := by decide +kernel
theorem dX10_goesOn_52 : decode cX10_goesOn 52 = .ok (.getfield 102, 3) := by decide +kernel
theorem dX10_goesOn_55 : decode cX10_goesOn 55 = .ok (.iload_n 1, 1) := by decide +kernel
theorem dX10_goesOn_56 : decode cX10_goesOn 56 = .ok (.dup2, 1) := by decide +kernel
theorem dX10_goesOn_57 : decode cX10_goesOn 57 = .ok (.iaload, 1) := by decide +kernel
theorem dX10_goesOn_58 : decode cX10_goesOn 58 = .ok (.iconst 1, 1) := by decide +kernel
theorem dX10_goesOn_59 : decode cX10_goesOn 59 = .ok (.iadd, 1) := by decide +kernel
theorem dX10_goesOn_60 : decode cX10_goesOn 60 = .ok (.iastore, 1) := by decide +kernel
theorem dX10_goesOn_61 : decode cX10_goesOn 61 = .ok (.iconst 1, 1) := by decide +kernel
theorem dX10_goesOn_62 : decode cX10_goesOn 62 = .ok (.ireturn, 1) := by decide +kernel
theorem dX10_goesOn_63 : decode cX10_goesOn 63 = .ok (.aload_n 0, 1) := by decide +kernel
theorem dX10_goesOn_64 : decode cX10_goesOn 64 = .ok (.getfield 102, 3) := by decide +kernel
theorem dX10_goesOn_67 : decode cX10_goesOn 67 = .ok (.iload_n 1, 1) := by decide +kernel
theorem dX10_goesOn_68 : decode cX10_goesOn 68 = .ok (.aload_n 0, 1) := by decide +kernel
theorem dX10_goesOn_69 : decode cX10_goesOn 69 = .ok (.getfield 96, 3) := by decide +kernel
theorem dX10_goesOn_72 : decode cX10_goesOn 72 = .ok (.iload_n 1, 1) := by decide +kernel
theorem dX10_goesOn_73 : decode cX10_goesOn 73 = .ok (.iaload, 1) := by decide +kernel
theorem dX10_goesOn_74 : decode cX10_goesOn 74 = .ok (.iastore, 1) := by decide +kernel
theorem dX10_goesOn_75 : decode cX10_goesOn 75 = .ok (.iinc 1 1, 3) := by decide +kernel
theorem dX10_goesOn_78 : decode cX10_goesOn 78 = .ok (.goto (-76), 3) := by decide +kernel
theorem dX10_goesOn_81 : decode cX10_goesOn 81 = .ok (.iconst 0, 1) := by decide +kernel
theorem dX10_goesOn_82 : decode cX10_goesOn 82 = .ok (.ireturn, 1) := by decide +kernel
theorem dX10_leastHeight_0 : decode cX10_leastHeight 0 = .ok (.iconst 0, 1) := by decide +kernel
theorem dX10_leastHeight_1 : decode cX10_leastHeight 1 = .ok (.istore_n 1, 1) := by decide +kernel
theorem dX10_leastHeight_2 : decode cX10_leastHeight 2 = .ok (.iconst 0, 1) := by decide +kernel
theorem dX10_leastHeight_3 : decode cX10_leastHeight 3 = .ok (.istore_n 2, 1) := by decide +kernel
theorem dX10_leastHeight_4 : decode cX10_leastHeight 4 = .ok (.iload_n 2, 1) := by decide +kernel
theorem dX10_leastHeight_5 : decode cX10_leastHeight 5 = .ok (.aload_n 0, 1) := by decide +kernel
theorem dX10_leastHeight_6 : decode cX10_leastHeight 6 = .ok (.getfield 162, 3) := by decide +kernel
theorem dX10_leastHeight_9 : decode cX10_leastHeight 9 = .ok (.if_icmp .ge 25, 3) := by decide +kernel
theorem dX10_leastHeight_12 : decode cX10_leastHeight 12 = .ok (.iload_n 1, 1) := by decide +kernel
theorem dX10_leastHeight_13 : decode cX10_leastHeight 13 = .ok (.aload_n 0, 1) := by decide +kernel
theorem dX10_leastHeight_14 : decode cX10_leastHeight 14 = .ok (.iload_n 2, 1) := by decide +kernel
theorem dX10_leastHeight_15 : decode cX10_leastHeight 15 = .ok (.invokevirtual 262, 3) := by decide +kernel
theorem dX10_leastHeight_18 : decode cX10_leastHeight 18 = .ok (.ifCond .eq 7, 3) := by decide +kernel
theorem dX10_leastHeight_21 : decode cX10_leastHeight 21 = .ok (.iconst 1, 1) := by decide +kernel
theorem dX10_leastHeight_22 : decode cX10_leastHeight 22 = .ok (.goto 4, 3) := by decide +kernel
theorem dX10_leastHeight_25 : decode cX10_leastHeight 25 = .ok (.iconst 0, 1) := by decide +kernel
theorem dX10_leastHeight_26 : decode cX10_leastHeight 26 = .ok (.iadd, 1) := by decide +kernel
theorem dX10_leastHeight_27 : decode cX10_leastHeight 27 = .ok (.istore_n 1, 1) := by decide +kernel
theorem dX10_leastHeight_28 : decode cX10_leastHeight 28 = .ok (.iinc 2 1, 3) := by decide +kernel
theorem dX10_leastHeight_31 : decode cX10_leastHeight 31 = .ok (.goto (-27), 3) := by decide +kernel
theorem dX10_leastHeight_34 : decode cX10_leastHeight 34 = .ok (.aload_n 0, 1) := by decide +kernel
theorem dX10_leastHeight_35 : decode cX10_leastHeight 35 = .ok (.iload_n 1, 1) := by decide +kernel
theorem dX10_leastHeight_36 : decode cX10_leastHeight 36 = .ok (.iconst 3, 1) := by decide +kernel
theorem dX10_leastHeight_37 : decode cX10_leastHeight 37 = .ok (.if_icmp .gt 7, 3) := by decide +kernel
theorem dX10_leastHeight_40 : decode cX10_leastHeight 40 = .ok (.iconst 1, 1) := by decide +kernel
theorem dX10_leastHeight_41 : decode cX10_leastHeight 41 = .ok (.goto 4, 3) := by decide +kernel
theorem dX10_leastHeight_44 : decode cX10_leastHeight 44 = .ok (.iconst 0, 1) := by decide +kernel
theorem dX10_leastHeight_45 : decode cX10_leastHeight 45 = .ok (.iconst 1, 1) := by decide +kernel
theorem dX10_leastHeight_46 : decode cX10_leastHeight 46 = .ok (.iconst 1, 1) := by decide +kernel
theorem dX10_leastHeight_47 : decode cX10_leastHeight 47 = .ok (.invokevirtual 175, 3) := by decide +kernel
theorem dX10_leastHeight_50 : decode cX10_leastHeight 50 = .ok (.ifCond .ne 5, 3) := by decide +kernel
theorem dX10_leastHeight_53 : decode cX10_leastHeight 53 = .ok (.iconst 0, 1) := by decide +kernel
theorem dX10_leastHeight_54 : decode cX10_leastHeight 54 = .ok (.ireturn, 1) := by decide +kernel
theorem dX10_leastHeight_55 : decode cX10_leastHeight 55 = .ok (.aload_n 0, 1) := by decide +kernel
theorem dX10_leastHeight_56 : decode cX10_leastHeight 56 = .ok (.invokevirtual 256, 3) := by decide +kernel
theorem dX10_leastHeight_59 : decode cX10_leastHeight 59 = .ok (.aload_n 0, 1) := by decide +kernel
theorem dX10_leastHeight_60 : decode cX10_leastHeight 60 = .ok (.invokevirtual 280, 3) := by decide +kernel
theorem dX10_leastHeight_63 : decode cX10_leastHeight 63 = .ok (.aload_n 0, 1) := by decide +kernel
theorem dX10_leastHeight_64 : decode cX10_leastHeight 64 = .ok (.iconst 1, 1) := by decide +kernel
theorem dX10_leastHeight_65 : decode cX10_leastHeight 65 = .ok (.invokevirtual 289, 3) := by decide +kernel
theorem dX10_leastHeight_68 : decode cX10_leastHeight 68 = .ok (.istore_n 2, 1) := by decide +kernel
theorem dX10_leastHeight_69 : decode cX10_leastHeight 69 = .ok (.aload_n 0, 1) := by decide +kernel
theorem dX10_leastHeight_70 : decode cX10_leastHeight 70 = .ok (.invokevirtual 259, 3) := by decide +kernel
theorem dX10_leastHeight_73 : decode cX10_leastHeight 73 = .ok (.aload_n 0, 1) := by decide +kernel
theorem dX10_leastHeight_74 : decode cX10_leastHeight 74 = .ok (.getfield 74, 3) := by decide +kernel
theorem dX10_leastHeight_77 : decode cX10_leastHeight 77 = .ok (.if_icmp .gt 14, 3) := by decide +kernel
theorem dX10_leastHeight_80 : decode cX10_leastHeight 80 = .ok (.aload_n 0, 1) := by decide +kernel
theorem dX10_leastHeight_81 : decode cX10_leastHeight 81 = .ok (.invokevirtual 292, 3) := by decide +kernel
theorem dX10_leastHeight_84 : decode cX10_leastHeight 84 = .ok (.ifCond .eq 7, 3) := by decide +kernel
theorem dX10_leastHeight_87 : decode cX10_leastHeight 87 = .ok (.iconst 1, 1) := by decide +kernel
theorem dX10_leastHeight_88 : decode cX10_leastHeight 88 = .ok (.goto 4, 3) := by decide +kernel
theorem dX10_leastHeight_91 : decode cX10_leastHeight 91 = .ok (.iconst 0, 1) := by decide +kernel
theorem dX10_leastHeight_92 : decode cX10_leastHeight 92 = .ok (.istore_n 3, 1) := by decide +kernel
theorem dX10_leastHeight_93 : decode cX10_leastHeight 93 = .ok (.iload_n 3, 1) := by decide +kernel
theorem dX10_leastHeight_94 : decode cX10_leastHeight 94 = .ok (.ifCond .eq 45, 3) := by decide +kernel
theorem dX10_leastHeight_97 : decode cX10_leastHeight 97 = .ok (.aload_n 0, 1) := by decide +kernel
theorem dX10_leastHeight_98 : decode cX10_leastHeight 98 = .ok (.invokevirtual 259, 3) := by decide +kernel
theorem dX10_leastHeight_101 : decode cX10_leastHeight 101 = .ok (.aload_n 0, 1) := by decide +kernel
theorem dX10_leastHeight_102 : decode cX10_leastHeight 102 = .ok (.getfield 74, 3) := by decide +kernel
theorem dX10_leastHeight_105 : decode cX10_leastHeight 105 = .ok (.if_icmp .gt 26, 3) := by decide +kernel
theorem dX10_leastHeight_108 : decode cX10_leastHeight 108 = .ok (.aload_n 0, 1) := by decide +kernel
theorem dX10_leastHeight_109 : decode cX10_leastHeight 109 = .ok (.invokevirtual 280, 3) := by decide +kernel
theorem dX10_leastHeight_112 : decode cX10_leastHeight 112 = .ok (.aload_n 0, 1) := by decide +kernel
theorem dX10_leastHeight_113 : decode cX10_leastHeight 113 = .ok (.iconst 1, 1) := by decide +kernel
theorem dX10_leastHeight_114 : decode cX10_leastHeight 114 = .ok (.invokevirtual 289, 3) := by decide +kernel
theorem dX10_leastHeight_117 : decode cX10_leastHeight 117 = .ok (.iload_n 2, 1) := by decide +kernel
theorem dX10_leastHeight_118 : decode cX10_leastHeight 118 = .ok (.if_icmp .ge 11, 3) := by decide +kernel
theorem dX10_leastHeight_121 : decode cX10_leastHeight 121 = .ok (.aload_n 0, 1) := by decide +kernel
theorem dX10_leastHeight_122 : decode cX10_leastHeight 122 = .ok (.iconst 1, 1) := by decide +kernel
theorem dX10_leastHeight_123 : decode cX10_leastHeight 123 = .ok (.invokevirtual 289, 3) := by decide +kernel
theorem dX10_leastHeight_126 : decode cX10_leastHeight 126 = .ok (.goto 4, 3) := by decide +kernel
theorem dX10_leastHeight_129 : decode cX10_leastHeight 129 = .ok (.iload_n 2, 1) := by decide +kernel
theorem dX10_leastHeight_130 : decode cX10_leastHeight 130 = .ok (.istore_n 2, 1) := by decide +kernel
theorem dX10_leastHeight_131 : decode cX10_leastHeight 131 = .ok (.aload_n 0, 1) := by decide +kernel
theorem dX10_leastHeight_132 : decode cX10_leastHeight 132 = .ok (.invokevirtual 292, 3) := by decide +kernel
theorem dX10_leastHeight_135 : decode cX10_leastHeight 135 = .ok (.istore_n 3, 1) := by decide +kernel
theorem dX10_leastHeight_136 : decode cX10_leastHeight 136 = .ok (.goto (-43), 3) := by decide +kernel
theorem dX10_leastHeight_139 : decode cX10_leastHeight 139 = .ok (.iload_n 2, 1) := by decide +kernel
theorem dX10_leastHeight_140 : decode cX10_leastHeight 140 = .ok (.ireturn, 1) := by decide +kernel
theorem dX10_border_0 : decode cX10_border 0 = .ok (.iload_n 1, 1) := by decide +kernel
theorem dX10_border_1 : decode cX10_border 1 = .ok (.iconst 0, 1) := by decide +kernel
theorem dX10_border_2 : decode cX10_border 2 = .ok (.iconst 3, 1) := by decide +kernel
theorem dX10_border_3 : decode cX10_border 3 = .ok (.invokestatic 165, 3) := by decide +kernel
theorem dX10_border_6 : decode cX10_border 6 = .ok (.ifCond .eq 54, 3) := by decide +kernel
theorem dX10_border_9 : decode cX10_border 9 = .ok (.iload 4, 2) := by decide +kernel
theorem dX10_border_11 : decode cX10_border 11 = .ok (.iconst 0, 1) := by decide +kernel
theorem dX10_border_12 : decode cX10_border 12 = .ok (.iconst 5, 1) := by decide +kernel
theorem dX10_border_13 : decode cX10_border 13 = .ok (.invokestatic 165, 3) := by decide +kernel
theorem dX10_border_16 : decode cX10_border 16 = .ok (.ifCond .eq 44, 3) := by decide +kernel
theorem dX10_border_19 : decode cX10_border 19 = .ok (.iload_n 1, 1) := by decide +kernel
theorem dX10_border_20 : decode cX10_border 20 = .ok (.iconst 3, 1) := by decide +kernel
theorem dX10_border_21 : decode cX10_border 21 = .ok (.if_icmp .eq 35, 3) := by decide +kernel
theorem dX10_border_24 : decode cX10_border 24 = .ok (.iload_n 3, 1) := by decide +kernel
theorem dX10_border_25 : decode cX10_border 25 = .ok (.iconst 0, 1) := by decide +kernel
theorem dX10_border_26 : decode cX10_border 26 = .ok (.iconst 3, 1) := by decide +kernel
theorem dX10_border_27 : decode cX10_border 27 = .ok (.invokestatic 165, 3) := by decide +kernel
theorem dX10_border_30 : decode cX10_border 30 = .ok (.ifCond .eq 30, 3) := by decide +kernel
theorem dX10_border_33 : decode cX10_border 33 = .ok (.iload_n 1, 1) := by decide +kernel
theorem dX10_border_34 : decode cX10_border 34 = .ok (.iconst 1, 1) := by decide +kernel
theorem dX10_border_35 : decode cX10_border 35 = .ok (.if_icmp .ne 9, 3) := by decide +kernel
theorem dX10_border_38 : decode cX10_border 38 = .ok (.iload_n 3, 1) := by decide +kernel
theorem dX10_border_39 : decode cX10_border 39 = .ok (.iconst 2, 1) := by decide +kernel
theorem dX10_border_40 : decode cX10_border 40 = .ok (.irem, 1) := by decide +kernel
theorem dX10_border_41 : decode cX10_border 41 = .ok (.ifCond .ne 19, 3) := by decide +kernel
theorem dX10_border_44 : decode cX10_border 44 = .ok (.iload_n 1, 1) := by decide +kernel
theorem dX10_border_45 : decode cX10_border 45 = .ok (.iconst 2, 1) := by decide +kernel
theorem dX10_border_46 : decode cX10_border 46 = .ok (.if_icmp .ne 10, 3) := by decide +kernel
theorem dX10_border_49 : decode cX10_border 49 = .ok (.iload_n 3, 1) := by decide +kernel
theorem dX10_border_50 : decode cX10_border 50 = .ok (.iconst 2, 1) := by decide +kernel
theorem dX10_border_51 : decode cX10_border 51 = .ok (.irem, 1) := by decide +kernel
theorem dX10_border_52 : decode cX10_border 52 = .ok (.iconst 1, 1) := by decide +kernel
theorem dX10_border_53 : decode cX10_border 53 = .ok (.if_icmp .ne 7, 3) := by decide +kernel
theorem dX10_border_56 : decode cX10_border 56 = .ok (.iconst 1, 1) := by decide +kernel
theorem dX10_border_57 : decode cX10_border 57 = .ok (.goto 4, 3) := by decide +kernel
theorem dX10_border_60 : decode cX10_border 60 = .ok (.iconst 0, 1) := by decide +kernel
theorem dX10_border_61 : decode cX10_border 61 = .ok (.istore 5, 2) := by decide +kernel
theorem dX10_border_63 : decode cX10_border 63 = .ok (.iload_n 1, 1) := by decide +kernel
theorem dX10_border_64 : decode cX10_border 64 = .ok (.iconst 3, 1) := by decide +kernel
theorem dX10_border_65 : decode cX10_border 65 = .ok (.if_icmp .eq 42, 3) := by decide +kernel
theorem dX10_border_68 : decode cX10_border 68 = .ok (.iload_n 1, 1) := by decide +kernel
theorem dX10_border_69 : decode cX10_border 69 = .ok (.ifCond .ne 14, 3) := by decide +kernel
theorem dX10_border_72 : decode cX10_border 72 = .ok (.aload_n 0, 1) := by decide +kernel
theorem dX10_border_73 : decode cX10_border 73 = .ok (.iload_n 2, 1) := by decide +kernel
theorem dX10_border_74 : decode cX10_border 74 = .ok (.invokevirtual 194, 3) := by decide +kernel
theorem dX10_border_77 : decode cX10_border 77 = .ok (.ifCond .eq 34, 3) := by decide +kernel
theorem dX10_border_80 : decode cX10_border 80 = .ok (.goto 27, 3) := by decide +kernel
theorem dX10_border_83 : decode cX10_border 83 = .ok (.iload_n 1, 1) := by decide +kernel
theorem dX10_border_84 : decode cX10_border 84 = .ok (.iconst 1, 1) := by decide +kernel
theorem dX10_border_85 : decode cX10_border 85 = .ok (.if_icmp .ne 14, 3) := by decide +kernel
theorem dX10_border_88 : decode cX10_border 88 = .ok (.aload_n 0, 1) := by decide +kernel
theorem dX10_border_89 : decode cX10_border 89 = .ok (.iload_n 2, 1) := by decide +kernel
theorem dX10_border_90 : decode cX10_border 90 = .ok (.invokevirtual 183, 3) := by decide +kernel
theorem dX10_border_93 : decode cX10_border 93 = .ok (.ifCond .eq 18, 3) := by decide +kernel
theorem dX10_border_96 : decode cX10_border 96 = .ok (.goto 11, 3) := by decide +kernel
theorem dX10_border_99 : decode cX10_border 99 = .ok (.aload_n 0, 1) := by decide +kernel
theorem dX10_border_100 : decode cX10_border 100 = .ok (.iload_n 2, 1) := by decide +kernel
theorem dX10_border_101 : decode cX10_border 101 = .ok (.invokevirtual 187, 3) := by decide +kernel
theorem dX10_border_104 : decode cX10_border 104 = .ok (.ifCond .eq 7, 3) := by decide +kernel
theorem dX10_border_107 : decode cX10_border 107 = .ok (.iconst 1, 1) := by decide +kernel
theorem dX10_border_108 : decode cX10_border 108 = .ok (.goto 4, 3) := by decide +kernel
theorem dX10_border_111 : decode cX10_border 111 = .ok (.iconst 0, 1) := by decide +kernel
theorem dX10_border_112 : decode cX10_border 112 = .ok (.istore 6, 2) := by decide +kernel
theorem dX10_border_114 : decode cX10_border 114 = .ok (.aload_n 0, 1) := by decide +kernel
theorem dX10_border_115 : decode cX10_border 115 = .ok (.iload 5, 2) := by decide +kernel
theorem dX10_border_117 : decode cX10_border 117 = .ok (.iload 6, 2) := by decide +kernel
theorem dX10_border_119 : decode cX10_border 119 = .ok (.iconst 1, 1) := by decide +kernel
theorem dX10_border_120 : decode cX10_border 120 = .ok (.invokevirtual 175, 3) := by decide +kernel
theorem dX10_border_123 : decode cX10_border 123 = .ok (.ifCond .ne 5, 3) := by decide +kernel
theorem dX10_border_126 : decode cX10_border 126 = .ok (.iconst 0, 1) := by decide +kernel
theorem dX10_border_127 : decode cX10_border 127 = .ok (.ireturn, 1) := by decide +kernel
theorem dX10_border_128 : decode cX10_border 128 = .ok (.iload_n 1, 1) := by decide +kernel
theorem dX10_border_129 : decode cX10_border 129 = .ok (.ifCond .ne 16, 3) := by decide +kernel
theorem dX10_border_132 : decode cX10_border 132 = .ok (.aload_n 0, 1) := by decide +kernel
theorem dX10_border_133 : decode cX10_border 133 = .ok (.getfield 81, 3) := by decide +kernel
theorem dX10_border_136 : decode cX10_border 136 = .ok (.iconst 4, 1) := by decide +kernel
theorem dX10_border_137 : decode cX10_border 137 = .ok (.iload_n 2, 1) := by decide +kernel
theorem dX10_border_138 : decode cX10_border 138 = .ok (.imul, 1) := by decide +kernel
theorem dX10_border_139 : decode cX10_border 139 = .ok (.iload_n 3, 1) := by decide +kernel
theorem dX10_border_140 : decode cX10_border 140 = .ok (.iadd, 1) := by decide +kernel
theorem dX10_border_141 : decode cX10_border 141 = .ok (.iaload, 1) := by decide +kernel
theorem dX10_border_142 : decode cX10_border 142 = .ok (.goto 43, 3) := by decide +kernel
theorem dX10_border_145 : decode cX10_border 145 = .ok (.iload_n 1, 1) := by decide +kernel
theorem dX10_border_146 : decode cX10_border 146 = .ok (.iconst 1, 1) := by decide +kernel
theorem dX10_border_147 : decode cX10_border 147 = .ok (.if_icmp .ne 16, 3) := by decide +kernel
theorem dX10_border_150 : decode cX10_border 150 = .ok (.aload_n 0, 1) := by decide +kernel
theorem dX10_border_151 : decode cX10_border 151 = .ok (.getfield 84, 3) := by decide +kernel
theorem dX10_border_154 : decode cX10_border 154 = .ok (.iconst 4, 1) := by decide +kernel
theorem dX10_border_155 : decode cX10_border 155 = .ok (.iload_n 2, 1) := by decide +kernel
theorem dX10_border_156 : decode cX10_border 156 = .ok (.imul, 1) := by decide +kernel
theorem dX10_border_157 : decode cX10_border 157 = .ok (.iload_n 3, 1) := by decide +kernel
theorem dX10_border_158 : decode cX10_border 158 = .ok (.iadd, 1) := by decide +kernel
theorem dX10_border_159 : decode cX10_border 159 = .ok (.iaload, 1) := by decide +kernel
theorem dX10_border_160 : decode cX10_border 160 = .ok (.goto 25, 3) := by decide +kernel
theorem dX10_border_163 : decode cX10_border 163 = .ok (.iload_n 1, 1) := by decide +kernel
theorem dX10_border_164 : decode cX10_border 164 = .ok (.iconst 2, 1) := by decide +kernel
theorem dX10_border_165 : decode cX10_border 165 = .ok (.if_icmp .ne 16, 3) := by decide +kernel
theorem dX10_border_168 : decode cX10_border 168 = .ok (.aload_n 0, 1) := by decide +kernel
theorem dX10_border_169 : decode cX10_border 169 = .ok (.getfield 87, 3) := by decide +kernel
theorem dX10_border_172 : decode cX10_border 172 = .ok (.iconst 4, 1) := by decide +kernel
theorem dX10_border_173 : decode cX10_border 173 = .ok (.iload_n 2, 1) := by decide +kernel
theorem dX10_border_174 : decode cX10_border 174 = .ok (.imul, 1) := by decide +kernel
theorem dX10_border_175 : decode cX10_border 175 = .ok (.iload_n 3, 1) := by decide +kernel
theorem dX10_border_176 : decode cX10_border 176 = .ok (.iadd, 1) := by decide +kernel
theorem dX10_border_177 : decode cX10_border 177 = .ok (.iaload, 1) := by decide +kernel
theorem dX10_border_178 : decode cX10_border 178 = .ok (.goto 7, 3) := by decide +kernel
theorem dX10_border_181 : decode cX10_border 181 = .ok (.aload_n 0, 1) := by decide +kernel
theorem dX10_border_182 : decode cX10_border 182 = .ok (.getfield 296, 3) := by decide +kernel
theorem dX10_border_185 : decode cX10_border 185 = .ok (.istore 7, 2) := by decide +kernel
theorem dX10_border_187 : decode cX10_border 187 = .ok (.iload_n 1, 1) := by decide +kernel
theorem dX10_border_188 : decode cX10_border 188 = .ok (.ifCond .ne 18, 3) := by decide +kernel
theorem dX10_border_191 : decode cX10_border 191 = .ok (.aload_n 0, 1) := by decide +kernel
theorem dX10_border_192 : decode cX10_border 192 = .ok (.getfield 81, 3) := by decide +kernel
theorem dX10_border_195 : decode cX10_border 195 = .ok (.iconst 4, 1) := by decide +kernel
theorem dX10_border_196 : decode cX10_border 196 = .ok (.iload_n 2, 1) := by decide +kernel
theorem dX10_border_197 : decode cX10_border 197 = .ok (.imul, 1) := by decide +kernel
theorem dX10_border_198 : decode cX10_border 198 = .ok (.iload_n 3, 1) := by decide +kernel
theorem dX10_border_199 : decode cX10_border 199 = .ok (.iadd, 1) := by decide +kernel
theorem dX10_border_200 : decode cX10_border 200 = .ok (.iload 4, 2) := by decide +kernel
theorem dX10_border_202 : decode cX10_border 202 = .ok (.iastore, 1) := by decide +kernel
theorem dX10_border_203 : decode cX10_border 203 = .ok (.goto 49, 3) := by decide +kernel
theorem dX10_border_206 : decode cX10_border 206 = .ok (.iload_n 1, 1) := by decide +kernel
theorem dX10_border_207 : decode cX10_border 207 = .ok (.iconst 1, 1) := by decide +kernel
theorem dX10_border_208 : decode cX10_border 208 = .ok (.if_icmp .ne 18, 3) := by decide +kernel
theorem dX10_border_211 : decode cX10_border 211 = .ok (.aload_n 0, 1) := by decide +kernel
theorem dX10_border_212 : decode cX10_border 212 = .ok (.getfield 84, 3) := by decide +kernel
theorem dX10_border_215 : decode cX10_border 215 = .ok (.iconst 4, 1) := by decide +kernel
theorem dX10_border_216 : decode cX10_border 216 = .ok (.iload_n 2, 1) := by decide +kernel
theorem dX10_border_217 : decode cX10_border 217 = .ok (.imul, 1) := by decide +kernel
theorem dX10_border_218 : decode cX10_border 218 = .ok (.iload_n 3, 1) := by decide +kernel
theorem dX10_border_219 : decode cX10_border 219 = .ok (.iadd, 1) := by decide +kernel
theorem dX10_border_220 : decode cX10_border 220 = .ok (.iload 4, 2) := by decide +kernel
theorem dX10_border_222 : decode cX10_border 222 = .ok (.iastore, 1) := by decide +kernel
theorem dX10_border_223 : decode cX10_border 223 = .ok (.goto 29, 3) := by decide +kernel
theorem dX10_border_226 : decode cX10_border 226 = .ok (.iload_n 1, 1) := by decide +kernel
theorem dX10_border_227 : decode cX10_border 227 = .ok (.iconst 2, 1) := by decide +kernel
theorem dX10_border_228 : decode cX10_border 228 = .ok (.if_icmp .ne 18, 3) := by decide +kernel
theorem dX10_border_231 : decode cX10_border 231 = .ok (.aload_n 0, 1) := by decide +kernel
theorem dX10_border_232 : decode cX10_border 232 = .ok (.getfield 87, 3) := by decide +kernel
theorem dX10_border_235 : decode cX10_border 235 = .ok (.iconst 4, 1) := by decide +kernel
theorem dX10_border_236 : decode cX10_border 236 = .ok (.iload_n 2, 1) := by decide +kernel
theorem dX10_border_237 : decode cX10_border 237 = .ok (.imul, 1) := by decide +kernel
theorem dX10_border_238 : decode cX10_border 238 = .ok (.iload_n 3, 1) := by decide +kernel
theorem dX10_border_239 : decode cX10_border 239 = .ok (.iadd, 1) := by decide +kernel
theorem dX10_border_240 : decode cX10_border 240 = .ok (.iload 4, 2) := by decide +kernel
theorem dX10_border_242 : decode cX10_border 242 = .ok (.iastore, 1) := by decide +kernel
theorem dX10_border_243 : decode cX10_border 243 = .ok (.goto 9, 3) := by decide +kernel
theorem dX10_border_246 : decode cX10_border 246 = .ok (.aload_n 0, 1) := by decide +kernel
theorem dX10_border_247 : decode cX10_border 247 = .ok (.iload 4, 2) := by decide +kernel
theorem dX10_border_249 : decode cX10_border 249 = .ok (.putfield 296, 3) := by decide +kernel
theorem dX10_border_252 : decode cX10_border 252 = .ok (.iload 7, 2) := by decide +kernel
theorem dX10_border_254 : decode cX10_border 254 = .ok (.ireturn, 1) := by decide +kernel
theorem dX10_nextRow_0 : decode cX10_nextRow 0 = .ok (.aload_n 0, 1) := by decide +kernel
theorem dX10_nextRow_1 : decode cX10_nextRow 1 = .ok (.getfield 23, 3) := by decide +kernel
theorem dX10_nextRow_4 : decode cX10_nextRow 4 = .ok (.iload_n 1, 1) := by decide +kernel
theorem dX10_nextRow_5 : decode cX10_nextRow 5 = .ok (.iaload, 1) := by decide +kernel
theorem dX10_nextRow_6 : decode cX10_nextRow 6 = .ok (.istore_n 3, 1) := by decide +kernel
theorem dX10_nextRow_7 : decode cX10_nextRow 7 = .ok (.aload_n 0, 1) := by decide +kernel
theorem dX10_nextRow_8 : decode cX10_nextRow 8 = .ok (.iload_n 1, 1) := by decide +kernel
theorem dX10_nextRow_9 : decode cX10_nextRow 9 = .ok (.invokevirtual 179, 3) := by decide +kernel
theorem dX10_nextRow_12 : decode cX10_nextRow 12 = .ok (.iload_n 2, 1) := by decide +kernel
theorem dX10_nextRow_13 : decode cX10_nextRow 13 = .ok (.iadd, 1) := by decide +kernel
theorem dX10_nextRow_14 : decode cX10_nextRow 14 = .ok (.istore 4, 2) := by decide +kernel
theorem dX10_nextRow_16 : decode cX10_nextRow 16 = .ok (.iload_n 3, 1) := by decide +kernel
theorem dX10_nextRow_17 : decode cX10_nextRow 17 = .ok (.ifCond .lt 63, 3) := by decide +kernel
theorem dX10_nextRow_20 : decode cX10_nextRow 20 = .ok (.iload_n 3, 1) := by decide +kernel
theorem dX10_nextRow_21 : decode cX10_nextRow 21 = .ok (.iconst 2, 1) := by decide +kernel
theorem dX10_nextRow_22 : decode cX10_nextRow 22 = .ok (.if_icmp .gt 58, 3) := by decide +kernel
theorem dX10_nextRow_25 : decode cX10_nextRow 25 = .ok (.iload 4, 2) := by decide +kernel
theorem dX10_nextRow_27 : decode cX10_nextRow 27 = .ok (.iconst 0, 1) := by decide +kernel
theorem dX10_nextRow_28 : decode cX10_nextRow 28 = .ok (.aload_n 0, 1) := by decide +kernel
theorem dX10_nextRow_29 : decode cX10_nextRow 29 = .ok (.getfield 35, 3) := by decide +kernel
theorem dX10_nextRow_32 : decode cX10_nextRow 32 = .ok (.iload_n 3, 1) := by decide +kernel
theorem dX10_nextRow_33 : decode cX10_nextRow 33 = .ok (.iaload, 1) := by decide +kernel
theorem dX10_nextRow_34 : decode cX10_nextRow 34 = .ok (.iconst 1, 1) := by decide +kernel
theorem dX10_nextRow_35 : decode cX10_nextRow 35 = .ok (.isub, 1) := by decide +kernel
theorem dX10_nextRow_36 : decode cX10_nextRow 36 = .ok (.invokestatic 165, 3) := by decide +kernel
theorem dX10_nextRow_39 : decode cX10_nextRow 39 = .ok (.ifCond .ne 41, 3) := by decide +kernel
theorem dX10_nextRow_42 : decode cX10_nextRow 42 = .ok (.iload_n 3, 1) := by decide +kernel
theorem dX10_nextRow_43 : decode cX10_nextRow 43 = .ok (.iload_n 2, 1) := by decide +kernel
theorem dX10_nextRow_44 : decode cX10_nextRow 44 = .ok (.iadd, 1) := by decide +kernel
theorem dX10_nextRow_45 : decode cX10_nextRow 45 = .ok (.istore_n 3, 1) := by decide +kernel
theorem dX10_nextRow_46 : decode cX10_nextRow 46 = .ok (.iload_n 3, 1) := by decide +kernel
theorem dX10_nextRow_47 : decode cX10_nextRow 47 = .ok (.ifCond .lt 8, 3) := by decide +kernel
theorem dX10_nextRow_50 : decode cX10_nextRow 50 = .ok (.iload_n 3, 1) := by decide +kernel
theorem dX10_nextRow_51 : decode cX10_nextRow 51 = .ok (.iconst 2, 1) := by decide +kernel
theorem dX10_nextRow_52 : decode cX10_nextRow 52 = .ok (.if_icmp .le 7, 3) := by decide +kernel
theorem dX10_nextRow_55 : decode cX10_nextRow 55 = .ok (.iconst 0, 1) := by decide +kernel
theorem dX10_nextRow_56 : decode cX10_nextRow 56 = .ok (.goto 19, 3) := by decide +kernel
theorem dX10_nextRow_59 : decode cX10_nextRow 59 = .ok (.iload_n 2, 1) := by decide +kernel
theorem dX10_nextRow_60 : decode cX10_nextRow 60 = .ok (.ifCond .le 7, 3) := by decide +kernel
theorem dX10_nextRow_63 : decode cX10_nextRow 63 = .ok (.iconst 0, 1) := by decide +kernel
theorem dX10_nextRow_64 : decode cX10_nextRow 64 = .ok (.goto 11, 3) := by decide +kernel
theorem dX10_nextRow_67 : decode cX10_nextRow 67 = .ok (.aload_n 0, 1) := by decide +kernel
theorem dX10_nextRow_68 : decode cX10_nextRow 68 = .ok (.getfield 35, 3) := by decide +kernel
theorem dX10_nextRow_71 : decode cX10_nextRow 71 = .ok (.iload_n 3, 1) := by decide +kernel
theorem dX10_nextRow_72 : decode cX10_nextRow 72 = .ok (.iaload, 1) := by decide +kernel
theorem dX10_nextRow_73 : decode cX10_nextRow 73 = .ok (.iconst 1, 1) := by decide +kernel
theorem dX10_nextRow_74 : decode cX10_nextRow 74 = .ok (.isub, 1) := by decide +kernel
theorem dX10_nextRow_75 : decode cX10_nextRow 75 = .ok (.istore 4, 2) := by decide +kernel
theorem dX10_nextRow_77 : decode cX10_nextRow 77 = .ok (.goto (-61), 3) := by decide +kernel
theorem dX10_nextRow_80 : decode cX10_nextRow 80 = .ok (.iload_n 3, 1) := by decide +kernel
theorem dX10_nextRow_81 : decode cX10_nextRow 81 = .ok (.ifCond .lt 8, 3) := by decide +kernel
theorem dX10_nextRow_84 : decode cX10_nextRow 84 = .ok (.iload_n 3, 1) := by decide +kernel
theorem dX10_nextRow_85 : decode cX10_nextRow 85 = .ok (.iconst 2, 1) := by decide +kernel
theorem dX10_nextRow_86 : decode cX10_nextRow 86 = .ok (.if_icmp .le 7, 3) := by decide +kernel
theorem dX10_nextRow_89 : decode cX10_nextRow 89 = .ok (.iconst (-1), 1) := by decide +kernel
theorem dX10_nextRow_90 : decode cX10_nextRow 90 = .ok (.goto 15, 3) := by decide +kernel
theorem dX10_nextRow_93 : decode cX10_nextRow 93 = .ok (.aload_n 0, 1) := by decide +kernel
theorem dX10_nextRow_94 : decode cX10_nextRow 94 = .ok (.getfield 32, 3) := by decide +kernel
theorem dX10_nextRow_97 : decode cX10_nextRow 97 = .ok (.bipush 24, 2) := by decide +kernel
theorem dX10_nextRow_99 : decode cX10_nextRow 99 = .ok (.iload_n 3, 1) := by decide +kernel
theorem dX10_nextRow_100 : decode cX10_nextRow 100 = .ok (.imul, 1) := by decide +kernel
theorem dX10_nextRow_101 : decode cX10_nextRow 101 = .ok (.iload 4, 2) := by decide +kernel
theorem dX10_nextRow_103 : decode cX10_nextRow 103 = .ok (.iadd, 1) := by decide +kernel
theorem dX10_nextRow_104 : decode cX10_nextRow 104 = .ok (.iaload, 1) := by decide +kernel
theorem dX10_nextRow_105 : decode cX10_nextRow 105 = .ok (.ireturn, 1) := by decide +kernel
theorem dX10_nextColumn_0 : decode cX10_nextColumn 0 = .ok (.iload_n 1, 1) := by decide +kernel
theorem dX10_nextColumn_1 : decode cX10_nextColumn 1 = .ok (.iload_n 2, 1) := by decide +kernel
theorem dX10_nextColumn_2 : decode cX10_nextColumn 2 = .ok (.iadd, 1) := by decide +kernel
theorem dX10_nextColumn_3 : decode cX10_nextColumn 3 = .ok (.istore_n 3, 1) := by decide +kernel
theorem dX10_nextColumn_4 : decode cX10_nextColumn 4 = .ok (.aload_n 0, 1) := by decide +kernel
theorem dX10_nextColumn_5 : decode cX10_nextColumn 5 = .ok (.iload_n 3, 1) := by decide +kernel
theorem dX10_nextColumn_6 : decode cX10_nextColumn 6 = .ok (.invokevirtual 187, 3) := by decide +kernel
theorem dX10_nextColumn_9 : decode cX10_nextColumn 9 = .ok (.ifCond .eq 19, 3) := by decide +kernel
theorem dX10_nextColumn_12 : decode cX10_nextColumn 12 = .ok (.aload_n 0, 1) := by decide +kernel
theorem dX10_nextColumn_13 : decode cX10_nextColumn 13 = .ok (.getfield 20, 3) := by decide +kernel
theorem dX10_nextColumn_16 : decode cX10_nextColumn 16 = .ok (.iload_n 3, 1) := by decide +kernel
theorem dX10_nextColumn_17 : decode cX10_nextColumn 17 = .ok (.baload, 1) := by decide +kernel
theorem dX10_nextColumn_18 : decode cX10_nextColumn 18 = .ok (.ifCond .eq 10, 3) := by decide +kernel
theorem dX10_nextColumn_21 : decode cX10_nextColumn 21 = .ok (.iload_n 3, 1) := by decide +kernel
theorem dX10_nextColumn_22 : decode cX10_nextColumn 22 = .ok (.iload_n 2, 1) := by decide +kernel
theorem dX10_nextColumn_23 : decode cX10_nextColumn 23 = .ok (.iadd, 1) := by decide +kernel
theorem dX10_nextColumn_24 : decode cX10_nextColumn 24 = .ok (.istore_n 3, 1) := by decide +kernel
theorem dX10_nextColumn_25 : decode cX10_nextColumn 25 = .ok (.goto (-21), 3) := by decide +kernel
theorem dX10_nextColumn_28 : decode cX10_nextColumn 28 = .ok (.aload_n 0, 1) := by decide +kernel
theorem dX10_nextColumn_29 : decode cX10_nextColumn 29 = .ok (.iload_n 3, 1) := by decide +kernel
theorem dX10_nextColumn_30 : decode cX10_nextColumn 30 = .ok (.invokevirtual 187, 3) := by decide +kernel
theorem dX10_nextColumn_33 : decode cX10_nextColumn 33 = .ok (.ifCond .eq 7, 3) := by decide +kernel
theorem dX10_nextColumn_36 : decode cX10_nextColumn 36 = .ok (.iload_n 3, 1) := by decide +kernel
theorem dX10_nextColumn_37 : decode cX10_nextColumn 37 = .ok (.goto 4, 3) := by decide +kernel
theorem dX10_nextColumn_40 : decode cX10_nextColumn 40 = .ok (.iconst (-1), 1) := by decide +kernel
theorem dX10_nextColumn_41 : decode cX10_nextColumn 41 = .ok (.ireturn, 1) := by decide +kernel
theorem dX10_wins_0 : decode cX10_wins 0 = .ok (.iload_n 1, 1) := by decide +kernel
theorem dX10_wins_1 : decode cX10_wins 1 = .ok (.iload_n 0, 1) := by decide +kernel
theorem dX10_wins_2 : decode cX10_wins 2 = .ok (.bipush 10, 2) := by decide +kernel
theorem dX10_wins_4 : decode cX10_wins 4 = .ok (.idiv, 1) := by decide +kernel
theorem dX10_wins_5 : decode cX10_wins 5 = .ok (.if_icmp .le 12, 3) := by decide +kernel
theorem dX10_wins_8 : decode cX10_wins 8 = .ok (.bipush 10, 2) := by decide +kernel
theorem dX10_wins_10 : decode cX10_wins 10 = .ok (.iload_n 1, 1) := by decide +kernel
theorem dX10_wins_11 : decode cX10_wins 11 = .ok (.imul, 1) := by decide +kernel
theorem dX10_wins_12 : decode cX10_wins 12 = .ok (.iload_n 2, 1) := by decide +kernel
theorem dX10_wins_13 : decode cX10_wins 13 = .ok (.iadd, 1) := by decide +kernel
theorem dX10_wins_14 : decode cX10_wins 14 = .ok (.goto 4, 3) := by decide +kernel
theorem dX10_wins_17 : decode cX10_wins 17 = .ok (.iload_n 0, 1) := by decide +kernel
theorem dX10_wins_18 : decode cX10_wins 18 = .ok (.ireturn, 1) := by decide +kernel
theorem dX10_won_0 : decode cX10_won 0 = .ok (.iload_n 3, 1) := by decide +kernel
theorem dX10_won_1 : decode cX10_won 1 = .ok (.iconst 2, 1) := by decide +kernel
theorem dX10_won_2 : decode cX10_won 2 = .ok (.irem, 1) := by decide +kernel
theorem dX10_won_3 : decode cX10_won 3 = .ok (.ifCond .ne 7, 3) := by decide +kernel
theorem dX10_won_6 : decode cX10_won 6 = .ok (.iconst 1, 1) := by decide +kernel
theorem dX10_won_7 : decode cX10_won 7 = .ok (.goto 4, 3) := by decide +kernel
theorem dX10_won_10 : decode cX10_won 10 = .ok (.iconst 0, 1) := by decide +kernel
theorem dX10_won_11 : decode cX10_won 11 = .ok (.istore 4, 2) := by decide +kernel
theorem dX10_won_13 : decode cX10_won 13 = .ok (.iload_n 3, 1) := by decide +kernel
theorem dX10_won_14 : decode cX10_won 14 = .ok (.ifCond .eq 8, 3) := by decide +kernel
theorem dX10_won_17 : decode cX10_won 17 = .ok (.iload_n 3, 1) := by decide +kernel
theorem dX10_won_18 : decode cX10_won 18 = .ok (.iconst 3, 1) := by decide +kernel
theorem dX10_won_19 : decode cX10_won 19 = .ok (.if_icmp .ne 7, 3) := by decide +kernel
theorem dX10_won_22 : decode cX10_won 22 = .ok (.iconst (-1), 1) := by decide +kernel
theorem dX10_won_23 : decode cX10_won 23 = .ok (.goto 4, 3) := by decide +kernel
theorem dX10_won_26 : decode cX10_won 26 = .ok (.iconst 1, 1) := by decide +kernel
theorem dX10_won_27 : decode cX10_won 27 = .ok (.istore 5, 2) := by decide +kernel
theorem dX10_won_29 : decode cX10_won 29 = .ok (.iload 4, 2) := by decide +kernel
theorem dX10_won_31 : decode cX10_won 31 = .ok (.ifCond .eq 13, 3) := by decide +kernel
theorem dX10_won_34 : decode cX10_won 34 = .ok (.aload_n 0, 1) := by decide +kernel
theorem dX10_won_35 : decode cX10_won 35 = .ok (.iload_n 1, 1) := by decide +kernel
theorem dX10_won_36 : decode cX10_won 36 = .ok (.iload 5, 2) := by decide +kernel
theorem dX10_won_38 : decode cX10_won 38 = .ok (.invokevirtual 299, 3) := by decide +kernel
theorem dX10_won_41 : decode cX10_won 41 = .ok (.goto 4, 3) := by decide +kernel
theorem dX10_won_44 : decode cX10_won 44 = .ok (.iload_n 1, 1) := by decide +kernel
theorem dX10_won_45 : decode cX10_won 45 = .ok (.istore 6, 2) := by decide +kernel
theorem dX10_won_47 : decode cX10_won 47 = .ok (.iload 4, 2) := by decide +kernel
theorem dX10_won_49 : decode cX10_won 49 = .ok (.ifCond .eq 7, 3) := by decide +kernel
theorem dX10_won_52 : decode cX10_won 52 = .ok (.iload_n 2, 1) := by decide +kernel
theorem dX10_won_53 : decode cX10_won 53 = .ok (.goto 10, 3) := by decide +kernel
theorem dX10_won_56 : decode cX10_won 56 = .ok (.aload_n 0, 1) := by decide +kernel
theorem dX10_won_57 : decode cX10_won 57 = .ok (.iload_n 2, 1) := by decide +kernel
theorem dX10_won_58 : decode cX10_won 58 = .ok (.iload 5, 2) := by decide +kernel
theorem dX10_won_60 : decode cX10_won 60 = .ok (.invokevirtual 302, 3) := by decide +kernel
theorem dX10_won_63 : decode cX10_won 63 = .ok (.istore 7, 2) := by decide +kernel
theorem dX10_won_65 : decode cX10_won 65 = .ok (.iload 6, 2) := by decide +kernel
theorem dX10_won_67 : decode cX10_won 67 = .ok (.iconst (-1), 1) := by decide +kernel
theorem dX10_won_68 : decode cX10_won 68 = .ok (.if_icmp .eq 9, 3) := by decide +kernel
theorem dX10_won_71 : decode cX10_won 71 = .ok (.iload 7, 2) := by decide +kernel
theorem dX10_won_73 : decode cX10_won 73 = .ok (.iconst (-1), 1) := by decide +kernel
theorem dX10_won_74 : decode cX10_won 74 = .ok (.if_icmp .ne 7, 3) := by decide +kernel
theorem dX10_won_77 : decode cX10_won 77 = .ok (.iconst 1, 1) := by decide +kernel
theorem dX10_won_78 : decode cX10_won 78 = .ok (.goto 4, 3) := by decide +kernel
theorem dX10_won_81 : decode cX10_won 81 = .ok (.iconst 0, 1) := by decide +kernel
theorem dX10_won_82 : decode cX10_won 82 = .ok (.istore 8, 2) := by decide +kernel
theorem dX10_won_84 : decode cX10_won 84 = .ok (.iload_n 3, 1) := by decide +kernel
theorem dX10_won_85 : decode cX10_won 85 = .ok (.iconst 2, 1) := by decide +kernel
theorem dX10_won_86 : decode cX10_won 86 = .ok (.iadd, 1) := by decide +kernel
theorem dX10_won_87 : decode cX10_won 87 = .ok (.iconst 4, 1) := by decide +kernel
theorem dX10_won_88 : decode cX10_won 88 = .ok (.irem, 1) := by decide +kernel
theorem dX10_won_89 : decode cX10_won 89 = .ok (.istore 9, 2) := by decide +kernel
theorem dX10_won_91 : decode cX10_won 91 = .ok (.aload_n 0, 1) := by decide +kernel
theorem dX10_won_92 : decode cX10_won 92 = .ok (.getfield 50, 3) := by decide +kernel
theorem dX10_won_95 : decode cX10_won 95 = .ok (.bipush 6, 2) := by decide +kernel
theorem dX10_won_97 : decode cX10_won 97 = .ok (.iload_n 1, 1) := by decide +kernel
theorem dX10_won_98 : decode cX10_won 98 = .ok (.imul, 1) := by decide +kernel
theorem dX10_won_99 : decode cX10_won 99 = .ok (.iload_n 2, 1) := by decide +kernel
theorem dX10_won_100 : decode cX10_won 100 = .ok (.iadd, 1) := by decide +kernel
theorem dX10_won_101 : decode cX10_won 101 = .ok (.iaload, 1) := by decide +kernel
theorem dX10_won_102 : decode cX10_won 102 = .ok (.iconst 1, 1) := by decide +kernel
theorem dX10_won_103 : decode cX10_won 103 = .ok (.isub, 1) := by decide +kernel
theorem dX10_won_104 : decode cX10_won 104 = .ok (.istore 10, 2) := by decide +kernel
theorem dX10_won_106 : decode cX10_won 106 = .ok (.iload 8, 2) := by decide +kernel
theorem dX10_won_108 : decode cX10_won 108 = .ok (.ifCond .eq 7, 3) := by decide +kernel
theorem dX10_won_111 : decode cX10_won 111 = .ok (.iconst (-1), 1) := by decide +kernel
theorem dX10_won_112 : decode cX10_won 112 = .ok (.goto 18, 3) := by decide +kernel
theorem dX10_won_115 : decode cX10_won 115 = .ok (.aload_n 0, 1) := by decide +kernel
theorem dX10_won_116 : decode cX10_won 116 = .ok (.getfield 50, 3) := by decide +kernel
theorem dX10_won_119 : decode cX10_won 119 = .ok (.bipush 6, 2) := by decide +kernel
theorem dX10_won_121 : decode cX10_won 121 = .ok (.iload 6, 2) := by decide +kernel
theorem dX10_won_123 : decode cX10_won 123 = .ok (.imul, 1) := by decide +kernel
theorem dX10_won_124 : decode cX10_won 124 = .ok (.iload 7, 2) := by decide +kernel
theorem dX10_won_126 : decode cX10_won 126 = .ok (.iadd, 1) := by decide +kernel
theorem dX10_won_127 : decode cX10_won 127 = .ok (.iaload, 1) := by decide +kernel
theorem dX10_won_128 : decode cX10_won 128 = .ok (.iconst 1, 1) := by decide +kernel
theorem dX10_won_129 : decode cX10_won 129 = .ok (.isub, 1) := by decide +kernel
theorem dX10_won_130 : decode cX10_won 130 = .ok (.istore 11, 2) := by decide +kernel
theorem dX10_won_132 : decode cX10_won 132 = .ok (.iload 10, 2) := by decide +kernel
theorem dX10_won_134 : decode cX10_won 134 = .ok (.ifCond .lt 12, 3) := by decide +kernel
theorem dX10_won_137 : decode cX10_won 137 = .ok (.iload 10, 2) := by decide +kernel
theorem dX10_won_139 : decode cX10_won 139 = .ok (.iload 11, 2) := by decide +kernel
theorem dX10_won_141 : decode cX10_won 141 = .ok (.if_icmp .ne 5, 3) := by decide +kernel
theorem dX10_won_144 : decode cX10_won 144 = .ok (.iconst 0, 1) := by decide +kernel
theorem dX10_won_145 : decode cX10_won 145 = .ok (.ireturn, 1) := by decide +kernel
theorem dX10_won_146 : decode cX10_won 146 = .ok (.iload 10, 2) := by decide +kernel
theorem dX10_won_148 : decode cX10_won 148 = .ok (.ifCond .lt 22, 3) := by decide +kernel
theorem dX10_won_151 : decode cX10_won 151 = .ok (.iconst 0, 1) := by decide +kernel
theorem dX10_won_152 : decode cX10_won 152 = .ok (.aload_n 0, 1) := by decide +kernel
theorem dX10_won_153 : decode cX10_won 153 = .ok (.getfield 81, 3) := by decide +kernel
theorem dX10_won_156 : decode cX10_won 156 = .ok (.iconst 4, 1) := by decide +kernel
theorem dX10_won_157 : decode cX10_won 157 = .ok (.iload 10, 2) := by decide +kernel
theorem dX10_won_159 : decode cX10_won 159 = .ok (.imul, 1) := by decide +kernel
theorem dX10_won_160 : decode cX10_won 160 = .ok (.iload_n 3, 1) := by decide +kernel
theorem dX10_won_161 : decode cX10_won 161 = .ok (.iadd, 1) := by decide +kernel
theorem dX10_won_162 : decode cX10_won 162 = .ok (.iaload, 1) := by decide +kernel
theorem dX10_won_163 : decode cX10_won 163 = .ok (.iconst 1, 1) := by decide +kernel
theorem dX10_won_164 : decode cX10_won 164 = .ok (.invokestatic 305, 3) := by decide +kernel
theorem dX10_won_167 : decode cX10_won 167 = .ok (.goto 4, 3) := by decide +kernel
theorem dX10_won_170 : decode cX10_won 170 = .ok (.iconst 0, 1) := by decide +kernel
theorem dX10_won_171 : decode cX10_won 171 = .ok (.istore 12, 2) := by decide +kernel
theorem dX10_won_173 : decode cX10_won 173 = .ok (.iload 11, 2) := by decide +kernel
theorem dX10_won_175 : decode cX10_won 175 = .ok (.ifCond .lt 24, 3) := by decide +kernel
theorem dX10_won_178 : decode cX10_won 178 = .ok (.iload 12, 2) := by decide +kernel
theorem dX10_won_180 : decode cX10_won 180 = .ok (.aload_n 0, 1) := by decide +kernel
theorem dX10_won_181 : decode cX10_won 181 = .ok (.getfield 81, 3) := by decide +kernel
theorem dX10_won_184 : decode cX10_won 184 = .ok (.iconst 4, 1) := by decide +kernel
theorem dX10_won_185 : decode cX10_won 185 = .ok (.iload 11, 2) := by decide +kernel
theorem dX10_won_187 : decode cX10_won 187 = .ok (.imul, 1) := by decide +kernel
theorem dX10_won_188 : decode cX10_won 188 = .ok (.iload 9, 2) := by decide +kernel
theorem dX10_won_190 : decode cX10_won 190 = .ok (.iadd, 1) := by decide +kernel
theorem dX10_won_191 : decode cX10_won 191 = .ok (.iaload, 1) := by decide +kernel
theorem dX10_won_192 : decode cX10_won 192 = .ok (.iconst 1, 1) := by decide +kernel
theorem dX10_won_193 : decode cX10_won 193 = .ok (.invokestatic 305, 3) := by decide +kernel
theorem dX10_won_196 : decode cX10_won 196 = .ok (.goto 5, 3) := by decide +kernel
theorem dX10_won_199 : decode cX10_won 199 = .ok (.iload 12, 2) := by decide +kernel
theorem dX10_won_201 : decode cX10_won 201 = .ok (.istore 12, 2) := by decide +kernel
theorem dX10_won_203 : decode cX10_won 203 = .ok (.iload 4, 2) := by decide +kernel
theorem dX10_won_205 : decode cX10_won 205 = .ok (.ifCond .eq 54, 3) := by decide +kernel
theorem dX10_won_208 : decode cX10_won 208 = .ok (.iload 12, 2) := by decide +kernel
theorem dX10_won_210 : decode cX10_won 210 = .ok (.aload_n 0, 1) := by decide +kernel
theorem dX10_won_211 : decode cX10_won 211 = .ok (.getfield 84, 3) := by decide +kernel
theorem dX10_won_214 : decode cX10_won 214 = .ok (.iconst 4, 1) := by decide +kernel
theorem dX10_won_215 : decode cX10_won 215 = .ok (.iload_n 1, 1) := by decide +kernel
theorem dX10_won_216 : decode cX10_won 216 = .ok (.imul, 1) := by decide +kernel
theorem dX10_won_217 : decode cX10_won 217 = .ok (.iload_n 3, 1) := by decide +kernel
theorem dX10_won_218 : decode cX10_won 218 = .ok (.iadd, 1) := by decide +kernel
theorem dX10_won_219 : decode cX10_won 219 = .ok (.iaload, 1) := by decide +kernel
theorem dX10_won_220 : decode cX10_won 220 = .ok (.iconst 2, 1) := by decide +kernel
theorem dX10_won_221 : decode cX10_won 221 = .ok (.invokestatic 305, 3) := by decide +kernel
theorem dX10_won_224 : decode cX10_won 224 = .ok (.istore 12, 2) := by decide +kernel
theorem dX10_won_226 : decode cX10_won 226 = .ok (.iload 8, 2) := by decide +kernel
theorem dX10_won_228 : decode cX10_won 228 = .ok (.ifCond .eq 8, 3) := by decide +kernel
theorem dX10_won_231 : decode cX10_won 231 = .ok (.iload 12, 2) := by decide +kernel
theorem dX10_won_233 : decode cX10_won 233 = .ok (.goto 21, 3) := by decide +kernel
theorem dX10_won_236 : decode cX10_won 236 = .ok (.iload 12, 2) := by decide +kernel
theorem dX10_won_238 : decode cX10_won 238 = .ok (.aload_n 0, 1) := by decide +kernel
theorem dX10_won_239 : decode cX10_won 239 = .ok (.getfield 84, 3) := by decide +kernel
theorem dX10_won_242 : decode cX10_won 242 = .ok (.iconst 4, 1) := by decide +kernel
theorem dX10_won_243 : decode cX10_won 243 = .ok (.iload 6, 2) := by decide +kernel
theorem dX10_won_245 : decode cX10_won 245 = .ok (.imul, 1) := by decide +kernel
theorem dX10_won_246 : decode cX10_won 246 = .ok (.iload 9, 2) := by decide +kernel
theorem dX10_won_248 : decode cX10_won 248 = .ok (.iadd, 1) := by decide +kernel
theorem dX10_won_249 : decode cX10_won 249 = .ok (.iaload, 1) := by decide +kernel
theorem dX10_won_250 : decode cX10_won 250 = .ok (.iconst 2, 1) := by decide +kernel
theorem dX10_won_251 : decode cX10_won 251 = .ok (.invokestatic 305, 3) := by decide +kernel
theorem dX10_won_254 : decode cX10_won 254 = .ok (.istore 12, 2) := by decide +kernel
theorem dX10_won_256 : decode cX10_won 256 = .ok (.goto 51, 3) := by decide +kernel
theorem dX10_won_259 : decode cX10_won 259 = .ok (.iload 12, 2) := by decide +kernel
theorem dX10_won_261 : decode cX10_won 261 = .ok (.aload_n 0, 1) := by decide +kernel
theorem dX10_won_262 : decode cX10_won 262 = .ok (.getfield 87, 3) := by decide +kernel
theorem dX10_won_265 : decode cX10_won 265 = .ok (.iconst 4, 1) := by decide +kernel
theorem dX10_won_266 : decode cX10_won 266 = .ok (.iload_n 2, 1) := by decide +kernel
theorem dX10_won_267 : decode cX10_won 267 = .ok (.imul, 1) := by decide +kernel
theorem dX10_won_268 : decode cX10_won 268 = .ok (.iload_n 3, 1) := by decide +kernel
theorem dX10_won_269 : decode cX10_won 269 = .ok (.iadd, 1) := by decide +kernel
theorem dX10_won_270 : decode cX10_won 270 = .ok (.iaload, 1) := by decide +kernel
theorem dX10_won_271 : decode cX10_won 271 = .ok (.iconst 3, 1) := by decide +kernel
theorem dX10_won_272 : decode cX10_won 272 = .ok (.invokestatic 305, 3) := by decide +kernel
theorem dX10_won_275 : decode cX10_won 275 = .ok (.istore 12, 2) := by decide +kernel
theorem dX10_won_277 : decode cX10_won 277 = .ok (.iload 8, 2) := by decide +kernel
theorem dX10_won_279 : decode cX10_won 279 = .ok (.ifCond .eq 8, 3) := by decide +kernel
theorem dX10_won_282 : decode cX10_won 282 = .ok (.iload 12, 2) := by decide +kernel
theorem dX10_won_284 : decode cX10_won 284 = .ok (.goto 21, 3) := by decide +kernel
theorem dX10_won_287 : decode cX10_won 287 = .ok (.iload 12, 2) := by decide +kernel
theorem dX10_won_289 : decode cX10_won 289 = .ok (.aload_n 0, 1) := by decide +kernel
theorem dX10_won_290 : decode cX10_won 290 = .ok (.getfield 87, 3) := by decide +kernel
theorem dX10_won_293 : decode cX10_won 293 = .ok (.iconst 4, 1) := by decide +kernel
theorem dX10_won_294 : decode cX10_won 294 = .ok (.iload 7, 2) := by decide +kernel
theorem dX10_won_296 : decode cX10_won 296 = .ok (.imul, 1) := by decide +kernel
theorem dX10_won_297 : decode cX10_won 297 = .ok (.iload 9, 2) := by decide +kernel
theorem dX10_won_299 : decode cX10_won 299 = .ok (.iadd, 1) := by decide +kernel
theorem dX10_won_300 : decode cX10_won 300 = .ok (.iaload, 1) := by decide +kernel
theorem dX10_won_301 : decode cX10_won 301 = .ok (.iconst 3, 1) := by decide +kernel
theorem dX10_won_302 : decode cX10_won 302 = .ok (.invokestatic 305, 3) := by decide +kernel
theorem dX10_won_305 : decode cX10_won 305 = .ok (.istore 12, 2) := by decide +kernel
theorem dX10_won_307 : decode cX10_won 307 = .ok (.iload 8, 2) := by decide +kernel
theorem dX10_won_309 : decode cX10_won 309 = .ok (.ifCond .eq 16, 3) := by decide +kernel
theorem dX10_won_312 : decode cX10_won 312 = .ok (.iload 12, 2) := by decide +kernel
theorem dX10_won_314 : decode cX10_won 314 = .ok (.aload_n 0, 1) := by decide +kernel
theorem dX10_won_315 : decode cX10_won 315 = .ok (.getfield 296, 3) := by decide +kernel
theorem dX10_won_318 : decode cX10_won 318 = .ok (.iconst 4, 1) := by decide +kernel
theorem dX10_won_319 : decode cX10_won 319 = .ok (.invokestatic 305, 3) := by decide +kernel
theorem dX10_won_322 : decode cX10_won 322 = .ok (.goto 5, 3) := by decide +kernel
theorem dX10_won_325 : decode cX10_won 325 = .ok (.iload 12, 2) := by decide +kernel
theorem dX10_won_327 : decode cX10_won 327 = .ok (.ireturn, 1) := by decide +kernel
theorem dX10_edge_0 : decode cX10_edge 0 = .ok (.aload_n 0, 1) := by decide +kernel
theorem dX10_edge_1 : decode cX10_edge 1 = .ok (.iload_n 1, 1) := by decide +kernel
theorem dX10_edge_2 : decode cX10_edge 2 = .ok (.invokevirtual 183, 3) := by decide +kernel
theorem dX10_edge_5 : decode cX10_edge 5 = .ok (.ifCond .eq 15, 3) := by decide +kernel
theorem dX10_edge_8 : decode cX10_edge 8 = .ok (.aload_n 0, 1) := by decide +kernel
theorem dX10_edge_9 : decode cX10_edge 9 = .ok (.iload_n 2, 1) := by decide +kernel
theorem dX10_edge_10 : decode cX10_edge 10 = .ok (.invokevirtual 187, 3) := by decide +kernel
theorem dX10_edge_13 : decode cX10_edge 13 = .ok (.ifCond .eq 7, 3) := by decide +kernel
theorem dX10_edge_16 : decode cX10_edge 16 = .ok (.iconst 1, 1) := by decide +kernel
theorem dX10_edge_17 : decode cX10_edge 17 = .ok (.goto 4, 3) := by decide +kernel
theorem dX10_edge_20 : decode cX10_edge 20 = .ok (.iconst 0, 1) := by decide +kernel
theorem dX10_edge_21 : decode cX10_edge 21 = .ok (.istore 4, 2) := by decide +kernel
theorem dX10_edge_23 : decode cX10_edge 23 = .ok (.aload_n 0, 1) := by decide +kernel
theorem dX10_edge_24 : decode cX10_edge 24 = .ok (.iload 4, 2) := by decide +kernel
theorem dX10_edge_26 : decode cX10_edge 26 = .ok (.iload_n 3, 1) := by decide +kernel
theorem dX10_edge_27 : decode cX10_edge 27 = .ok (.iconst 0, 1) := by decide +kernel
theorem dX10_edge_28 : decode cX10_edge 28 = .ok (.iconst 3, 1) := by decide +kernel
theorem dX10_edge_29 : decode cX10_edge 29 = .ok (.invokestatic 165, 3) := by decide +kernel
theorem dX10_edge_32 : decode cX10_edge 32 = .ok (.iload 4, 2) := by decide +kernel
theorem dX10_edge_34 : decode cX10_edge 34 = .ok (.ifCond .eq 16, 3) := by decide +kernel
theorem dX10_edge_37 : decode cX10_edge 37 = .ok (.aload_n 0, 1) := by decide +kernel
theorem dX10_edge_38 : decode cX10_edge 38 = .ok (.getfield 20, 3) := by decide +kernel
theorem dX10_edge_41 : decode cX10_edge 41 = .ok (.iload_n 2, 1) := by decide +kernel
theorem dX10_edge_42 : decode cX10_edge 42 = .ok (.baload, 1) := by decide +kernel
theorem dX10_edge_43 : decode cX10_edge 43 = .ok (.ifCond .ne 7, 3) := by decide +kernel
theorem dX10_edge_46 : decode cX10_edge 46 = .ok (.iconst 1, 1) := by decide +kernel
theorem dX10_edge_47 : decode cX10_edge 47 = .ok (.goto 4, 3) := by decide +kernel
theorem dX10_edge_50 : decode cX10_edge 50 = .ok (.iconst 0, 1) := by decide +kernel
theorem dX10_edge_51 : decode cX10_edge 51 = .ok (.invokevirtual 175, 3) := by decide +kernel
theorem dX10_edge_54 : decode cX10_edge 54 = .ok (.ifCond .eq 13, 3) := by decide +kernel
theorem dX10_edge_57 : decode cX10_edge 57 = .ok (.aload_n 0, 1) := by decide +kernel
theorem dX10_edge_58 : decode cX10_edge 58 = .ok (.iload_n 1, 1) := by decide +kernel
theorem dX10_edge_59 : decode cX10_edge 59 = .ok (.iload_n 2, 1) := by decide +kernel
theorem dX10_edge_60 : decode cX10_edge 60 = .ok (.iload_n 3, 1) := by decide +kernel
theorem dX10_edge_61 : decode cX10_edge 61 = .ok (.invokevirtual 309, 3) := by decide +kernel
theorem dX10_edge_64 : decode cX10_edge 64 = .ok (.goto 4, 3) := by decide +kernel
theorem dX10_edge_67 : decode cX10_edge 67 = .ok (.iconst 0, 1) := by decide +kernel
theorem dX10_edge_68 : decode cX10_edge 68 = .ok (.ireturn, 1) := by decide +kernel
theorem dX10_isAnyTotalled_0 : decode cX10_isAnyTotalled 0 = .ok (.iconst 0, 1) := by decide +kernel
theorem dX10_isAnyTotalled_1 : decode cX10_isAnyTotalled 1 = .ok (.istore_n 1, 1) := by decide +kernel
theorem dX10_isAnyTotalled_2 : decode cX10_isAnyTotalled 2 = .ok (.iconst 0, 1) := by decide +kernel
theorem dX10_isAnyTotalled_3 : decode cX10_isAnyTotalled 3 = .ok (.istore_n 2, 1) := by decide +kernel
theorem dX10_isAnyTotalled_4 : decode cX10_isAnyTotalled 4 = .ok (.iload_n 2, 1) := by decide +kernel
theorem dX10_isAnyTotalled_5 : decode cX10_isAnyTotalled 5 = .ok (.aload_n 0, 1) := by decide +kernel
theorem dX10_isAnyTotalled_6 : decode cX10_isAnyTotalled 6 = .ok (.getfield 162, 3) := by decide +kernel
theorem dX10_isAnyTotalled_9 : decode cX10_isAnyTotalled 9 = .ok (.if_icmp .ge 37, 3) := by decide +kernel
theorem dX10_isAnyTotalled_12 : decode cX10_isAnyTotalled 12 = .ok (.iload_n 1, 1) := by decide +kernel
theorem dX10_isAnyTotalled_13 : decode cX10_isAnyTotalled 13 = .ok (.ifCond .ne 21, 3) := by decide +kernel
theorem dX10_isAnyTotalled_16 : decode cX10_isAnyTotalled 16 = .ok (.aload_n 0, 1) := by decide +kernel
theorem dX10_isAnyTotalled_17 : decode cX10_isAnyTotalled 17 = .ok (.getfield 16, 3) := by decide +kernel
theorem dX10_isAnyTotalled_20 : decode cX10_isAnyTotalled 20 = .ok (.iload_n 2, 1) := by decide +kernel
theorem dX10_isAnyTotalled_21 : decode cX10_isAnyTotalled 21 = .ok (.baload, 1) := by decide +kernel
theorem dX10_isAnyTotalled_22 : decode cX10_isAnyTotalled 22 = .ok (.ifCond .eq 16, 3) := by decide +kernel
theorem dX10_isAnyTotalled_25 : decode cX10_isAnyTotalled 25 = .ok (.aload_n 0, 1) := by decide +kernel
theorem dX10_isAnyTotalled_26 : decode cX10_isAnyTotalled 26 = .ok (.getfield 20, 3) := by decide +kernel
theorem dX10_isAnyTotalled_29 : decode cX10_isAnyTotalled 29 = .ok (.iload_n 2, 1) := by decide +kernel
theorem dX10_isAnyTotalled_30 : decode cX10_isAnyTotalled 30 = .ok (.baload, 1) := by decide +kernel
theorem dX10_isAnyTotalled_31 : decode cX10_isAnyTotalled 31 = .ok (.ifCond .ne 7, 3) := by decide +kernel
theorem dX10_isAnyTotalled_34 : decode cX10_isAnyTotalled 34 = .ok (.iconst 1, 1) := by decide +kernel
theorem dX10_isAnyTotalled_35 : decode cX10_isAnyTotalled 35 = .ok (.goto 4, 3) := by decide +kernel
theorem dX10_isAnyTotalled_38 : decode cX10_isAnyTotalled 38 = .ok (.iconst 0, 1) := by decide +kernel
theorem dX10_isAnyTotalled_39 : decode cX10_isAnyTotalled 39 = .ok (.istore_n 1, 1) := by decide +kernel
theorem dX10_isAnyTotalled_40 : decode cX10_isAnyTotalled 40 = .ok (.iinc 2 1, 3) := by decide +kernel
theorem dX10_isAnyTotalled_43 : decode cX10_isAnyTotalled 43 = .ok (.goto (-39), 3) := by decide +kernel
theorem dX10_isAnyTotalled_46 : decode cX10_isAnyTotalled 46 = .ok (.iload_n 1, 1) := by decide +kernel
theorem dX10_isAnyTotalled_47 : decode cX10_isAnyTotalled 47 = .ok (.ireturn, 1) := by decide +kernel
section
variable {p : Program} {l : Launch} {e : Env} {s : State} {m : MethodId} {args : Array Value} {below : List Frame} {meth : Method} {c : Code} {G : Gx} {e0 : Nat} {α : Ax} {κ : Nat → Int} {B : Nat}
def wp_X10_laysHeights (M : Mem) (Qm : Mem → Prop) : Prop := wp_X10_laysWidths M fun (M1 : Mem) => wp_X10_laysRows M1 fun (M2 : Mem) => Qm M2
set_option maxHeartbeats 4000000 in
set_option maxRecDepth 100000 in
theorem t_X10_laysHeights (X : CX p m c cX10_laysHeights 1 s args RX10 G B κ meth none) {M : Mem} {Qm : Mem → Prop} (hw : wp_X10_laysHeights M Qm) (H : Heap) (locs : List Loc) (hR : Rp G e0 α κ B M H) (hS : va_S (fun q => B ≤ q) s.heap H locs) (ls : Array Slot) (hl : lv_has ls 1 [(0, .ref (α 11 0))]) : WV p l e 6 s m args below meth c G e0 α κ B Qm H locs 0 ls [] := by
  have hw : wp_X10_laysWidths M fun (M1 : Mem) => wp_X10_laysRows M1 fun (M2 : Mem) => Qm M2 := hw
  refine lv_aload_n X.1.1 X.1.2.1 dX10_laysHeights_0 rfl (lv_at hl 0 rfl) ?_
  refine cs_X10_laysWidths X  (kc := 6) rmL_ok rm_c (by decide) hR hS kw_1861 hl.1 dX10_laysHeights_1 (Nat.le_of_ble_eq_true rfl) hw (fun M1 H locs hw hR hS => ?_)
  refine lv_aload_n X.1.1 X.1.2.1 dX10_laysHeights_4 rfl (lv_at hl 0 rfl) ?_
  refine cs_X10_laysRows X  (kc := 6) rmL_ok rm_c (by decide) hR hS kw_1921 hl.1 dX10_laysHeights_5 (Nat.le_of_ble_eq_true rfl) hw (fun M2 H locs hw hR hS => ?_)
  exact sa_vret X.1 X.2.2.2.1 X.2.2.2.2 hR hS hw dX10_laysHeights_8
theorem m_X10_laysHeights {l : Launch} {G : Gx} {e0 : Nat} {α : Ax} {κ : Nat → Int} {B : Nat} (hκ : kOK κ) {M : Mem} {Qm : Mem → Prop} (hw : wp_X10_laysHeights M Qm) : CV l yX10_laysHeights (Cond.code yX10_laysHeights cX10_laysHeights 1 none) 6 G e0 α κ B [.ref (α 11 0)] M Qm :=
  CV.mk hκ (by decide +kernel) rfl (Nat.le_of_ble_eq_true rfl) (lv := [(0, .ref (α 11 0))]) rfl (fun p e s m args below meth c ls X hR hS hl => t_X10_laysHeights X hw _ _ hR hS ls hl)
theorem cs_X10_laysHeights {cc : ByteArray} {nL : Nat} {own : String} {ret : Option FieldType} {idx pc : Nat} (X : CX p m c cc nL s args own G B κ meth ret) {kc : Nat} {R : Room} {cells slots : Nat} (hRr : RmOK R kc) (hcel : cells ≤ R.cells ∧ slots ≤ R.slots) (hk : 6 + 1 ≤ kc) {M : Mem} {H : Heap} {locs : List Loc} (hR : Rp G e0 α κ B M H) (hS : va_S (fun q => B ≤ q) s.heap H locs) (k1 : Cond.methodLink own idx yX10_laysHeights ∈ gw) {ls : Array Slot} (hml : ls.size = nL) {rest : List Value} (hd : decode cc pc = .ok (.invokevirtual idx, 3)) (hrest : (rest.map fun v => v.category).sum ≤ 8) {Q : State → Prop} {Qm : Mem → Prop} (hw : wp_X10_laysHeights M Qm) (kk : ∀ (M1 : Mem) (H1 : Heap) (locs1 : List Loc), Qm M1 → Rp G e0 α κ B M1 H1 → va_S (fun q => B ≤ q) s.heap H1 locs1 → W p l e R s m args below meth c H1 locs1 cells slots Q (F0 m (pc + 3) ls (rest))) : W p l e R s m args below meth c H locs cells slots Q (F0 m pc ls (.ref (α 11 0) :: rest)) :=
  sa_callVV 6 (n := 0) (As := []) (rest := rest) X.1 X.2.1 hR hS (m_X10_laysHeights X.2.2.1 hw) k1 kw_1919 kw_68 kw_104 kw_1920 ⟨rfl, by decide +kernel, by decide +kernel, by decide +kernel⟩ (rm_ok hRr hk (by decide)) (rc_11 X hR (okf X.2.2.1 rfl)) rfl rfl hrest hml hd hcel kk
def wp_X10_sumOf_4 (p1 : Int) (Qm : Int → Mem → Prop) : Nat → Int → Int → Mem → Prop
  | 0 => fun _ _ _ => False
  | n + 1 => fun y2 y3 M => (0 ≤ p1 ∧ p1 < 3) ∧ (((M 64 0 p1) ≤ y3 → Qm y2 M) ∧ (y3 < (M 64 0 p1) → (inR (24 * p1)) ∧ (inR ((24 * p1) + y3)) ∧ (0 ≤ ((24 * p1) + y3) ∧ ((24 * p1) + y3) < 72) ∧ (0 ≤ (M 63 0 ((24 * p1) + y3)) ∧ (M 63 0 ((24 * p1) + y3)) < 29) ∧ (inR (y2 + (M 85 0 (M 63 0 ((24 * p1) + y3))))) ∧ (inR (y3 + 1)) ∧ wp_X10_sumOf_4 p1 Qm n (y2 + (M 85 0 (M 63 0 ((24 * p1) + y3)))) (y3 + 1) M))
def wp_X10_sumOf (p1 : Int) (M : Mem) (Qm : Int → Mem → Prop) : Prop := (∃ n11 : Nat, wp_X10_sumOf_4 p1 Qm n11 0 0 M)
set_option maxHeartbeats 4000000 in
set_option maxRecDepth 100000 in
theorem t_X10_sumOf_4 {p1 : Int} (X : CX p m c cX10_sumOf 4 s args RX10 G B κ meth (some .int)) (hp1 : inR p1) {Qm : Int → Mem → Prop} : ∀ n : Nat, ∀ y2 : Int, ∀ y3 : Int, ∀ M : Mem, wp_X10_sumOf_4 p1 Qm n y2 y3 M → inR y2 → inR y3 → ∀ (H : Heap) (locs : List Loc), Rp G e0 α κ B M H → va_S (fun q => B ≤ q) s.heap H locs → ∀ (ls : Array Slot), lv_has ls 4 [(0, .ref (α 11 0)), (1, .int (Int32.ofInt p1)), (2, .int (Int32.ofInt y2)), (3, .int (Int32.ofInt y3))] → WI p l e 0 s m args below meth c G e0 α κ B Qm H locs 4 ls [] := by
  intro n
  induction n with
  | zero =>
    intro y2 y3 M hw hy2 hy3 H locs hR hS ls hl
    exact hw.elim
  | succ n ih =>
    intro y2 y3 M hw hy2 hy3 H locs hR hS ls hl
    have hw : (0 ≤ p1 ∧ p1 < 3) ∧ (((M 64 0 p1) ≤ y3 → Qm y2 M) ∧ (y3 < (M 64 0 p1) → (inR (24 * p1)) ∧ (inR ((24 * p1) + y3)) ∧ (0 ≤ ((24 * p1) + y3) ∧ ((24 * p1) + y3) < 72) ∧ (0 ≤ (M 63 0 ((24 * p1) + y3)) ∧ (M 63 0 ((24 * p1) + y3)) < 29) ∧ (inR (y2 + (M 85 0 (M 63 0 ((24 * p1) + y3))))) ∧ (inR (y3 + 1)) ∧ wp_X10_sumOf_4 p1 Qm n (y2 + (M 85 0 (M 63 0 ((24 * p1) + y3)))) (y3 + 1) M)) := hw
    refine lv_iload_n X.1.1 X.1.2.1 dX10_sumOf_4 rfl (lv_at hl 3 rfl) ?_
    refine lv_aload_n X.1.1 X.1.2.1 dX10_sumOf_5 rfl (lv_at hl 0 rfl) ?_
    refine gt_11_10 X hR (okf X.2.2.1 rfl) kw_1539 dX10_sumOf_6 ?_
    refine lv_iload_n X.1.1 X.1.2.1 dX10_sumOf_9 rfl (lv_at hl 1 rfl) ?_
    have c1 := hw.1
    have hw := hw.2
    refine ra_64 X hR (okf X.2.2.1 rfl) c1 dX10_sumOf_10 ?_
    have r2 := hR.r 64 0 p1
    refine sa_icmp_ge (tgt := 39) X.1 hy3 r2 dX10_sumOf_11 (by decide) (fun hc => ?_) (fun hc => ?_)
    · have hw := hw.1 hc
      refine lv_iload_n X.1.1 X.1.2.1 dX10_sumOf_39 rfl (lv_at hl 2 rfl) ?_
      exact sa_iret X.1 X.2.2.2.1 X.2.2.2.2 hR hS hy2 hw dX10_sumOf_40
    · have hw := hw.2 hc
      refine lv_iload_n X.1.1 X.1.2.1 dX10_sumOf_14 rfl (lv_at hl 2 rfl) ?_
      refine lv_aload_n X.1.1 X.1.2.1 dX10_sumOf_15 rfl (lv_at hl 0 rfl) ?_
      refine gt_11_36 X hR (okf X.2.2.1 rfl) kw_1565 dX10_sumOf_16 ?_
      refine lv_aload_n X.1.1 X.1.2.1 dX10_sumOf_19 rfl (lv_at hl 0 rfl) ?_
      refine gt_11_9 X hR (okf X.2.2.1 rfl) kw_1538 dX10_sumOf_20 ?_
      refine sa_bipush X.1 dX10_sumOf_23 (by decide) ?_
      refine lv_iload_n X.1.1 X.1.2.1 dX10_sumOf_25 rfl (lv_at hl 1 rfl) ?_
      have c3 := hw.1
      have hw := hw.2
      refine sa_imul X.1 dX10_sumOf_26 ?_
      refine lv_iload_n X.1.1 X.1.2.1 dX10_sumOf_27 rfl (lv_at hl 3 rfl) ?_
      have c4 := hw.1
      have hw := hw.2
      refine sa_iadd X.1 dX10_sumOf_28 ?_
      have c5 := hw.1
      have hw := hw.2
      refine ra_63 X hR (okf X.2.2.1 rfl) c5 dX10_sumOf_29 ?_
      have r6 := hR.r 63 0 ((24 * p1) + y3)
      have c7 := hw.1
      have hw := hw.2
      refine ra_85 X hR (okf X.2.2.1 rfl) c7 dX10_sumOf_30 ?_
      have r8 := hR.r 85 0 (M 63 0 ((24 * p1) + y3))
      have c9 := hw.1
      have hw := hw.2
      refine sa_iadd X.1 dX10_sumOf_31 ?_
      refine lv_istore_n (lv' := [(2, .int (Int32.ofInt (y2 + (M 85 0 (M 63 0 ((24 * p1) + y3)))))), (0, .ref (α 11 0)), (1, .int (Int32.ofInt p1)), (3, .int (Int32.ofInt y3))]) X.1.1 X.1.2.1 dX10_sumOf_32 rfl hl (by decide) rfl (fun ls hl => ?_)
      have c10 := hw.1
      have hw := hw.2
      refine lv_iinc (v := Int32.ofInt (y3 + 1)) (lv' := [(3, .int (Int32.ofInt (y3 + 1))), (2, .int (Int32.ofInt (y2 + (M 85 0 (M 63 0 ((24 * p1) + y3)))))), (0, .ref (α 11 0)), (1, .int (Int32.ofInt p1))]) X.1.1 X.1.2.1 dX10_sumOf_33 hl (k := 3) rfl (Int32.ofInt_add _ _).symm (by decide) rfl (fun ls hl => ?_)
      refine lv_goto (tgt := 4) X.1.1 X.1.2.1 dX10_sumOf_36 (by decide) ?_
      exact ih _ _ _ hw c9 c10 _ _ hR hS _ (lv_sub hl [2, 3, 1, 0] rfl)
set_option maxHeartbeats 4000000 in
set_option maxRecDepth 100000 in
theorem t_X10_sumOf {p1 : Int} (X : CX p m c cX10_sumOf 4 s args RX10 G B κ meth (some .int)) (hp1 : inR p1) {M : Mem} {Qm : Int → Mem → Prop} (hw : wp_X10_sumOf p1 M Qm) (H : Heap) (locs : List Loc) (hR : Rp G e0 α κ B M H) (hS : va_S (fun q => B ≤ q) s.heap H locs) (ls : Array Slot) (hl : lv_has ls 4 [(0, .ref (α 11 0)), (1, .int (Int32.ofInt p1))]) : WI p l e 0 s m args below meth c G e0 α κ B Qm H locs 0 ls [] := by
  have hw : (∃ n11 : Nat, wp_X10_sumOf_4 p1 Qm n11 0 0 M) := hw
  refine sa_const X.1 dX10_sumOf_0 ?_
  refine lv_istore_n (lv' := [(2, .int (Int32.ofInt 0)), (0, .ref (α 11 0)), (1, .int (Int32.ofInt p1))]) X.1.1 X.1.2.1 dX10_sumOf_1 rfl hl (by decide) rfl (fun ls hl => ?_)
  refine sa_const X.1 dX10_sumOf_2 ?_
  refine lv_istore_n (lv' := [(3, .int (Int32.ofInt 0)), (2, .int (Int32.ofInt 0)), (0, .ref (α 11 0)), (1, .int (Int32.ofInt p1))]) X.1.1 X.1.2.1 dX10_sumOf_3 rfl hl (by decide) rfl (fun ls hl => ?_)
  obtain ⟨n11, hw⟩ := hw
  exact t_X10_sumOf_4 X hp1 n11 _ _ _ hw (inR_c (a := 0) rfl) (inR_c (a := 0) rfl) _ _ hR hS _ (lv_sub hl [2, 3, 1, 0] rfl)
theorem m_X10_sumOf {l : Launch} {G : Gx} {e0 : Nat} {α : Ax} {κ : Nat → Int} {B : Nat} {p1 : Int} (hκ : kOK κ) (hp1 : inR p1) {M : Mem} {Qm : Int → Mem → Prop} (hw : wp_X10_sumOf p1 M Qm) : CI l yX10_sumOf (Cond.code yX10_sumOf cX10_sumOf 4 (some .int)) 0 G e0 α κ B [.ref (α 11 0), .int (Int32.ofInt p1)] M Qm :=
  CI.mk hκ (by decide +kernel) rfl (Nat.le_of_ble_eq_true rfl) (lv := [(0, .ref (α 11 0)), (1, .int (Int32.ofInt p1))]) rfl (fun p e s m args below meth c ls X hR hS hl => t_X10_sumOf X hp1 hw _ _ hR hS ls hl)
theorem cs_X10_sumOf {cc : ByteArray} {nL : Nat} {own : String} {ret : Option FieldType} {idx pc : Nat} {p1 : Int} (X : CX p m c cc nL s args own G B κ meth ret) (hp1 : inR p1) {kc : Nat} {R : Room} {cells slots : Nat} (hRr : RmOK R kc) (hcel : cells ≤ R.cells ∧ slots ≤ R.slots) (hk : 0 + 1 ≤ kc) {M : Mem} {H : Heap} {locs : List Loc} (hR : Rp G e0 α κ B M H) (hS : va_S (fun q => B ≤ q) s.heap H locs) (k1 : Cond.methodLink own idx yX10_sumOf ∈ gw) {ls : Array Slot} (hml : ls.size = nL) {rest : List Value} (hd : decode cc pc = .ok (.invokevirtual idx, 3)) (hrest : (rest.map fun v => v.category).sum ≤ 8) {Q : State → Prop} {Qm : Int → Mem → Prop} (hw : wp_X10_sumOf p1 M Qm) (kk : ∀ (r : Int) (M1 : Mem) (H1 : Heap) (locs1 : List Loc), Qm r M1 → inR r → Rp G e0 α κ B M1 H1 → va_S (fun q => B ≤ q) s.heap H1 locs1 → W p l e R s m args below meth c H1 locs1 cells slots Q (F0 m (pc + 3) ls (.int (Int32.ofInt r) :: rest))) : W p l e R s m args below meth c H locs cells slots Q (F0 m pc ls (.int (Int32.ofInt p1) :: .ref (α 11 0) :: rest)) :=
  sa_callVI 0 (n := 1) (As := [.int (Int32.ofInt p1)]) (rest := rest) X.1 X.2.1 hR hS (m_X10_sumOf X.2.2.1 hp1 hw) k1 kw_1936 kw_70 kw_104 kw_1937 ⟨rfl, by decide +kernel, by decide +kernel, by decide +kernel⟩ (rm_ok hRr hk (by decide)) (rc_11 X hR (okf X.2.2.1 rfl)) rfl rfl hrest hml hd hcel kk
def wp_X10_lines (p1 : Int) (M : Mem) (Qm : Int → Mem → Prop) : Prop := wp_X10_isCell p1 M fun (x2 : Int) (M1 : Mem) => wp_X10_goes x2 1 1 M1 fun (x5 : Int) (M4 : Mem) => ((¬ x5 = 0 → wp_X10_laysWidths M4 fun (M7 : Mem) => wp_X10_linesOf p1 M7 fun (x9 : Int) (M8 : Mem) => Qm x9 M8) ∧ (x5 = 0 → Qm 0 M4))
set_option maxHeartbeats 4000000 in
set_option maxRecDepth 100000 in
theorem t_X10_lines {p1 : Int} (X : CX p m c cX10_lines 2 s args RX10 G B κ meth (some .int)) (hp1 : inR p1) {M : Mem} {Qm : Int → Mem → Prop} (hw : wp_X10_lines p1 M Qm) (H : Heap) (locs : List Loc) (hR : Rp G e0 α κ B M H) (hS : va_S (fun q => B ≤ q) s.heap H locs) (ls : Array Slot) (hl : lv_has ls 2 [(0, .ref (α 11 0)), (1, .int (Int32.ofInt p1))]) : WI p l e 6 s m args below meth c G e0 α κ B Qm H locs 0 ls [] := by
  have hw : wp_X10_isCell p1 M fun (x2 : Int) (M1 : Mem) => wp_X10_goes x2 1 1 M1 fun (x5 : Int) (M4 : Mem) => ((¬ x5 = 0 → wp_X10_laysWidths M4 fun (M7 : Mem) => wp_X10_linesOf p1 M7 fun (x9 : Int) (M8 : Mem) => Qm x9 M8) ∧ (x5 = 0 → Qm 0 M4)) := hw
  refine lv_aload_n X.1.1 X.1.2.1 dX10_lines_0 rfl (lv_at hl 0 rfl) ?_
  refine lv_aload_n X.1.1 X.1.2.1 dX10_lines_1 rfl (lv_at hl 0 rfl) ?_
  refine lv_iload_n X.1.1 X.1.2.1 dX10_lines_2 rfl (lv_at hl 1 rfl) ?_
  refine cs_X10_isCell X hp1 (kc := 6) rmL_ok rm_c (by decide) hR hS kw_1753 hl.1 dX10_lines_3 (Nat.le_of_ble_eq_true rfl) hw (fun x2 M1 H locs hw r3 hR hS => ?_)
  refine sa_const X.1 dX10_lines_6 ?_
  refine sa_const X.1 dX10_lines_7 ?_
  refine cs_X10_goes X r3 (inR_c (a := 1) rfl) (inR_c (a := 1) rfl) (kc := 6) rmL_ok rm_c (by decide) hR hS kw_1721 hl.1 dX10_lines_8 (Nat.le_of_ble_eq_true rfl) hw (fun x5 M4 H locs hw r6 hR hS => ?_)
  refine sa_if_ne (tgt := 16) X.1 r6 dX10_lines_11 (by decide) (fun hc => ?_) (fun hc => ?_)
  · have hw := hw.1 hc
    refine lv_aload_n X.1.1 X.1.2.1 dX10_lines_16 rfl (lv_at hl 0 rfl) ?_
    refine cs_X10_laysWidths X  (kc := 6) rmL_ok rm_c (by decide) hR hS kw_1861 hl.1 dX10_lines_17 (Nat.le_of_ble_eq_true rfl) hw (fun M7 H locs hw hR hS => ?_)
    refine lv_aload_n X.1.1 X.1.2.1 dX10_lines_20 rfl (lv_at hl 0 rfl) ?_
    refine lv_iload_n X.1.1 X.1.2.1 dX10_lines_21 rfl (lv_at hl 1 rfl) ?_
    refine cs_X10_linesOf X hp1 (kc := 6) rmL_ok rm_c (by decide) hR hS kw_1905 hl.1 dX10_lines_22 (Nat.le_of_ble_eq_true rfl) hw (fun x9 M8 H locs hw r10 hR hS => ?_)
    exact sa_iret X.1 X.2.2.2.1 X.2.2.2.2 hR hS r10 hw dX10_lines_25
  · have hw := hw.2 hc
    refine sa_const X.1 dX10_lines_14 ?_
    exact sa_iret X.1 X.2.2.2.1 X.2.2.2.2 hR hS (inR_c (a := 0) rfl) hw dX10_lines_15
theorem m_X10_lines {l : Launch} {G : Gx} {e0 : Nat} {α : Ax} {κ : Nat → Int} {B : Nat} {p1 : Int} (hκ : kOK κ) (hp1 : inR p1) {M : Mem} {Qm : Int → Mem → Prop} (hw : wp_X10_lines p1 M Qm) : CI l yX10_lines (Cond.code yX10_lines cX10_lines 2 (some .int)) 6 G e0 α κ B [.ref (α 11 0), .int (Int32.ofInt p1)] M Qm :=
  CI.mk hκ (by decide +kernel) rfl (Nat.le_of_ble_eq_true rfl) (lv := [(0, .ref (α 11 0)), (1, .int (Int32.ofInt p1))]) rfl (fun p e s m args below meth c ls X hR hS hl => t_X10_lines X hp1 hw _ _ hR hS ls hl)
theorem cs_X10_lines {cc : ByteArray} {nL : Nat} {own : String} {ret : Option FieldType} {idx pc : Nat} {p1 : Int} (X : CX p m c cc nL s args own G B κ meth ret) (hp1 : inR p1) {kc : Nat} {R : Room} {cells slots : Nat} (hRr : RmOK R kc) (hcel : cells ≤ R.cells ∧ slots ≤ R.slots) (hk : 6 + 1 ≤ kc) {M : Mem} {H : Heap} {locs : List Loc} (hR : Rp G e0 α κ B M H) (hS : va_S (fun q => B ≤ q) s.heap H locs) (k1 : Cond.methodLink own idx yX10_lines ∈ gw) {ls : Array Slot} (hml : ls.size = nL) {rest : List Value} (hd : decode cc pc = .ok (.invokevirtual idx, 3)) (hrest : (rest.map fun v => v.category).sum ≤ 8) {Q : State → Prop} {Qm : Int → Mem → Prop} (hw : wp_X10_lines p1 M Qm) (kk : ∀ (r : Int) (M1 : Mem) (H1 : Heap) (locs1 : List Loc), Qm r M1 → inR r → Rp G e0 α κ B M1 H1 → va_S (fun q => B ≤ q) s.heap H1 locs1 → W p l e R s m args below meth c H1 locs1 cells slots Q (F0 m (pc + 3) ls (.int (Int32.ofInt r) :: rest))) : W p l e R s m args below meth c H locs cells slots Q (F0 m pc ls (.int (Int32.ofInt p1) :: .ref (α 11 0) :: rest)) :=
  sa_callVI 6 (n := 1) (As := [.int (Int32.ofInt p1)]) (rest := rest) X.1 X.2.1 hR hS (m_X10_lines X.2.2.1 hp1 hw) k1 kw_1902 kw_1903 kw_104 kw_1904 ⟨rfl, by decide +kernel, by decide +kernel, by decide +kernel⟩ (rm_ok hRr hk (by decide)) (rc_11 X hR (okf X.2.2.1 rfl)) rfl rfl hrest hml hd hcel kk
def wp_X10_height (p1 : Int) (M : Mem) (Qm : Int → Mem → Prop) : Prop := wp_X10_isRow p1 M fun (x2 : Int) (M1 : Mem) => wp_X10_goes x2 1 1 M1 fun (x5 : Int) (M4 : Mem) => ((¬ x5 = 0 → wp_X10_laysHeights M4 fun (M7 : Mem) => (0 ≤ p1 ∧ p1 < 29) ∧ Qm (M7 85 0 p1) M7) ∧ (x5 = 0 → Qm 0 M4))
set_option maxHeartbeats 4000000 in
set_option maxRecDepth 100000 in
theorem t_X10_height {p1 : Int} (X : CX p m c cX10_height 2 s args RX10 G B κ meth (some .int)) (hp1 : inR p1) {M : Mem} {Qm : Int → Mem → Prop} (hw : wp_X10_height p1 M Qm) (H : Heap) (locs : List Loc) (hR : Rp G e0 α κ B M H) (hS : va_S (fun q => B ≤ q) s.heap H locs) (ls : Array Slot) (hl : lv_has ls 2 [(0, .ref (α 11 0)), (1, .int (Int32.ofInt p1))]) : WI p l e 7 s m args below meth c G e0 α κ B Qm H locs 0 ls [] := by
  have hw : wp_X10_isRow p1 M fun (x2 : Int) (M1 : Mem) => wp_X10_goes x2 1 1 M1 fun (x5 : Int) (M4 : Mem) => ((¬ x5 = 0 → wp_X10_laysHeights M4 fun (M7 : Mem) => (0 ≤ p1 ∧ p1 < 29) ∧ Qm (M7 85 0 p1) M7) ∧ (x5 = 0 → Qm 0 M4)) := hw
  refine lv_aload_n X.1.1 X.1.2.1 dX10_height_0 rfl (lv_at hl 0 rfl) ?_
  refine lv_aload_n X.1.1 X.1.2.1 dX10_height_1 rfl (lv_at hl 0 rfl) ?_
  refine lv_iload_n X.1.1 X.1.2.1 dX10_height_2 rfl (lv_at hl 1 rfl) ?_
  refine cs_X10_isRow X hp1 (kc := 7) rmL_ok rm_c (by decide) hR hS kw_1733 hl.1 dX10_height_3 (Nat.le_of_ble_eq_true rfl) hw (fun x2 M1 H locs hw r3 hR hS => ?_)
  refine sa_const X.1 dX10_height_6 ?_
  refine sa_const X.1 dX10_height_7 ?_
  refine cs_X10_goes X r3 (inR_c (a := 1) rfl) (inR_c (a := 1) rfl) (kc := 7) rmL_ok rm_c (by decide) hR hS kw_1721 hl.1 dX10_height_8 (Nat.le_of_ble_eq_true rfl) hw (fun x5 M4 H locs hw r6 hR hS => ?_)
  refine sa_if_ne (tgt := 16) X.1 r6 dX10_height_11 (by decide) (fun hc => ?_) (fun hc => ?_)
  · have hw := hw.1 hc
    refine lv_aload_n X.1.1 X.1.2.1 dX10_height_16 rfl (lv_at hl 0 rfl) ?_
    refine cs_X10_laysHeights X  (kc := 7) rmL_ok rm_c (by decide) hR hS kw_1917 hl.1 dX10_height_17 (Nat.le_of_ble_eq_true rfl) hw (fun M7 H locs hw hR hS => ?_)
    refine lv_aload_n X.1.1 X.1.2.1 dX10_height_20 rfl (lv_at hl 0 rfl) ?_
    refine gt_11_36 X hR (okf X.2.2.1 rfl) kw_1565 dX10_height_21 ?_
    refine lv_iload_n X.1.1 X.1.2.1 dX10_height_24 rfl (lv_at hl 1 rfl) ?_
    have c8 := hw.1
    have hw := hw.2
    refine ra_85 X hR (okf X.2.2.1 rfl) c8 dX10_height_25 ?_
    have r9 := hR.r 85 0 p1
    exact sa_iret X.1 X.2.2.2.1 X.2.2.2.2 hR hS r9 hw dX10_height_26
  · have hw := hw.2 hc
    refine sa_const X.1 dX10_height_14 ?_
    exact sa_iret X.1 X.2.2.2.1 X.2.2.2.2 hR hS (inR_c (a := 0) rfl) hw dX10_height_15
theorem m_X10_height {l : Launch} {G : Gx} {e0 : Nat} {α : Ax} {κ : Nat → Int} {B : Nat} {p1 : Int} (hκ : kOK κ) (hp1 : inR p1) {M : Mem} {Qm : Int → Mem → Prop} (hw : wp_X10_height p1 M Qm) : CI l yX10_height (Cond.code yX10_height cX10_height 2 (some .int)) 7 G e0 α κ B [.ref (α 11 0), .int (Int32.ofInt p1)] M Qm :=
  CI.mk hκ (by decide +kernel) rfl (Nat.le_of_ble_eq_true rfl) (lv := [(0, .ref (α 11 0)), (1, .int (Int32.ofInt p1))]) rfl (fun p e s m args below meth c ls X hR hS hl => t_X10_height X hp1 hw _ _ hR hS ls hl)
theorem cs_X10_height {cc : ByteArray} {nL : Nat} {own : String} {ret : Option FieldType} {idx pc : Nat} {p1 : Int} (X : CX p m c cc nL s args own G B κ meth ret) (hp1 : inR p1) {kc : Nat} {R : Room} {cells slots : Nat} (hRr : RmOK R kc) (hcel : cells ≤ R.cells ∧ slots ≤ R.slots) (hk : 7 + 1 ≤ kc) {M : Mem} {H : Heap} {locs : List Loc} (hR : Rp G e0 α κ B M H) (hS : va_S (fun q => B ≤ q) s.heap H locs) (k1 : Cond.methodLink own idx yX10_height ∈ gw) {ls : Array Slot} (hml : ls.size = nL) {rest : List Value} (hd : decode cc pc = .ok (.invokevirtual idx, 3)) (hrest : (rest.map fun v => v.category).sum ≤ 8) {Q : State → Prop} {Qm : Int → Mem → Prop} (hw : wp_X10_height p1 M Qm) (kk : ∀ (r : Int) (M1 : Mem) (H1 : Heap) (locs1 : List Loc), Qm r M1 → inR r → Rp G e0 α κ B M1 H1 → va_S (fun q => B ≤ q) s.heap H1 locs1 → W p l e R s m args below meth c H1 locs1 cells slots Q (F0 m (pc + 3) ls (.int (Int32.ofInt r) :: rest))) : W p l e R s m args below meth c H locs cells slots Q (F0 m pc ls (.int (Int32.ofInt p1) :: .ref (α 11 0) :: rest)) :=
  sa_callVI 7 (n := 1) (As := [.int (Int32.ofInt p1)]) (rest := rest) X.1 X.2.1 hR hS (m_X10_height X.2.2.1 hp1 hw) k1 kw_1914 kw_1915 kw_104 kw_1916 ⟨rfl, by decide +kernel, by decide +kernel, by decide +kernel⟩ (rm_ok hRr hk (by decide)) (rc_11 X hR (okf X.2.2.1 rfl)) rfl rfl hrest hml hd hcel kk
def wp_X10_heightByCells (p1 : Int) (M : Mem) (Qm : Int → Mem → Prop) : Prop := wp_X10_height p1 M fun (x2 : Int) (M1 : Mem) => Qm x2 M1
set_option maxHeartbeats 4000000 in
set_option maxRecDepth 100000 in
theorem t_X10_heightByCells {p1 : Int} (X : CX p m c cX10_heightByCells 2 s args RX10 G B κ meth (some .int)) (hp1 : inR p1) {M : Mem} {Qm : Int → Mem → Prop} (hw : wp_X10_heightByCells p1 M Qm) (H : Heap) (locs : List Loc) (hR : Rp G e0 α κ B M H) (hS : va_S (fun q => B ≤ q) s.heap H locs) (ls : Array Slot) (hl : lv_has ls 2 [(0, .ref (α 11 0)), (1, .int (Int32.ofInt p1))]) : WI p l e 8 s m args below meth c G e0 α κ B Qm H locs 0 ls [] := by
  have hw : wp_X10_height p1 M fun (x2 : Int) (M1 : Mem) => Qm x2 M1 := hw
  refine lv_aload_n X.1.1 X.1.2.1 dX10_heightByCells_0 rfl (lv_at hl 0 rfl) ?_
  refine lv_iload_n X.1.1 X.1.2.1 dX10_heightByCells_1 rfl (lv_at hl 1 rfl) ?_
  refine cs_X10_height X hp1 (kc := 8) rmL_ok rm_c (by decide) hR hS kw_1929 hl.1 dX10_heightByCells_2 (Nat.le_of_ble_eq_true rfl) hw (fun x2 M1 H locs hw r3 hR hS => ?_)
  exact sa_iret X.1 X.2.2.2.1 X.2.2.2.2 hR hS r3 hw dX10_heightByCells_5
theorem m_X10_heightByCells {l : Launch} {G : Gx} {e0 : Nat} {α : Ax} {κ : Nat → Int} {B : Nat} {p1 : Int} (hκ : kOK κ) (hp1 : inR p1) {M : Mem} {Qm : Int → Mem → Prop} (hw : wp_X10_heightByCells p1 M Qm) : CI l yX10_heightByCells (Cond.code yX10_heightByCells cX10_heightByCells 2 (some .int)) 8 G e0 α κ B [.ref (α 11 0), .int (Int32.ofInt p1)] M Qm :=
  CI.mk hκ (by decide +kernel) rfl (Nat.le_of_ble_eq_true rfl) (lv := [(0, .ref (α 11 0)), (1, .int (Int32.ofInt p1))]) rfl (fun p e s m args below meth c ls X hR hS hl => t_X10_heightByCells X hp1 hw _ _ hR hS ls hl)
theorem cs_X10_heightByCells {cc : ByteArray} {nL : Nat} {own : String} {ret : Option FieldType} {idx pc : Nat} {p1 : Int} (X : CX p m c cc nL s args own G B κ meth ret) (hp1 : inR p1) {kc : Nat} {R : Room} {cells slots : Nat} (hRr : RmOK R kc) (hcel : cells ≤ R.cells ∧ slots ≤ R.slots) (hk : 8 + 1 ≤ kc) {M : Mem} {H : Heap} {locs : List Loc} (hR : Rp G e0 α κ B M H) (hS : va_S (fun q => B ≤ q) s.heap H locs) (k1 : Cond.methodLink own idx yX10_heightByCells ∈ gw) {ls : Array Slot} (hml : ls.size = nL) {rest : List Value} (hd : decode cc pc = .ok (.invokevirtual idx, 3)) (hrest : (rest.map fun v => v.category).sum ≤ 8) {Q : State → Prop} {Qm : Int → Mem → Prop} (hw : wp_X10_heightByCells p1 M Qm) (kk : ∀ (r : Int) (M1 : Mem) (H1 : Heap) (locs1 : List Loc), Qm r M1 → inR r → Rp G e0 α κ B M1 H1 → va_S (fun q => B ≤ q) s.heap H1 locs1 → W p l e R s m args below meth c H1 locs1 cells slots Q (F0 m (pc + 3) ls (.int (Int32.ofInt r) :: rest))) : W p l e R s m args below meth c H locs cells slots Q (F0 m pc ls (.int (Int32.ofInt p1) :: .ref (α 11 0) :: rest)) :=
  sa_callVI 8 (n := 1) (As := [.int (Int32.ofInt p1)]) (rest := rest) X.1 X.2.1 hR hS (m_X10_heightByCells X.2.2.1 hp1 hw) k1 kw_1926 kw_1927 kw_104 kw_1928 ⟨rfl, by decide +kernel, by decide +kernel, by decide +kernel⟩ (rm_ok hRr hk (by decide)) (rc_11 X hR (okf X.2.2.1 rfl)) rfl rfl hrest hml hd hcel kk
def wp_X10_tableHeight (M : Mem) (Qm : Int → Mem → Prop) : Prop := ∀ M1 : Mem, M1 = up M 11 0 59 0 → wp_X10_laysHeights M1 fun (M3 : Mem) => wp_X10_sumOf 1 M3 fun (x5 : Int) (M4 : Mem) => Qm x5 M4
set_option maxHeartbeats 4000000 in
set_option maxRecDepth 100000 in
theorem t_X10_tableHeight (X : CX p m c cX10_tableHeight 1 s args RX10 G B κ meth (some .int)) {M : Mem} {Qm : Int → Mem → Prop} (hw : wp_X10_tableHeight M Qm) (H : Heap) (locs : List Loc) (hR : Rp G e0 α κ B M H) (hS : va_S (fun q => B ≤ q) s.heap H locs) (ls : Array Slot) (hl : lv_has ls 1 [(0, .ref (α 11 0))]) : WI p l e 7 s m args below meth c G e0 α κ B Qm H locs 0 ls [] := by
  have hw : ∀ M1 : Mem, M1 = up M 11 0 59 0 → wp_X10_laysHeights M1 fun (M3 : Mem) => wp_X10_sumOf 1 M3 fun (x5 : Int) (M4 : Mem) => Qm x5 M4 := hw
  refine lv_aload_n X.1.1 X.1.2.1 dX10_tableHeight_0 rfl (lv_at hl 0 rfl) ?_
  refine sa_const X.1 dX10_tableHeight_1 ?_
  refine pt_11_59 X hR hS (okf X.2.2.1 rfl) (inR_c (a := 0) rfl) kw_1588 dX10_tableHeight_2 (fun H locs hR hS => ?_)
  obtain ⟨M1, e2⟩ : ∃ z : Mem, z = up M 11 0 59 0 := ⟨_, rfl⟩
  rw [← e2] at hR
  have hw := hw M1 e2
  refine lv_aload_n X.1.1 X.1.2.1 dX10_tableHeight_5 rfl (lv_at hl 0 rfl) ?_
  refine cs_X10_laysHeights X  (kc := 7) rmL_ok rm_c (by decide) hR hS kw_1917 hl.1 dX10_tableHeight_6 (Nat.le_of_ble_eq_true rfl) hw (fun M3 H locs hw hR hS => ?_)
  refine lv_aload_n X.1.1 X.1.2.1 dX10_tableHeight_9 rfl (lv_at hl 0 rfl) ?_
  refine sa_const X.1 dX10_tableHeight_10 ?_
  refine cs_X10_sumOf X (inR_c (a := 1) rfl) (kc := 7) rmL_ok rm_c (by decide) hR hS kw_1934 hl.1 dX10_tableHeight_11 (Nat.le_of_ble_eq_true rfl) hw (fun x5 M4 H locs hw r6 hR hS => ?_)
  exact sa_iret X.1 X.2.2.2.1 X.2.2.2.2 hR hS r6 hw dX10_tableHeight_14
theorem m_X10_tableHeight {l : Launch} {G : Gx} {e0 : Nat} {α : Ax} {κ : Nat → Int} {B : Nat} (hκ : kOK κ) {M : Mem} {Qm : Int → Mem → Prop} (hw : wp_X10_tableHeight M Qm) : CI l yX10_tableHeight (Cond.code yX10_tableHeight cX10_tableHeight 1 (some .int)) 7 G e0 α κ B [.ref (α 11 0)] M Qm :=
  CI.mk hκ (by decide +kernel) rfl (Nat.le_of_ble_eq_true rfl) (lv := [(0, .ref (α 11 0))]) rfl (fun p e s m args below meth c ls X hR hS hl => t_X10_tableHeight X hw _ _ hR hS ls hl)
theorem cs_X10_tableHeight {cc : ByteArray} {nL : Nat} {own : String} {ret : Option FieldType} {idx pc : Nat} (X : CX p m c cc nL s args own G B κ meth ret) {kc : Nat} {R : Room} {cells slots : Nat} (hRr : RmOK R kc) (hcel : cells ≤ R.cells ∧ slots ≤ R.slots) (hk : 7 + 1 ≤ kc) {M : Mem} {H : Heap} {locs : List Loc} (hR : Rp G e0 α κ B M H) (hS : va_S (fun q => B ≤ q) s.heap H locs) (k1 : Cond.methodLink own idx yX10_tableHeight ∈ gw) {ls : Array Slot} (hml : ls.size = nL) {rest : List Value} (hd : decode cc pc = .ok (.invokevirtual idx, 3)) (hrest : (rest.map fun v => v.category).sum ≤ 8) {Q : State → Prop} {Qm : Int → Mem → Prop} (hw : wp_X10_tableHeight M Qm) (kk : ∀ (r : Int) (M1 : Mem) (H1 : Heap) (locs1 : List Loc), Qm r M1 → inR r → Rp G e0 α κ B M1 H1 → va_S (fun q => B ≤ q) s.heap H1 locs1 → W p l e R s m args below meth c H1 locs1 cells slots Q (F0 m (pc + 3) ls (.int (Int32.ofInt r) :: rest))) : W p l e R s m args below meth c H locs cells slots Q (F0 m pc ls (.ref (α 11 0) :: rest)) :=
  sa_callVI 7 (n := 0) (As := []) (rest := rest) X.1 X.2.1 hR hS (m_X10_tableHeight X.2.2.1 hw) k1 kw_1931 kw_1932 kw_104 kw_1933 ⟨rfl, by decide +kernel, by decide +kernel, by decide +kernel⟩ (rm_ok hRr hk (by decide)) (rc_11 X hR (okf X.2.2.1 rfl)) rfl rfl hrest hml hd hcel kk
def wp_X10_goesOn_75 (Qm : Int → Mem → Prop) (K2 : Int → Mem → Prop) (y1 : Int) (M : Mem) : Prop := (inR (y1 + 1)) ∧ K2 (y1 + 1) M
def wp_X10_goesOn_63 (Qm : Int → Mem → Prop) (K2 : Int → Mem → Prop) (y1 : Int) (M : Mem) : Prop := (0 ≤ y1 ∧ y1 < 6) ∧ (0 ≤ y1 ∧ y1 < 6) ∧ ∀ M13 : Mem, M13 = up M 84 0 y1 (M 82 0 y1) → wp_X10_goesOn_75 Qm K2 y1 M13
def wp_X10_goesOn_2 (Qm : Int → Mem → Prop) : Nat → Int → Mem → Prop
  | 0 => fun _ _ => False
  | n + 1 => fun y1 M => (((M 11 0 4) ≤ y1 → Qm 0 M) ∧ (y1 < (M 11 0 4) → wp_X10_isOpen y1 M fun (x3 : Int) (M2 : Mem) => ((x3 = 0 → wp_X10_goesOn_75 Qm (wp_X10_goesOn_2 Qm n) y1 M2) ∧ (¬ x3 = 0 → (0 ≤ y1 ∧ y1 < 6) ∧ (0 ≤ y1 ∧ y1 < 6) ∧ (((M2 83 0 y1) ≤ (M2 84 0 y1) → wp_X10_goesOn_63 Qm (wp_X10_goesOn_2 Qm n) y1 M2) ∧ ((M2 84 0 y1) < (M2 83 0 y1) → (0 ≤ y1 ∧ y1 < 6) ∧ (0 ≤ y1 ∧ y1 < 6) ∧ (inR ((M2 82 0 y1) + 8)) ∧ ((((M2 82 0 y1) + 8) ≤ (M2 84 0 y1) → wp_X10_goesOn_63 Qm (wp_X10_goesOn_2 Qm n) y1 M2) ∧ ((M2 84 0 y1) < ((M2 82 0 y1) + 8) → (0 ≤ y1 ∧ y1 < 6) ∧ (inR ((M2 84 0 y1) + 1)) ∧ (0 ≤ y1 ∧ y1 < 6) ∧ ∀ M24 : Mem, M24 = up M2 84 0 y1 ((M2 84 0 y1) + 1) → Qm 1 M24))))))))
def wp_X10_goesOn (M : Mem) (Qm : Int → Mem → Prop) : Prop := (∃ n26 : Nat, wp_X10_goesOn_2 Qm n26 0 M)
set_option maxHeartbeats 4000000 in
set_option maxRecDepth 100000 in
theorem t_X10_goesOn_75 (X : CX p m c cX10_goesOn 2 s args RX10 G B κ meth (some .boolean)) {Qm : Int → Mem → Prop} {K2 : Int → Mem → Prop} (hK2 : ∀ y1 : Int, ∀ M : Mem, K2 y1 M → inR y1 → ∀ (H : Heap) (locs : List Loc), Rp G e0 α κ B M H → va_S (fun q => B ≤ q) s.heap H locs → ∀ (ls : Array Slot), lv_has ls 2 [(0, .ref (α 11 0)), (1, .int (Int32.ofInt y1))] → WI p l e 1 s m args below meth c G e0 α κ B Qm H locs 2 ls []) : ∀ y1 : Int, ∀ M : Mem, wp_X10_goesOn_75 Qm K2 y1 M → inR y1 → ∀ (H : Heap) (locs : List Loc), Rp G e0 α κ B M H → va_S (fun q => B ≤ q) s.heap H locs → ∀ (ls : Array Slot), lv_has ls 2 [(0, .ref (α 11 0)), (1, .int (Int32.ofInt y1))] → WI p l e 1 s m args below meth c G e0 α κ B Qm H locs 75 ls [] := by
  intro y1 M hw hy1 H locs hR hS ls hl
  have hw : (inR (y1 + 1)) ∧ K2 (y1 + 1) M := hw
  have c5 := hw.1
  have hw := hw.2
  refine lv_iinc (v := Int32.ofInt (y1 + 1)) (lv' := [(1, .int (Int32.ofInt (y1 + 1))), (0, .ref (α 11 0))]) X.1.1 X.1.2.1 dX10_goesOn_75 hl (k := 1) rfl (Int32.ofInt_add _ _).symm (by decide) rfl (fun ls hl => ?_)
  refine lv_goto (tgt := 2) X.1.1 X.1.2.1 dX10_goesOn_78 (by decide) ?_
  exact hK2 _ _ hw c5 _ _ hR hS _ (lv_sub hl [1, 0] rfl)
set_option maxHeartbeats 4000000 in
set_option maxRecDepth 100000 in
theorem t_X10_goesOn_63 (X : CX p m c cX10_goesOn 2 s args RX10 G B κ meth (some .boolean)) {Qm : Int → Mem → Prop} {K2 : Int → Mem → Prop} (hK2 : ∀ y1 : Int, ∀ M : Mem, K2 y1 M → inR y1 → ∀ (H : Heap) (locs : List Loc), Rp G e0 α κ B M H → va_S (fun q => B ≤ q) s.heap H locs → ∀ (ls : Array Slot), lv_has ls 2 [(0, .ref (α 11 0)), (1, .int (Int32.ofInt y1))] → WI p l e 1 s m args below meth c G e0 α κ B Qm H locs 2 ls []) : ∀ y1 : Int, ∀ M : Mem, wp_X10_goesOn_63 Qm K2 y1 M → inR y1 → ∀ (H : Heap) (locs : List Loc), Rp G e0 α κ B M H → va_S (fun q => B ≤ q) s.heap H locs → ∀ (ls : Array Slot), lv_has ls 2 [(0, .ref (α 11 0)), (1, .int (Int32.ofInt y1))] → WI p l e 1 s m args below meth c G e0 α κ B Qm H locs 63 ls [] := by
  intro y1 M hw hy1 H locs hR hS ls hl
  have hw : (0 ≤ y1 ∧ y1 < 6) ∧ (0 ≤ y1 ∧ y1 < 6) ∧ ∀ M13 : Mem, M13 = up M 84 0 y1 (M 82 0 y1) → wp_X10_goesOn_75 Qm K2 y1 M13 := hw
  refine lv_aload_n X.1.1 X.1.2.1 dX10_goesOn_63 rfl (lv_at hl 0 rfl) ?_
  refine gt_11_35 X hR (okf X.2.2.1 rfl) kw_1564 dX10_goesOn_64 ?_
  refine lv_iload_n X.1.1 X.1.2.1 dX10_goesOn_67 rfl (lv_at hl 1 rfl) ?_
  refine lv_aload_n X.1.1 X.1.2.1 dX10_goesOn_68 rfl (lv_at hl 0 rfl) ?_
  refine gt_11_33 X hR (okf X.2.2.1 rfl) kw_1562 dX10_goesOn_69 ?_
  refine lv_iload_n X.1.1 X.1.2.1 dX10_goesOn_72 rfl (lv_at hl 1 rfl) ?_
  have c10 := hw.1
  have hw := hw.2
  refine ra_82 X hR (okf X.2.2.1 rfl) c10 dX10_goesOn_73 ?_
  have r11 := hR.r 82 0 y1
  have c12 := hw.1
  have hw := hw.2
  refine wa_84 X hR hS (okf X.2.2.1 rfl) c12 r11 dX10_goesOn_74 (fun H locs hR hS => ?_)
  obtain ⟨M13, e14⟩ : ∃ z : Mem, z = up M 84 0 y1 (M 82 0 y1) := ⟨_, rfl⟩
  rw [← e14] at hR
  have hw := hw M13 e14
  exact t_X10_goesOn_75 X hK2 _ _ hw hy1 _ _ hR hS _ (lv_sub hl [0, 1] rfl)
set_option maxHeartbeats 4000000 in
set_option maxRecDepth 100000 in
theorem t_X10_goesOn_2 (X : CX p m c cX10_goesOn 2 s args RX10 G B κ meth (some .boolean)) {Qm : Int → Mem → Prop} : ∀ n : Nat, ∀ y1 : Int, ∀ M : Mem, wp_X10_goesOn_2 Qm n y1 M → inR y1 → ∀ (H : Heap) (locs : List Loc), Rp G e0 α κ B M H → va_S (fun q => B ≤ q) s.heap H locs → ∀ (ls : Array Slot), lv_has ls 2 [(0, .ref (α 11 0)), (1, .int (Int32.ofInt y1))] → WI p l e 1 s m args below meth c G e0 α κ B Qm H locs 2 ls [] := by
  intro n
  induction n with
  | zero =>
    intro y1 M hw hy1 H locs hR hS ls hl
    exact hw.elim
  | succ n ih =>
    intro y1 M hw hy1 H locs hR hS ls hl
    have hw : (((M 11 0 4) ≤ y1 → Qm 0 M) ∧ (y1 < (M 11 0 4) → wp_X10_isOpen y1 M fun (x3 : Int) (M2 : Mem) => ((x3 = 0 → wp_X10_goesOn_75 Qm (wp_X10_goesOn_2 Qm n) y1 M2) ∧ (¬ x3 = 0 → (0 ≤ y1 ∧ y1 < 6) ∧ (0 ≤ y1 ∧ y1 < 6) ∧ (((M2 83 0 y1) ≤ (M2 84 0 y1) → wp_X10_goesOn_63 Qm (wp_X10_goesOn_2 Qm n) y1 M2) ∧ ((M2 84 0 y1) < (M2 83 0 y1) → (0 ≤ y1 ∧ y1 < 6) ∧ (0 ≤ y1 ∧ y1 < 6) ∧ (inR ((M2 82 0 y1) + 8)) ∧ ((((M2 82 0 y1) + 8) ≤ (M2 84 0 y1) → wp_X10_goesOn_63 Qm (wp_X10_goesOn_2 Qm n) y1 M2) ∧ ((M2 84 0 y1) < ((M2 82 0 y1) + 8) → (0 ≤ y1 ∧ y1 < 6) ∧ (inR ((M2 84 0 y1) + 1)) ∧ (0 ≤ y1 ∧ y1 < 6) ∧ ∀ M24 : Mem, M24 = up M2 84 0 y1 ((M2 84 0 y1) + 1) → Qm 1 M24)))))))) := hw
    refine lv_iload_n X.1.1 X.1.2.1 dX10_goesOn_2 rfl (lv_at hl 1 rfl) ?_
    refine lv_aload_n X.1.1 X.1.2.1 dX10_goesOn_3 rfl (lv_at hl 0 rfl) ?_
    refine gt_11_4 X hR (okf X.2.2.1 rfl) kw_1533 dX10_goesOn_4 ?_
    have r1 := hR.r 11 0 4
    refine sa_icmp_ge (tgt := 81) X.1 hy1 r1 dX10_goesOn_7 (by decide) (fun hc => ?_) (fun hc => ?_)
    · have hw := hw.1 hc
      refine sa_const X.1 dX10_goesOn_81 ?_
      exact sa_zret X.1 X.2.2.2.1 X.2.2.2.2 hR hS (Or.inl rfl) hw dX10_goesOn_82
    · have hw := hw.2 hc
      refine lv_aload_n X.1.1 X.1.2.1 dX10_goesOn_10 rfl (lv_at hl 0 rfl) ?_
      refine lv_iload_n X.1.1 X.1.2.1 dX10_goesOn_11 rfl (lv_at hl 1 rfl) ?_
      refine cs_X10_isOpen X hy1 (kc := 1) rmL_ok rm_c (by decide) hR hS kw_1880 hl.1 dX10_goesOn_12 (Nat.le_of_ble_eq_true rfl) hw (fun x3 M2 H locs hw r4 hR hS => ?_)
      refine sa_if_eq (tgt := 75) X.1 r4 dX10_goesOn_15 (by decide) (fun hc => ?_) (fun hc => ?_)
      · have hw := hw.1 hc
        exact t_X10_goesOn_75 X ih _ _ hw hy1 _ _ hR hS _ (lv_sub hl [0, 1] rfl)
      · have hw := hw.2 hc
        refine lv_aload_n X.1.1 X.1.2.1 dX10_goesOn_18 rfl (lv_at hl 0 rfl) ?_
        refine gt_11_35 X hR (okf X.2.2.1 rfl) kw_1564 dX10_goesOn_19 ?_
        refine lv_iload_n X.1.1 X.1.2.1 dX10_goesOn_22 rfl (lv_at hl 1 rfl) ?_
        have c6 := hw.1
        have hw := hw.2
        refine ra_84 X hR (okf X.2.2.1 rfl) c6 dX10_goesOn_23 ?_
        have r7 := hR.r 84 0 y1
        refine lv_aload_n X.1.1 X.1.2.1 dX10_goesOn_24 rfl (lv_at hl 0 rfl) ?_
        refine gt_11_34 X hR (okf X.2.2.1 rfl) kw_1563 dX10_goesOn_25 ?_
        refine lv_iload_n X.1.1 X.1.2.1 dX10_goesOn_28 rfl (lv_at hl 1 rfl) ?_
        have c8 := hw.1
        have hw := hw.2
        refine ra_83 X hR (okf X.2.2.1 rfl) c8 dX10_goesOn_29 ?_
        have r9 := hR.r 83 0 y1
        refine sa_icmp_ge (tgt := 63) X.1 r7 r9 dX10_goesOn_30 (by decide) (fun hc => ?_) (fun hc => ?_)
        · have hw := hw.1 hc
          exact t_X10_goesOn_63 X ih _ _ hw hy1 _ _ hR hS _ (lv_sub hl [0, 1] rfl)
        · have hw := hw.2 hc
          refine lv_aload_n X.1.1 X.1.2.1 dX10_goesOn_33 rfl (lv_at hl 0 rfl) ?_
          refine gt_11_35 X hR (okf X.2.2.1 rfl) kw_1564 dX10_goesOn_34 ?_
          refine lv_iload_n X.1.1 X.1.2.1 dX10_goesOn_37 rfl (lv_at hl 1 rfl) ?_
          have c15 := hw.1
          have hw := hw.2
          refine ra_84 X hR (okf X.2.2.1 rfl) c15 dX10_goesOn_38 ?_
          have r16 := hR.r 84 0 y1
          refine lv_aload_n X.1.1 X.1.2.1 dX10_goesOn_39 rfl (lv_at hl 0 rfl) ?_
          refine gt_11_33 X hR (okf X.2.2.1 rfl) kw_1562 dX10_goesOn_40 ?_
          refine lv_iload_n X.1.1 X.1.2.1 dX10_goesOn_43 rfl (lv_at hl 1 rfl) ?_
          have c17 := hw.1
          have hw := hw.2
          refine ra_82 X hR (okf X.2.2.1 rfl) c17 dX10_goesOn_44 ?_
          have r18 := hR.r 82 0 y1
          refine sa_bipush X.1 dX10_goesOn_45 (by decide) ?_
          have c19 := hw.1
          have hw := hw.2
          refine sa_iadd X.1 dX10_goesOn_47 ?_
          refine sa_icmp_ge (tgt := 63) X.1 r16 c19 dX10_goesOn_48 (by decide) (fun hc => ?_) (fun hc => ?_)
          · have hw := hw.1 hc
            exact t_X10_goesOn_63 X ih _ _ hw hy1 _ _ hR hS _ (lv_sub hl [0, 1] rfl)
          · have hw := hw.2 hc
            refine lv_aload_n X.1.1 X.1.2.1 dX10_goesOn_51 rfl (lv_at hl 0 rfl) ?_
            refine gt_11_35 X hR (okf X.2.2.1 rfl) kw_1564 dX10_goesOn_52 ?_
            refine lv_iload_n X.1.1 X.1.2.1 dX10_goesOn_55 rfl (lv_at hl 1 rfl) ?_
            refine lv_dup2_11 X.1.1 X.1.2.1 dX10_goesOn_56 rfl rfl ?_
            have c20 := hw.1
            have hw := hw.2
            refine ra_84 X hR (okf X.2.2.1 rfl) c20 dX10_goesOn_57 ?_
            have r21 := hR.r 84 0 y1
            refine sa_const X.1 dX10_goesOn_58 ?_
            have c22 := hw.1
            have hw := hw.2
            refine sa_iadd X.1 dX10_goesOn_59 ?_
            have c23 := hw.1
            have hw := hw.2
            refine wa_84 X hR hS (okf X.2.2.1 rfl) c23 c22 dX10_goesOn_60 (fun H locs hR hS => ?_)
            obtain ⟨M24, e25⟩ : ∃ z : Mem, z = up M2 84 0 y1 ((M2 84 0 y1) + 1) := ⟨_, rfl⟩
            rw [← e25] at hR
            have hw := hw M24 e25
            refine sa_const X.1 dX10_goesOn_61 ?_
            exact sa_zret X.1 X.2.2.2.1 X.2.2.2.2 hR hS (Or.inr rfl) hw dX10_goesOn_62
set_option maxHeartbeats 4000000 in
set_option maxRecDepth 100000 in
theorem t_X10_goesOn (X : CX p m c cX10_goesOn 2 s args RX10 G B κ meth (some .boolean)) {M : Mem} {Qm : Int → Mem → Prop} (hw : wp_X10_goesOn M Qm) (H : Heap) (locs : List Loc) (hR : Rp G e0 α κ B M H) (hS : va_S (fun q => B ≤ q) s.heap H locs) (ls : Array Slot) (hl : lv_has ls 2 [(0, .ref (α 11 0))]) : WI p l e 1 s m args below meth c G e0 α κ B Qm H locs 0 ls [] := by
  have hw : (∃ n26 : Nat, wp_X10_goesOn_2 Qm n26 0 M) := hw
  refine sa_const X.1 dX10_goesOn_0 ?_
  refine lv_istore_n (lv' := [(1, .int (Int32.ofInt 0)), (0, .ref (α 11 0))]) X.1.1 X.1.2.1 dX10_goesOn_1 rfl hl (by decide) rfl (fun ls hl => ?_)
  obtain ⟨n26, hw⟩ := hw
  exact t_X10_goesOn_2 X n26 _ _ hw (inR_c (a := 0) rfl) _ _ hR hS _ (lv_sub hl [1, 0] rfl)
theorem m_X10_goesOn {l : Launch} {G : Gx} {e0 : Nat} {α : Ax} {κ : Nat → Int} {B : Nat} (hκ : kOK κ) {M : Mem} {Qm : Int → Mem → Prop} (hw : wp_X10_goesOn M Qm) : CI l yX10_goesOn (Cond.code yX10_goesOn cX10_goesOn 2 (some .boolean)) 1 G e0 α κ B [.ref (α 11 0)] M Qm :=
  CI.mk hκ (by decide +kernel) rfl (Nat.le_of_ble_eq_true rfl) (lv := [(0, .ref (α 11 0))]) rfl (fun p e s m args below meth c ls X hR hS hl => t_X10_goesOn X hw _ _ hR hS ls hl)
theorem cs_X10_goesOn {cc : ByteArray} {nL : Nat} {own : String} {ret : Option FieldType} {idx pc : Nat} (X : CX p m c cc nL s args own G B κ meth ret) {kc : Nat} {R : Room} {cells slots : Nat} (hRr : RmOK R kc) (hcel : cells ≤ R.cells ∧ slots ≤ R.slots) (hk : 1 + 1 ≤ kc) {M : Mem} {H : Heap} {locs : List Loc} (hR : Rp G e0 α κ B M H) (hS : va_S (fun q => B ≤ q) s.heap H locs) (k1 : Cond.methodLink own idx yX10_goesOn ∈ gw) {ls : Array Slot} (hml : ls.size = nL) {rest : List Value} (hd : decode cc pc = .ok (.invokevirtual idx, 3)) (hrest : (rest.map fun v => v.category).sum ≤ 8) {Q : State → Prop} {Qm : Int → Mem → Prop} (hw : wp_X10_goesOn M Qm) (kk : ∀ (r : Int) (M1 : Mem) (H1 : Heap) (locs1 : List Loc), Qm r M1 → inR r → Rp G e0 α κ B M1 H1 → va_S (fun q => B ≤ q) s.heap H1 locs1 → W p l e R s m args below meth c H1 locs1 cells slots Q (F0 m (pc + 3) ls (.int (Int32.ofInt r) :: rest))) : W p l e R s m args below meth c H locs cells slots Q (F0 m pc ls (.ref (α 11 0) :: rest)) :=
  sa_callVI 1 (n := 0) (As := []) (rest := rest) X.1 X.2.1 hR hS (m_X10_goesOn X.2.2.1 hw) k1 kw_1944 kw_71 kw_104 kw_1945 ⟨rfl, by decide +kernel, by decide +kernel, by decide +kernel⟩ (rm_ok hRr hk (by decide)) (rc_11 X hR (okf X.2.2.1 rfl)) rfl rfl hrest hml hd hcel kk
def wp_X10_leastHeight_131 (Qm : Int → Mem → Prop) (K93 : Int → Int → Mem → Prop) (y2 : Int) (M : Mem) : Prop := wp_X10_goesOn M fun (x22 : Int) (M21 : Mem) => K93 y2 x22 M21
def wp_X10_leastHeight_130 (Qm : Int → Mem → Prop) (K93 : Int → Int → Mem → Prop) (z0 : Int) (M : Mem) : Prop := wp_X10_leastHeight_131 Qm K93 z0 M
def wp_X10_leastHeight_93 (Qm : Int → Mem → Prop) : Nat → Int → Int → Mem → Prop
  | 0 => fun _ _ _ => False
  | n + 1 => fun y2 y3 M => ((y3 = 0 → Qm y2 M) ∧ (¬ y3 = 0 → wp_X10_sumOfWidths M fun (x18 : Int) (M17 : Mem) => (((M17 11 0 24) < x18 → wp_X10_leastHeight_131 Qm (wp_X10_leastHeight_93 Qm n) y2 M17) ∧ (x18 ≤ (M17 11 0 24) → wp_X10_laysRows M17 fun (M24 : Mem) => wp_X10_sumOf 1 M24 fun (x26 : Int) (M25 : Mem) => ((y2 ≤ x26 → wp_X10_leastHeight_130 Qm (wp_X10_leastHeight_93 Qm n) y2 M25) ∧ (x26 < y2 → wp_X10_sumOf 1 M25 fun (x29 : Int) (M28 : Mem) => wp_X10_leastHeight_130 Qm (wp_X10_leastHeight_93 Qm n) x29 M28))))))
def wp_X10_leastHeight_91 (Qm : Int → Mem → Prop) (y2 : Int) (M : Mem) : Prop := (∃ n31 : Nat, wp_X10_leastHeight_93 Qm n31 y2 0 M)
def wp_X10_leastHeight_4 (Qm : Int → Mem → Prop) : Nat → Int → Int → Mem → Prop
  | 0 => fun _ _ _ => False
  | n + 1 => fun y1 y2 M => (((M 11 0 4) ≤ y2 → wp_X10_goes (if 3 < y1 then (0 : Int) else 1) 1 1 M fun (x6 : Int) (M5 : Mem) => ((¬ x6 = 0 → wp_X10_laysNarrow M5 fun (M8 : Mem) => wp_X10_laysRows M8 fun (M9 : Mem) => wp_X10_sumOf 1 M9 fun (x11 : Int) (M10 : Mem) => wp_X10_sumOfWidths M10 fun (x14 : Int) (M13 : Mem) => (((M13 11 0 24) < x14 → wp_X10_leastHeight_91 Qm x11 M13) ∧ (x14 ≤ (M13 11 0 24) → wp_X10_goesOn M13 fun (x33 : Int) (M32 : Mem) => (∃ n38 : Nat, wp_X10_leastHeight_93 Qm n38 x11 (if x33 = 0 then (0 : Int) else 1) M32)))) ∧ (x6 = 0 → Qm 0 M5))) ∧ (y2 < (M 11 0 4) → wp_X10_isOpen y2 M fun (x40 : Int) (M39 : Mem) => (inR (y1 + (if x40 = 0 then (0 : Int) else 1))) ∧ (inR (y2 + 1)) ∧ wp_X10_leastHeight_4 Qm n (y1 + (if x40 = 0 then (0 : Int) else 1)) (y2 + 1) M39))
def wp_X10_leastHeight (M : Mem) (Qm : Int → Mem → Prop) : Prop := (∃ n47 : Nat, wp_X10_leastHeight_4 Qm n47 0 0 M)
set_option maxHeartbeats 4000000 in
set_option maxRecDepth 100000 in
theorem t_X10_leastHeight_131 (X : CX p m c cX10_leastHeight 4 s args RX10 G B κ meth (some .int)) {Qm : Int → Mem → Prop} {K93 : Int → Int → Mem → Prop} (hK93 : ∀ y2 : Int, ∀ y3 : Int, ∀ M : Mem, K93 y2 y3 M → inR y2 → inR y3 → ∀ (H : Heap) (locs : List Loc), Rp G e0 α κ B M H → va_S (fun q => B ≤ q) s.heap H locs → ∀ (ls : Array Slot), lv_has ls 4 [(0, .ref (α 11 0)), (2, .int (Int32.ofInt y2)), (3, .int (Int32.ofInt y3))] → WI p l e 5 s m args below meth c G e0 α κ B Qm H locs 93 ls []) : ∀ y2 : Int, ∀ M : Mem, wp_X10_leastHeight_131 Qm K93 y2 M → inR y2 → ∀ (H : Heap) (locs : List Loc), Rp G e0 α κ B M H → va_S (fun q => B ≤ q) s.heap H locs → ∀ (ls : Array Slot), lv_has ls 4 [(0, .ref (α 11 0)), (2, .int (Int32.ofInt y2))] → WI p l e 5 s m args below meth c G e0 α κ B Qm H locs 131 ls [] := by
  intro y2 M hw hy2 H locs hR hS ls hl
  have hw : wp_X10_goesOn M fun (x22 : Int) (M21 : Mem) => K93 y2 x22 M21 := hw
  refine lv_aload_n X.1.1 X.1.2.1 dX10_leastHeight_131 rfl (lv_at hl 0 rfl) ?_
  refine cs_X10_goesOn X  (kc := 5) rmL_ok rm_c (by decide) hR hS kw_1942 hl.1 dX10_leastHeight_132 (Nat.le_of_ble_eq_true rfl) hw (fun x22 M21 H locs hw r23 hR hS => ?_)
  refine lv_istore_n (lv' := [(3, .int (Int32.ofInt x22)), (0, .ref (α 11 0)), (2, .int (Int32.ofInt y2))]) X.1.1 X.1.2.1 dX10_leastHeight_135 rfl hl (by decide) rfl (fun ls hl => ?_)
  refine lv_goto (tgt := 93) X.1.1 X.1.2.1 dX10_leastHeight_136 (by decide) ?_
  exact hK93 _ _ _ hw hy2 r23 _ _ hR hS _ (lv_sub hl [1, 2, 0] rfl)
set_option maxHeartbeats 4000000 in
set_option maxRecDepth 100000 in
theorem t_X10_leastHeight_130 (X : CX p m c cX10_leastHeight 4 s args RX10 G B κ meth (some .int)) {Qm : Int → Mem → Prop} {K93 : Int → Int → Mem → Prop} (hK93 : ∀ y2 : Int, ∀ y3 : Int, ∀ M : Mem, K93 y2 y3 M → inR y2 → inR y3 → ∀ (H : Heap) (locs : List Loc), Rp G e0 α κ B M H → va_S (fun q => B ≤ q) s.heap H locs → ∀ (ls : Array Slot), lv_has ls 4 [(0, .ref (α 11 0)), (2, .int (Int32.ofInt y2)), (3, .int (Int32.ofInt y3))] → WI p l e 5 s m args below meth c G e0 α κ B Qm H locs 93 ls []) : ∀ z0 : Int, ∀ M : Mem, wp_X10_leastHeight_130 Qm K93 z0 M → inR z0 → ∀ (H : Heap) (locs : List Loc), Rp G e0 α κ B M H → va_S (fun q => B ≤ q) s.heap H locs → ∀ (ls : Array Slot), lv_has ls 4 [(0, .ref (α 11 0))] → WI p l e 5 s m args below meth c G e0 α κ B Qm H locs 130 ls [.int (Int32.ofInt z0)] := by
  intro z0 M hw hz0 H locs hR hS ls hl
  have hw : wp_X10_leastHeight_131 Qm K93 z0 M := hw
  refine lv_istore_n (lv' := [(2, .int (Int32.ofInt z0)), (0, .ref (α 11 0))]) X.1.1 X.1.2.1 dX10_leastHeight_130 rfl hl (by decide) rfl (fun ls hl => ?_)
  exact t_X10_leastHeight_131 X hK93 _ _ hw hz0 _ _ hR hS _ (lv_sub hl [1, 0] rfl)
set_option maxHeartbeats 4000000 in
set_option maxRecDepth 100000 in
theorem t_X10_leastHeight_93 (X : CX p m c cX10_leastHeight 4 s args RX10 G B κ meth (some .int)) {Qm : Int → Mem → Prop} : ∀ n : Nat, ∀ y2 : Int, ∀ y3 : Int, ∀ M : Mem, wp_X10_leastHeight_93 Qm n y2 y3 M → inR y2 → inR y3 → ∀ (H : Heap) (locs : List Loc), Rp G e0 α κ B M H → va_S (fun q => B ≤ q) s.heap H locs → ∀ (ls : Array Slot), lv_has ls 4 [(0, .ref (α 11 0)), (2, .int (Int32.ofInt y2)), (3, .int (Int32.ofInt y3))] → WI p l e 5 s m args below meth c G e0 α κ B Qm H locs 93 ls [] := by
  intro n
  induction n with
  | zero =>
    intro y2 y3 M hw hy2 hy3 H locs hR hS ls hl
    exact hw.elim
  | succ n ih =>
    intro y2 y3 M hw hy2 hy3 H locs hR hS ls hl
    have hw : ((y3 = 0 → Qm y2 M) ∧ (¬ y3 = 0 → wp_X10_sumOfWidths M fun (x18 : Int) (M17 : Mem) => (((M17 11 0 24) < x18 → wp_X10_leastHeight_131 Qm (wp_X10_leastHeight_93 Qm n) y2 M17) ∧ (x18 ≤ (M17 11 0 24) → wp_X10_laysRows M17 fun (M24 : Mem) => wp_X10_sumOf 1 M24 fun (x26 : Int) (M25 : Mem) => ((y2 ≤ x26 → wp_X10_leastHeight_130 Qm (wp_X10_leastHeight_93 Qm n) y2 M25) ∧ (x26 < y2 → wp_X10_sumOf 1 M25 fun (x29 : Int) (M28 : Mem) => wp_X10_leastHeight_130 Qm (wp_X10_leastHeight_93 Qm n) x29 M28)))))) := hw
    refine lv_iload_n X.1.1 X.1.2.1 dX10_leastHeight_93 rfl (lv_at hl 2 rfl) ?_
    refine sa_if_eq (tgt := 139) X.1 hy3 dX10_leastHeight_94 (by decide) (fun hc => ?_) (fun hc => ?_)
    · have hw := hw.1 hc
      refine lv_iload_n X.1.1 X.1.2.1 dX10_leastHeight_139 rfl (lv_at hl 1 rfl) ?_
      exact sa_iret X.1 X.2.2.2.1 X.2.2.2.2 hR hS hy2 hw dX10_leastHeight_140
    · have hw := hw.2 hc
      refine lv_aload_n X.1.1 X.1.2.1 dX10_leastHeight_97 rfl (lv_at hl 0 rfl) ?_
      refine cs_X10_sumOfWidths X  (kc := 5) rmL_ok rm_c (by decide) hR hS kw_1876 hl.1 dX10_leastHeight_98 (Nat.le_of_ble_eq_true rfl) hw (fun x18 M17 H locs hw r19 hR hS => ?_)
      refine lv_aload_n X.1.1 X.1.2.1 dX10_leastHeight_101 rfl (lv_at hl 0 rfl) ?_
      refine gt_11_24 X hR (okf X.2.2.1 rfl) kw_1553 dX10_leastHeight_102 ?_
      have r20 := hR.r 11 0 24
      refine sa_icmp_gt (tgt := 131) X.1 r19 r20 dX10_leastHeight_105 (by decide) (fun hc => ?_) (fun hc => ?_)
      · have hw := hw.1 hc
        exact t_X10_leastHeight_131 X ih _ _ hw hy2 _ _ hR hS _ (lv_sub hl [0, 1] rfl)
      · have hw := hw.2 hc
        refine lv_aload_n X.1.1 X.1.2.1 dX10_leastHeight_108 rfl (lv_at hl 0 rfl) ?_
        refine cs_X10_laysRows X  (kc := 5) rmL_ok rm_c (by decide) hR hS kw_1921 hl.1 dX10_leastHeight_109 (Nat.le_of_ble_eq_true rfl) hw (fun M24 H locs hw hR hS => ?_)
        refine lv_aload_n X.1.1 X.1.2.1 dX10_leastHeight_112 rfl (lv_at hl 0 rfl) ?_
        refine sa_const X.1 dX10_leastHeight_113 ?_
        refine cs_X10_sumOf X (inR_c (a := 1) rfl) (kc := 5) rmL_ok rm_c (by decide) hR hS kw_1934 hl.1 dX10_leastHeight_114 (Nat.le_of_ble_eq_true rfl) hw (fun x26 M25 H locs hw r27 hR hS => ?_)
        refine lv_iload_n X.1.1 X.1.2.1 dX10_leastHeight_117 rfl (lv_at hl 1 rfl) ?_
        refine sa_icmp_ge (tgt := 129) X.1 r27 hy2 dX10_leastHeight_118 (by decide) (fun hc => ?_) (fun hc => ?_)
        · have hw := hw.1 hc
          refine lv_iload_n X.1.1 X.1.2.1 dX10_leastHeight_129 rfl (lv_at hl 1 rfl) ?_
          exact t_X10_leastHeight_130 X ih _ _ hw hy2 _ _ hR hS _ (lv_sub hl [0] rfl)
        · have hw := hw.2 hc
          refine lv_aload_n X.1.1 X.1.2.1 dX10_leastHeight_121 rfl (lv_at hl 0 rfl) ?_
          refine sa_const X.1 dX10_leastHeight_122 ?_
          refine cs_X10_sumOf X (inR_c (a := 1) rfl) (kc := 5) rmL_ok rm_c (by decide) hR hS kw_1934 hl.1 dX10_leastHeight_123 (Nat.le_of_ble_eq_true rfl) hw (fun x29 M28 H locs hw r30 hR hS => ?_)
          refine lv_goto (tgt := 130) X.1.1 X.1.2.1 dX10_leastHeight_126 (by decide) ?_
          exact t_X10_leastHeight_130 X ih _ _ hw r30 _ _ hR hS _ (lv_sub hl [0] rfl)
set_option maxHeartbeats 4000000 in
set_option maxRecDepth 100000 in
theorem t_X10_leastHeight_91 (X : CX p m c cX10_leastHeight 4 s args RX10 G B κ meth (some .int)) {Qm : Int → Mem → Prop} : ∀ y2 : Int, ∀ M : Mem, wp_X10_leastHeight_91 Qm y2 M → inR y2 → ∀ (H : Heap) (locs : List Loc), Rp G e0 α κ B M H → va_S (fun q => B ≤ q) s.heap H locs → ∀ (ls : Array Slot), lv_has ls 4 [(0, .ref (α 11 0)), (2, .int (Int32.ofInt y2))] → WI p l e 5 s m args below meth c G e0 α κ B Qm H locs 91 ls [] := by
  intro y2 M hw hy2 H locs hR hS ls hl
  have hw : (∃ n31 : Nat, wp_X10_leastHeight_93 Qm n31 y2 0 M) := hw
  refine sa_const X.1 dX10_leastHeight_91 ?_
  refine lv_istore_n (lv' := [(3, .int (Int32.ofInt 0)), (0, .ref (α 11 0)), (2, .int (Int32.ofInt y2))]) X.1.1 X.1.2.1 dX10_leastHeight_92 rfl hl (by decide) rfl (fun ls hl => ?_)
  obtain ⟨n31, hw⟩ := hw
  exact t_X10_leastHeight_93 X n31 _ _ _ hw hy2 (inR_c (a := 0) rfl) _ _ hR hS _ (lv_sub hl [1, 2, 0] rfl)
set_option maxHeartbeats 4000000 in
set_option maxRecDepth 100000 in
theorem t_X10_leastHeight_4 (X : CX p m c cX10_leastHeight 4 s args RX10 G B κ meth (some .int)) {Qm : Int → Mem → Prop} : ∀ n : Nat, ∀ y1 : Int, ∀ y2 : Int, ∀ M : Mem, wp_X10_leastHeight_4 Qm n y1 y2 M → inR y1 → inR y2 → ∀ (H : Heap) (locs : List Loc), Rp G e0 α κ B M H → va_S (fun q => B ≤ q) s.heap H locs → ∀ (ls : Array Slot), lv_has ls 4 [(0, .ref (α 11 0)), (1, .int (Int32.ofInt y1)), (2, .int (Int32.ofInt y2))] → WI p l e 5 s m args below meth c G e0 α κ B Qm H locs 4 ls [] := by
  intro n
  induction n with
  | zero =>
    intro y1 y2 M hw hy1 hy2 H locs hR hS ls hl
    exact hw.elim
  | succ n ih =>
    intro y1 y2 M hw hy1 hy2 H locs hR hS ls hl
    have hw : (((M 11 0 4) ≤ y2 → wp_X10_goes (if 3 < y1 then (0 : Int) else 1) 1 1 M fun (x6 : Int) (M5 : Mem) => ((¬ x6 = 0 → wp_X10_laysNarrow M5 fun (M8 : Mem) => wp_X10_laysRows M8 fun (M9 : Mem) => wp_X10_sumOf 1 M9 fun (x11 : Int) (M10 : Mem) => wp_X10_sumOfWidths M10 fun (x14 : Int) (M13 : Mem) => (((M13 11 0 24) < x14 → wp_X10_leastHeight_91 Qm x11 M13) ∧ (x14 ≤ (M13 11 0 24) → wp_X10_goesOn M13 fun (x33 : Int) (M32 : Mem) => (∃ n38 : Nat, wp_X10_leastHeight_93 Qm n38 x11 (if x33 = 0 then (0 : Int) else 1) M32)))) ∧ (x6 = 0 → Qm 0 M5))) ∧ (y2 < (M 11 0 4) → wp_X10_isOpen y2 M fun (x40 : Int) (M39 : Mem) => (inR (y1 + (if x40 = 0 then (0 : Int) else 1))) ∧ (inR (y2 + 1)) ∧ wp_X10_leastHeight_4 Qm n (y1 + (if x40 = 0 then (0 : Int) else 1)) (y2 + 1) M39)) := hw
    refine lv_iload_n X.1.1 X.1.2.1 dX10_leastHeight_4 rfl (lv_at hl 2 rfl) ?_
    refine lv_aload_n X.1.1 X.1.2.1 dX10_leastHeight_5 rfl (lv_at hl 0 rfl) ?_
    refine gt_11_4 X hR (okf X.2.2.1 rfl) kw_1533 dX10_leastHeight_6 ?_
    have r1 := hR.r 11 0 4
    refine sa_icmp_ge (tgt := 34) X.1 hy2 r1 dX10_leastHeight_9 (by decide) (fun hc => ?_) (fun hc => ?_)
    · have hw := hw.1 hc
      refine lv_aload_n X.1.1 X.1.2.1 dX10_leastHeight_34 rfl (lv_at hl 0 rfl) ?_
      refine lv_iload_n X.1.1 X.1.2.1 dX10_leastHeight_35 rfl (lv_at hl 1 rfl) ?_
      refine sa_const X.1 dX10_leastHeight_36 ?_
      have r2 := inR_ite (c := 3 < y1) (inR_c (a := 0) rfl) (inR_c (a := 1) rfl)
      refine cut_j (A := ∀ v3 : Int, v3 = (if 3 < y1 then (0 : Int) else 1) → WI p l e 5 s m args below meth c G e0 α κ B Qm H locs 45 ls [.int (Int32.ofInt v3), .ref (α 11 0)]) (fun J4 => ?_) ?_
      · refine sa_icmp_gt (tgt := 44) X.1 hy1 (inR_c (a := 3) rfl) dX10_leastHeight_37 (by decide) (fun hc => ?_) (fun hc => ?_)
        · skip
          refine sa_const X.1 dX10_leastHeight_44 ?_
          exact J4 (0) (if_pos (c := 3 < y1) hc).symm
        · skip
          refine sa_const X.1 dX10_leastHeight_40 ?_
          refine lv_goto (tgt := 45) X.1.1 X.1.2.1 dX10_leastHeight_41 (by decide) ?_
          exact J4 (1) (if_neg (c := 3 < y1) (Int.not_lt.mpr hc)).symm
      intro v3 hv3
      subst hv3
      refine sa_const X.1 dX10_leastHeight_45 ?_
      refine sa_const X.1 dX10_leastHeight_46 ?_
      refine cs_X10_goes X r2 (inR_c (a := 1) rfl) (inR_c (a := 1) rfl) (kc := 5) rmL_ok rm_c (by decide) hR hS kw_1721 hl.1 dX10_leastHeight_47 (Nat.le_of_ble_eq_true rfl) hw (fun x6 M5 H locs hw r7 hR hS => ?_)
      refine sa_if_ne (tgt := 55) X.1 r7 dX10_leastHeight_50 (by decide) (fun hc => ?_) (fun hc => ?_)
      · have hw := hw.1 hc
        refine lv_aload_n X.1.1 X.1.2.1 dX10_leastHeight_55 rfl (lv_at hl 0 rfl) ?_
        refine cs_X10_laysNarrow X  (kc := 5) rmL_ok rm_c (by decide) hR hS kw_1865 hl.1 dX10_leastHeight_56 (Nat.le_of_ble_eq_true rfl) hw (fun M8 H locs hw hR hS => ?_)
        refine lv_aload_n X.1.1 X.1.2.1 dX10_leastHeight_59 rfl (lv_at hl 0 rfl) ?_
        refine cs_X10_laysRows X  (kc := 5) rmL_ok rm_c (by decide) hR hS kw_1921 hl.1 dX10_leastHeight_60 (Nat.le_of_ble_eq_true rfl) hw (fun M9 H locs hw hR hS => ?_)
        refine lv_aload_n X.1.1 X.1.2.1 dX10_leastHeight_63 rfl (lv_at hl 0 rfl) ?_
        refine sa_const X.1 dX10_leastHeight_64 ?_
        refine cs_X10_sumOf X (inR_c (a := 1) rfl) (kc := 5) rmL_ok rm_c (by decide) hR hS kw_1934 hl.1 dX10_leastHeight_65 (Nat.le_of_ble_eq_true rfl) hw (fun x11 M10 H locs hw r12 hR hS => ?_)
        refine lv_istore_n (lv' := [(2, .int (Int32.ofInt x11)), (0, .ref (α 11 0)), (1, .int (Int32.ofInt y1))]) X.1.1 X.1.2.1 dX10_leastHeight_68 rfl hl (by decide) rfl (fun ls hl => ?_)
        refine lv_aload_n X.1.1 X.1.2.1 dX10_leastHeight_69 rfl (lv_at hl 1 rfl) ?_
        refine cs_X10_sumOfWidths X  (kc := 5) rmL_ok rm_c (by decide) hR hS kw_1876 hl.1 dX10_leastHeight_70 (Nat.le_of_ble_eq_true rfl) hw (fun x14 M13 H locs hw r15 hR hS => ?_)
        refine lv_aload_n X.1.1 X.1.2.1 dX10_leastHeight_73 rfl (lv_at hl 1 rfl) ?_
        refine gt_11_24 X hR (okf X.2.2.1 rfl) kw_1553 dX10_leastHeight_74 ?_
        have r16 := hR.r 11 0 24
        refine sa_icmp_gt (tgt := 91) X.1 r15 r16 dX10_leastHeight_77 (by decide) (fun hc => ?_) (fun hc => ?_)
        · have hw := hw.1 hc
          exact t_X10_leastHeight_91 X _ _ hw r12 _ _ hR hS _ (lv_sub hl [1, 0] rfl)
        · have hw := hw.2 hc
          refine lv_aload_n X.1.1 X.1.2.1 dX10_leastHeight_80 rfl (lv_at hl 1 rfl) ?_
          refine cs_X10_goesOn X  (kc := 5) rmL_ok rm_c (by decide) hR hS kw_1942 hl.1 dX10_leastHeight_81 (Nat.le_of_ble_eq_true rfl) hw (fun x33 M32 H locs hw r34 hR hS => ?_)
          have r35 := inR_ite (c := x33 = 0) (inR_c (a := 0) rfl) (inR_c (a := 1) rfl)
          refine cut_j (A := ∀ v36 : Int, v36 = (if x33 = 0 then (0 : Int) else 1) → WI p l e 5 s m args below meth c G e0 α κ B Qm H locs 92 ls [.int (Int32.ofInt v36)]) (fun J37 => ?_) ?_
          · refine sa_if_eq (tgt := 91) X.1 r34 dX10_leastHeight_84 (by decide) (fun hc => ?_) (fun hc => ?_)
            · skip
              refine sa_const X.1 dX10_leastHeight_91 ?_
              exact J37 (0) (if_pos (c := x33 = 0) hc).symm
            · skip
              refine sa_const X.1 dX10_leastHeight_87 ?_
              refine lv_goto (tgt := 92) X.1.1 X.1.2.1 dX10_leastHeight_88 (by decide) ?_
              exact J37 (1) (if_neg (c := x33 = 0) hc).symm
          intro v36 hv36
          subst hv36
          refine lv_istore_n (lv' := [(3, .int (Int32.ofInt (if x33 = 0 then (0 : Int) else 1))), (2, .int (Int32.ofInt x11)), (0, .ref (α 11 0)), (1, .int (Int32.ofInt y1))]) X.1.1 X.1.2.1 dX10_leastHeight_92 rfl hl (by decide) rfl (fun ls hl => ?_)
          obtain ⟨n38, hw⟩ := hw
          exact t_X10_leastHeight_93 X n38 _ _ _ hw r12 r35 _ _ hR hS _ (lv_sub hl [2, 1, 0] rfl)
      · have hw := hw.2 hc
        refine sa_const X.1 dX10_leastHeight_53 ?_
        exact sa_iret X.1 X.2.2.2.1 X.2.2.2.2 hR hS (inR_c (a := 0) rfl) hw dX10_leastHeight_54
    · have hw := hw.2 hc
      refine lv_iload_n X.1.1 X.1.2.1 dX10_leastHeight_12 rfl (lv_at hl 1 rfl) ?_
      refine lv_aload_n X.1.1 X.1.2.1 dX10_leastHeight_13 rfl (lv_at hl 0 rfl) ?_
      refine lv_iload_n X.1.1 X.1.2.1 dX10_leastHeight_14 rfl (lv_at hl 2 rfl) ?_
      refine cs_X10_isOpen X hy2 (kc := 5) rmL_ok rm_c (by decide) hR hS kw_1880 hl.1 dX10_leastHeight_15 (Nat.le_of_ble_eq_true rfl) hw (fun x40 M39 H locs hw r41 hR hS => ?_)
      have r42 := inR_ite (c := x40 = 0) (inR_c (a := 0) rfl) (inR_c (a := 1) rfl)
      refine cut_j (A := ∀ v43 : Int, v43 = (if x40 = 0 then (0 : Int) else 1) → WI p l e 5 s m args below meth c G e0 α κ B Qm H locs 26 ls [.int (Int32.ofInt v43), .int (Int32.ofInt y1)]) (fun J44 => ?_) ?_
      · refine sa_if_eq (tgt := 25) X.1 r41 dX10_leastHeight_18 (by decide) (fun hc => ?_) (fun hc => ?_)
        · skip
          refine sa_const X.1 dX10_leastHeight_25 ?_
          exact J44 (0) (if_pos (c := x40 = 0) hc).symm
        · skip
          refine sa_const X.1 dX10_leastHeight_21 ?_
          refine lv_goto (tgt := 26) X.1.1 X.1.2.1 dX10_leastHeight_22 (by decide) ?_
          exact J44 (1) (if_neg (c := x40 = 0) hc).symm
      intro v43 hv43
      subst hv43
      have c45 := hw.1
      have hw := hw.2
      refine sa_iadd X.1 dX10_leastHeight_26 ?_
      refine lv_istore_n (lv' := [(1, .int (Int32.ofInt (y1 + (if x40 = 0 then (0 : Int) else 1)))), (0, .ref (α 11 0)), (2, .int (Int32.ofInt y2))]) X.1.1 X.1.2.1 dX10_leastHeight_27 rfl hl (by decide) rfl (fun ls hl => ?_)
      have c46 := hw.1
      have hw := hw.2
      refine lv_iinc (v := Int32.ofInt (y2 + 1)) (lv' := [(2, .int (Int32.ofInt (y2 + 1))), (1, .int (Int32.ofInt (y1 + (if x40 = 0 then (0 : Int) else 1)))), (0, .ref (α 11 0))]) X.1.1 X.1.2.1 dX10_leastHeight_28 hl (k := 2) rfl (Int32.ofInt_add _ _).symm (by decide) rfl (fun ls hl => ?_)
      refine lv_goto (tgt := 4) X.1.1 X.1.2.1 dX10_leastHeight_31 (by decide) ?_
      exact ih _ _ _ hw c45 c46 _ _ hR hS _ (lv_sub hl [2, 1, 0] rfl)
set_option maxHeartbeats 4000000 in
set_option maxRecDepth 100000 in
theorem t_X10_leastHeight (X : CX p m c cX10_leastHeight 4 s args RX10 G B κ meth (some .int)) {M : Mem} {Qm : Int → Mem → Prop} (hw : wp_X10_leastHeight M Qm) (H : Heap) (locs : List Loc) (hR : Rp G e0 α κ B M H) (hS : va_S (fun q => B ≤ q) s.heap H locs) (ls : Array Slot) (hl : lv_has ls 4 [(0, .ref (α 11 0))]) : WI p l e 5 s m args below meth c G e0 α κ B Qm H locs 0 ls [] := by
  have hw : (∃ n47 : Nat, wp_X10_leastHeight_4 Qm n47 0 0 M) := hw
  refine sa_const X.1 dX10_leastHeight_0 ?_
  refine lv_istore_n (lv' := [(1, .int (Int32.ofInt 0)), (0, .ref (α 11 0))]) X.1.1 X.1.2.1 dX10_leastHeight_1 rfl hl (by decide) rfl (fun ls hl => ?_)
  refine sa_const X.1 dX10_leastHeight_2 ?_
  refine lv_istore_n (lv' := [(2, .int (Int32.ofInt 0)), (1, .int (Int32.ofInt 0)), (0, .ref (α 11 0))]) X.1.1 X.1.2.1 dX10_leastHeight_3 rfl hl (by decide) rfl (fun ls hl => ?_)
  obtain ⟨n47, hw⟩ := hw
  exact t_X10_leastHeight_4 X n47 _ _ _ hw (inR_c (a := 0) rfl) (inR_c (a := 0) rfl) _ _ hR hS _ (lv_sub hl [2, 1, 0] rfl)
theorem m_X10_leastHeight {l : Launch} {G : Gx} {e0 : Nat} {α : Ax} {κ : Nat → Int} {B : Nat} (hκ : kOK κ) {M : Mem} {Qm : Int → Mem → Prop} (hw : wp_X10_leastHeight M Qm) : CI l yX10_leastHeight (Cond.code yX10_leastHeight cX10_leastHeight 4 (some .int)) 5 G e0 α κ B [.ref (α 11 0)] M Qm :=
  CI.mk hκ (by decide +kernel) rfl (Nat.le_of_ble_eq_true rfl) (lv := [(0, .ref (α 11 0))]) rfl (fun p e s m args below meth c ls X hR hS hl => t_X10_leastHeight X hw _ _ hR hS ls hl)
theorem cs_X10_leastHeight {cc : ByteArray} {nL : Nat} {own : String} {ret : Option FieldType} {idx pc : Nat} (X : CX p m c cc nL s args own G B κ meth ret) {kc : Nat} {R : Room} {cells slots : Nat} (hRr : RmOK R kc) (hcel : cells ≤ R.cells ∧ slots ≤ R.slots) (hk : 5 + 1 ≤ kc) {M : Mem} {H : Heap} {locs : List Loc} (hR : Rp G e0 α κ B M H) (hS : va_S (fun q => B ≤ q) s.heap H locs) (k1 : Cond.methodLink own idx yX10_leastHeight ∈ gw) {ls : Array Slot} (hml : ls.size = nL) {rest : List Value} (hd : decode cc pc = .ok (.invokevirtual idx, 3)) (hrest : (rest.map fun v => v.category).sum ≤ 8) {Q : State → Prop} {Qm : Int → Mem → Prop} (hw : wp_X10_leastHeight M Qm) (kk : ∀ (r : Int) (M1 : Mem) (H1 : Heap) (locs1 : List Loc), Qm r M1 → inR r → Rp G e0 α κ B M1 H1 → va_S (fun q => B ≤ q) s.heap H1 locs1 → W p l e R s m args below meth c H1 locs1 cells slots Q (F0 m (pc + 3) ls (.int (Int32.ofInt r) :: rest))) : W p l e R s m args below meth c H locs cells slots Q (F0 m pc ls (.ref (α 11 0) :: rest)) :=
  sa_callVI 5 (n := 0) (As := []) (rest := rest) X.1 X.2.1 hR hS (m_X10_leastHeight X.2.2.1 hw) k1 kw_1939 kw_1940 kw_104 kw_1941 ⟨rfl, by decide +kernel, by decide +kernel, by decide +kernel⟩ (rm_ok hRr hk (by decide)) (rc_11 X hR (okf X.2.2.1 rfl)) rfl rfl hrest hml hd hcel kk
def wp_X10_border_252 (p1 : Int) (p2 : Int) (p3 : Int) (p4 : Int) (Qm : Int → Mem → Prop) (y7 : Int) (M : Mem) : Prop := Qm y7 M
def wp_X10_border_107 (p1 : Int) (p2 : Int) (p3 : Int) (p4 : Int) (Qm : Int → Mem → Prop) (y5 : Int) (M : Mem) : Prop := wp_X10_goes y5 1 1 M fun (x5 : Int) (M4 : Mem) => ((¬ x5 = 0 → (¬ p1 = 0 → (¬ p1 = 1 → (p1 = 2 → (inR (4 * p2)) ∧ (inR ((4 * p2) + p3)) ∧ (0 ≤ ((4 * p2) + p3) ∧ ((4 * p2) + p3) < 24) ∧ True) ∧ True) ∧ (p1 = 1 → (inR (4 * p2)) ∧ (inR ((4 * p2) + p3)) ∧ (0 ≤ ((4 * p2) + p3) ∧ ((4 * p2) + p3) < 116) ∧ True) ∧ True) ∧ (p1 = 0 → (inR (4 * p2)) ∧ (inR ((4 * p2) + p3)) ∧ (0 ≤ ((4 * p2) + p3) ∧ ((4 * p2) + p3) < 400) ∧ True) ∧ ((¬ p1 = 0 → ((¬ p1 = 1 → ((¬ p1 = 2 → ∀ M28 : Mem, M28 = up M4 11 0 30 p4 → wp_X10_border_252 p1 p2 p3 p4 Qm (if ¬ p1 = 0 then (if ¬ p1 = 1 then (if ¬ p1 = 2 then (M4 11 0 30) else (M4 79 0 ((4 * p2) + p3))) else (M4 78 0 ((4 * p2) + p3))) else (M4 77 0 ((4 * p2) + p3))) M28) ∧ (p1 = 2 → (inR (4 * p2)) ∧ (inR ((4 * p2) + p3)) ∧ (0 ≤ ((4 * p2) + p3) ∧ ((4 * p2) + p3) < 24) ∧ ∀ M33 : Mem, M33 = up M4 79 0 ((4 * p2) + p3) p4 → wp_X10_border_252 p1 p2 p3 p4 Qm (if ¬ p1 = 0 then (if ¬ p1 = 1 then (if ¬ p1 = 2 then (M4 11 0 30) else (M4 79 0 ((4 * p2) + p3))) else (M4 78 0 ((4 * p2) + p3))) else (M4 77 0 ((4 * p2) + p3))) M33))) ∧ (p1 = 1 → (inR (4 * p2)) ∧ (inR ((4 * p2) + p3)) ∧ (0 ≤ ((4 * p2) + p3) ∧ ((4 * p2) + p3) < 116) ∧ ∀ M38 : Mem, M38 = up M4 78 0 ((4 * p2) + p3) p4 → wp_X10_border_252 p1 p2 p3 p4 Qm (if ¬ p1 = 0 then (if ¬ p1 = 1 then (if ¬ p1 = 2 then (M4 11 0 30) else (M4 79 0 ((4 * p2) + p3))) else (M4 78 0 ((4 * p2) + p3))) else (M4 77 0 ((4 * p2) + p3))) M38))) ∧ (p1 = 0 → (inR (4 * p2)) ∧ (inR ((4 * p2) + p3)) ∧ (0 ≤ ((4 * p2) + p3) ∧ ((4 * p2) + p3) < 400) ∧ ∀ M43 : Mem, M43 = up M4 77 0 ((4 * p2) + p3) p4 → wp_X10_border_252 p1 p2 p3 p4 Qm (if ¬ p1 = 0 then (if ¬ p1 = 1 then (if ¬ p1 = 2 then (M4 11 0 30) else (M4 79 0 ((4 * p2) + p3))) else (M4 78 0 ((4 * p2) + p3))) else (M4 77 0 ((4 * p2) + p3))) M43))) ∧ (x5 = 0 → Qm 0 M4))
def wp_X10_border_60 (p1 : Int) (p2 : Int) (p3 : Int) (p4 : Int) (Qm : Int → Mem → Prop) (M : Mem) : Prop := ((p1 = 3 → wp_X10_border_107 p1 p2 p3 p4 Qm 0 M) ∧ (¬ p1 = 3 → ((¬ p1 = 0 → ((¬ p1 = 1 → wp_X10_isColumn p2 M fun (x46 : Int) (M45 : Mem) => wp_X10_goes 0 (if x46 = 0 then (0 : Int) else 1) 1 M45 fun (x52 : Int) (M51 : Mem) => ((¬ x52 = 0 → (¬ p1 = 0 → (¬ p1 = 1 → (p1 = 2 → (inR (4 * p2)) ∧ (inR ((4 * p2) + p3)) ∧ (0 ≤ ((4 * p2) + p3) ∧ ((4 * p2) + p3) < 24) ∧ True) ∧ True) ∧ (p1 = 1 → (inR (4 * p2)) ∧ (inR ((4 * p2) + p3)) ∧ (0 ≤ ((4 * p2) + p3) ∧ ((4 * p2) + p3) < 116) ∧ True) ∧ True) ∧ (p1 = 0 → (inR (4 * p2)) ∧ (inR ((4 * p2) + p3)) ∧ (0 ≤ ((4 * p2) + p3) ∧ ((4 * p2) + p3) < 400) ∧ True) ∧ ((¬ p1 = 0 → ((¬ p1 = 1 → ((¬ p1 = 2 → ∀ M75 : Mem, M75 = up M51 11 0 30 p4 → wp_X10_border_252 p1 p2 p3 p4 Qm (if ¬ p1 = 0 then (if ¬ p1 = 1 then (if ¬ p1 = 2 then (M51 11 0 30) else (M51 79 0 ((4 * p2) + p3))) else (M51 78 0 ((4 * p2) + p3))) else (M51 77 0 ((4 * p2) + p3))) M75) ∧ (p1 = 2 → (inR (4 * p2)) ∧ (inR ((4 * p2) + p3)) ∧ (0 ≤ ((4 * p2) + p3) ∧ ((4 * p2) + p3) < 24) ∧ ∀ M80 : Mem, M80 = up M51 79 0 ((4 * p2) + p3) p4 → wp_X10_border_252 p1 p2 p3 p4 Qm (if ¬ p1 = 0 then (if ¬ p1 = 1 then (if ¬ p1 = 2 then (M51 11 0 30) else (M51 79 0 ((4 * p2) + p3))) else (M51 78 0 ((4 * p2) + p3))) else (M51 77 0 ((4 * p2) + p3))) M80))) ∧ (p1 = 1 → (inR (4 * p2)) ∧ (inR ((4 * p2) + p3)) ∧ (0 ≤ ((4 * p2) + p3) ∧ ((4 * p2) + p3) < 116) ∧ ∀ M85 : Mem, M85 = up M51 78 0 ((4 * p2) + p3) p4 → wp_X10_border_252 p1 p2 p3 p4 Qm (if ¬ p1 = 0 then (if ¬ p1 = 1 then (if ¬ p1 = 2 then (M51 11 0 30) else (M51 79 0 ((4 * p2) + p3))) else (M51 78 0 ((4 * p2) + p3))) else (M51 77 0 ((4 * p2) + p3))) M85))) ∧ (p1 = 0 → (inR (4 * p2)) ∧ (inR ((4 * p2) + p3)) ∧ (0 ≤ ((4 * p2) + p3) ∧ ((4 * p2) + p3) < 400) ∧ ∀ M90 : Mem, M90 = up M51 77 0 ((4 * p2) + p3) p4 → wp_X10_border_252 p1 p2 p3 p4 Qm (if ¬ p1 = 0 then (if ¬ p1 = 1 then (if ¬ p1 = 2 then (M51 11 0 30) else (M51 79 0 ((4 * p2) + p3))) else (M51 78 0 ((4 * p2) + p3))) else (M51 77 0 ((4 * p2) + p3))) M90))) ∧ (x52 = 0 → Qm 0 M51))) ∧ (p1 = 1 → wp_X10_isRow p2 M fun (x93 : Int) (M92 : Mem) => wp_X10_goes 0 (if x93 = 0 then (0 : Int) else 1) 1 M92 fun (x99 : Int) (M98 : Mem) => ((¬ x99 = 0 → (¬ p1 = 0 → (¬ p1 = 1 → (p1 = 2 → (inR (4 * p2)) ∧ (inR ((4 * p2) + p3)) ∧ (0 ≤ ((4 * p2) + p3) ∧ ((4 * p2) + p3) < 24) ∧ True) ∧ True) ∧ (p1 = 1 → (inR (4 * p2)) ∧ (inR ((4 * p2) + p3)) ∧ (0 ≤ ((4 * p2) + p3) ∧ ((4 * p2) + p3) < 116) ∧ True) ∧ True) ∧ (p1 = 0 → (inR (4 * p2)) ∧ (inR ((4 * p2) + p3)) ∧ (0 ≤ ((4 * p2) + p3) ∧ ((4 * p2) + p3) < 400) ∧ True) ∧ ((¬ p1 = 0 → ((¬ p1 = 1 → ((¬ p1 = 2 → ∀ M122 : Mem, M122 = up M98 11 0 30 p4 → wp_X10_border_252 p1 p2 p3 p4 Qm (if ¬ p1 = 0 then (if ¬ p1 = 1 then (if ¬ p1 = 2 then (M98 11 0 30) else (M98 79 0 ((4 * p2) + p3))) else (M98 78 0 ((4 * p2) + p3))) else (M98 77 0 ((4 * p2) + p3))) M122) ∧ (p1 = 2 → (inR (4 * p2)) ∧ (inR ((4 * p2) + p3)) ∧ (0 ≤ ((4 * p2) + p3) ∧ ((4 * p2) + p3) < 24) ∧ ∀ M127 : Mem, M127 = up M98 79 0 ((4 * p2) + p3) p4 → wp_X10_border_252 p1 p2 p3 p4 Qm (if ¬ p1 = 0 then (if ¬ p1 = 1 then (if ¬ p1 = 2 then (M98 11 0 30) else (M98 79 0 ((4 * p2) + p3))) else (M98 78 0 ((4 * p2) + p3))) else (M98 77 0 ((4 * p2) + p3))) M127))) ∧ (p1 = 1 → (inR (4 * p2)) ∧ (inR ((4 * p2) + p3)) ∧ (0 ≤ ((4 * p2) + p3) ∧ ((4 * p2) + p3) < 116) ∧ ∀ M132 : Mem, M132 = up M98 78 0 ((4 * p2) + p3) p4 → wp_X10_border_252 p1 p2 p3 p4 Qm (if ¬ p1 = 0 then (if ¬ p1 = 1 then (if ¬ p1 = 2 then (M98 11 0 30) else (M98 79 0 ((4 * p2) + p3))) else (M98 78 0 ((4 * p2) + p3))) else (M98 77 0 ((4 * p2) + p3))) M132))) ∧ (p1 = 0 → (inR (4 * p2)) ∧ (inR ((4 * p2) + p3)) ∧ (0 ≤ ((4 * p2) + p3) ∧ ((4 * p2) + p3) < 400) ∧ ∀ M137 : Mem, M137 = up M98 77 0 ((4 * p2) + p3) p4 → wp_X10_border_252 p1 p2 p3 p4 Qm (if ¬ p1 = 0 then (if ¬ p1 = 1 then (if ¬ p1 = 2 then (M98 11 0 30) else (M98 79 0 ((4 * p2) + p3))) else (M98 78 0 ((4 * p2) + p3))) else (M98 77 0 ((4 * p2) + p3))) M137))) ∧ (x99 = 0 → Qm 0 M98))))) ∧ (p1 = 0 → wp_X10_isCell p2 M fun (x140 : Int) (M139 : Mem) => wp_X10_goes 0 (if x140 = 0 then (0 : Int) else 1) 1 M139 fun (x146 : Int) (M145 : Mem) => ((¬ x146 = 0 → (¬ p1 = 0 → (¬ p1 = 1 → (p1 = 2 → (inR (4 * p2)) ∧ (inR ((4 * p2) + p3)) ∧ (0 ≤ ((4 * p2) + p3) ∧ ((4 * p2) + p3) < 24) ∧ True) ∧ True) ∧ (p1 = 1 → (inR (4 * p2)) ∧ (inR ((4 * p2) + p3)) ∧ (0 ≤ ((4 * p2) + p3) ∧ ((4 * p2) + p3) < 116) ∧ True) ∧ True) ∧ (p1 = 0 → (inR (4 * p2)) ∧ (inR ((4 * p2) + p3)) ∧ (0 ≤ ((4 * p2) + p3) ∧ ((4 * p2) + p3) < 400) ∧ True) ∧ ((¬ p1 = 0 → ((¬ p1 = 1 → ((¬ p1 = 2 → ∀ M169 : Mem, M169 = up M145 11 0 30 p4 → wp_X10_border_252 p1 p2 p3 p4 Qm (if ¬ p1 = 0 then (if ¬ p1 = 1 then (if ¬ p1 = 2 then (M145 11 0 30) else (M145 79 0 ((4 * p2) + p3))) else (M145 78 0 ((4 * p2) + p3))) else (M145 77 0 ((4 * p2) + p3))) M169) ∧ (p1 = 2 → (inR (4 * p2)) ∧ (inR ((4 * p2) + p3)) ∧ (0 ≤ ((4 * p2) + p3) ∧ ((4 * p2) + p3) < 24) ∧ ∀ M174 : Mem, M174 = up M145 79 0 ((4 * p2) + p3) p4 → wp_X10_border_252 p1 p2 p3 p4 Qm (if ¬ p1 = 0 then (if ¬ p1 = 1 then (if ¬ p1 = 2 then (M145 11 0 30) else (M145 79 0 ((4 * p2) + p3))) else (M145 78 0 ((4 * p2) + p3))) else (M145 77 0 ((4 * p2) + p3))) M174))) ∧ (p1 = 1 → (inR (4 * p2)) ∧ (inR ((4 * p2) + p3)) ∧ (0 ≤ ((4 * p2) + p3) ∧ ((4 * p2) + p3) < 116) ∧ ∀ M179 : Mem, M179 = up M145 78 0 ((4 * p2) + p3) p4 → wp_X10_border_252 p1 p2 p3 p4 Qm (if ¬ p1 = 0 then (if ¬ p1 = 1 then (if ¬ p1 = 2 then (M145 11 0 30) else (M145 79 0 ((4 * p2) + p3))) else (M145 78 0 ((4 * p2) + p3))) else (M145 77 0 ((4 * p2) + p3))) M179))) ∧ (p1 = 0 → (inR (4 * p2)) ∧ (inR ((4 * p2) + p3)) ∧ (0 ≤ ((4 * p2) + p3) ∧ ((4 * p2) + p3) < 400) ∧ ∀ M184 : Mem, M184 = up M145 77 0 ((4 * p2) + p3) p4 → wp_X10_border_252 p1 p2 p3 p4 Qm (if ¬ p1 = 0 then (if ¬ p1 = 1 then (if ¬ p1 = 2 then (M145 11 0 30) else (M145 79 0 ((4 * p2) + p3))) else (M145 78 0 ((4 * p2) + p3))) else (M145 77 0 ((4 * p2) + p3))) M184))) ∧ (x146 = 0 → Qm 0 M145))))))
def wp_X10_border_56 (p1 : Int) (p2 : Int) (p3 : Int) (p4 : Int) (Qm : Int → Mem → Prop) (M : Mem) : Prop := ((p1 = 3 → wp_X10_border_107 p1 p2 p3 p4 Qm 1 M) ∧ (¬ p1 = 3 → ((¬ p1 = 0 → ((¬ p1 = 1 → wp_X10_isColumn p2 M fun (x190 : Int) (M189 : Mem) => wp_X10_goes 1 (if x190 = 0 then (0 : Int) else 1) 1 M189 fun (x196 : Int) (M195 : Mem) => ((¬ x196 = 0 → (¬ p1 = 0 → (¬ p1 = 1 → (p1 = 2 → (inR (4 * p2)) ∧ (inR ((4 * p2) + p3)) ∧ (0 ≤ ((4 * p2) + p3) ∧ ((4 * p2) + p3) < 24) ∧ True) ∧ True) ∧ (p1 = 1 → (inR (4 * p2)) ∧ (inR ((4 * p2) + p3)) ∧ (0 ≤ ((4 * p2) + p3) ∧ ((4 * p2) + p3) < 116) ∧ True) ∧ True) ∧ (p1 = 0 → (inR (4 * p2)) ∧ (inR ((4 * p2) + p3)) ∧ (0 ≤ ((4 * p2) + p3) ∧ ((4 * p2) + p3) < 400) ∧ True) ∧ ((¬ p1 = 0 → ((¬ p1 = 1 → ((¬ p1 = 2 → ∀ M219 : Mem, M219 = up M195 11 0 30 p4 → wp_X10_border_252 p1 p2 p3 p4 Qm (if ¬ p1 = 0 then (if ¬ p1 = 1 then (if ¬ p1 = 2 then (M195 11 0 30) else (M195 79 0 ((4 * p2) + p3))) else (M195 78 0 ((4 * p2) + p3))) else (M195 77 0 ((4 * p2) + p3))) M219) ∧ (p1 = 2 → (inR (4 * p2)) ∧ (inR ((4 * p2) + p3)) ∧ (0 ≤ ((4 * p2) + p3) ∧ ((4 * p2) + p3) < 24) ∧ ∀ M224 : Mem, M224 = up M195 79 0 ((4 * p2) + p3) p4 → wp_X10_border_252 p1 p2 p3 p4 Qm (if ¬ p1 = 0 then (if ¬ p1 = 1 then (if ¬ p1 = 2 then (M195 11 0 30) else (M195 79 0 ((4 * p2) + p3))) else (M195 78 0 ((4 * p2) + p3))) else (M195 77 0 ((4 * p2) + p3))) M224))) ∧ (p1 = 1 → (inR (4 * p2)) ∧ (inR ((4 * p2) + p3)) ∧ (0 ≤ ((4 * p2) + p3) ∧ ((4 * p2) + p3) < 116) ∧ ∀ M229 : Mem, M229 = up M195 78 0 ((4 * p2) + p3) p4 → wp_X10_border_252 p1 p2 p3 p4 Qm (if ¬ p1 = 0 then (if ¬ p1 = 1 then (if ¬ p1 = 2 then (M195 11 0 30) else (M195 79 0 ((4 * p2) + p3))) else (M195 78 0 ((4 * p2) + p3))) else (M195 77 0 ((4 * p2) + p3))) M229))) ∧ (p1 = 0 → (inR (4 * p2)) ∧ (inR ((4 * p2) + p3)) ∧ (0 ≤ ((4 * p2) + p3) ∧ ((4 * p2) + p3) < 400) ∧ ∀ M234 : Mem, M234 = up M195 77 0 ((4 * p2) + p3) p4 → wp_X10_border_252 p1 p2 p3 p4 Qm (if ¬ p1 = 0 then (if ¬ p1 = 1 then (if ¬ p1 = 2 then (M195 11 0 30) else (M195 79 0 ((4 * p2) + p3))) else (M195 78 0 ((4 * p2) + p3))) else (M195 77 0 ((4 * p2) + p3))) M234))) ∧ (x196 = 0 → Qm 0 M195))) ∧ (p1 = 1 → wp_X10_isRow p2 M fun (x237 : Int) (M236 : Mem) => wp_X10_goes 1 (if x237 = 0 then (0 : Int) else 1) 1 M236 fun (x243 : Int) (M242 : Mem) => ((¬ x243 = 0 → (¬ p1 = 0 → (¬ p1 = 1 → (p1 = 2 → (inR (4 * p2)) ∧ (inR ((4 * p2) + p3)) ∧ (0 ≤ ((4 * p2) + p3) ∧ ((4 * p2) + p3) < 24) ∧ True) ∧ True) ∧ (p1 = 1 → (inR (4 * p2)) ∧ (inR ((4 * p2) + p3)) ∧ (0 ≤ ((4 * p2) + p3) ∧ ((4 * p2) + p3) < 116) ∧ True) ∧ True) ∧ (p1 = 0 → (inR (4 * p2)) ∧ (inR ((4 * p2) + p3)) ∧ (0 ≤ ((4 * p2) + p3) ∧ ((4 * p2) + p3) < 400) ∧ True) ∧ ((¬ p1 = 0 → ((¬ p1 = 1 → ((¬ p1 = 2 → ∀ M266 : Mem, M266 = up M242 11 0 30 p4 → wp_X10_border_252 p1 p2 p3 p4 Qm (if ¬ p1 = 0 then (if ¬ p1 = 1 then (if ¬ p1 = 2 then (M242 11 0 30) else (M242 79 0 ((4 * p2) + p3))) else (M242 78 0 ((4 * p2) + p3))) else (M242 77 0 ((4 * p2) + p3))) M266) ∧ (p1 = 2 → (inR (4 * p2)) ∧ (inR ((4 * p2) + p3)) ∧ (0 ≤ ((4 * p2) + p3) ∧ ((4 * p2) + p3) < 24) ∧ ∀ M271 : Mem, M271 = up M242 79 0 ((4 * p2) + p3) p4 → wp_X10_border_252 p1 p2 p3 p4 Qm (if ¬ p1 = 0 then (if ¬ p1 = 1 then (if ¬ p1 = 2 then (M242 11 0 30) else (M242 79 0 ((4 * p2) + p3))) else (M242 78 0 ((4 * p2) + p3))) else (M242 77 0 ((4 * p2) + p3))) M271))) ∧ (p1 = 1 → (inR (4 * p2)) ∧ (inR ((4 * p2) + p3)) ∧ (0 ≤ ((4 * p2) + p3) ∧ ((4 * p2) + p3) < 116) ∧ ∀ M276 : Mem, M276 = up M242 78 0 ((4 * p2) + p3) p4 → wp_X10_border_252 p1 p2 p3 p4 Qm (if ¬ p1 = 0 then (if ¬ p1 = 1 then (if ¬ p1 = 2 then (M242 11 0 30) else (M242 79 0 ((4 * p2) + p3))) else (M242 78 0 ((4 * p2) + p3))) else (M242 77 0 ((4 * p2) + p3))) M276))) ∧ (p1 = 0 → (inR (4 * p2)) ∧ (inR ((4 * p2) + p3)) ∧ (0 ≤ ((4 * p2) + p3) ∧ ((4 * p2) + p3) < 400) ∧ ∀ M281 : Mem, M281 = up M242 77 0 ((4 * p2) + p3) p4 → wp_X10_border_252 p1 p2 p3 p4 Qm (if ¬ p1 = 0 then (if ¬ p1 = 1 then (if ¬ p1 = 2 then (M242 11 0 30) else (M242 79 0 ((4 * p2) + p3))) else (M242 78 0 ((4 * p2) + p3))) else (M242 77 0 ((4 * p2) + p3))) M281))) ∧ (x243 = 0 → Qm 0 M242))))) ∧ (p1 = 0 → wp_X10_isCell p2 M fun (x284 : Int) (M283 : Mem) => wp_X10_goes 1 (if x284 = 0 then (0 : Int) else 1) 1 M283 fun (x290 : Int) (M289 : Mem) => ((¬ x290 = 0 → (¬ p1 = 0 → (¬ p1 = 1 → (p1 = 2 → (inR (4 * p2)) ∧ (inR ((4 * p2) + p3)) ∧ (0 ≤ ((4 * p2) + p3) ∧ ((4 * p2) + p3) < 24) ∧ True) ∧ True) ∧ (p1 = 1 → (inR (4 * p2)) ∧ (inR ((4 * p2) + p3)) ∧ (0 ≤ ((4 * p2) + p3) ∧ ((4 * p2) + p3) < 116) ∧ True) ∧ True) ∧ (p1 = 0 → (inR (4 * p2)) ∧ (inR ((4 * p2) + p3)) ∧ (0 ≤ ((4 * p2) + p3) ∧ ((4 * p2) + p3) < 400) ∧ True) ∧ ((¬ p1 = 0 → ((¬ p1 = 1 → ((¬ p1 = 2 → ∀ M313 : Mem, M313 = up M289 11 0 30 p4 → wp_X10_border_252 p1 p2 p3 p4 Qm (if ¬ p1 = 0 then (if ¬ p1 = 1 then (if ¬ p1 = 2 then (M289 11 0 30) else (M289 79 0 ((4 * p2) + p3))) else (M289 78 0 ((4 * p2) + p3))) else (M289 77 0 ((4 * p2) + p3))) M313) ∧ (p1 = 2 → (inR (4 * p2)) ∧ (inR ((4 * p2) + p3)) ∧ (0 ≤ ((4 * p2) + p3) ∧ ((4 * p2) + p3) < 24) ∧ ∀ M318 : Mem, M318 = up M289 79 0 ((4 * p2) + p3) p4 → wp_X10_border_252 p1 p2 p3 p4 Qm (if ¬ p1 = 0 then (if ¬ p1 = 1 then (if ¬ p1 = 2 then (M289 11 0 30) else (M289 79 0 ((4 * p2) + p3))) else (M289 78 0 ((4 * p2) + p3))) else (M289 77 0 ((4 * p2) + p3))) M318))) ∧ (p1 = 1 → (inR (4 * p2)) ∧ (inR ((4 * p2) + p3)) ∧ (0 ≤ ((4 * p2) + p3) ∧ ((4 * p2) + p3) < 116) ∧ ∀ M323 : Mem, M323 = up M289 78 0 ((4 * p2) + p3) p4 → wp_X10_border_252 p1 p2 p3 p4 Qm (if ¬ p1 = 0 then (if ¬ p1 = 1 then (if ¬ p1 = 2 then (M289 11 0 30) else (M289 79 0 ((4 * p2) + p3))) else (M289 78 0 ((4 * p2) + p3))) else (M289 77 0 ((4 * p2) + p3))) M323))) ∧ (p1 = 0 → (inR (4 * p2)) ∧ (inR ((4 * p2) + p3)) ∧ (0 ≤ ((4 * p2) + p3) ∧ ((4 * p2) + p3) < 400) ∧ ∀ M328 : Mem, M328 = up M289 77 0 ((4 * p2) + p3) p4 → wp_X10_border_252 p1 p2 p3 p4 Qm (if ¬ p1 = 0 then (if ¬ p1 = 1 then (if ¬ p1 = 2 then (M289 11 0 30) else (M289 79 0 ((4 * p2) + p3))) else (M289 78 0 ((4 * p2) + p3))) else (M289 77 0 ((4 * p2) + p3))) M328))) ∧ (x290 = 0 → Qm 0 M289))))))
def wp_X10_border (p1 : Int) (p2 : Int) (p3 : Int) (p4 : Int) (M : Mem) (Qm : Int → Mem → Prop) : Prop := wp_X10_in p1 0 3 M fun (x2 : Int) (M1 : Mem) => ((x2 = 0 → wp_X10_border_60 p1 p2 p3 p4 Qm M1) ∧ (¬ x2 = 0 → wp_X10_in p4 0 5 M1 fun (x187 : Int) (M186 : Mem) => ((x187 = 0 → wp_X10_border_60 p1 p2 p3 p4 Qm M186) ∧ (¬ x187 = 0 → ((p1 = 3 → wp_X10_border_56 p1 p2 p3 p4 Qm M186) ∧ (¬ p1 = 3 → wp_X10_in p3 0 3 M186 fun (x331 : Int) (M330 : Mem) => ((p1 = 3 → wp_X10_border_107 p1 p2 p3 p4 Qm (if x331 = 0 then (0 : Int) else (if ¬ p1 = 1 then (if ¬ p1 = 2 then (1 : Int) else (if ¬ (Int.tmod p3 2) = 1 then (0 : Int) else 1)) else (if ¬ (Int.tmod p3 2) = 0 then (0 : Int) else (if ¬ p1 = 2 then (1 : Int) else (if ¬ (Int.tmod p3 2) = 1 then (0 : Int) else 1))))) M330) ∧ (¬ p1 = 3 → ((¬ p1 = 0 → ((¬ p1 = 1 → wp_X10_isColumn p2 M330 fun (x349 : Int) (M348 : Mem) => wp_X10_goes (if x331 = 0 then (0 : Int) else (if ¬ p1 = 1 then (if ¬ p1 = 2 then (1 : Int) else (if ¬ (Int.tmod p3 2) = 1 then (0 : Int) else 1)) else (if ¬ (Int.tmod p3 2) = 0 then (0 : Int) else (if ¬ p1 = 2 then (1 : Int) else (if ¬ (Int.tmod p3 2) = 1 then (0 : Int) else 1))))) (if x349 = 0 then (0 : Int) else 1) 1 M348 fun (x355 : Int) (M354 : Mem) => ((¬ x355 = 0 → (¬ p1 = 0 → (¬ p1 = 1 → (p1 = 2 → (inR (4 * p2)) ∧ (inR ((4 * p2) + p3)) ∧ (0 ≤ ((4 * p2) + p3) ∧ ((4 * p2) + p3) < 24) ∧ True) ∧ True) ∧ (p1 = 1 → (inR (4 * p2)) ∧ (inR ((4 * p2) + p3)) ∧ (0 ≤ ((4 * p2) + p3) ∧ ((4 * p2) + p3) < 116) ∧ True) ∧ True) ∧ (p1 = 0 → (inR (4 * p2)) ∧ (inR ((4 * p2) + p3)) ∧ (0 ≤ ((4 * p2) + p3) ∧ ((4 * p2) + p3) < 400) ∧ True) ∧ ((¬ p1 = 0 → ((¬ p1 = 1 → ((¬ p1 = 2 → ∀ M378 : Mem, M378 = up M354 11 0 30 p4 → wp_X10_border_252 p1 p2 p3 p4 Qm (if ¬ p1 = 0 then (if ¬ p1 = 1 then (if ¬ p1 = 2 then (M354 11 0 30) else (M354 79 0 ((4 * p2) + p3))) else (M354 78 0 ((4 * p2) + p3))) else (M354 77 0 ((4 * p2) + p3))) M378) ∧ (p1 = 2 → (inR (4 * p2)) ∧ (inR ((4 * p2) + p3)) ∧ (0 ≤ ((4 * p2) + p3) ∧ ((4 * p2) + p3) < 24) ∧ ∀ M383 : Mem, M383 = up M354 79 0 ((4 * p2) + p3) p4 → wp_X10_border_252 p1 p2 p3 p4 Qm (if ¬ p1 = 0 then (if ¬ p1 = 1 then (if ¬ p1 = 2 then (M354 11 0 30) else (M354 79 0 ((4 * p2) + p3))) else (M354 78 0 ((4 * p2) + p3))) else (M354 77 0 ((4 * p2) + p3))) M383))) ∧ (p1 = 1 → (inR (4 * p2)) ∧ (inR ((4 * p2) + p3)) ∧ (0 ≤ ((4 * p2) + p3) ∧ ((4 * p2) + p3) < 116) ∧ ∀ M388 : Mem, M388 = up M354 78 0 ((4 * p2) + p3) p4 → wp_X10_border_252 p1 p2 p3 p4 Qm (if ¬ p1 = 0 then (if ¬ p1 = 1 then (if ¬ p1 = 2 then (M354 11 0 30) else (M354 79 0 ((4 * p2) + p3))) else (M354 78 0 ((4 * p2) + p3))) else (M354 77 0 ((4 * p2) + p3))) M388))) ∧ (p1 = 0 → (inR (4 * p2)) ∧ (inR ((4 * p2) + p3)) ∧ (0 ≤ ((4 * p2) + p3) ∧ ((4 * p2) + p3) < 400) ∧ ∀ M393 : Mem, M393 = up M354 77 0 ((4 * p2) + p3) p4 → wp_X10_border_252 p1 p2 p3 p4 Qm (if ¬ p1 = 0 then (if ¬ p1 = 1 then (if ¬ p1 = 2 then (M354 11 0 30) else (M354 79 0 ((4 * p2) + p3))) else (M354 78 0 ((4 * p2) + p3))) else (M354 77 0 ((4 * p2) + p3))) M393))) ∧ (x355 = 0 → Qm 0 M354))) ∧ (p1 = 1 → wp_X10_isRow p2 M330 fun (x396 : Int) (M395 : Mem) => wp_X10_goes (if x331 = 0 then (0 : Int) else (if ¬ p1 = 1 then (if ¬ p1 = 2 then (1 : Int) else (if ¬ (Int.tmod p3 2) = 1 then (0 : Int) else 1)) else (if ¬ (Int.tmod p3 2) = 0 then (0 : Int) else (if ¬ p1 = 2 then (1 : Int) else (if ¬ (Int.tmod p3 2) = 1 then (0 : Int) else 1))))) (if x396 = 0 then (0 : Int) else 1) 1 M395 fun (x402 : Int) (M401 : Mem) => ((¬ x402 = 0 → (¬ p1 = 0 → (¬ p1 = 1 → (p1 = 2 → (inR (4 * p2)) ∧ (inR ((4 * p2) + p3)) ∧ (0 ≤ ((4 * p2) + p3) ∧ ((4 * p2) + p3) < 24) ∧ True) ∧ True) ∧ (p1 = 1 → (inR (4 * p2)) ∧ (inR ((4 * p2) + p3)) ∧ (0 ≤ ((4 * p2) + p3) ∧ ((4 * p2) + p3) < 116) ∧ True) ∧ True) ∧ (p1 = 0 → (inR (4 * p2)) ∧ (inR ((4 * p2) + p3)) ∧ (0 ≤ ((4 * p2) + p3) ∧ ((4 * p2) + p3) < 400) ∧ True) ∧ ((¬ p1 = 0 → ((¬ p1 = 1 → ((¬ p1 = 2 → ∀ M425 : Mem, M425 = up M401 11 0 30 p4 → wp_X10_border_252 p1 p2 p3 p4 Qm (if ¬ p1 = 0 then (if ¬ p1 = 1 then (if ¬ p1 = 2 then (M401 11 0 30) else (M401 79 0 ((4 * p2) + p3))) else (M401 78 0 ((4 * p2) + p3))) else (M401 77 0 ((4 * p2) + p3))) M425) ∧ (p1 = 2 → (inR (4 * p2)) ∧ (inR ((4 * p2) + p3)) ∧ (0 ≤ ((4 * p2) + p3) ∧ ((4 * p2) + p3) < 24) ∧ ∀ M430 : Mem, M430 = up M401 79 0 ((4 * p2) + p3) p4 → wp_X10_border_252 p1 p2 p3 p4 Qm (if ¬ p1 = 0 then (if ¬ p1 = 1 then (if ¬ p1 = 2 then (M401 11 0 30) else (M401 79 0 ((4 * p2) + p3))) else (M401 78 0 ((4 * p2) + p3))) else (M401 77 0 ((4 * p2) + p3))) M430))) ∧ (p1 = 1 → (inR (4 * p2)) ∧ (inR ((4 * p2) + p3)) ∧ (0 ≤ ((4 * p2) + p3) ∧ ((4 * p2) + p3) < 116) ∧ ∀ M435 : Mem, M435 = up M401 78 0 ((4 * p2) + p3) p4 → wp_X10_border_252 p1 p2 p3 p4 Qm (if ¬ p1 = 0 then (if ¬ p1 = 1 then (if ¬ p1 = 2 then (M401 11 0 30) else (M401 79 0 ((4 * p2) + p3))) else (M401 78 0 ((4 * p2) + p3))) else (M401 77 0 ((4 * p2) + p3))) M435))) ∧ (p1 = 0 → (inR (4 * p2)) ∧ (inR ((4 * p2) + p3)) ∧ (0 ≤ ((4 * p2) + p3) ∧ ((4 * p2) + p3) < 400) ∧ ∀ M440 : Mem, M440 = up M401 77 0 ((4 * p2) + p3) p4 → wp_X10_border_252 p1 p2 p3 p4 Qm (if ¬ p1 = 0 then (if ¬ p1 = 1 then (if ¬ p1 = 2 then (M401 11 0 30) else (M401 79 0 ((4 * p2) + p3))) else (M401 78 0 ((4 * p2) + p3))) else (M401 77 0 ((4 * p2) + p3))) M440))) ∧ (x402 = 0 → Qm 0 M401))))) ∧ (p1 = 0 → wp_X10_isCell p2 M330 fun (x443 : Int) (M442 : Mem) => wp_X10_goes (if x331 = 0 then (0 : Int) else (if ¬ p1 = 1 then (if ¬ p1 = 2 then (1 : Int) else (if ¬ (Int.tmod p3 2) = 1 then (0 : Int) else 1)) else (if ¬ (Int.tmod p3 2) = 0 then (0 : Int) else (if ¬ p1 = 2 then (1 : Int) else (if ¬ (Int.tmod p3 2) = 1 then (0 : Int) else 1))))) (if x443 = 0 then (0 : Int) else 1) 1 M442 fun (x449 : Int) (M448 : Mem) => ((¬ x449 = 0 → (¬ p1 = 0 → (¬ p1 = 1 → (p1 = 2 → (inR (4 * p2)) ∧ (inR ((4 * p2) + p3)) ∧ (0 ≤ ((4 * p2) + p3) ∧ ((4 * p2) + p3) < 24) ∧ True) ∧ True) ∧ (p1 = 1 → (inR (4 * p2)) ∧ (inR ((4 * p2) + p3)) ∧ (0 ≤ ((4 * p2) + p3) ∧ ((4 * p2) + p3) < 116) ∧ True) ∧ True) ∧ (p1 = 0 → (inR (4 * p2)) ∧ (inR ((4 * p2) + p3)) ∧ (0 ≤ ((4 * p2) + p3) ∧ ((4 * p2) + p3) < 400) ∧ True) ∧ ((¬ p1 = 0 → ((¬ p1 = 1 → ((¬ p1 = 2 → ∀ M472 : Mem, M472 = up M448 11 0 30 p4 → wp_X10_border_252 p1 p2 p3 p4 Qm (if ¬ p1 = 0 then (if ¬ p1 = 1 then (if ¬ p1 = 2 then (M448 11 0 30) else (M448 79 0 ((4 * p2) + p3))) else (M448 78 0 ((4 * p2) + p3))) else (M448 77 0 ((4 * p2) + p3))) M472) ∧ (p1 = 2 → (inR (4 * p2)) ∧ (inR ((4 * p2) + p3)) ∧ (0 ≤ ((4 * p2) + p3) ∧ ((4 * p2) + p3) < 24) ∧ ∀ M477 : Mem, M477 = up M448 79 0 ((4 * p2) + p3) p4 → wp_X10_border_252 p1 p2 p3 p4 Qm (if ¬ p1 = 0 then (if ¬ p1 = 1 then (if ¬ p1 = 2 then (M448 11 0 30) else (M448 79 0 ((4 * p2) + p3))) else (M448 78 0 ((4 * p2) + p3))) else (M448 77 0 ((4 * p2) + p3))) M477))) ∧ (p1 = 1 → (inR (4 * p2)) ∧ (inR ((4 * p2) + p3)) ∧ (0 ≤ ((4 * p2) + p3) ∧ ((4 * p2) + p3) < 116) ∧ ∀ M482 : Mem, M482 = up M448 78 0 ((4 * p2) + p3) p4 → wp_X10_border_252 p1 p2 p3 p4 Qm (if ¬ p1 = 0 then (if ¬ p1 = 1 then (if ¬ p1 = 2 then (M448 11 0 30) else (M448 79 0 ((4 * p2) + p3))) else (M448 78 0 ((4 * p2) + p3))) else (M448 77 0 ((4 * p2) + p3))) M482))) ∧ (p1 = 0 → (inR (4 * p2)) ∧ (inR ((4 * p2) + p3)) ∧ (0 ≤ ((4 * p2) + p3) ∧ ((4 * p2) + p3) < 400) ∧ ∀ M487 : Mem, M487 = up M448 77 0 ((4 * p2) + p3) p4 → wp_X10_border_252 p1 p2 p3 p4 Qm (if ¬ p1 = 0 then (if ¬ p1 = 1 then (if ¬ p1 = 2 then (M448 11 0 30) else (M448 79 0 ((4 * p2) + p3))) else (M448 78 0 ((4 * p2) + p3))) else (M448 77 0 ((4 * p2) + p3))) M487))) ∧ (x449 = 0 → Qm 0 M448))))))))))))
set_option maxHeartbeats 4000000 in
set_option maxRecDepth 100000 in
theorem t_X10_border_252 {p1 : Int} {p2 : Int} {p3 : Int} {p4 : Int} (X : CX p m c cX10_border 8 s args RX10 G B κ meth (some .int)) (hp1 : inR p1) (hp2 : inR p2) (hp3 : inR p3) (hp4 : inR p4) {Qm : Int → Mem → Prop} : ∀ y7 : Int, ∀ M : Mem, wp_X10_border_252 p1 p2 p3 p4 Qm y7 M → inR y7 → ∀ (H : Heap) (locs : List Loc), Rp G e0 α κ B M H → va_S (fun q => B ≤ q) s.heap H locs → ∀ (ls : Array Slot), lv_has ls 8 [(7, .int (Int32.ofInt y7))] → WI p l e 2 s m args below meth c G e0 α κ B Qm H locs 252 ls [] := by
  intro y7 M hw hy7 H locs hR hS ls hl
  have hw : Qm y7 M := hw
  refine lv_iload X.1.1 X.1.2.1 dX10_border_252 (lv_at hl 0 rfl) ?_
  exact sa_iret X.1 X.2.2.2.1 X.2.2.2.2 hR hS hy7 hw dX10_border_254
set_option maxHeartbeats 4000000 in
set_option maxRecDepth 100000 in
theorem t_X10_border_107 {p1 : Int} {p2 : Int} {p3 : Int} {p4 : Int} (X : CX p m c cX10_border 8 s args RX10 G B κ meth (some .int)) (hp1 : inR p1) (hp2 : inR p2) (hp3 : inR p3) (hp4 : inR p4) {Qm : Int → Mem → Prop} : ∀ y5 : Int, ∀ M : Mem, wp_X10_border_107 p1 p2 p3 p4 Qm y5 M → inR y5 → ∀ (H : Heap) (locs : List Loc), Rp G e0 α κ B M H → va_S (fun q => B ≤ q) s.heap H locs → ∀ (ls : Array Slot), lv_has ls 8 [(0, .ref (α 11 0)), (1, .int (Int32.ofInt p1)), (2, .int (Int32.ofInt p2)), (3, .int (Int32.ofInt p3)), (4, .int (Int32.ofInt p4)), (5, .int (Int32.ofInt y5))] → WI p l e 2 s m args below meth c G e0 α κ B Qm H locs 107 ls [] := by
  intro y5 M hw hy5 H locs hR hS ls hl
  have hw : wp_X10_goes y5 1 1 M fun (x5 : Int) (M4 : Mem) => ((¬ x5 = 0 → (¬ p1 = 0 → (¬ p1 = 1 → (p1 = 2 → (inR (4 * p2)) ∧ (inR ((4 * p2) + p3)) ∧ (0 ≤ ((4 * p2) + p3) ∧ ((4 * p2) + p3) < 24) ∧ True) ∧ True) ∧ (p1 = 1 → (inR (4 * p2)) ∧ (inR ((4 * p2) + p3)) ∧ (0 ≤ ((4 * p2) + p3) ∧ ((4 * p2) + p3) < 116) ∧ True) ∧ True) ∧ (p1 = 0 → (inR (4 * p2)) ∧ (inR ((4 * p2) + p3)) ∧ (0 ≤ ((4 * p2) + p3) ∧ ((4 * p2) + p3) < 400) ∧ True) ∧ ((¬ p1 = 0 → ((¬ p1 = 1 → ((¬ p1 = 2 → ∀ M28 : Mem, M28 = up M4 11 0 30 p4 → wp_X10_border_252 p1 p2 p3 p4 Qm (if ¬ p1 = 0 then (if ¬ p1 = 1 then (if ¬ p1 = 2 then (M4 11 0 30) else (M4 79 0 ((4 * p2) + p3))) else (M4 78 0 ((4 * p2) + p3))) else (M4 77 0 ((4 * p2) + p3))) M28) ∧ (p1 = 2 → (inR (4 * p2)) ∧ (inR ((4 * p2) + p3)) ∧ (0 ≤ ((4 * p2) + p3) ∧ ((4 * p2) + p3) < 24) ∧ ∀ M33 : Mem, M33 = up M4 79 0 ((4 * p2) + p3) p4 → wp_X10_border_252 p1 p2 p3 p4 Qm (if ¬ p1 = 0 then (if ¬ p1 = 1 then (if ¬ p1 = 2 then (M4 11 0 30) else (M4 79 0 ((4 * p2) + p3))) else (M4 78 0 ((4 * p2) + p3))) else (M4 77 0 ((4 * p2) + p3))) M33))) ∧ (p1 = 1 → (inR (4 * p2)) ∧ (inR ((4 * p2) + p3)) ∧ (0 ≤ ((4 * p2) + p3) ∧ ((4 * p2) + p3) < 116) ∧ ∀ M38 : Mem, M38 = up M4 78 0 ((4 * p2) + p3) p4 → wp_X10_border_252 p1 p2 p3 p4 Qm (if ¬ p1 = 0 then (if ¬ p1 = 1 then (if ¬ p1 = 2 then (M4 11 0 30) else (M4 79 0 ((4 * p2) + p3))) else (M4 78 0 ((4 * p2) + p3))) else (M4 77 0 ((4 * p2) + p3))) M38))) ∧ (p1 = 0 → (inR (4 * p2)) ∧ (inR ((4 * p2) + p3)) ∧ (0 ≤ ((4 * p2) + p3) ∧ ((4 * p2) + p3) < 400) ∧ ∀ M43 : Mem, M43 = up M4 77 0 ((4 * p2) + p3) p4 → wp_X10_border_252 p1 p2 p3 p4 Qm (if ¬ p1 = 0 then (if ¬ p1 = 1 then (if ¬ p1 = 2 then (M4 11 0 30) else (M4 79 0 ((4 * p2) + p3))) else (M4 78 0 ((4 * p2) + p3))) else (M4 77 0 ((4 * p2) + p3))) M43))) ∧ (x5 = 0 → Qm 0 M4)) := hw
  refine sa_const X.1 dX10_border_107 ?_
  refine lv_goto (tgt := 112) X.1.1 X.1.2.1 dX10_border_108 (by decide) ?_
  refine lv_istore (lv' := [(6, .int (Int32.ofInt 1)), (0, .ref (α 11 0)), (1, .int (Int32.ofInt p1)), (2, .int (Int32.ofInt p2)), (3, .int (Int32.ofInt p3)), (4, .int (Int32.ofInt p4)), (5, .int (Int32.ofInt y5))]) X.1.1 X.1.2.1 dX10_border_112 hl (by decide) rfl (fun ls hl => ?_)
  refine lv_aload_n X.1.1 X.1.2.1 dX10_border_114 rfl (lv_at hl 1 rfl) ?_
  refine lv_iload X.1.1 X.1.2.1 dX10_border_115 (lv_at hl 6 rfl) ?_
  refine lv_iload X.1.1 X.1.2.1 dX10_border_117 (lv_at hl 0 rfl) ?_
  refine sa_const X.1 dX10_border_119 ?_
  refine cs_X10_goes X hy5 (inR_c (a := 1) rfl) (inR_c (a := 1) rfl) (kc := 2) rmL_ok rm_c (by decide) hR hS kw_1721 hl.1 dX10_border_120 (Nat.le_of_ble_eq_true rfl) hw (fun x5 M4 H locs hw r6 hR hS => ?_)
  refine sa_if_ne (tgt := 128) X.1 r6 dX10_border_123 (by decide) (fun hc => ?_) (fun hc => ?_)
  · have hw := hw.1 hc
    refine lv_iload_n X.1.1 X.1.2.1 dX10_border_128 rfl (lv_at hl 2 rfl) ?_
    have s23 := hw.1
    have hw := hw.2
    have s24 := hw.1
    have hw := hw.2
    have r25 := inR_ite (c := ¬ p1 = 0) (inR_ite (c := ¬ p1 = 1) (inR_ite (c := ¬ p1 = 2) (hR.r 11 0 30) (hR.r 79 0 ((4 * p2) + p3))) (hR.r 78 0 ((4 * p2) + p3))) (hR.r 77 0 ((4 * p2) + p3))
    refine cut_j (A := ∀ v26 : Int, v26 = (if ¬ p1 = 0 then (if ¬ p1 = 1 then (if ¬ p1 = 2 then (M4 11 0 30) else (M4 79 0 ((4 * p2) + p3))) else (M4 78 0 ((4 * p2) + p3))) else (M4 77 0 ((4 * p2) + p3))) → WI p l e 2 s m args below meth c G e0 α κ B Qm H locs 185 ls [.int (Int32.ofInt v26)]) (fun J27 => ?_) ?_
    · refine sa_if_ne (tgt := 145) X.1 hp1 dX10_border_129 (by decide) (fun hc => ?_) (fun hc => ?_)
      · have hw := s23 hc
        refine lv_iload_n X.1.1 X.1.2.1 dX10_border_145 rfl (lv_at hl 2 rfl) ?_
        refine sa_const X.1 dX10_border_146 ?_
        have s16 := hw.1
        have hw := hw.2
        have s17 := hw.1
        have hw := hw.2
        refine cut_j (A := ∀ v18 : Int, v18 = (if ¬ p1 = 1 then (if ¬ p1 = 2 then (M4 11 0 30) else (M4 79 0 ((4 * p2) + p3))) else (M4 78 0 ((4 * p2) + p3))) → WI p l e 2 s m args below meth c G e0 α κ B Qm H locs 185 ls [.int (Int32.ofInt v18)]) (fun J19 => ?_) ?_
        · refine sa_icmp_ne (tgt := 163) X.1 hp1 (inR_c (a := 1) rfl) dX10_border_147 (by decide) (fun hc => ?_) (fun hc => ?_)
          · have hw := s16 hc
            refine lv_iload_n X.1.1 X.1.2.1 dX10_border_163 rfl (lv_at hl 2 rfl) ?_
            refine sa_const X.1 dX10_border_164 ?_
            have s10 := hw.1
            have hw := hw.2
            refine cut_j (A := ∀ v11 : Int, v11 = (if ¬ p1 = 2 then (M4 11 0 30) else (M4 79 0 ((4 * p2) + p3))) → WI p l e 2 s m args below meth c G e0 α κ B Qm H locs 185 ls [.int (Int32.ofInt v11)]) (fun J12 => ?_) ?_
            · refine sa_icmp_ne (tgt := 181) X.1 hp1 (inR_c (a := 2) rfl) dX10_border_165 (by decide) (fun hc => ?_) (fun hc => ?_)
              · skip
                refine lv_aload_n X.1.1 X.1.2.1 dX10_border_181 rfl (lv_at hl 1 rfl) ?_
                refine gt_11_30 X hR (okf X.2.2.1 rfl) kw_1559 dX10_border_182 ?_
                exact J12 ((M4 11 0 30)) (if_pos (c := ¬ p1 = 2) hc).symm
              · have hw := s10 hc
                refine lv_aload_n X.1.1 X.1.2.1 dX10_border_168 rfl (lv_at hl 1 rfl) ?_
                refine gt_11_29 X hR (okf X.2.2.1 rfl) kw_1558 dX10_border_169 ?_
                refine sa_const X.1 dX10_border_172 ?_
                refine lv_iload_n X.1.1 X.1.2.1 dX10_border_173 rfl (lv_at hl 3 rfl) ?_
                have c7 := hw.1
                have hw := hw.2
                refine sa_imul X.1 dX10_border_174 ?_
                refine lv_iload_n X.1.1 X.1.2.1 dX10_border_175 rfl (lv_at hl 4 rfl) ?_
                have c8 := hw.1
                have hw := hw.2
                refine sa_iadd X.1 dX10_border_176 ?_
                have c9 := hw.1
                have hw := hw.2
                refine ra_79 X hR (okf X.2.2.1 rfl) c9 dX10_border_177 ?_
                refine lv_goto (tgt := 185) X.1.1 X.1.2.1 dX10_border_178 (by decide) ?_
                exact J12 ((M4 79 0 ((4 * p2) + p3))) (if_neg (c := ¬ p1 = 2) (fun z => z hc)).symm
            intro v11 hv11
            subst hv11
            exact J19 ((if ¬ p1 = 2 then (M4 11 0 30) else (M4 79 0 ((4 * p2) + p3)))) (if_pos (c := ¬ p1 = 1) hc).symm
          · have hw := s17 hc
            refine lv_aload_n X.1.1 X.1.2.1 dX10_border_150 rfl (lv_at hl 1 rfl) ?_
            refine gt_11_28 X hR (okf X.2.2.1 rfl) kw_1557 dX10_border_151 ?_
            refine sa_const X.1 dX10_border_154 ?_
            refine lv_iload_n X.1.1 X.1.2.1 dX10_border_155 rfl (lv_at hl 3 rfl) ?_
            have c13 := hw.1
            have hw := hw.2
            refine sa_imul X.1 dX10_border_156 ?_
            refine lv_iload_n X.1.1 X.1.2.1 dX10_border_157 rfl (lv_at hl 4 rfl) ?_
            have c14 := hw.1
            have hw := hw.2
            refine sa_iadd X.1 dX10_border_158 ?_
            have c15 := hw.1
            have hw := hw.2
            refine ra_78 X hR (okf X.2.2.1 rfl) c15 dX10_border_159 ?_
            refine lv_goto (tgt := 185) X.1.1 X.1.2.1 dX10_border_160 (by decide) ?_
            exact J19 ((M4 78 0 ((4 * p2) + p3))) (if_neg (c := ¬ p1 = 1) (fun z => z hc)).symm
        intro v18 hv18
        subst hv18
        exact J27 ((if ¬ p1 = 1 then (if ¬ p1 = 2 then (M4 11 0 30) else (M4 79 0 ((4 * p2) + p3))) else (M4 78 0 ((4 * p2) + p3)))) (if_pos (c := ¬ p1 = 0) hc).symm
      · have hw := s24 hc
        refine lv_aload_n X.1.1 X.1.2.1 dX10_border_132 rfl (lv_at hl 1 rfl) ?_
        refine gt_11_27 X hR (okf X.2.2.1 rfl) kw_1556 dX10_border_133 ?_
        refine sa_const X.1 dX10_border_136 ?_
        refine lv_iload_n X.1.1 X.1.2.1 dX10_border_137 rfl (lv_at hl 3 rfl) ?_
        have c20 := hw.1
        have hw := hw.2
        refine sa_imul X.1 dX10_border_138 ?_
        refine lv_iload_n X.1.1 X.1.2.1 dX10_border_139 rfl (lv_at hl 4 rfl) ?_
        have c21 := hw.1
        have hw := hw.2
        refine sa_iadd X.1 dX10_border_140 ?_
        have c22 := hw.1
        have hw := hw.2
        refine ra_77 X hR (okf X.2.2.1 rfl) c22 dX10_border_141 ?_
        refine lv_goto (tgt := 185) X.1.1 X.1.2.1 dX10_border_142 (by decide) ?_
        exact J27 ((M4 77 0 ((4 * p2) + p3))) (if_neg (c := ¬ p1 = 0) (fun z => z hc)).symm
    intro v26 hv26
    subst hv26
    refine lv_istore (lv' := [(7, .int (Int32.ofInt (if ¬ p1 = 0 then (if ¬ p1 = 1 then (if ¬ p1 = 2 then (M4 11 0 30) else (M4 79 0 ((4 * p2) + p3))) else (M4 78 0 ((4 * p2) + p3))) else (M4 77 0 ((4 * p2) + p3))))), (6, .int (Int32.ofInt 1)), (0, .ref (α 11 0)), (1, .int (Int32.ofInt p1)), (2, .int (Int32.ofInt p2)), (3, .int (Int32.ofInt p3)), (4, .int (Int32.ofInt p4)), (5, .int (Int32.ofInt y5))]) X.1.1 X.1.2.1 dX10_border_185 hl (by decide) rfl (fun ls hl => ?_)
    refine lv_iload_n X.1.1 X.1.2.1 dX10_border_187 rfl (lv_at hl 3 rfl) ?_
    refine sa_if_ne (tgt := 206) X.1 hp1 dX10_border_188 (by decide) (fun hc => ?_) (fun hc => ?_)
    · have hw := hw.1 hc
      refine lv_iload_n X.1.1 X.1.2.1 dX10_border_206 rfl (lv_at hl 3 rfl) ?_
      refine sa_const X.1 dX10_border_207 ?_
      refine sa_icmp_ne (tgt := 226) X.1 hp1 (inR_c (a := 1) rfl) dX10_border_208 (by decide) (fun hc => ?_) (fun hc => ?_)
      · have hw := hw.1 hc
        refine lv_iload_n X.1.1 X.1.2.1 dX10_border_226 rfl (lv_at hl 3 rfl) ?_
        refine sa_const X.1 dX10_border_227 ?_
        refine sa_icmp_ne (tgt := 246) X.1 hp1 (inR_c (a := 2) rfl) dX10_border_228 (by decide) (fun hc => ?_) (fun hc => ?_)
        · have hw := hw.1 hc
          refine lv_aload_n X.1.1 X.1.2.1 dX10_border_246 rfl (lv_at hl 2 rfl) ?_
          refine lv_iload X.1.1 X.1.2.1 dX10_border_247 (lv_at hl 6 rfl) ?_
          refine pt_11_30 X hR hS (okf X.2.2.1 rfl) hp4 kw_1559 dX10_border_249 (fun H locs hR hS => ?_)
          obtain ⟨M28, e29⟩ : ∃ z : Mem, z = up M4 11 0 30 p4 := ⟨_, rfl⟩
          rw [← e29] at hR
          have hw := hw M28 e29
          exact t_X10_border_252 X hp1 hp2 hp3 hp4 _ _ hw r25 _ _ hR hS _ (lv_sub hl [0] rfl)
        · have hw := hw.2 hc
          refine lv_aload_n X.1.1 X.1.2.1 dX10_border_231 rfl (lv_at hl 2 rfl) ?_
          refine gt_11_29 X hR (okf X.2.2.1 rfl) kw_1558 dX10_border_232 ?_
          refine sa_const X.1 dX10_border_235 ?_
          refine lv_iload_n X.1.1 X.1.2.1 dX10_border_236 rfl (lv_at hl 4 rfl) ?_
          have c30 := hw.1
          have hw := hw.2
          refine sa_imul X.1 dX10_border_237 ?_
          refine lv_iload_n X.1.1 X.1.2.1 dX10_border_238 rfl (lv_at hl 5 rfl) ?_
          have c31 := hw.1
          have hw := hw.2
          refine sa_iadd X.1 dX10_border_239 ?_
          refine lv_iload X.1.1 X.1.2.1 dX10_border_240 (lv_at hl 6 rfl) ?_
          have c32 := hw.1
          have hw := hw.2
          refine wa_79 X hR hS (okf X.2.2.1 rfl) c32 hp4 dX10_border_242 (fun H locs hR hS => ?_)
          obtain ⟨M33, e34⟩ : ∃ z : Mem, z = up M4 79 0 ((4 * p2) + p3) p4 := ⟨_, rfl⟩
          rw [← e34] at hR
          have hw := hw M33 e34
          refine lv_goto (tgt := 252) X.1.1 X.1.2.1 dX10_border_243 (by decide) ?_
          exact t_X10_border_252 X hp1 hp2 hp3 hp4 _ _ hw r25 _ _ hR hS _ (lv_sub hl [0] rfl)
      · have hw := hw.2 hc
        refine lv_aload_n X.1.1 X.1.2.1 dX10_border_211 rfl (lv_at hl 2 rfl) ?_
        refine gt_11_28 X hR (okf X.2.2.1 rfl) kw_1557 dX10_border_212 ?_
        refine sa_const X.1 dX10_border_215 ?_
        refine lv_iload_n X.1.1 X.1.2.1 dX10_border_216 rfl (lv_at hl 4 rfl) ?_
        have c35 := hw.1
        have hw := hw.2
        refine sa_imul X.1 dX10_border_217 ?_
        refine lv_iload_n X.1.1 X.1.2.1 dX10_border_218 rfl (lv_at hl 5 rfl) ?_
        have c36 := hw.1
        have hw := hw.2
        refine sa_iadd X.1 dX10_border_219 ?_
        refine lv_iload X.1.1 X.1.2.1 dX10_border_220 (lv_at hl 6 rfl) ?_
        have c37 := hw.1
        have hw := hw.2
        refine wa_78 X hR hS (okf X.2.2.1 rfl) c37 hp4 dX10_border_222 (fun H locs hR hS => ?_)
        obtain ⟨M38, e39⟩ : ∃ z : Mem, z = up M4 78 0 ((4 * p2) + p3) p4 := ⟨_, rfl⟩
        rw [← e39] at hR
        have hw := hw M38 e39
        refine lv_goto (tgt := 252) X.1.1 X.1.2.1 dX10_border_223 (by decide) ?_
        exact t_X10_border_252 X hp1 hp2 hp3 hp4 _ _ hw r25 _ _ hR hS _ (lv_sub hl [0] rfl)
    · have hw := hw.2 hc
      refine lv_aload_n X.1.1 X.1.2.1 dX10_border_191 rfl (lv_at hl 2 rfl) ?_
      refine gt_11_27 X hR (okf X.2.2.1 rfl) kw_1556 dX10_border_192 ?_
      refine sa_const X.1 dX10_border_195 ?_
      refine lv_iload_n X.1.1 X.1.2.1 dX10_border_196 rfl (lv_at hl 4 rfl) ?_
      have c40 := hw.1
      have hw := hw.2
      refine sa_imul X.1 dX10_border_197 ?_
      refine lv_iload_n X.1.1 X.1.2.1 dX10_border_198 rfl (lv_at hl 5 rfl) ?_
      have c41 := hw.1
      have hw := hw.2
      refine sa_iadd X.1 dX10_border_199 ?_
      refine lv_iload X.1.1 X.1.2.1 dX10_border_200 (lv_at hl 6 rfl) ?_
      have c42 := hw.1
      have hw := hw.2
      refine wa_77 X hR hS (okf X.2.2.1 rfl) c42 hp4 dX10_border_202 (fun H locs hR hS => ?_)
      obtain ⟨M43, e44⟩ : ∃ z : Mem, z = up M4 77 0 ((4 * p2) + p3) p4 := ⟨_, rfl⟩
      rw [← e44] at hR
      have hw := hw M43 e44
      refine lv_goto (tgt := 252) X.1.1 X.1.2.1 dX10_border_203 (by decide) ?_
      exact t_X10_border_252 X hp1 hp2 hp3 hp4 _ _ hw r25 _ _ hR hS _ (lv_sub hl [0] rfl)
  · have hw := hw.2 hc
    refine sa_const X.1 dX10_border_126 ?_
    exact sa_iret X.1 X.2.2.2.1 X.2.2.2.2 hR hS (inR_c (a := 0) rfl) hw dX10_border_127
set_option maxHeartbeats 4000000 in
set_option maxRecDepth 100000 in
theorem t_X10_border_60 {p1 : Int} {p2 : Int} {p3 : Int} {p4 : Int} (X : CX p m c cX10_border 8 s args RX10 G B κ meth (some .int)) (hp1 : inR p1) (hp2 : inR p2) (hp3 : inR p3) (hp4 : inR p4) {Qm : Int → Mem → Prop} : ∀ M : Mem, wp_X10_border_60 p1 p2 p3 p4 Qm M → ∀ (H : Heap) (locs : List Loc), Rp G e0 α κ B M H → va_S (fun q => B ≤ q) s.heap H locs → ∀ (ls : Array Slot), lv_has ls 8 [(0, .ref (α 11 0)), (1, .int (Int32.ofInt p1)), (2, .int (Int32.ofInt p2)), (3, .int (Int32.ofInt p3)), (4, .int (Int32.ofInt p4))] → WI p l e 2 s m args below meth c G e0 α κ B Qm H locs 60 ls [] := by
  intro M hw H locs hR hS ls hl
  have hw : ((p1 = 3 → wp_X10_border_107 p1 p2 p3 p4 Qm 0 M) ∧ (¬ p1 = 3 → ((¬ p1 = 0 → ((¬ p1 = 1 → wp_X10_isColumn p2 M fun (x46 : Int) (M45 : Mem) => wp_X10_goes 0 (if x46 = 0 then (0 : Int) else 1) 1 M45 fun (x52 : Int) (M51 : Mem) => ((¬ x52 = 0 → (¬ p1 = 0 → (¬ p1 = 1 → (p1 = 2 → (inR (4 * p2)) ∧ (inR ((4 * p2) + p3)) ∧ (0 ≤ ((4 * p2) + p3) ∧ ((4 * p2) + p3) < 24) ∧ True) ∧ True) ∧ (p1 = 1 → (inR (4 * p2)) ∧ (inR ((4 * p2) + p3)) ∧ (0 ≤ ((4 * p2) + p3) ∧ ((4 * p2) + p3) < 116) ∧ True) ∧ True) ∧ (p1 = 0 → (inR (4 * p2)) ∧ (inR ((4 * p2) + p3)) ∧ (0 ≤ ((4 * p2) + p3) ∧ ((4 * p2) + p3) < 400) ∧ True) ∧ ((¬ p1 = 0 → ((¬ p1 = 1 → ((¬ p1 = 2 → ∀ M75 : Mem, M75 = up M51 11 0 30 p4 → wp_X10_border_252 p1 p2 p3 p4 Qm (if ¬ p1 = 0 then (if ¬ p1 = 1 then (if ¬ p1 = 2 then (M51 11 0 30) else (M51 79 0 ((4 * p2) + p3))) else (M51 78 0 ((4 * p2) + p3))) else (M51 77 0 ((4 * p2) + p3))) M75) ∧ (p1 = 2 → (inR (4 * p2)) ∧ (inR ((4 * p2) + p3)) ∧ (0 ≤ ((4 * p2) + p3) ∧ ((4 * p2) + p3) < 24) ∧ ∀ M80 : Mem, M80 = up M51 79 0 ((4 * p2) + p3) p4 → wp_X10_border_252 p1 p2 p3 p4 Qm (if ¬ p1 = 0 then (if ¬ p1 = 1 then (if ¬ p1 = 2 then (M51 11 0 30) else (M51 79 0 ((4 * p2) + p3))) else (M51 78 0 ((4 * p2) + p3))) else (M51 77 0 ((4 * p2) + p3))) M80))) ∧ (p1 = 1 → (inR (4 * p2)) ∧ (inR ((4 * p2) + p3)) ∧ (0 ≤ ((4 * p2) + p3) ∧ ((4 * p2) + p3) < 116) ∧ ∀ M85 : Mem, M85 = up M51 78 0 ((4 * p2) + p3) p4 → wp_X10_border_252 p1 p2 p3 p4 Qm (if ¬ p1 = 0 then (if ¬ p1 = 1 then (if ¬ p1 = 2 then (M51 11 0 30) else (M51 79 0 ((4 * p2) + p3))) else (M51 78 0 ((4 * p2) + p3))) else (M51 77 0 ((4 * p2) + p3))) M85))) ∧ (p1 = 0 → (inR (4 * p2)) ∧ (inR ((4 * p2) + p3)) ∧ (0 ≤ ((4 * p2) + p3) ∧ ((4 * p2) + p3) < 400) ∧ ∀ M90 : Mem, M90 = up M51 77 0 ((4 * p2) + p3) p4 → wp_X10_border_252 p1 p2 p3 p4 Qm (if ¬ p1 = 0 then (if ¬ p1 = 1 then (if ¬ p1 = 2 then (M51 11 0 30) else (M51 79 0 ((4 * p2) + p3))) else (M51 78 0 ((4 * p2) + p3))) else (M51 77 0 ((4 * p2) + p3))) M90))) ∧ (x52 = 0 → Qm 0 M51))) ∧ (p1 = 1 → wp_X10_isRow p2 M fun (x93 : Int) (M92 : Mem) => wp_X10_goes 0 (if x93 = 0 then (0 : Int) else 1) 1 M92 fun (x99 : Int) (M98 : Mem) => ((¬ x99 = 0 → (¬ p1 = 0 → (¬ p1 = 1 → (p1 = 2 → (inR (4 * p2)) ∧ (inR ((4 * p2) + p3)) ∧ (0 ≤ ((4 * p2) + p3) ∧ ((4 * p2) + p3) < 24) ∧ True) ∧ True) ∧ (p1 = 1 → (inR (4 * p2)) ∧ (inR ((4 * p2) + p3)) ∧ (0 ≤ ((4 * p2) + p3) ∧ ((4 * p2) + p3) < 116) ∧ True) ∧ True) ∧ (p1 = 0 → (inR (4 * p2)) ∧ (inR ((4 * p2) + p3)) ∧ (0 ≤ ((4 * p2) + p3) ∧ ((4 * p2) + p3) < 400) ∧ True) ∧ ((¬ p1 = 0 → ((¬ p1 = 1 → ((¬ p1 = 2 → ∀ M122 : Mem, M122 = up M98 11 0 30 p4 → wp_X10_border_252 p1 p2 p3 p4 Qm (if ¬ p1 = 0 then (if ¬ p1 = 1 then (if ¬ p1 = 2 then (M98 11 0 30) else (M98 79 0 ((4 * p2) + p3))) else (M98 78 0 ((4 * p2) + p3))) else (M98 77 0 ((4 * p2) + p3))) M122) ∧ (p1 = 2 → (inR (4 * p2)) ∧ (inR ((4 * p2) + p3)) ∧ (0 ≤ ((4 * p2) + p3) ∧ ((4 * p2) + p3) < 24) ∧ ∀ M127 : Mem, M127 = up M98 79 0 ((4 * p2) + p3) p4 → wp_X10_border_252 p1 p2 p3 p4 Qm (if ¬ p1 = 0 then (if ¬ p1 = 1 then (if ¬ p1 = 2 then (M98 11 0 30) else (M98 79 0 ((4 * p2) + p3))) else (M98 78 0 ((4 * p2) + p3))) else (M98 77 0 ((4 * p2) + p3))) M127))) ∧ (p1 = 1 → (inR (4 * p2)) ∧ (inR ((4 * p2) + p3)) ∧ (0 ≤ ((4 * p2) + p3) ∧ ((4 * p2) + p3) < 116) ∧ ∀ M132 : Mem, M132 = up M98 78 0 ((4 * p2) + p3) p4 → wp_X10_border_252 p1 p2 p3 p4 Qm (if ¬ p1 = 0 then (if ¬ p1 = 1 then (if ¬ p1 = 2 then (M98 11 0 30) else (M98 79 0 ((4 * p2) + p3))) else (M98 78 0 ((4 * p2) + p3))) else (M98 77 0 ((4 * p2) + p3))) M132))) ∧ (p1 = 0 → (inR (4 * p2)) ∧ (inR ((4 * p2) + p3)) ∧ (0 ≤ ((4 * p2) + p3) ∧ ((4 * p2) + p3) < 400) ∧ ∀ M137 : Mem, M137 = up M98 77 0 ((4 * p2) + p3) p4 → wp_X10_border_252 p1 p2 p3 p4 Qm (if ¬ p1 = 0 then (if ¬ p1 = 1 then (if ¬ p1 = 2 then (M98 11 0 30) else (M98 79 0 ((4 * p2) + p3))) else (M98 78 0 ((4 * p2) + p3))) else (M98 77 0 ((4 * p2) + p3))) M137))) ∧ (x99 = 0 → Qm 0 M98))))) ∧ (p1 = 0 → wp_X10_isCell p2 M fun (x140 : Int) (M139 : Mem) => wp_X10_goes 0 (if x140 = 0 then (0 : Int) else 1) 1 M139 fun (x146 : Int) (M145 : Mem) => ((¬ x146 = 0 → (¬ p1 = 0 → (¬ p1 = 1 → (p1 = 2 → (inR (4 * p2)) ∧ (inR ((4 * p2) + p3)) ∧ (0 ≤ ((4 * p2) + p3) ∧ ((4 * p2) + p3) < 24) ∧ True) ∧ True) ∧ (p1 = 1 → (inR (4 * p2)) ∧ (inR ((4 * p2) + p3)) ∧ (0 ≤ ((4 * p2) + p3) ∧ ((4 * p2) + p3) < 116) ∧ True) ∧ True) ∧ (p1 = 0 → (inR (4 * p2)) ∧ (inR ((4 * p2) + p3)) ∧ (0 ≤ ((4 * p2) + p3) ∧ ((4 * p2) + p3) < 400) ∧ True) ∧ ((¬ p1 = 0 → ((¬ p1 = 1 → ((¬ p1 = 2 → ∀ M169 : Mem, M169 = up M145 11 0 30 p4 → wp_X10_border_252 p1 p2 p3 p4 Qm (if ¬ p1 = 0 then (if ¬ p1 = 1 then (if ¬ p1 = 2 then (M145 11 0 30) else (M145 79 0 ((4 * p2) + p3))) else (M145 78 0 ((4 * p2) + p3))) else (M145 77 0 ((4 * p2) + p3))) M169) ∧ (p1 = 2 → (inR (4 * p2)) ∧ (inR ((4 * p2) + p3)) ∧ (0 ≤ ((4 * p2) + p3) ∧ ((4 * p2) + p3) < 24) ∧ ∀ M174 : Mem, M174 = up M145 79 0 ((4 * p2) + p3) p4 → wp_X10_border_252 p1 p2 p3 p4 Qm (if ¬ p1 = 0 then (if ¬ p1 = 1 then (if ¬ p1 = 2 then (M145 11 0 30) else (M145 79 0 ((4 * p2) + p3))) else (M145 78 0 ((4 * p2) + p3))) else (M145 77 0 ((4 * p2) + p3))) M174))) ∧ (p1 = 1 → (inR (4 * p2)) ∧ (inR ((4 * p2) + p3)) ∧ (0 ≤ ((4 * p2) + p3) ∧ ((4 * p2) + p3) < 116) ∧ ∀ M179 : Mem, M179 = up M145 78 0 ((4 * p2) + p3) p4 → wp_X10_border_252 p1 p2 p3 p4 Qm (if ¬ p1 = 0 then (if ¬ p1 = 1 then (if ¬ p1 = 2 then (M145 11 0 30) else (M145 79 0 ((4 * p2) + p3))) else (M145 78 0 ((4 * p2) + p3))) else (M145 77 0 ((4 * p2) + p3))) M179))) ∧ (p1 = 0 → (inR (4 * p2)) ∧ (inR ((4 * p2) + p3)) ∧ (0 ≤ ((4 * p2) + p3) ∧ ((4 * p2) + p3) < 400) ∧ ∀ M184 : Mem, M184 = up M145 77 0 ((4 * p2) + p3) p4 → wp_X10_border_252 p1 p2 p3 p4 Qm (if ¬ p1 = 0 then (if ¬ p1 = 1 then (if ¬ p1 = 2 then (M145 11 0 30) else (M145 79 0 ((4 * p2) + p3))) else (M145 78 0 ((4 * p2) + p3))) else (M145 77 0 ((4 * p2) + p3))) M184))) ∧ (x146 = 0 → Qm 0 M145)))))) := hw
  refine sa_const X.1 dX10_border_60 ?_
  refine lv_istore (lv' := [(5, .int (Int32.ofInt 0)), (0, .ref (α 11 0)), (1, .int (Int32.ofInt p1)), (2, .int (Int32.ofInt p2)), (3, .int (Int32.ofInt p3)), (4, .int (Int32.ofInt p4))]) X.1.1 X.1.2.1 dX10_border_61 hl (by decide) rfl (fun ls hl => ?_)
  refine lv_iload_n X.1.1 X.1.2.1 dX10_border_63 rfl (lv_at hl 2 rfl) ?_
  refine sa_const X.1 dX10_border_64 ?_
  refine sa_icmp_eq (tgt := 107) X.1 hp1 (inR_c (a := 3) rfl) dX10_border_65 (by decide) (fun hc => ?_) (fun hc => ?_)
  · have hw := hw.1 hc
    exact t_X10_border_107 X hp1 hp2 hp3 hp4 _ _ hw (inR_c (a := 0) rfl) _ _ hR hS _ (lv_sub hl [1, 2, 3, 4, 5, 0] rfl)
  · have hw := hw.2 hc
    refine lv_iload_n X.1.1 X.1.2.1 dX10_border_68 rfl (lv_at hl 2 rfl) ?_
    refine sa_if_ne (tgt := 83) X.1 hp1 dX10_border_69 (by decide) (fun hc => ?_) (fun hc => ?_)
    · have hw := hw.1 hc
      refine lv_iload_n X.1.1 X.1.2.1 dX10_border_83 rfl (lv_at hl 2 rfl) ?_
      refine sa_const X.1 dX10_border_84 ?_
      refine sa_icmp_ne (tgt := 99) X.1 hp1 (inR_c (a := 1) rfl) dX10_border_85 (by decide) (fun hc => ?_) (fun hc => ?_)
      · have hw := hw.1 hc
        refine lv_aload_n X.1.1 X.1.2.1 dX10_border_99 rfl (lv_at hl 1 rfl) ?_
        refine lv_iload_n X.1.1 X.1.2.1 dX10_border_100 rfl (lv_at hl 3 rfl) ?_
        refine cs_X10_isColumn X hp2 (kc := 2) rmL_ok rm_c (by decide) hR hS kw_1737 hl.1 dX10_border_101 (Nat.le_of_ble_eq_true rfl) hw (fun x46 M45 H locs hw r47 hR hS => ?_)
        have r48 := inR_ite (c := x46 = 0) (inR_c (a := 0) rfl) (inR_c (a := 1) rfl)
        refine cut_j (A := ∀ v49 : Int, v49 = (if x46 = 0 then (0 : Int) else 1) → WI p l e 2 s m args below meth c G e0 α κ B Qm H locs 112 ls [.int (Int32.ofInt v49)]) (fun J50 => ?_) ?_
        · refine sa_if_eq (tgt := 111) X.1 r47 dX10_border_104 (by decide) (fun hc => ?_) (fun hc => ?_)
          · skip
            refine sa_const X.1 dX10_border_111 ?_
            exact J50 (0) (if_pos (c := x46 = 0) hc).symm
          · skip
            refine sa_const X.1 dX10_border_107 ?_
            refine lv_goto (tgt := 112) X.1.1 X.1.2.1 dX10_border_108 (by decide) ?_
            exact J50 (1) (if_neg (c := x46 = 0) hc).symm
        intro v49 hv49
        subst hv49
        refine lv_istore (lv' := [(6, .int (Int32.ofInt (if x46 = 0 then (0 : Int) else 1))), (5, .int (Int32.ofInt 0)), (0, .ref (α 11 0)), (1, .int (Int32.ofInt p1)), (2, .int (Int32.ofInt p2)), (3, .int (Int32.ofInt p3)), (4, .int (Int32.ofInt p4))]) X.1.1 X.1.2.1 dX10_border_112 hl (by decide) rfl (fun ls hl => ?_)
        refine lv_aload_n X.1.1 X.1.2.1 dX10_border_114 rfl (lv_at hl 2 rfl) ?_
        refine lv_iload X.1.1 X.1.2.1 dX10_border_115 (lv_at hl 1 rfl) ?_
        refine lv_iload X.1.1 X.1.2.1 dX10_border_117 (lv_at hl 0 rfl) ?_
        refine sa_const X.1 dX10_border_119 ?_
        refine cs_X10_goes X (inR_c (a := 0) rfl) r48 (inR_c (a := 1) rfl) (kc := 2) rmL_ok rm_c (by decide) hR hS kw_1721 hl.1 dX10_border_120 (Nat.le_of_ble_eq_true rfl) hw (fun x52 M51 H locs hw r53 hR hS => ?_)
        refine sa_if_ne (tgt := 128) X.1 r53 dX10_border_123 (by decide) (fun hc => ?_) (fun hc => ?_)
        · have hw := hw.1 hc
          refine lv_iload_n X.1.1 X.1.2.1 dX10_border_128 rfl (lv_at hl 3 rfl) ?_
          have s70 := hw.1
          have hw := hw.2
          have s71 := hw.1
          have hw := hw.2
          have r72 := inR_ite (c := ¬ p1 = 0) (inR_ite (c := ¬ p1 = 1) (inR_ite (c := ¬ p1 = 2) (hR.r 11 0 30) (hR.r 79 0 ((4 * p2) + p3))) (hR.r 78 0 ((4 * p2) + p3))) (hR.r 77 0 ((4 * p2) + p3))
          refine cut_j (A := ∀ v73 : Int, v73 = (if ¬ p1 = 0 then (if ¬ p1 = 1 then (if ¬ p1 = 2 then (M51 11 0 30) else (M51 79 0 ((4 * p2) + p3))) else (M51 78 0 ((4 * p2) + p3))) else (M51 77 0 ((4 * p2) + p3))) → WI p l e 2 s m args below meth c G e0 α κ B Qm H locs 185 ls [.int (Int32.ofInt v73)]) (fun J74 => ?_) ?_
          · refine sa_if_ne (tgt := 145) X.1 hp1 dX10_border_129 (by decide) (fun hc => ?_) (fun hc => ?_)
            · have hw := s70 hc
              refine lv_iload_n X.1.1 X.1.2.1 dX10_border_145 rfl (lv_at hl 3 rfl) ?_
              refine sa_const X.1 dX10_border_146 ?_
              have s63 := hw.1
              have hw := hw.2
              have s64 := hw.1
              have hw := hw.2
              refine cut_j (A := ∀ v65 : Int, v65 = (if ¬ p1 = 1 then (if ¬ p1 = 2 then (M51 11 0 30) else (M51 79 0 ((4 * p2) + p3))) else (M51 78 0 ((4 * p2) + p3))) → WI p l e 2 s m args below meth c G e0 α κ B Qm H locs 185 ls [.int (Int32.ofInt v65)]) (fun J66 => ?_) ?_
              · refine sa_icmp_ne (tgt := 163) X.1 hp1 (inR_c (a := 1) rfl) dX10_border_147 (by decide) (fun hc => ?_) (fun hc => ?_)
                · have hw := s63 hc
                  refine lv_iload_n X.1.1 X.1.2.1 dX10_border_163 rfl (lv_at hl 3 rfl) ?_
                  refine sa_const X.1 dX10_border_164 ?_
                  have s57 := hw.1
                  have hw := hw.2
                  refine cut_j (A := ∀ v58 : Int, v58 = (if ¬ p1 = 2 then (M51 11 0 30) else (M51 79 0 ((4 * p2) + p3))) → WI p l e 2 s m args below meth c G e0 α κ B Qm H locs 185 ls [.int (Int32.ofInt v58)]) (fun J59 => ?_) ?_
                  · refine sa_icmp_ne (tgt := 181) X.1 hp1 (inR_c (a := 2) rfl) dX10_border_165 (by decide) (fun hc => ?_) (fun hc => ?_)
                    · skip
                      refine lv_aload_n X.1.1 X.1.2.1 dX10_border_181 rfl (lv_at hl 2 rfl) ?_
                      refine gt_11_30 X hR (okf X.2.2.1 rfl) kw_1559 dX10_border_182 ?_
                      exact J59 ((M51 11 0 30)) (if_pos (c := ¬ p1 = 2) hc).symm
                    · have hw := s57 hc
                      refine lv_aload_n X.1.1 X.1.2.1 dX10_border_168 rfl (lv_at hl 2 rfl) ?_
                      refine gt_11_29 X hR (okf X.2.2.1 rfl) kw_1558 dX10_border_169 ?_
                      refine sa_const X.1 dX10_border_172 ?_
                      refine lv_iload_n X.1.1 X.1.2.1 dX10_border_173 rfl (lv_at hl 4 rfl) ?_
                      have c54 := hw.1
                      have hw := hw.2
                      refine sa_imul X.1 dX10_border_174 ?_
                      refine lv_iload_n X.1.1 X.1.2.1 dX10_border_175 rfl (lv_at hl 5 rfl) ?_
                      have c55 := hw.1
                      have hw := hw.2
                      refine sa_iadd X.1 dX10_border_176 ?_
                      have c56 := hw.1
                      have hw := hw.2
                      refine ra_79 X hR (okf X.2.2.1 rfl) c56 dX10_border_177 ?_
                      refine lv_goto (tgt := 185) X.1.1 X.1.2.1 dX10_border_178 (by decide) ?_
                      exact J59 ((M51 79 0 ((4 * p2) + p3))) (if_neg (c := ¬ p1 = 2) (fun z => z hc)).symm
                  intro v58 hv58
                  subst hv58
                  exact J66 ((if ¬ p1 = 2 then (M51 11 0 30) else (M51 79 0 ((4 * p2) + p3)))) (if_pos (c := ¬ p1 = 1) hc).symm
                · have hw := s64 hc
                  refine lv_aload_n X.1.1 X.1.2.1 dX10_border_150 rfl (lv_at hl 2 rfl) ?_
                  refine gt_11_28 X hR (okf X.2.2.1 rfl) kw_1557 dX10_border_151 ?_
                  refine sa_const X.1 dX10_border_154 ?_
                  refine lv_iload_n X.1.1 X.1.2.1 dX10_border_155 rfl (lv_at hl 4 rfl) ?_
                  have c60 := hw.1
                  have hw := hw.2
                  refine sa_imul X.1 dX10_border_156 ?_
                  refine lv_iload_n X.1.1 X.1.2.1 dX10_border_157 rfl (lv_at hl 5 rfl) ?_
                  have c61 := hw.1
                  have hw := hw.2
                  refine sa_iadd X.1 dX10_border_158 ?_
                  have c62 := hw.1
                  have hw := hw.2
                  refine ra_78 X hR (okf X.2.2.1 rfl) c62 dX10_border_159 ?_
                  refine lv_goto (tgt := 185) X.1.1 X.1.2.1 dX10_border_160 (by decide) ?_
                  exact J66 ((M51 78 0 ((4 * p2) + p3))) (if_neg (c := ¬ p1 = 1) (fun z => z hc)).symm
              intro v65 hv65
              subst hv65
              exact J74 ((if ¬ p1 = 1 then (if ¬ p1 = 2 then (M51 11 0 30) else (M51 79 0 ((4 * p2) + p3))) else (M51 78 0 ((4 * p2) + p3)))) (if_pos (c := ¬ p1 = 0) hc).symm
            · have hw := s71 hc
              refine lv_aload_n X.1.1 X.1.2.1 dX10_border_132 rfl (lv_at hl 2 rfl) ?_
              refine gt_11_27 X hR (okf X.2.2.1 rfl) kw_1556 dX10_border_133 ?_
              refine sa_const X.1 dX10_border_136 ?_
              refine lv_iload_n X.1.1 X.1.2.1 dX10_border_137 rfl (lv_at hl 4 rfl) ?_
              have c67 := hw.1
              have hw := hw.2
              refine sa_imul X.1 dX10_border_138 ?_
              refine lv_iload_n X.1.1 X.1.2.1 dX10_border_139 rfl (lv_at hl 5 rfl) ?_
              have c68 := hw.1
              have hw := hw.2
              refine sa_iadd X.1 dX10_border_140 ?_
              have c69 := hw.1
              have hw := hw.2
              refine ra_77 X hR (okf X.2.2.1 rfl) c69 dX10_border_141 ?_
              refine lv_goto (tgt := 185) X.1.1 X.1.2.1 dX10_border_142 (by decide) ?_
              exact J74 ((M51 77 0 ((4 * p2) + p3))) (if_neg (c := ¬ p1 = 0) (fun z => z hc)).symm
          intro v73 hv73
          subst hv73
          refine lv_istore (lv' := [(7, .int (Int32.ofInt (if ¬ p1 = 0 then (if ¬ p1 = 1 then (if ¬ p1 = 2 then (M51 11 0 30) else (M51 79 0 ((4 * p2) + p3))) else (M51 78 0 ((4 * p2) + p3))) else (M51 77 0 ((4 * p2) + p3))))), (6, .int (Int32.ofInt (if x46 = 0 then (0 : Int) else 1))), (5, .int (Int32.ofInt 0)), (0, .ref (α 11 0)), (1, .int (Int32.ofInt p1)), (2, .int (Int32.ofInt p2)), (3, .int (Int32.ofInt p3)), (4, .int (Int32.ofInt p4))]) X.1.1 X.1.2.1 dX10_border_185 hl (by decide) rfl (fun ls hl => ?_)
          refine lv_iload_n X.1.1 X.1.2.1 dX10_border_187 rfl (lv_at hl 4 rfl) ?_
          refine sa_if_ne (tgt := 206) X.1 hp1 dX10_border_188 (by decide) (fun hc => ?_) (fun hc => ?_)
          · have hw := hw.1 hc
            refine lv_iload_n X.1.1 X.1.2.1 dX10_border_206 rfl (lv_at hl 4 rfl) ?_
            refine sa_const X.1 dX10_border_207 ?_
            refine sa_icmp_ne (tgt := 226) X.1 hp1 (inR_c (a := 1) rfl) dX10_border_208 (by decide) (fun hc => ?_) (fun hc => ?_)
            · have hw := hw.1 hc
              refine lv_iload_n X.1.1 X.1.2.1 dX10_border_226 rfl (lv_at hl 4 rfl) ?_
              refine sa_const X.1 dX10_border_227 ?_
              refine sa_icmp_ne (tgt := 246) X.1 hp1 (inR_c (a := 2) rfl) dX10_border_228 (by decide) (fun hc => ?_) (fun hc => ?_)
              · have hw := hw.1 hc
                refine lv_aload_n X.1.1 X.1.2.1 dX10_border_246 rfl (lv_at hl 3 rfl) ?_
                refine lv_iload X.1.1 X.1.2.1 dX10_border_247 (lv_at hl 7 rfl) ?_
                refine pt_11_30 X hR hS (okf X.2.2.1 rfl) hp4 kw_1559 dX10_border_249 (fun H locs hR hS => ?_)
                obtain ⟨M75, e76⟩ : ∃ z : Mem, z = up M51 11 0 30 p4 := ⟨_, rfl⟩
                rw [← e76] at hR
                have hw := hw M75 e76
                exact t_X10_border_252 X hp1 hp2 hp3 hp4 _ _ hw r72 _ _ hR hS _ (lv_sub hl [0] rfl)
              · have hw := hw.2 hc
                refine lv_aload_n X.1.1 X.1.2.1 dX10_border_231 rfl (lv_at hl 3 rfl) ?_
                refine gt_11_29 X hR (okf X.2.2.1 rfl) kw_1558 dX10_border_232 ?_
                refine sa_const X.1 dX10_border_235 ?_
                refine lv_iload_n X.1.1 X.1.2.1 dX10_border_236 rfl (lv_at hl 5 rfl) ?_
                have c77 := hw.1
                have hw := hw.2
                refine sa_imul X.1 dX10_border_237 ?_
                refine lv_iload_n X.1.1 X.1.2.1 dX10_border_238 rfl (lv_at hl 6 rfl) ?_
                have c78 := hw.1
                have hw := hw.2
                refine sa_iadd X.1 dX10_border_239 ?_
                refine lv_iload X.1.1 X.1.2.1 dX10_border_240 (lv_at hl 7 rfl) ?_
                have c79 := hw.1
                have hw := hw.2
                refine wa_79 X hR hS (okf X.2.2.1 rfl) c79 hp4 dX10_border_242 (fun H locs hR hS => ?_)
                obtain ⟨M80, e81⟩ : ∃ z : Mem, z = up M51 79 0 ((4 * p2) + p3) p4 := ⟨_, rfl⟩
                rw [← e81] at hR
                have hw := hw M80 e81
                refine lv_goto (tgt := 252) X.1.1 X.1.2.1 dX10_border_243 (by decide) ?_
                exact t_X10_border_252 X hp1 hp2 hp3 hp4 _ _ hw r72 _ _ hR hS _ (lv_sub hl [0] rfl)
            · have hw := hw.2 hc
              refine lv_aload_n X.1.1 X.1.2.1 dX10_border_211 rfl (lv_at hl 3 rfl) ?_
              refine gt_11_28 X hR (okf X.2.2.1 rfl) kw_1557 dX10_border_212 ?_
              refine sa_const X.1 dX10_border_215 ?_
              refine lv_iload_n X.1.1 X.1.2.1 dX10_border_216 rfl (lv_at hl 5 rfl) ?_
              have c82 := hw.1
              have hw := hw.2
              refine sa_imul X.1 dX10_border_217 ?_
              refine lv_iload_n X.1.1 X.1.2.1 dX10_border_218 rfl (lv_at hl 6 rfl) ?_
              have c83 := hw.1
              have hw := hw.2
              refine sa_iadd X.1 dX10_border_219 ?_
              refine lv_iload X.1.1 X.1.2.1 dX10_border_220 (lv_at hl 7 rfl) ?_
              have c84 := hw.1
              have hw := hw.2
              refine wa_78 X hR hS (okf X.2.2.1 rfl) c84 hp4 dX10_border_222 (fun H locs hR hS => ?_)
              obtain ⟨M85, e86⟩ : ∃ z : Mem, z = up M51 78 0 ((4 * p2) + p3) p4 := ⟨_, rfl⟩
              rw [← e86] at hR
              have hw := hw M85 e86
              refine lv_goto (tgt := 252) X.1.1 X.1.2.1 dX10_border_223 (by decide) ?_
              exact t_X10_border_252 X hp1 hp2 hp3 hp4 _ _ hw r72 _ _ hR hS _ (lv_sub hl [0] rfl)
          · have hw := hw.2 hc
            refine lv_aload_n X.1.1 X.1.2.1 dX10_border_191 rfl (lv_at hl 3 rfl) ?_
            refine gt_11_27 X hR (okf X.2.2.1 rfl) kw_1556 dX10_border_192 ?_
            refine sa_const X.1 dX10_border_195 ?_
            refine lv_iload_n X.1.1 X.1.2.1 dX10_border_196 rfl (lv_at hl 5 rfl) ?_
            have c87 := hw.1
            have hw := hw.2
            refine sa_imul X.1 dX10_border_197 ?_
            refine lv_iload_n X.1.1 X.1.2.1 dX10_border_198 rfl (lv_at hl 6 rfl) ?_
            have c88 := hw.1
            have hw := hw.2
            refine sa_iadd X.1 dX10_border_199 ?_
            refine lv_iload X.1.1 X.1.2.1 dX10_border_200 (lv_at hl 7 rfl) ?_
            have c89 := hw.1
            have hw := hw.2
            refine wa_77 X hR hS (okf X.2.2.1 rfl) c89 hp4 dX10_border_202 (fun H locs hR hS => ?_)
            obtain ⟨M90, e91⟩ : ∃ z : Mem, z = up M51 77 0 ((4 * p2) + p3) p4 := ⟨_, rfl⟩
            rw [← e91] at hR
            have hw := hw M90 e91
            refine lv_goto (tgt := 252) X.1.1 X.1.2.1 dX10_border_203 (by decide) ?_
            exact t_X10_border_252 X hp1 hp2 hp3 hp4 _ _ hw r72 _ _ hR hS _ (lv_sub hl [0] rfl)
        · have hw := hw.2 hc
          refine sa_const X.1 dX10_border_126 ?_
          exact sa_iret X.1 X.2.2.2.1 X.2.2.2.2 hR hS (inR_c (a := 0) rfl) hw dX10_border_127
      · have hw := hw.2 hc
        refine lv_aload_n X.1.1 X.1.2.1 dX10_border_88 rfl (lv_at hl 1 rfl) ?_
        refine lv_iload_n X.1.1 X.1.2.1 dX10_border_89 rfl (lv_at hl 3 rfl) ?_
        refine cs_X10_isRow X hp2 (kc := 2) rmL_ok rm_c (by decide) hR hS kw_1733 hl.1 dX10_border_90 (Nat.le_of_ble_eq_true rfl) hw (fun x93 M92 H locs hw r94 hR hS => ?_)
        have r95 := inR_ite (c := x93 = 0) (inR_c (a := 0) rfl) (inR_c (a := 1) rfl)
        refine cut_j (A := ∀ v96 : Int, v96 = (if x93 = 0 then (0 : Int) else 1) → WI p l e 2 s m args below meth c G e0 α κ B Qm H locs 112 ls [.int (Int32.ofInt v96)]) (fun J97 => ?_) ?_
        · refine sa_if_eq (tgt := 111) X.1 r94 dX10_border_93 (by decide) (fun hc => ?_) (fun hc => ?_)
          · skip
            refine sa_const X.1 dX10_border_111 ?_
            exact J97 (0) (if_pos (c := x93 = 0) hc).symm
          · skip
            refine lv_goto (tgt := 107) X.1.1 X.1.2.1 dX10_border_96 (by decide) ?_
            refine sa_const X.1 dX10_border_107 ?_
            refine lv_goto (tgt := 112) X.1.1 X.1.2.1 dX10_border_108 (by decide) ?_
            exact J97 (1) (if_neg (c := x93 = 0) hc).symm
        intro v96 hv96
        subst hv96
        refine lv_istore (lv' := [(6, .int (Int32.ofInt (if x93 = 0 then (0 : Int) else 1))), (5, .int (Int32.ofInt 0)), (0, .ref (α 11 0)), (1, .int (Int32.ofInt p1)), (2, .int (Int32.ofInt p2)), (3, .int (Int32.ofInt p3)), (4, .int (Int32.ofInt p4))]) X.1.1 X.1.2.1 dX10_border_112 hl (by decide) rfl (fun ls hl => ?_)
        refine lv_aload_n X.1.1 X.1.2.1 dX10_border_114 rfl (lv_at hl 2 rfl) ?_
        refine lv_iload X.1.1 X.1.2.1 dX10_border_115 (lv_at hl 1 rfl) ?_
        refine lv_iload X.1.1 X.1.2.1 dX10_border_117 (lv_at hl 0 rfl) ?_
        refine sa_const X.1 dX10_border_119 ?_
        refine cs_X10_goes X (inR_c (a := 0) rfl) r95 (inR_c (a := 1) rfl) (kc := 2) rmL_ok rm_c (by decide) hR hS kw_1721 hl.1 dX10_border_120 (Nat.le_of_ble_eq_true rfl) hw (fun x99 M98 H locs hw r100 hR hS => ?_)
        refine sa_if_ne (tgt := 128) X.1 r100 dX10_border_123 (by decide) (fun hc => ?_) (fun hc => ?_)
        · have hw := hw.1 hc
          refine lv_iload_n X.1.1 X.1.2.1 dX10_border_128 rfl (lv_at hl 3 rfl) ?_
          have s117 := hw.1
          have hw := hw.2
          have s118 := hw.1
          have hw := hw.2
          have r119 := inR_ite (c := ¬ p1 = 0) (inR_ite (c := ¬ p1 = 1) (inR_ite (c := ¬ p1 = 2) (hR.r 11 0 30) (hR.r 79 0 ((4 * p2) + p3))) (hR.r 78 0 ((4 * p2) + p3))) (hR.r 77 0 ((4 * p2) + p3))
          refine cut_j (A := ∀ v120 : Int, v120 = (if ¬ p1 = 0 then (if ¬ p1 = 1 then (if ¬ p1 = 2 then (M98 11 0 30) else (M98 79 0 ((4 * p2) + p3))) else (M98 78 0 ((4 * p2) + p3))) else (M98 77 0 ((4 * p2) + p3))) → WI p l e 2 s m args below meth c G e0 α κ B Qm H locs 185 ls [.int (Int32.ofInt v120)]) (fun J121 => ?_) ?_
          · refine sa_if_ne (tgt := 145) X.1 hp1 dX10_border_129 (by decide) (fun hc => ?_) (fun hc => ?_)
            · have hw := s117 hc
              refine lv_iload_n X.1.1 X.1.2.1 dX10_border_145 rfl (lv_at hl 3 rfl) ?_
              refine sa_const X.1 dX10_border_146 ?_
              have s110 := hw.1
              have hw := hw.2
              have s111 := hw.1
              have hw := hw.2
              refine cut_j (A := ∀ v112 : Int, v112 = (if ¬ p1 = 1 then (if ¬ p1 = 2 then (M98 11 0 30) else (M98 79 0 ((4 * p2) + p3))) else (M98 78 0 ((4 * p2) + p3))) → WI p l e 2 s m args below meth c G e0 α κ B Qm H locs 185 ls [.int (Int32.ofInt v112)]) (fun J113 => ?_) ?_
              · refine sa_icmp_ne (tgt := 163) X.1 hp1 (inR_c (a := 1) rfl) dX10_border_147 (by decide) (fun hc => ?_) (fun hc => ?_)
                · have hw := s110 hc
                  refine lv_iload_n X.1.1 X.1.2.1 dX10_border_163 rfl (lv_at hl 3 rfl) ?_
                  refine sa_const X.1 dX10_border_164 ?_
                  have s104 := hw.1
                  have hw := hw.2
                  refine cut_j (A := ∀ v105 : Int, v105 = (if ¬ p1 = 2 then (M98 11 0 30) else (M98 79 0 ((4 * p2) + p3))) → WI p l e 2 s m args below meth c G e0 α κ B Qm H locs 185 ls [.int (Int32.ofInt v105)]) (fun J106 => ?_) ?_
                  · refine sa_icmp_ne (tgt := 181) X.1 hp1 (inR_c (a := 2) rfl) dX10_border_165 (by decide) (fun hc => ?_) (fun hc => ?_)
                    · skip
                      refine lv_aload_n X.1.1 X.1.2.1 dX10_border_181 rfl (lv_at hl 2 rfl) ?_
                      refine gt_11_30 X hR (okf X.2.2.1 rfl) kw_1559 dX10_border_182 ?_
                      exact J106 ((M98 11 0 30)) (if_pos (c := ¬ p1 = 2) hc).symm
                    · have hw := s104 hc
                      refine lv_aload_n X.1.1 X.1.2.1 dX10_border_168 rfl (lv_at hl 2 rfl) ?_
                      refine gt_11_29 X hR (okf X.2.2.1 rfl) kw_1558 dX10_border_169 ?_
                      refine sa_const X.1 dX10_border_172 ?_
                      refine lv_iload_n X.1.1 X.1.2.1 dX10_border_173 rfl (lv_at hl 4 rfl) ?_
                      have c101 := hw.1
                      have hw := hw.2
                      refine sa_imul X.1 dX10_border_174 ?_
                      refine lv_iload_n X.1.1 X.1.2.1 dX10_border_175 rfl (lv_at hl 5 rfl) ?_
                      have c102 := hw.1
                      have hw := hw.2
                      refine sa_iadd X.1 dX10_border_176 ?_
                      have c103 := hw.1
                      have hw := hw.2
                      refine ra_79 X hR (okf X.2.2.1 rfl) c103 dX10_border_177 ?_
                      refine lv_goto (tgt := 185) X.1.1 X.1.2.1 dX10_border_178 (by decide) ?_
                      exact J106 ((M98 79 0 ((4 * p2) + p3))) (if_neg (c := ¬ p1 = 2) (fun z => z hc)).symm
                  intro v105 hv105
                  subst hv105
                  exact J113 ((if ¬ p1 = 2 then (M98 11 0 30) else (M98 79 0 ((4 * p2) + p3)))) (if_pos (c := ¬ p1 = 1) hc).symm
                · have hw := s111 hc
                  refine lv_aload_n X.1.1 X.1.2.1 dX10_border_150 rfl (lv_at hl 2 rfl) ?_
                  refine gt_11_28 X hR (okf X.2.2.1 rfl) kw_1557 dX10_border_151 ?_
                  refine sa_const X.1 dX10_border_154 ?_
                  refine lv_iload_n X.1.1 X.1.2.1 dX10_border_155 rfl (lv_at hl 4 rfl) ?_
                  have c107 := hw.1
                  have hw := hw.2
                  refine sa_imul X.1 dX10_border_156 ?_
                  refine lv_iload_n X.1.1 X.1.2.1 dX10_border_157 rfl (lv_at hl 5 rfl) ?_
                  have c108 := hw.1
                  have hw := hw.2
                  refine sa_iadd X.1 dX10_border_158 ?_
                  have c109 := hw.1
                  have hw := hw.2
                  refine ra_78 X hR (okf X.2.2.1 rfl) c109 dX10_border_159 ?_
                  refine lv_goto (tgt := 185) X.1.1 X.1.2.1 dX10_border_160 (by decide) ?_
                  exact J113 ((M98 78 0 ((4 * p2) + p3))) (if_neg (c := ¬ p1 = 1) (fun z => z hc)).symm
              intro v112 hv112
              subst hv112
              exact J121 ((if ¬ p1 = 1 then (if ¬ p1 = 2 then (M98 11 0 30) else (M98 79 0 ((4 * p2) + p3))) else (M98 78 0 ((4 * p2) + p3)))) (if_pos (c := ¬ p1 = 0) hc).symm
            · have hw := s118 hc
              refine lv_aload_n X.1.1 X.1.2.1 dX10_border_132 rfl (lv_at hl 2 rfl) ?_
              refine gt_11_27 X hR (okf X.2.2.1 rfl) kw_1556 dX10_border_133 ?_
              refine sa_const X.1 dX10_border_136 ?_
              refine lv_iload_n X.1.1 X.1.2.1 dX10_border_137 rfl (lv_at hl 4 rfl) ?_
              have c114 := hw.1
              have hw := hw.2
              refine sa_imul X.1 dX10_border_138 ?_
              refine lv_iload_n X.1.1 X.1.2.1 dX10_border_139 rfl (lv_at hl 5 rfl) ?_
              have c115 := hw.1
              have hw := hw.2
              refine sa_iadd X.1 dX10_border_140 ?_
              have c116 := hw.1
              have hw := hw.2
              refine ra_77 X hR (okf X.2.2.1 rfl) c116 dX10_border_141 ?_
              refine lv_goto (tgt := 185) X.1.1 X.1.2.1 dX10_border_142 (by decide) ?_
              exact J121 ((M98 77 0 ((4 * p2) + p3))) (if_neg (c := ¬ p1 = 0) (fun z => z hc)).symm
          intro v120 hv120
          subst hv120
          refine lv_istore (lv' := [(7, .int (Int32.ofInt (if ¬ p1 = 0 then (if ¬ p1 = 1 then (if ¬ p1 = 2 then (M98 11 0 30) else (M98 79 0 ((4 * p2) + p3))) else (M98 78 0 ((4 * p2) + p3))) else (M98 77 0 ((4 * p2) + p3))))), (6, .int (Int32.ofInt (if x93 = 0 then (0 : Int) else 1))), (5, .int (Int32.ofInt 0)), (0, .ref (α 11 0)), (1, .int (Int32.ofInt p1)), (2, .int (Int32.ofInt p2)), (3, .int (Int32.ofInt p3)), (4, .int (Int32.ofInt p4))]) X.1.1 X.1.2.1 dX10_border_185 hl (by decide) rfl (fun ls hl => ?_)
          refine lv_iload_n X.1.1 X.1.2.1 dX10_border_187 rfl (lv_at hl 4 rfl) ?_
          refine sa_if_ne (tgt := 206) X.1 hp1 dX10_border_188 (by decide) (fun hc => ?_) (fun hc => ?_)
          · have hw := hw.1 hc
            refine lv_iload_n X.1.1 X.1.2.1 dX10_border_206 rfl (lv_at hl 4 rfl) ?_
            refine sa_const X.1 dX10_border_207 ?_
            refine sa_icmp_ne (tgt := 226) X.1 hp1 (inR_c (a := 1) rfl) dX10_border_208 (by decide) (fun hc => ?_) (fun hc => ?_)
            · have hw := hw.1 hc
              refine lv_iload_n X.1.1 X.1.2.1 dX10_border_226 rfl (lv_at hl 4 rfl) ?_
              refine sa_const X.1 dX10_border_227 ?_
              refine sa_icmp_ne (tgt := 246) X.1 hp1 (inR_c (a := 2) rfl) dX10_border_228 (by decide) (fun hc => ?_) (fun hc => ?_)
              · have hw := hw.1 hc
                refine lv_aload_n X.1.1 X.1.2.1 dX10_border_246 rfl (lv_at hl 3 rfl) ?_
                refine lv_iload X.1.1 X.1.2.1 dX10_border_247 (lv_at hl 7 rfl) ?_
                refine pt_11_30 X hR hS (okf X.2.2.1 rfl) hp4 kw_1559 dX10_border_249 (fun H locs hR hS => ?_)
                obtain ⟨M122, e123⟩ : ∃ z : Mem, z = up M98 11 0 30 p4 := ⟨_, rfl⟩
                rw [← e123] at hR
                have hw := hw M122 e123
                exact t_X10_border_252 X hp1 hp2 hp3 hp4 _ _ hw r119 _ _ hR hS _ (lv_sub hl [0] rfl)
              · have hw := hw.2 hc
                refine lv_aload_n X.1.1 X.1.2.1 dX10_border_231 rfl (lv_at hl 3 rfl) ?_
                refine gt_11_29 X hR (okf X.2.2.1 rfl) kw_1558 dX10_border_232 ?_
                refine sa_const X.1 dX10_border_235 ?_
                refine lv_iload_n X.1.1 X.1.2.1 dX10_border_236 rfl (lv_at hl 5 rfl) ?_
                have c124 := hw.1
                have hw := hw.2
                refine sa_imul X.1 dX10_border_237 ?_
                refine lv_iload_n X.1.1 X.1.2.1 dX10_border_238 rfl (lv_at hl 6 rfl) ?_
                have c125 := hw.1
                have hw := hw.2
                refine sa_iadd X.1 dX10_border_239 ?_
                refine lv_iload X.1.1 X.1.2.1 dX10_border_240 (lv_at hl 7 rfl) ?_
                have c126 := hw.1
                have hw := hw.2
                refine wa_79 X hR hS (okf X.2.2.1 rfl) c126 hp4 dX10_border_242 (fun H locs hR hS => ?_)
                obtain ⟨M127, e128⟩ : ∃ z : Mem, z = up M98 79 0 ((4 * p2) + p3) p4 := ⟨_, rfl⟩
                rw [← e128] at hR
                have hw := hw M127 e128
                refine lv_goto (tgt := 252) X.1.1 X.1.2.1 dX10_border_243 (by decide) ?_
                exact t_X10_border_252 X hp1 hp2 hp3 hp4 _ _ hw r119 _ _ hR hS _ (lv_sub hl [0] rfl)
            · have hw := hw.2 hc
              refine lv_aload_n X.1.1 X.1.2.1 dX10_border_211 rfl (lv_at hl 3 rfl) ?_
              refine gt_11_28 X hR (okf X.2.2.1 rfl) kw_1557 dX10_border_212 ?_
              refine sa_const X.1 dX10_border_215 ?_
              refine lv_iload_n X.1.1 X.1.2.1 dX10_border_216 rfl (lv_at hl 5 rfl) ?_
              have c129 := hw.1
              have hw := hw.2
              refine sa_imul X.1 dX10_border_217 ?_
              refine lv_iload_n X.1.1 X.1.2.1 dX10_border_218 rfl (lv_at hl 6 rfl) ?_
              have c130 := hw.1
              have hw := hw.2
              refine sa_iadd X.1 dX10_border_219 ?_
              refine lv_iload X.1.1 X.1.2.1 dX10_border_220 (lv_at hl 7 rfl) ?_
              have c131 := hw.1
              have hw := hw.2
              refine wa_78 X hR hS (okf X.2.2.1 rfl) c131 hp4 dX10_border_222 (fun H locs hR hS => ?_)
              obtain ⟨M132, e133⟩ : ∃ z : Mem, z = up M98 78 0 ((4 * p2) + p3) p4 := ⟨_, rfl⟩
              rw [← e133] at hR
              have hw := hw M132 e133
              refine lv_goto (tgt := 252) X.1.1 X.1.2.1 dX10_border_223 (by decide) ?_
              exact t_X10_border_252 X hp1 hp2 hp3 hp4 _ _ hw r119 _ _ hR hS _ (lv_sub hl [0] rfl)
          · have hw := hw.2 hc
            refine lv_aload_n X.1.1 X.1.2.1 dX10_border_191 rfl (lv_at hl 3 rfl) ?_
            refine gt_11_27 X hR (okf X.2.2.1 rfl) kw_1556 dX10_border_192 ?_
            refine sa_const X.1 dX10_border_195 ?_
            refine lv_iload_n X.1.1 X.1.2.1 dX10_border_196 rfl (lv_at hl 5 rfl) ?_
            have c134 := hw.1
            have hw := hw.2
            refine sa_imul X.1 dX10_border_197 ?_
            refine lv_iload_n X.1.1 X.1.2.1 dX10_border_198 rfl (lv_at hl 6 rfl) ?_
            have c135 := hw.1
            have hw := hw.2
            refine sa_iadd X.1 dX10_border_199 ?_
            refine lv_iload X.1.1 X.1.2.1 dX10_border_200 (lv_at hl 7 rfl) ?_
            have c136 := hw.1
            have hw := hw.2
            refine wa_77 X hR hS (okf X.2.2.1 rfl) c136 hp4 dX10_border_202 (fun H locs hR hS => ?_)
            obtain ⟨M137, e138⟩ : ∃ z : Mem, z = up M98 77 0 ((4 * p2) + p3) p4 := ⟨_, rfl⟩
            rw [← e138] at hR
            have hw := hw M137 e138
            refine lv_goto (tgt := 252) X.1.1 X.1.2.1 dX10_border_203 (by decide) ?_
            exact t_X10_border_252 X hp1 hp2 hp3 hp4 _ _ hw r119 _ _ hR hS _ (lv_sub hl [0] rfl)
        · have hw := hw.2 hc
          refine sa_const X.1 dX10_border_126 ?_
          exact sa_iret X.1 X.2.2.2.1 X.2.2.2.2 hR hS (inR_c (a := 0) rfl) hw dX10_border_127
    · have hw := hw.2 hc
      refine lv_aload_n X.1.1 X.1.2.1 dX10_border_72 rfl (lv_at hl 1 rfl) ?_
      refine lv_iload_n X.1.1 X.1.2.1 dX10_border_73 rfl (lv_at hl 3 rfl) ?_
      refine cs_X10_isCell X hp2 (kc := 2) rmL_ok rm_c (by decide) hR hS kw_1753 hl.1 dX10_border_74 (Nat.le_of_ble_eq_true rfl) hw (fun x140 M139 H locs hw r141 hR hS => ?_)
      have r142 := inR_ite (c := x140 = 0) (inR_c (a := 0) rfl) (inR_c (a := 1) rfl)
      refine cut_j (A := ∀ v143 : Int, v143 = (if x140 = 0 then (0 : Int) else 1) → WI p l e 2 s m args below meth c G e0 α κ B Qm H locs 112 ls [.int (Int32.ofInt v143)]) (fun J144 => ?_) ?_
      · refine sa_if_eq (tgt := 111) X.1 r141 dX10_border_77 (by decide) (fun hc => ?_) (fun hc => ?_)
        · skip
          refine sa_const X.1 dX10_border_111 ?_
          exact J144 (0) (if_pos (c := x140 = 0) hc).symm
        · skip
          refine lv_goto (tgt := 107) X.1.1 X.1.2.1 dX10_border_80 (by decide) ?_
          refine sa_const X.1 dX10_border_107 ?_
          refine lv_goto (tgt := 112) X.1.1 X.1.2.1 dX10_border_108 (by decide) ?_
          exact J144 (1) (if_neg (c := x140 = 0) hc).symm
      intro v143 hv143
      subst hv143
      refine lv_istore (lv' := [(6, .int (Int32.ofInt (if x140 = 0 then (0 : Int) else 1))), (5, .int (Int32.ofInt 0)), (0, .ref (α 11 0)), (1, .int (Int32.ofInt p1)), (2, .int (Int32.ofInt p2)), (3, .int (Int32.ofInt p3)), (4, .int (Int32.ofInt p4))]) X.1.1 X.1.2.1 dX10_border_112 hl (by decide) rfl (fun ls hl => ?_)
      refine lv_aload_n X.1.1 X.1.2.1 dX10_border_114 rfl (lv_at hl 2 rfl) ?_
      refine lv_iload X.1.1 X.1.2.1 dX10_border_115 (lv_at hl 1 rfl) ?_
      refine lv_iload X.1.1 X.1.2.1 dX10_border_117 (lv_at hl 0 rfl) ?_
      refine sa_const X.1 dX10_border_119 ?_
      refine cs_X10_goes X (inR_c (a := 0) rfl) r142 (inR_c (a := 1) rfl) (kc := 2) rmL_ok rm_c (by decide) hR hS kw_1721 hl.1 dX10_border_120 (Nat.le_of_ble_eq_true rfl) hw (fun x146 M145 H locs hw r147 hR hS => ?_)
      refine sa_if_ne (tgt := 128) X.1 r147 dX10_border_123 (by decide) (fun hc => ?_) (fun hc => ?_)
      · have hw := hw.1 hc
        refine lv_iload_n X.1.1 X.1.2.1 dX10_border_128 rfl (lv_at hl 3 rfl) ?_
        have s164 := hw.1
        have hw := hw.2
        have s165 := hw.1
        have hw := hw.2
        have r166 := inR_ite (c := ¬ p1 = 0) (inR_ite (c := ¬ p1 = 1) (inR_ite (c := ¬ p1 = 2) (hR.r 11 0 30) (hR.r 79 0 ((4 * p2) + p3))) (hR.r 78 0 ((4 * p2) + p3))) (hR.r 77 0 ((4 * p2) + p3))
        refine cut_j (A := ∀ v167 : Int, v167 = (if ¬ p1 = 0 then (if ¬ p1 = 1 then (if ¬ p1 = 2 then (M145 11 0 30) else (M145 79 0 ((4 * p2) + p3))) else (M145 78 0 ((4 * p2) + p3))) else (M145 77 0 ((4 * p2) + p3))) → WI p l e 2 s m args below meth c G e0 α κ B Qm H locs 185 ls [.int (Int32.ofInt v167)]) (fun J168 => ?_) ?_
        · refine sa_if_ne (tgt := 145) X.1 hp1 dX10_border_129 (by decide) (fun hc => ?_) (fun hc => ?_)
          · have hw := s164 hc
            refine lv_iload_n X.1.1 X.1.2.1 dX10_border_145 rfl (lv_at hl 3 rfl) ?_
            refine sa_const X.1 dX10_border_146 ?_
            have s157 := hw.1
            have hw := hw.2
            have s158 := hw.1
            have hw := hw.2
            refine cut_j (A := ∀ v159 : Int, v159 = (if ¬ p1 = 1 then (if ¬ p1 = 2 then (M145 11 0 30) else (M145 79 0 ((4 * p2) + p3))) else (M145 78 0 ((4 * p2) + p3))) → WI p l e 2 s m args below meth c G e0 α κ B Qm H locs 185 ls [.int (Int32.ofInt v159)]) (fun J160 => ?_) ?_
            · refine sa_icmp_ne (tgt := 163) X.1 hp1 (inR_c (a := 1) rfl) dX10_border_147 (by decide) (fun hc => ?_) (fun hc => ?_)
              · have hw := s157 hc
                refine lv_iload_n X.1.1 X.1.2.1 dX10_border_163 rfl (lv_at hl 3 rfl) ?_
                refine sa_const X.1 dX10_border_164 ?_
                have s151 := hw.1
                have hw := hw.2
                refine cut_j (A := ∀ v152 : Int, v152 = (if ¬ p1 = 2 then (M145 11 0 30) else (M145 79 0 ((4 * p2) + p3))) → WI p l e 2 s m args below meth c G e0 α κ B Qm H locs 185 ls [.int (Int32.ofInt v152)]) (fun J153 => ?_) ?_
                · refine sa_icmp_ne (tgt := 181) X.1 hp1 (inR_c (a := 2) rfl) dX10_border_165 (by decide) (fun hc => ?_) (fun hc => ?_)
                  · skip
                    refine lv_aload_n X.1.1 X.1.2.1 dX10_border_181 rfl (lv_at hl 2 rfl) ?_
                    refine gt_11_30 X hR (okf X.2.2.1 rfl) kw_1559 dX10_border_182 ?_
                    exact J153 ((M145 11 0 30)) (if_pos (c := ¬ p1 = 2) hc).symm
                  · have hw := s151 hc
                    refine lv_aload_n X.1.1 X.1.2.1 dX10_border_168 rfl (lv_at hl 2 rfl) ?_
                    refine gt_11_29 X hR (okf X.2.2.1 rfl) kw_1558 dX10_border_169 ?_
                    refine sa_const X.1 dX10_border_172 ?_
                    refine lv_iload_n X.1.1 X.1.2.1 dX10_border_173 rfl (lv_at hl 4 rfl) ?_
                    have c148 := hw.1
                    have hw := hw.2
                    refine sa_imul X.1 dX10_border_174 ?_
                    refine lv_iload_n X.1.1 X.1.2.1 dX10_border_175 rfl (lv_at hl 5 rfl) ?_
                    have c149 := hw.1
                    have hw := hw.2
                    refine sa_iadd X.1 dX10_border_176 ?_
                    have c150 := hw.1
                    have hw := hw.2
                    refine ra_79 X hR (okf X.2.2.1 rfl) c150 dX10_border_177 ?_
                    refine lv_goto (tgt := 185) X.1.1 X.1.2.1 dX10_border_178 (by decide) ?_
                    exact J153 ((M145 79 0 ((4 * p2) + p3))) (if_neg (c := ¬ p1 = 2) (fun z => z hc)).symm
                intro v152 hv152
                subst hv152
                exact J160 ((if ¬ p1 = 2 then (M145 11 0 30) else (M145 79 0 ((4 * p2) + p3)))) (if_pos (c := ¬ p1 = 1) hc).symm
              · have hw := s158 hc
                refine lv_aload_n X.1.1 X.1.2.1 dX10_border_150 rfl (lv_at hl 2 rfl) ?_
                refine gt_11_28 X hR (okf X.2.2.1 rfl) kw_1557 dX10_border_151 ?_
                refine sa_const X.1 dX10_border_154 ?_
                refine lv_iload_n X.1.1 X.1.2.1 dX10_border_155 rfl (lv_at hl 4 rfl) ?_
                have c154 := hw.1
                have hw := hw.2
                refine sa_imul X.1 dX10_border_156 ?_
                refine lv_iload_n X.1.1 X.1.2.1 dX10_border_157 rfl (lv_at hl 5 rfl) ?_
                have c155 := hw.1
                have hw := hw.2
                refine sa_iadd X.1 dX10_border_158 ?_
                have c156 := hw.1
                have hw := hw.2
                refine ra_78 X hR (okf X.2.2.1 rfl) c156 dX10_border_159 ?_
                refine lv_goto (tgt := 185) X.1.1 X.1.2.1 dX10_border_160 (by decide) ?_
                exact J160 ((M145 78 0 ((4 * p2) + p3))) (if_neg (c := ¬ p1 = 1) (fun z => z hc)).symm
            intro v159 hv159
            subst hv159
            exact J168 ((if ¬ p1 = 1 then (if ¬ p1 = 2 then (M145 11 0 30) else (M145 79 0 ((4 * p2) + p3))) else (M145 78 0 ((4 * p2) + p3)))) (if_pos (c := ¬ p1 = 0) hc).symm
          · have hw := s165 hc
            refine lv_aload_n X.1.1 X.1.2.1 dX10_border_132 rfl (lv_at hl 2 rfl) ?_
            refine gt_11_27 X hR (okf X.2.2.1 rfl) kw_1556 dX10_border_133 ?_
            refine sa_const X.1 dX10_border_136 ?_
            refine lv_iload_n X.1.1 X.1.2.1 dX10_border_137 rfl (lv_at hl 4 rfl) ?_
            have c161 := hw.1
            have hw := hw.2
            refine sa_imul X.1 dX10_border_138 ?_
            refine lv_iload_n X.1.1 X.1.2.1 dX10_border_139 rfl (lv_at hl 5 rfl) ?_
            have c162 := hw.1
            have hw := hw.2
            refine sa_iadd X.1 dX10_border_140 ?_
            have c163 := hw.1
            have hw := hw.2
            refine ra_77 X hR (okf X.2.2.1 rfl) c163 dX10_border_141 ?_
            refine lv_goto (tgt := 185) X.1.1 X.1.2.1 dX10_border_142 (by decide) ?_
            exact J168 ((M145 77 0 ((4 * p2) + p3))) (if_neg (c := ¬ p1 = 0) (fun z => z hc)).symm
        intro v167 hv167
        subst hv167
        refine lv_istore (lv' := [(7, .int (Int32.ofInt (if ¬ p1 = 0 then (if ¬ p1 = 1 then (if ¬ p1 = 2 then (M145 11 0 30) else (M145 79 0 ((4 * p2) + p3))) else (M145 78 0 ((4 * p2) + p3))) else (M145 77 0 ((4 * p2) + p3))))), (6, .int (Int32.ofInt (if x140 = 0 then (0 : Int) else 1))), (5, .int (Int32.ofInt 0)), (0, .ref (α 11 0)), (1, .int (Int32.ofInt p1)), (2, .int (Int32.ofInt p2)), (3, .int (Int32.ofInt p3)), (4, .int (Int32.ofInt p4))]) X.1.1 X.1.2.1 dX10_border_185 hl (by decide) rfl (fun ls hl => ?_)
        refine lv_iload_n X.1.1 X.1.2.1 dX10_border_187 rfl (lv_at hl 4 rfl) ?_
        refine sa_if_ne (tgt := 206) X.1 hp1 dX10_border_188 (by decide) (fun hc => ?_) (fun hc => ?_)
        · have hw := hw.1 hc
          refine lv_iload_n X.1.1 X.1.2.1 dX10_border_206 rfl (lv_at hl 4 rfl) ?_
          refine sa_const X.1 dX10_border_207 ?_
          refine sa_icmp_ne (tgt := 226) X.1 hp1 (inR_c (a := 1) rfl) dX10_border_208 (by decide) (fun hc => ?_) (fun hc => ?_)
          · have hw := hw.1 hc
            refine lv_iload_n X.1.1 X.1.2.1 dX10_border_226 rfl (lv_at hl 4 rfl) ?_
            refine sa_const X.1 dX10_border_227 ?_
            refine sa_icmp_ne (tgt := 246) X.1 hp1 (inR_c (a := 2) rfl) dX10_border_228 (by decide) (fun hc => ?_) (fun hc => ?_)
            · have hw := hw.1 hc
              refine lv_aload_n X.1.1 X.1.2.1 dX10_border_246 rfl (lv_at hl 3 rfl) ?_
              refine lv_iload X.1.1 X.1.2.1 dX10_border_247 (lv_at hl 7 rfl) ?_
              refine pt_11_30 X hR hS (okf X.2.2.1 rfl) hp4 kw_1559 dX10_border_249 (fun H locs hR hS => ?_)
              obtain ⟨M169, e170⟩ : ∃ z : Mem, z = up M145 11 0 30 p4 := ⟨_, rfl⟩
              rw [← e170] at hR
              have hw := hw M169 e170
              exact t_X10_border_252 X hp1 hp2 hp3 hp4 _ _ hw r166 _ _ hR hS _ (lv_sub hl [0] rfl)
            · have hw := hw.2 hc
              refine lv_aload_n X.1.1 X.1.2.1 dX10_border_231 rfl (lv_at hl 3 rfl) ?_
              refine gt_11_29 X hR (okf X.2.2.1 rfl) kw_1558 dX10_border_232 ?_
              refine sa_const X.1 dX10_border_235 ?_
              refine lv_iload_n X.1.1 X.1.2.1 dX10_border_236 rfl (lv_at hl 5 rfl) ?_
              have c171 := hw.1
              have hw := hw.2
              refine sa_imul X.1 dX10_border_237 ?_
              refine lv_iload_n X.1.1 X.1.2.1 dX10_border_238 rfl (lv_at hl 6 rfl) ?_
              have c172 := hw.1
              have hw := hw.2
              refine sa_iadd X.1 dX10_border_239 ?_
              refine lv_iload X.1.1 X.1.2.1 dX10_border_240 (lv_at hl 7 rfl) ?_
              have c173 := hw.1
              have hw := hw.2
              refine wa_79 X hR hS (okf X.2.2.1 rfl) c173 hp4 dX10_border_242 (fun H locs hR hS => ?_)
              obtain ⟨M174, e175⟩ : ∃ z : Mem, z = up M145 79 0 ((4 * p2) + p3) p4 := ⟨_, rfl⟩
              rw [← e175] at hR
              have hw := hw M174 e175
              refine lv_goto (tgt := 252) X.1.1 X.1.2.1 dX10_border_243 (by decide) ?_
              exact t_X10_border_252 X hp1 hp2 hp3 hp4 _ _ hw r166 _ _ hR hS _ (lv_sub hl [0] rfl)
          · have hw := hw.2 hc
            refine lv_aload_n X.1.1 X.1.2.1 dX10_border_211 rfl (lv_at hl 3 rfl) ?_
            refine gt_11_28 X hR (okf X.2.2.1 rfl) kw_1557 dX10_border_212 ?_
            refine sa_const X.1 dX10_border_215 ?_
            refine lv_iload_n X.1.1 X.1.2.1 dX10_border_216 rfl (lv_at hl 5 rfl) ?_
            have c176 := hw.1
            have hw := hw.2
            refine sa_imul X.1 dX10_border_217 ?_
            refine lv_iload_n X.1.1 X.1.2.1 dX10_border_218 rfl (lv_at hl 6 rfl) ?_
            have c177 := hw.1
            have hw := hw.2
            refine sa_iadd X.1 dX10_border_219 ?_
            refine lv_iload X.1.1 X.1.2.1 dX10_border_220 (lv_at hl 7 rfl) ?_
            have c178 := hw.1
            have hw := hw.2
            refine wa_78 X hR hS (okf X.2.2.1 rfl) c178 hp4 dX10_border_222 (fun H locs hR hS => ?_)
            obtain ⟨M179, e180⟩ : ∃ z : Mem, z = up M145 78 0 ((4 * p2) + p3) p4 := ⟨_, rfl⟩
            rw [← e180] at hR
            have hw := hw M179 e180
            refine lv_goto (tgt := 252) X.1.1 X.1.2.1 dX10_border_223 (by decide) ?_
            exact t_X10_border_252 X hp1 hp2 hp3 hp4 _ _ hw r166 _ _ hR hS _ (lv_sub hl [0] rfl)
        · have hw := hw.2 hc
          refine lv_aload_n X.1.1 X.1.2.1 dX10_border_191 rfl (lv_at hl 3 rfl) ?_
          refine gt_11_27 X hR (okf X.2.2.1 rfl) kw_1556 dX10_border_192 ?_
          refine sa_const X.1 dX10_border_195 ?_
          refine lv_iload_n X.1.1 X.1.2.1 dX10_border_196 rfl (lv_at hl 5 rfl) ?_
          have c181 := hw.1
          have hw := hw.2
          refine sa_imul X.1 dX10_border_197 ?_
          refine lv_iload_n X.1.1 X.1.2.1 dX10_border_198 rfl (lv_at hl 6 rfl) ?_
          have c182 := hw.1
          have hw := hw.2
          refine sa_iadd X.1 dX10_border_199 ?_
          refine lv_iload X.1.1 X.1.2.1 dX10_border_200 (lv_at hl 7 rfl) ?_
          have c183 := hw.1
          have hw := hw.2
          refine wa_77 X hR hS (okf X.2.2.1 rfl) c183 hp4 dX10_border_202 (fun H locs hR hS => ?_)
          obtain ⟨M184, e185⟩ : ∃ z : Mem, z = up M145 77 0 ((4 * p2) + p3) p4 := ⟨_, rfl⟩
          rw [← e185] at hR
          have hw := hw M184 e185
          refine lv_goto (tgt := 252) X.1.1 X.1.2.1 dX10_border_203 (by decide) ?_
          exact t_X10_border_252 X hp1 hp2 hp3 hp4 _ _ hw r166 _ _ hR hS _ (lv_sub hl [0] rfl)
      · have hw := hw.2 hc
        refine sa_const X.1 dX10_border_126 ?_
        exact sa_iret X.1 X.2.2.2.1 X.2.2.2.2 hR hS (inR_c (a := 0) rfl) hw dX10_border_127
set_option maxHeartbeats 4000000 in
set_option maxRecDepth 100000 in
theorem t_X10_border_56 {p1 : Int} {p2 : Int} {p3 : Int} {p4 : Int} (X : CX p m c cX10_border 8 s args RX10 G B κ meth (some .int)) (hp1 : inR p1) (hp2 : inR p2) (hp3 : inR p3) (hp4 : inR p4) {Qm : Int → Mem → Prop} : ∀ M : Mem, wp_X10_border_56 p1 p2 p3 p4 Qm M → ∀ (H : Heap) (locs : List Loc), Rp G e0 α κ B M H → va_S (fun q => B ≤ q) s.heap H locs → ∀ (ls : Array Slot), lv_has ls 8 [(0, .ref (α 11 0)), (1, .int (Int32.ofInt p1)), (2, .int (Int32.ofInt p2)), (3, .int (Int32.ofInt p3)), (4, .int (Int32.ofInt p4))] → WI p l e 2 s m args below meth c G e0 α κ B Qm H locs 56 ls [] := by
  intro M hw H locs hR hS ls hl
  have hw : ((p1 = 3 → wp_X10_border_107 p1 p2 p3 p4 Qm 1 M) ∧ (¬ p1 = 3 → ((¬ p1 = 0 → ((¬ p1 = 1 → wp_X10_isColumn p2 M fun (x190 : Int) (M189 : Mem) => wp_X10_goes 1 (if x190 = 0 then (0 : Int) else 1) 1 M189 fun (x196 : Int) (M195 : Mem) => ((¬ x196 = 0 → (¬ p1 = 0 → (¬ p1 = 1 → (p1 = 2 → (inR (4 * p2)) ∧ (inR ((4 * p2) + p3)) ∧ (0 ≤ ((4 * p2) + p3) ∧ ((4 * p2) + p3) < 24) ∧ True) ∧ True) ∧ (p1 = 1 → (inR (4 * p2)) ∧ (inR ((4 * p2) + p3)) ∧ (0 ≤ ((4 * p2) + p3) ∧ ((4 * p2) + p3) < 116) ∧ True) ∧ True) ∧ (p1 = 0 → (inR (4 * p2)) ∧ (inR ((4 * p2) + p3)) ∧ (0 ≤ ((4 * p2) + p3) ∧ ((4 * p2) + p3) < 400) ∧ True) ∧ ((¬ p1 = 0 → ((¬ p1 = 1 → ((¬ p1 = 2 → ∀ M219 : Mem, M219 = up M195 11 0 30 p4 → wp_X10_border_252 p1 p2 p3 p4 Qm (if ¬ p1 = 0 then (if ¬ p1 = 1 then (if ¬ p1 = 2 then (M195 11 0 30) else (M195 79 0 ((4 * p2) + p3))) else (M195 78 0 ((4 * p2) + p3))) else (M195 77 0 ((4 * p2) + p3))) M219) ∧ (p1 = 2 → (inR (4 * p2)) ∧ (inR ((4 * p2) + p3)) ∧ (0 ≤ ((4 * p2) + p3) ∧ ((4 * p2) + p3) < 24) ∧ ∀ M224 : Mem, M224 = up M195 79 0 ((4 * p2) + p3) p4 → wp_X10_border_252 p1 p2 p3 p4 Qm (if ¬ p1 = 0 then (if ¬ p1 = 1 then (if ¬ p1 = 2 then (M195 11 0 30) else (M195 79 0 ((4 * p2) + p3))) else (M195 78 0 ((4 * p2) + p3))) else (M195 77 0 ((4 * p2) + p3))) M224))) ∧ (p1 = 1 → (inR (4 * p2)) ∧ (inR ((4 * p2) + p3)) ∧ (0 ≤ ((4 * p2) + p3) ∧ ((4 * p2) + p3) < 116) ∧ ∀ M229 : Mem, M229 = up M195 78 0 ((4 * p2) + p3) p4 → wp_X10_border_252 p1 p2 p3 p4 Qm (if ¬ p1 = 0 then (if ¬ p1 = 1 then (if ¬ p1 = 2 then (M195 11 0 30) else (M195 79 0 ((4 * p2) + p3))) else (M195 78 0 ((4 * p2) + p3))) else (M195 77 0 ((4 * p2) + p3))) M229))) ∧ (p1 = 0 → (inR (4 * p2)) ∧ (inR ((4 * p2) + p3)) ∧ (0 ≤ ((4 * p2) + p3) ∧ ((4 * p2) + p3) < 400) ∧ ∀ M234 : Mem, M234 = up M195 77 0 ((4 * p2) + p3) p4 → wp_X10_border_252 p1 p2 p3 p4 Qm (if ¬ p1 = 0 then (if ¬ p1 = 1 then (if ¬ p1 = 2 then (M195 11 0 30) else (M195 79 0 ((4 * p2) + p3))) else (M195 78 0 ((4 * p2) + p3))) else (M195 77 0 ((4 * p2) + p3))) M234))) ∧ (x196 = 0 → Qm 0 M195))) ∧ (p1 = 1 → wp_X10_isRow p2 M fun (x237 : Int) (M236 : Mem) => wp_X10_goes 1 (if x237 = 0 then (0 : Int) else 1) 1 M236 fun (x243 : Int) (M242 : Mem) => ((¬ x243 = 0 → (¬ p1 = 0 → (¬ p1 = 1 → (p1 = 2 → (inR (4 * p2)) ∧ (inR ((4 * p2) + p3)) ∧ (0 ≤ ((4 * p2) + p3) ∧ ((4 * p2) + p3) < 24) ∧ True) ∧ True) ∧ (p1 = 1 → (inR (4 * p2)) ∧ (inR ((4 * p2) + p3)) ∧ (0 ≤ ((4 * p2) + p3) ∧ ((4 * p2) + p3) < 116) ∧ True) ∧ True) ∧ (p1 = 0 → (inR (4 * p2)) ∧ (inR ((4 * p2) + p3)) ∧ (0 ≤ ((4 * p2) + p3) ∧ ((4 * p2) + p3) < 400) ∧ True) ∧ ((¬ p1 = 0 → ((¬ p1 = 1 → ((¬ p1 = 2 → ∀ M266 : Mem, M266 = up M242 11 0 30 p4 → wp_X10_border_252 p1 p2 p3 p4 Qm (if ¬ p1 = 0 then (if ¬ p1 = 1 then (if ¬ p1 = 2 then (M242 11 0 30) else (M242 79 0 ((4 * p2) + p3))) else (M242 78 0 ((4 * p2) + p3))) else (M242 77 0 ((4 * p2) + p3))) M266) ∧ (p1 = 2 → (inR (4 * p2)) ∧ (inR ((4 * p2) + p3)) ∧ (0 ≤ ((4 * p2) + p3) ∧ ((4 * p2) + p3) < 24) ∧ ∀ M271 : Mem, M271 = up M242 79 0 ((4 * p2) + p3) p4 → wp_X10_border_252 p1 p2 p3 p4 Qm (if ¬ p1 = 0 then (if ¬ p1 = 1 then (if ¬ p1 = 2 then (M242 11 0 30) else (M242 79 0 ((4 * p2) + p3))) else (M242 78 0 ((4 * p2) + p3))) else (M242 77 0 ((4 * p2) + p3))) M271))) ∧ (p1 = 1 → (inR (4 * p2)) ∧ (inR ((4 * p2) + p3)) ∧ (0 ≤ ((4 * p2) + p3) ∧ ((4 * p2) + p3) < 116) ∧ ∀ M276 : Mem, M276 = up M242 78 0 ((4 * p2) + p3) p4 → wp_X10_border_252 p1 p2 p3 p4 Qm (if ¬ p1 = 0 then (if ¬ p1 = 1 then (if ¬ p1 = 2 then (M242 11 0 30) else (M242 79 0 ((4 * p2) + p3))) else (M242 78 0 ((4 * p2) + p3))) else (M242 77 0 ((4 * p2) + p3))) M276))) ∧ (p1 = 0 → (inR (4 * p2)) ∧ (inR ((4 * p2) + p3)) ∧ (0 ≤ ((4 * p2) + p3) ∧ ((4 * p2) + p3) < 400) ∧ ∀ M281 : Mem, M281 = up M242 77 0 ((4 * p2) + p3) p4 → wp_X10_border_252 p1 p2 p3 p4 Qm (if ¬ p1 = 0 then (if ¬ p1 = 1 then (if ¬ p1 = 2 then (M242 11 0 30) else (M242 79 0 ((4 * p2) + p3))) else (M242 78 0 ((4 * p2) + p3))) else (M242 77 0 ((4 * p2) + p3))) M281))) ∧ (x243 = 0 → Qm 0 M242))))) ∧ (p1 = 0 → wp_X10_isCell p2 M fun (x284 : Int) (M283 : Mem) => wp_X10_goes 1 (if x284 = 0 then (0 : Int) else 1) 1 M283 fun (x290 : Int) (M289 : Mem) => ((¬ x290 = 0 → (¬ p1 = 0 → (¬ p1 = 1 → (p1 = 2 → (inR (4 * p2)) ∧ (inR ((4 * p2) + p3)) ∧ (0 ≤ ((4 * p2) + p3) ∧ ((4 * p2) + p3) < 24) ∧ True) ∧ True) ∧ (p1 = 1 → (inR (4 * p2)) ∧ (inR ((4 * p2) + p3)) ∧ (0 ≤ ((4 * p2) + p3) ∧ ((4 * p2) + p3) < 116) ∧ True) ∧ True) ∧ (p1 = 0 → (inR (4 * p2)) ∧ (inR ((4 * p2) + p3)) ∧ (0 ≤ ((4 * p2) + p3) ∧ ((4 * p2) + p3) < 400) ∧ True) ∧ ((¬ p1 = 0 → ((¬ p1 = 1 → ((¬ p1 = 2 → ∀ M313 : Mem, M313 = up M289 11 0 30 p4 → wp_X10_border_252 p1 p2 p3 p4 Qm (if ¬ p1 = 0 then (if ¬ p1 = 1 then (if ¬ p1 = 2 then (M289 11 0 30) else (M289 79 0 ((4 * p2) + p3))) else (M289 78 0 ((4 * p2) + p3))) else (M289 77 0 ((4 * p2) + p3))) M313) ∧ (p1 = 2 → (inR (4 * p2)) ∧ (inR ((4 * p2) + p3)) ∧ (0 ≤ ((4 * p2) + p3) ∧ ((4 * p2) + p3) < 24) ∧ ∀ M318 : Mem, M318 = up M289 79 0 ((4 * p2) + p3) p4 → wp_X10_border_252 p1 p2 p3 p4 Qm (if ¬ p1 = 0 then (if ¬ p1 = 1 then (if ¬ p1 = 2 then (M289 11 0 30) else (M289 79 0 ((4 * p2) + p3))) else (M289 78 0 ((4 * p2) + p3))) else (M289 77 0 ((4 * p2) + p3))) M318))) ∧ (p1 = 1 → (inR (4 * p2)) ∧ (inR ((4 * p2) + p3)) ∧ (0 ≤ ((4 * p2) + p3) ∧ ((4 * p2) + p3) < 116) ∧ ∀ M323 : Mem, M323 = up M289 78 0 ((4 * p2) + p3) p4 → wp_X10_border_252 p1 p2 p3 p4 Qm (if ¬ p1 = 0 then (if ¬ p1 = 1 then (if ¬ p1 = 2 then (M289 11 0 30) else (M289 79 0 ((4 * p2) + p3))) else (M289 78 0 ((4 * p2) + p3))) else (M289 77 0 ((4 * p2) + p3))) M323))) ∧ (p1 = 0 → (inR (4 * p2)) ∧ (inR ((4 * p2) + p3)) ∧ (0 ≤ ((4 * p2) + p3) ∧ ((4 * p2) + p3) < 400) ∧ ∀ M328 : Mem, M328 = up M289 77 0 ((4 * p2) + p3) p4 → wp_X10_border_252 p1 p2 p3 p4 Qm (if ¬ p1 = 0 then (if ¬ p1 = 1 then (if ¬ p1 = 2 then (M289 11 0 30) else (M289 79 0 ((4 * p2) + p3))) else (M289 78 0 ((4 * p2) + p3))) else (M289 77 0 ((4 * p2) + p3))) M328))) ∧ (x290 = 0 → Qm 0 M289)))))) := hw
  refine sa_const X.1 dX10_border_56 ?_
  refine lv_goto (tgt := 61) X.1.1 X.1.2.1 dX10_border_57 (by decide) ?_
  refine lv_istore (lv' := [(5, .int (Int32.ofInt 1)), (0, .ref (α 11 0)), (1, .int (Int32.ofInt p1)), (2, .int (Int32.ofInt p2)), (3, .int (Int32.ofInt p3)), (4, .int (Int32.ofInt p4))]) X.1.1 X.1.2.1 dX10_border_61 hl (by decide) rfl (fun ls hl => ?_)
  refine lv_iload_n X.1.1 X.1.2.1 dX10_border_63 rfl (lv_at hl 2 rfl) ?_
  refine sa_const X.1 dX10_border_64 ?_
  refine sa_icmp_eq (tgt := 107) X.1 hp1 (inR_c (a := 3) rfl) dX10_border_65 (by decide) (fun hc => ?_) (fun hc => ?_)
  · have hw := hw.1 hc
    exact t_X10_border_107 X hp1 hp2 hp3 hp4 _ _ hw (inR_c (a := 1) rfl) _ _ hR hS _ (lv_sub hl [1, 2, 3, 4, 5, 0] rfl)
  · have hw := hw.2 hc
    refine lv_iload_n X.1.1 X.1.2.1 dX10_border_68 rfl (lv_at hl 2 rfl) ?_
    refine sa_if_ne (tgt := 83) X.1 hp1 dX10_border_69 (by decide) (fun hc => ?_) (fun hc => ?_)
    · have hw := hw.1 hc
      refine lv_iload_n X.1.1 X.1.2.1 dX10_border_83 rfl (lv_at hl 2 rfl) ?_
      refine sa_const X.1 dX10_border_84 ?_
      refine sa_icmp_ne (tgt := 99) X.1 hp1 (inR_c (a := 1) rfl) dX10_border_85 (by decide) (fun hc => ?_) (fun hc => ?_)
      · have hw := hw.1 hc
        refine lv_aload_n X.1.1 X.1.2.1 dX10_border_99 rfl (lv_at hl 1 rfl) ?_
        refine lv_iload_n X.1.1 X.1.2.1 dX10_border_100 rfl (lv_at hl 3 rfl) ?_
        refine cs_X10_isColumn X hp2 (kc := 2) rmL_ok rm_c (by decide) hR hS kw_1737 hl.1 dX10_border_101 (Nat.le_of_ble_eq_true rfl) hw (fun x190 M189 H locs hw r191 hR hS => ?_)
        have r192 := inR_ite (c := x190 = 0) (inR_c (a := 0) rfl) (inR_c (a := 1) rfl)
        refine cut_j (A := ∀ v193 : Int, v193 = (if x190 = 0 then (0 : Int) else 1) → WI p l e 2 s m args below meth c G e0 α κ B Qm H locs 112 ls [.int (Int32.ofInt v193)]) (fun J194 => ?_) ?_
        · refine sa_if_eq (tgt := 111) X.1 r191 dX10_border_104 (by decide) (fun hc => ?_) (fun hc => ?_)
          · skip
            refine sa_const X.1 dX10_border_111 ?_
            exact J194 (0) (if_pos (c := x190 = 0) hc).symm
          · skip
            refine sa_const X.1 dX10_border_107 ?_
            refine lv_goto (tgt := 112) X.1.1 X.1.2.1 dX10_border_108 (by decide) ?_
            exact J194 (1) (if_neg (c := x190 = 0) hc).symm
        intro v193 hv193
        subst hv193
        refine lv_istore (lv' := [(6, .int (Int32.ofInt (if x190 = 0 then (0 : Int) else 1))), (5, .int (Int32.ofInt 1)), (0, .ref (α 11 0)), (1, .int (Int32.ofInt p1)), (2, .int (Int32.ofInt p2)), (3, .int (Int32.ofInt p3)), (4, .int (Int32.ofInt p4))]) X.1.1 X.1.2.1 dX10_border_112 hl (by decide) rfl (fun ls hl => ?_)
        refine lv_aload_n X.1.1 X.1.2.1 dX10_border_114 rfl (lv_at hl 2 rfl) ?_
        refine lv_iload X.1.1 X.1.2.1 dX10_border_115 (lv_at hl 1 rfl) ?_
        refine lv_iload X.1.1 X.1.2.1 dX10_border_117 (lv_at hl 0 rfl) ?_
        refine sa_const X.1 dX10_border_119 ?_
        refine cs_X10_goes X (inR_c (a := 1) rfl) r192 (inR_c (a := 1) rfl) (kc := 2) rmL_ok rm_c (by decide) hR hS kw_1721 hl.1 dX10_border_120 (Nat.le_of_ble_eq_true rfl) hw (fun x196 M195 H locs hw r197 hR hS => ?_)
        refine sa_if_ne (tgt := 128) X.1 r197 dX10_border_123 (by decide) (fun hc => ?_) (fun hc => ?_)
        · have hw := hw.1 hc
          refine lv_iload_n X.1.1 X.1.2.1 dX10_border_128 rfl (lv_at hl 3 rfl) ?_
          have s214 := hw.1
          have hw := hw.2
          have s215 := hw.1
          have hw := hw.2
          have r216 := inR_ite (c := ¬ p1 = 0) (inR_ite (c := ¬ p1 = 1) (inR_ite (c := ¬ p1 = 2) (hR.r 11 0 30) (hR.r 79 0 ((4 * p2) + p3))) (hR.r 78 0 ((4 * p2) + p3))) (hR.r 77 0 ((4 * p2) + p3))
          refine cut_j (A := ∀ v217 : Int, v217 = (if ¬ p1 = 0 then (if ¬ p1 = 1 then (if ¬ p1 = 2 then (M195 11 0 30) else (M195 79 0 ((4 * p2) + p3))) else (M195 78 0 ((4 * p2) + p3))) else (M195 77 0 ((4 * p2) + p3))) → WI p l e 2 s m args below meth c G e0 α κ B Qm H locs 185 ls [.int (Int32.ofInt v217)]) (fun J218 => ?_) ?_
          · refine sa_if_ne (tgt := 145) X.1 hp1 dX10_border_129 (by decide) (fun hc => ?_) (fun hc => ?_)
            · have hw := s214 hc
              refine lv_iload_n X.1.1 X.1.2.1 dX10_border_145 rfl (lv_at hl 3 rfl) ?_
              refine sa_const X.1 dX10_border_146 ?_
              have s207 := hw.1
              have hw := hw.2
              have s208 := hw.1
              have hw := hw.2
              refine cut_j (A := ∀ v209 : Int, v209 = (if ¬ p1 = 1 then (if ¬ p1 = 2 then (M195 11 0 30) else (M195 79 0 ((4 * p2) + p3))) else (M195 78 0 ((4 * p2) + p3))) → WI p l e 2 s m args below meth c G e0 α κ B Qm H locs 185 ls [.int (Int32.ofInt v209)]) (fun J210 => ?_) ?_
              · refine sa_icmp_ne (tgt := 163) X.1 hp1 (inR_c (a := 1) rfl) dX10_border_147 (by decide) (fun hc => ?_) (fun hc => ?_)
                · have hw := s207 hc
                  refine lv_iload_n X.1.1 X.1.2.1 dX10_border_163 rfl (lv_at hl 3 rfl) ?_
                  refine sa_const X.1 dX10_border_164 ?_
                  have s201 := hw.1
                  have hw := hw.2
                  refine cut_j (A := ∀ v202 : Int, v202 = (if ¬ p1 = 2 then (M195 11 0 30) else (M195 79 0 ((4 * p2) + p3))) → WI p l e 2 s m args below meth c G e0 α κ B Qm H locs 185 ls [.int (Int32.ofInt v202)]) (fun J203 => ?_) ?_
                  · refine sa_icmp_ne (tgt := 181) X.1 hp1 (inR_c (a := 2) rfl) dX10_border_165 (by decide) (fun hc => ?_) (fun hc => ?_)
                    · skip
                      refine lv_aload_n X.1.1 X.1.2.1 dX10_border_181 rfl (lv_at hl 2 rfl) ?_
                      refine gt_11_30 X hR (okf X.2.2.1 rfl) kw_1559 dX10_border_182 ?_
                      exact J203 ((M195 11 0 30)) (if_pos (c := ¬ p1 = 2) hc).symm
                    · have hw := s201 hc
                      refine lv_aload_n X.1.1 X.1.2.1 dX10_border_168 rfl (lv_at hl 2 rfl) ?_
                      refine gt_11_29 X hR (okf X.2.2.1 rfl) kw_1558 dX10_border_169 ?_
                      refine sa_const X.1 dX10_border_172 ?_
                      refine lv_iload_n X.1.1 X.1.2.1 dX10_border_173 rfl (lv_at hl 4 rfl) ?_
                      have c198 := hw.1
                      have hw := hw.2
                      refine sa_imul X.1 dX10_border_174 ?_
                      refine lv_iload_n X.1.1 X.1.2.1 dX10_border_175 rfl (lv_at hl 5 rfl) ?_
                      have c199 := hw.1
                      have hw := hw.2
                      refine sa_iadd X.1 dX10_border_176 ?_
                      have c200 := hw.1
                      have hw := hw.2
                      refine ra_79 X hR (okf X.2.2.1 rfl) c200 dX10_border_177 ?_
                      refine lv_goto (tgt := 185) X.1.1 X.1.2.1 dX10_border_178 (by decide) ?_
                      exact J203 ((M195 79 0 ((4 * p2) + p3))) (if_neg (c := ¬ p1 = 2) (fun z => z hc)).symm
                  intro v202 hv202
                  subst hv202
                  exact J210 ((if ¬ p1 = 2 then (M195 11 0 30) else (M195 79 0 ((4 * p2) + p3)))) (if_pos (c := ¬ p1 = 1) hc).symm
                · have hw := s208 hc
                  refine lv_aload_n X.1.1 X.1.2.1 dX10_border_150 rfl (lv_at hl 2 rfl) ?_
                  refine gt_11_28 X hR (okf X.2.2.1 rfl) kw_1557 dX10_border_151 ?_
                  refine sa_const X.1 dX10_border_154 ?_
                  refine lv_iload_n X.1.1 X.1.2.1 dX10_border_155 rfl (lv_at hl 4 rfl) ?_
                  have c204 := hw.1
                  have hw := hw.2
                  refine sa_imul X.1 dX10_border_156 ?_
                  refine lv_iload_n X.1.1 X.1.2.1 dX10_border_157 rfl (lv_at hl 5 rfl) ?_
                  have c205 := hw.1
                  have hw := hw.2
                  refine sa_iadd X.1 dX10_border_158 ?_
                  have c206 := hw.1
                  have hw := hw.2
                  refine ra_78 X hR (okf X.2.2.1 rfl) c206 dX10_border_159 ?_
                  refine lv_goto (tgt := 185) X.1.1 X.1.2.1 dX10_border_160 (by decide) ?_
                  exact J210 ((M195 78 0 ((4 * p2) + p3))) (if_neg (c := ¬ p1 = 1) (fun z => z hc)).symm
              intro v209 hv209
              subst hv209
              exact J218 ((if ¬ p1 = 1 then (if ¬ p1 = 2 then (M195 11 0 30) else (M195 79 0 ((4 * p2) + p3))) else (M195 78 0 ((4 * p2) + p3)))) (if_pos (c := ¬ p1 = 0) hc).symm
            · have hw := s215 hc
              refine lv_aload_n X.1.1 X.1.2.1 dX10_border_132 rfl (lv_at hl 2 rfl) ?_
              refine gt_11_27 X hR (okf X.2.2.1 rfl) kw_1556 dX10_border_133 ?_
              refine sa_const X.1 dX10_border_136 ?_
              refine lv_iload_n X.1.1 X.1.2.1 dX10_border_137 rfl (lv_at hl 4 rfl) ?_
              have c211 := hw.1
              have hw := hw.2
              refine sa_imul X.1 dX10_border_138 ?_
              refine lv_iload_n X.1.1 X.1.2.1 dX10_border_139 rfl (lv_at hl 5 rfl) ?_
              have c212 := hw.1
              have hw := hw.2
              refine sa_iadd X.1 dX10_border_140 ?_
              have c213 := hw.1
              have hw := hw.2
              refine ra_77 X hR (okf X.2.2.1 rfl) c213 dX10_border_141 ?_
              refine lv_goto (tgt := 185) X.1.1 X.1.2.1 dX10_border_142 (by decide) ?_
              exact J218 ((M195 77 0 ((4 * p2) + p3))) (if_neg (c := ¬ p1 = 0) (fun z => z hc)).symm
          intro v217 hv217
          subst hv217
          refine lv_istore (lv' := [(7, .int (Int32.ofInt (if ¬ p1 = 0 then (if ¬ p1 = 1 then (if ¬ p1 = 2 then (M195 11 0 30) else (M195 79 0 ((4 * p2) + p3))) else (M195 78 0 ((4 * p2) + p3))) else (M195 77 0 ((4 * p2) + p3))))), (6, .int (Int32.ofInt (if x190 = 0 then (0 : Int) else 1))), (5, .int (Int32.ofInt 1)), (0, .ref (α 11 0)), (1, .int (Int32.ofInt p1)), (2, .int (Int32.ofInt p2)), (3, .int (Int32.ofInt p3)), (4, .int (Int32.ofInt p4))]) X.1.1 X.1.2.1 dX10_border_185 hl (by decide) rfl (fun ls hl => ?_)
          refine lv_iload_n X.1.1 X.1.2.1 dX10_border_187 rfl (lv_at hl 4 rfl) ?_
          refine sa_if_ne (tgt := 206) X.1 hp1 dX10_border_188 (by decide) (fun hc => ?_) (fun hc => ?_)
          · have hw := hw.1 hc
            refine lv_iload_n X.1.1 X.1.2.1 dX10_border_206 rfl (lv_at hl 4 rfl) ?_
            refine sa_const X.1 dX10_border_207 ?_
            refine sa_icmp_ne (tgt := 226) X.1 hp1 (inR_c (a := 1) rfl) dX10_border_208 (by decide) (fun hc => ?_) (fun hc => ?_)
            · have hw := hw.1 hc
              refine lv_iload_n X.1.1 X.1.2.1 dX10_border_226 rfl (lv_at hl 4 rfl) ?_
              refine sa_const X.1 dX10_border_227 ?_
              refine sa_icmp_ne (tgt := 246) X.1 hp1 (inR_c (a := 2) rfl) dX10_border_228 (by decide) (fun hc => ?_) (fun hc => ?_)
              · have hw := hw.1 hc
                refine lv_aload_n X.1.1 X.1.2.1 dX10_border_246 rfl (lv_at hl 3 rfl) ?_
                refine lv_iload X.1.1 X.1.2.1 dX10_border_247 (lv_at hl 7 rfl) ?_
                refine pt_11_30 X hR hS (okf X.2.2.1 rfl) hp4 kw_1559 dX10_border_249 (fun H locs hR hS => ?_)
                obtain ⟨M219, e220⟩ : ∃ z : Mem, z = up M195 11 0 30 p4 := ⟨_, rfl⟩
                rw [← e220] at hR
                have hw := hw M219 e220
                exact t_X10_border_252 X hp1 hp2 hp3 hp4 _ _ hw r216 _ _ hR hS _ (lv_sub hl [0] rfl)
              · have hw := hw.2 hc
                refine lv_aload_n X.1.1 X.1.2.1 dX10_border_231 rfl (lv_at hl 3 rfl) ?_
                refine gt_11_29 X hR (okf X.2.2.1 rfl) kw_1558 dX10_border_232 ?_
                refine sa_const X.1 dX10_border_235 ?_
                refine lv_iload_n X.1.1 X.1.2.1 dX10_border_236 rfl (lv_at hl 5 rfl) ?_
                have c221 := hw.1
                have hw := hw.2
                refine sa_imul X.1 dX10_border_237 ?_
                refine lv_iload_n X.1.1 X.1.2.1 dX10_border_238 rfl (lv_at hl 6 rfl) ?_
                have c222 := hw.1
                have hw := hw.2
                refine sa_iadd X.1 dX10_border_239 ?_
                refine lv_iload X.1.1 X.1.2.1 dX10_border_240 (lv_at hl 7 rfl) ?_
                have c223 := hw.1
                have hw := hw.2
                refine wa_79 X hR hS (okf X.2.2.1 rfl) c223 hp4 dX10_border_242 (fun H locs hR hS => ?_)
                obtain ⟨M224, e225⟩ : ∃ z : Mem, z = up M195 79 0 ((4 * p2) + p3) p4 := ⟨_, rfl⟩
                rw [← e225] at hR
                have hw := hw M224 e225
                refine lv_goto (tgt := 252) X.1.1 X.1.2.1 dX10_border_243 (by decide) ?_
                exact t_X10_border_252 X hp1 hp2 hp3 hp4 _ _ hw r216 _ _ hR hS _ (lv_sub hl [0] rfl)
            · have hw := hw.2 hc
              refine lv_aload_n X.1.1 X.1.2.1 dX10_border_211 rfl (lv_at hl 3 rfl) ?_
              refine gt_11_28 X hR (okf X.2.2.1 rfl) kw_1557 dX10_border_212 ?_
              refine sa_const X.1 dX10_border_215 ?_
              refine lv_iload_n X.1.1 X.1.2.1 dX10_border_216 rfl (lv_at hl 5 rfl) ?_
              have c226 := hw.1
              have hw := hw.2
              refine sa_imul X.1 dX10_border_217 ?_
              refine lv_iload_n X.1.1 X.1.2.1 dX10_border_218 rfl (lv_at hl 6 rfl) ?_
              have c227 := hw.1
              have hw := hw.2
              refine sa_iadd X.1 dX10_border_219 ?_
              refine lv_iload X.1.1 X.1.2.1 dX10_border_220 (lv_at hl 7 rfl) ?_
              have c228 := hw.1
              have hw := hw.2
              refine wa_78 X hR hS (okf X.2.2.1 rfl) c228 hp4 dX10_border_222 (fun H locs hR hS => ?_)
              obtain ⟨M229, e230⟩ : ∃ z : Mem, z = up M195 78 0 ((4 * p2) + p3) p4 := ⟨_, rfl⟩
              rw [← e230] at hR
              have hw := hw M229 e230
              refine lv_goto (tgt := 252) X.1.1 X.1.2.1 dX10_border_223 (by decide) ?_
              exact t_X10_border_252 X hp1 hp2 hp3 hp4 _ _ hw r216 _ _ hR hS _ (lv_sub hl [0] rfl)
          · have hw := hw.2 hc
            refine lv_aload_n X.1.1 X.1.2.1 dX10_border_191 rfl (lv_at hl 3 rfl) ?_
            refine gt_11_27 X hR (okf X.2.2.1 rfl) kw_1556 dX10_border_192 ?_
            refine sa_const X.1 dX10_border_195 ?_
            refine lv_iload_n X.1.1 X.1.2.1 dX10_border_196 rfl (lv_at hl 5 rfl) ?_
            have c231 := hw.1
            have hw := hw.2
            refine sa_imul X.1 dX10_border_197 ?_
            refine lv_iload_n X.1.1 X.1.2.1 dX10_border_198 rfl (lv_at hl 6 rfl) ?_
            have c232 := hw.1
            have hw := hw.2
            refine sa_iadd X.1 dX10_border_199 ?_
            refine lv_iload X.1.1 X.1.2.1 dX10_border_200 (lv_at hl 7 rfl) ?_
            have c233 := hw.1
            have hw := hw.2
            refine wa_77 X hR hS (okf X.2.2.1 rfl) c233 hp4 dX10_border_202 (fun H locs hR hS => ?_)
            obtain ⟨M234, e235⟩ : ∃ z : Mem, z = up M195 77 0 ((4 * p2) + p3) p4 := ⟨_, rfl⟩
            rw [← e235] at hR
            have hw := hw M234 e235
            refine lv_goto (tgt := 252) X.1.1 X.1.2.1 dX10_border_203 (by decide) ?_
            exact t_X10_border_252 X hp1 hp2 hp3 hp4 _ _ hw r216 _ _ hR hS _ (lv_sub hl [0] rfl)
        · have hw := hw.2 hc
          refine sa_const X.1 dX10_border_126 ?_
          exact sa_iret X.1 X.2.2.2.1 X.2.2.2.2 hR hS (inR_c (a := 0) rfl) hw dX10_border_127
      · have hw := hw.2 hc
        refine lv_aload_n X.1.1 X.1.2.1 dX10_border_88 rfl (lv_at hl 1 rfl) ?_
        refine lv_iload_n X.1.1 X.1.2.1 dX10_border_89 rfl (lv_at hl 3 rfl) ?_
        refine cs_X10_isRow X hp2 (kc := 2) rmL_ok rm_c (by decide) hR hS kw_1733 hl.1 dX10_border_90 (Nat.le_of_ble_eq_true rfl) hw (fun x237 M236 H locs hw r238 hR hS => ?_)
        have r239 := inR_ite (c := x237 = 0) (inR_c (a := 0) rfl) (inR_c (a := 1) rfl)
        refine cut_j (A := ∀ v240 : Int, v240 = (if x237 = 0 then (0 : Int) else 1) → WI p l e 2 s m args below meth c G e0 α κ B Qm H locs 112 ls [.int (Int32.ofInt v240)]) (fun J241 => ?_) ?_
        · refine sa_if_eq (tgt := 111) X.1 r238 dX10_border_93 (by decide) (fun hc => ?_) (fun hc => ?_)
          · skip
            refine sa_const X.1 dX10_border_111 ?_
            exact J241 (0) (if_pos (c := x237 = 0) hc).symm
          · skip
            refine lv_goto (tgt := 107) X.1.1 X.1.2.1 dX10_border_96 (by decide) ?_
            refine sa_const X.1 dX10_border_107 ?_
            refine lv_goto (tgt := 112) X.1.1 X.1.2.1 dX10_border_108 (by decide) ?_
            exact J241 (1) (if_neg (c := x237 = 0) hc).symm
        intro v240 hv240
        subst hv240
        refine lv_istore (lv' := [(6, .int (Int32.ofInt (if x237 = 0 then (0 : Int) else 1))), (5, .int (Int32.ofInt 1)), (0, .ref (α 11 0)), (1, .int (Int32.ofInt p1)), (2, .int (Int32.ofInt p2)), (3, .int (Int32.ofInt p3)), (4, .int (Int32.ofInt p4))]) X.1.1 X.1.2.1 dX10_border_112 hl (by decide) rfl (fun ls hl => ?_)
        refine lv_aload_n X.1.1 X.1.2.1 dX10_border_114 rfl (lv_at hl 2 rfl) ?_
        refine lv_iload X.1.1 X.1.2.1 dX10_border_115 (lv_at hl 1 rfl) ?_
        refine lv_iload X.1.1 X.1.2.1 dX10_border_117 (lv_at hl 0 rfl) ?_
        refine sa_const X.1 dX10_border_119 ?_
        refine cs_X10_goes X (inR_c (a := 1) rfl) r239 (inR_c (a := 1) rfl) (kc := 2) rmL_ok rm_c (by decide) hR hS kw_1721 hl.1 dX10_border_120 (Nat.le_of_ble_eq_true rfl) hw (fun x243 M242 H locs hw r244 hR hS => ?_)
        refine sa_if_ne (tgt := 128) X.1 r244 dX10_border_123 (by decide) (fun hc => ?_) (fun hc => ?_)
        · have hw := hw.1 hc
          refine lv_iload_n X.1.1 X.1.2.1 dX10_border_128 rfl (lv_at hl 3 rfl) ?_
          have s261 := hw.1
          have hw := hw.2
          have s262 := hw.1
          have hw := hw.2
          have r263 := inR_ite (c := ¬ p1 = 0) (inR_ite (c := ¬ p1 = 1) (inR_ite (c := ¬ p1 = 2) (hR.r 11 0 30) (hR.r 79 0 ((4 * p2) + p3))) (hR.r 78 0 ((4 * p2) + p3))) (hR.r 77 0 ((4 * p2) + p3))
          refine cut_j (A := ∀ v264 : Int, v264 = (if ¬ p1 = 0 then (if ¬ p1 = 1 then (if ¬ p1 = 2 then (M242 11 0 30) else (M242 79 0 ((4 * p2) + p3))) else (M242 78 0 ((4 * p2) + p3))) else (M242 77 0 ((4 * p2) + p3))) → WI p l e 2 s m args below meth c G e0 α κ B Qm H locs 185 ls [.int (Int32.ofInt v264)]) (fun J265 => ?_) ?_
          · refine sa_if_ne (tgt := 145) X.1 hp1 dX10_border_129 (by decide) (fun hc => ?_) (fun hc => ?_)
            · have hw := s261 hc
              refine lv_iload_n X.1.1 X.1.2.1 dX10_border_145 rfl (lv_at hl 3 rfl) ?_
              refine sa_const X.1 dX10_border_146 ?_
              have s254 := hw.1
              have hw := hw.2
              have s255 := hw.1
              have hw := hw.2
              refine cut_j (A := ∀ v256 : Int, v256 = (if ¬ p1 = 1 then (if ¬ p1 = 2 then (M242 11 0 30) else (M242 79 0 ((4 * p2) + p3))) else (M242 78 0 ((4 * p2) + p3))) → WI p l e 2 s m args below meth c G e0 α κ B Qm H locs 185 ls [.int (Int32.ofInt v256)]) (fun J257 => ?_) ?_
              · refine sa_icmp_ne (tgt := 163) X.1 hp1 (inR_c (a := 1) rfl) dX10_border_147 (by decide) (fun hc => ?_) (fun hc => ?_)
                · have hw := s254 hc
                  refine lv_iload_n X.1.1 X.1.2.1 dX10_border_163 rfl (lv_at hl 3 rfl) ?_
                  refine sa_const X.1 dX10_border_164 ?_
                  have s248 := hw.1
                  have hw := hw.2
                  refine cut_j (A := ∀ v249 : Int, v249 = (if ¬ p1 = 2 then (M242 11 0 30) else (M242 79 0 ((4 * p2) + p3))) → WI p l e 2 s m args below meth c G e0 α κ B Qm H locs 185 ls [.int (Int32.ofInt v249)]) (fun J250 => ?_) ?_
                  · refine sa_icmp_ne (tgt := 181) X.1 hp1 (inR_c (a := 2) rfl) dX10_border_165 (by decide) (fun hc => ?_) (fun hc => ?_)
                    · skip
                      refine lv_aload_n X.1.1 X.1.2.1 dX10_border_181 rfl (lv_at hl 2 rfl) ?_
                      refine gt_11_30 X hR (okf X.2.2.1 rfl) kw_1559 dX10_border_182 ?_
                      exact J250 ((M242 11 0 30)) (if_pos (c := ¬ p1 = 2) hc).symm
                    · have hw := s248 hc
                      refine lv_aload_n X.1.1 X.1.2.1 dX10_border_168 rfl (lv_at hl 2 rfl) ?_
                      refine gt_11_29 X hR (okf X.2.2.1 rfl) kw_1558 dX10_border_169 ?_
                      refine sa_const X.1 dX10_border_172 ?_
                      refine lv_iload_n X.1.1 X.1.2.1 dX10_border_173 rfl (lv_at hl 4 rfl) ?_
                      have c245 := hw.1
                      have hw := hw.2
                      refine sa_imul X.1 dX10_border_174 ?_
                      refine lv_iload_n X.1.1 X.1.2.1 dX10_border_175 rfl (lv_at hl 5 rfl) ?_
                      have c246 := hw.1
                      have hw := hw.2
                      refine sa_iadd X.1 dX10_border_176 ?_
                      have c247 := hw.1
                      have hw := hw.2
                      refine ra_79 X hR (okf X.2.2.1 rfl) c247 dX10_border_177 ?_
                      refine lv_goto (tgt := 185) X.1.1 X.1.2.1 dX10_border_178 (by decide) ?_
                      exact J250 ((M242 79 0 ((4 * p2) + p3))) (if_neg (c := ¬ p1 = 2) (fun z => z hc)).symm
                  intro v249 hv249
                  subst hv249
                  exact J257 ((if ¬ p1 = 2 then (M242 11 0 30) else (M242 79 0 ((4 * p2) + p3)))) (if_pos (c := ¬ p1 = 1) hc).symm
                · have hw := s255 hc
                  refine lv_aload_n X.1.1 X.1.2.1 dX10_border_150 rfl (lv_at hl 2 rfl) ?_
                  refine gt_11_28 X hR (okf X.2.2.1 rfl) kw_1557 dX10_border_151 ?_
                  refine sa_const X.1 dX10_border_154 ?_
                  refine lv_iload_n X.1.1 X.1.2.1 dX10_border_155 rfl (lv_at hl 4 rfl) ?_
                  have c251 := hw.1
                  have hw := hw.2
                  refine sa_imul X.1 dX10_border_156 ?_
                  refine lv_iload_n X.1.1 X.1.2.1 dX10_border_157 rfl (lv_at hl 5 rfl) ?_
                  have c252 := hw.1
                  have hw := hw.2
                  refine sa_iadd X.1 dX10_border_158 ?_
                  have c253 := hw.1
                  have hw := hw.2
                  refine ra_78 X hR (okf X.2.2.1 rfl) c253 dX10_border_159 ?_
                  refine lv_goto (tgt := 185) X.1.1 X.1.2.1 dX10_border_160 (by decide) ?_
                  exact J257 ((M242 78 0 ((4 * p2) + p3))) (if_neg (c := ¬ p1 = 1) (fun z => z hc)).symm
              intro v256 hv256
              subst hv256
              exact J265 ((if ¬ p1 = 1 then (if ¬ p1 = 2 then (M242 11 0 30) else (M242 79 0 ((4 * p2) + p3))) else (M242 78 0 ((4 * p2) + p3)))) (if_pos (c := ¬ p1 = 0) hc).symm
            · have hw := s262 hc
              refine lv_aload_n X.1.1 X.1.2.1 dX10_border_132 rfl (lv_at hl 2 rfl) ?_
              refine gt_11_27 X hR (okf X.2.2.1 rfl) kw_1556 dX10_border_133 ?_
              refine sa_const X.1 dX10_border_136 ?_
              refine lv_iload_n X.1.1 X.1.2.1 dX10_border_137 rfl (lv_at hl 4 rfl) ?_
              have c258 := hw.1
              have hw := hw.2
              refine sa_imul X.1 dX10_border_138 ?_
              refine lv_iload_n X.1.1 X.1.2.1 dX10_border_139 rfl (lv_at hl 5 rfl) ?_
              have c259 := hw.1
              have hw := hw.2
              refine sa_iadd X.1 dX10_border_140 ?_
              have c260 := hw.1
              have hw := hw.2
              refine ra_77 X hR (okf X.2.2.1 rfl) c260 dX10_border_141 ?_
              refine lv_goto (tgt := 185) X.1.1 X.1.2.1 dX10_border_142 (by decide) ?_
              exact J265 ((M242 77 0 ((4 * p2) + p3))) (if_neg (c := ¬ p1 = 0) (fun z => z hc)).symm
          intro v264 hv264
          subst hv264
          refine lv_istore (lv' := [(7, .int (Int32.ofInt (if ¬ p1 = 0 then (if ¬ p1 = 1 then (if ¬ p1 = 2 then (M242 11 0 30) else (M242 79 0 ((4 * p2) + p3))) else (M242 78 0 ((4 * p2) + p3))) else (M242 77 0 ((4 * p2) + p3))))), (6, .int (Int32.ofInt (if x237 = 0 then (0 : Int) else 1))), (5, .int (Int32.ofInt 1)), (0, .ref (α 11 0)), (1, .int (Int32.ofInt p1)), (2, .int (Int32.ofInt p2)), (3, .int (Int32.ofInt p3)), (4, .int (Int32.ofInt p4))]) X.1.1 X.1.2.1 dX10_border_185 hl (by decide) rfl (fun ls hl => ?_)
          refine lv_iload_n X.1.1 X.1.2.1 dX10_border_187 rfl (lv_at hl 4 rfl) ?_
          refine sa_if_ne (tgt := 206) X.1 hp1 dX10_border_188 (by decide) (fun hc => ?_) (fun hc => ?_)
          · have hw := hw.1 hc
            refine lv_iload_n X.1.1 X.1.2.1 dX10_border_206 rfl (lv_at hl 4 rfl) ?_
            refine sa_const X.1 dX10_border_207 ?_
            refine sa_icmp_ne (tgt := 226) X.1 hp1 (inR_c (a := 1) rfl) dX10_border_208 (by decide) (fun hc => ?_) (fun hc => ?_)
            · have hw := hw.1 hc
              refine lv_iload_n X.1.1 X.1.2.1 dX10_border_226 rfl (lv_at hl 4 rfl) ?_
              refine sa_const X.1 dX10_border_227 ?_
              refine sa_icmp_ne (tgt := 246) X.1 hp1 (inR_c (a := 2) rfl) dX10_border_228 (by decide) (fun hc => ?_) (fun hc => ?_)
              · have hw := hw.1 hc
                refine lv_aload_n X.1.1 X.1.2.1 dX10_border_246 rfl (lv_at hl 3 rfl) ?_
                refine lv_iload X.1.1 X.1.2.1 dX10_border_247 (lv_at hl 7 rfl) ?_
                refine pt_11_30 X hR hS (okf X.2.2.1 rfl) hp4 kw_1559 dX10_border_249 (fun H locs hR hS => ?_)
                obtain ⟨M266, e267⟩ : ∃ z : Mem, z = up M242 11 0 30 p4 := ⟨_, rfl⟩
                rw [← e267] at hR
                have hw := hw M266 e267
                exact t_X10_border_252 X hp1 hp2 hp3 hp4 _ _ hw r263 _ _ hR hS _ (lv_sub hl [0] rfl)
              · have hw := hw.2 hc
                refine lv_aload_n X.1.1 X.1.2.1 dX10_border_231 rfl (lv_at hl 3 rfl) ?_
                refine gt_11_29 X hR (okf X.2.2.1 rfl) kw_1558 dX10_border_232 ?_
                refine sa_const X.1 dX10_border_235 ?_
                refine lv_iload_n X.1.1 X.1.2.1 dX10_border_236 rfl (lv_at hl 5 rfl) ?_
                have c268 := hw.1
                have hw := hw.2
                refine sa_imul X.1 dX10_border_237 ?_
                refine lv_iload_n X.1.1 X.1.2.1 dX10_border_238 rfl (lv_at hl 6 rfl) ?_
                have c269 := hw.1
                have hw := hw.2
                refine sa_iadd X.1 dX10_border_239 ?_
                refine lv_iload X.1.1 X.1.2.1 dX10_border_240 (lv_at hl 7 rfl) ?_
                have c270 := hw.1
                have hw := hw.2
                refine wa_79 X hR hS (okf X.2.2.1 rfl) c270 hp4 dX10_border_242 (fun H locs hR hS => ?_)
                obtain ⟨M271, e272⟩ : ∃ z : Mem, z = up M242 79 0 ((4 * p2) + p3) p4 := ⟨_, rfl⟩
                rw [← e272] at hR
                have hw := hw M271 e272
                refine lv_goto (tgt := 252) X.1.1 X.1.2.1 dX10_border_243 (by decide) ?_
                exact t_X10_border_252 X hp1 hp2 hp3 hp4 _ _ hw r263 _ _ hR hS _ (lv_sub hl [0] rfl)
            · have hw := hw.2 hc
              refine lv_aload_n X.1.1 X.1.2.1 dX10_border_211 rfl (lv_at hl 3 rfl) ?_
              refine gt_11_28 X hR (okf X.2.2.1 rfl) kw_1557 dX10_border_212 ?_
              refine sa_const X.1 dX10_border_215 ?_
              refine lv_iload_n X.1.1 X.1.2.1 dX10_border_216 rfl (lv_at hl 5 rfl) ?_
              have c273 := hw.1
              have hw := hw.2
              refine sa_imul X.1 dX10_border_217 ?_
              refine lv_iload_n X.1.1 X.1.2.1 dX10_border_218 rfl (lv_at hl 6 rfl) ?_
              have c274 := hw.1
              have hw := hw.2
              refine sa_iadd X.1 dX10_border_219 ?_
              refine lv_iload X.1.1 X.1.2.1 dX10_border_220 (lv_at hl 7 rfl) ?_
              have c275 := hw.1
              have hw := hw.2
              refine wa_78 X hR hS (okf X.2.2.1 rfl) c275 hp4 dX10_border_222 (fun H locs hR hS => ?_)
              obtain ⟨M276, e277⟩ : ∃ z : Mem, z = up M242 78 0 ((4 * p2) + p3) p4 := ⟨_, rfl⟩
              rw [← e277] at hR
              have hw := hw M276 e277
              refine lv_goto (tgt := 252) X.1.1 X.1.2.1 dX10_border_223 (by decide) ?_
              exact t_X10_border_252 X hp1 hp2 hp3 hp4 _ _ hw r263 _ _ hR hS _ (lv_sub hl [0] rfl)
          · have hw := hw.2 hc
            refine lv_aload_n X.1.1 X.1.2.1 dX10_border_191 rfl (lv_at hl 3 rfl) ?_
            refine gt_11_27 X hR (okf X.2.2.1 rfl) kw_1556 dX10_border_192 ?_
            refine sa_const X.1 dX10_border_195 ?_
            refine lv_iload_n X.1.1 X.1.2.1 dX10_border_196 rfl (lv_at hl 5 rfl) ?_
            have c278 := hw.1
            have hw := hw.2
            refine sa_imul X.1 dX10_border_197 ?_
            refine lv_iload_n X.1.1 X.1.2.1 dX10_border_198 rfl (lv_at hl 6 rfl) ?_
            have c279 := hw.1
            have hw := hw.2
            refine sa_iadd X.1 dX10_border_199 ?_
            refine lv_iload X.1.1 X.1.2.1 dX10_border_200 (lv_at hl 7 rfl) ?_
            have c280 := hw.1
            have hw := hw.2
            refine wa_77 X hR hS (okf X.2.2.1 rfl) c280 hp4 dX10_border_202 (fun H locs hR hS => ?_)
            obtain ⟨M281, e282⟩ : ∃ z : Mem, z = up M242 77 0 ((4 * p2) + p3) p4 := ⟨_, rfl⟩
            rw [← e282] at hR
            have hw := hw M281 e282
            refine lv_goto (tgt := 252) X.1.1 X.1.2.1 dX10_border_203 (by decide) ?_
            exact t_X10_border_252 X hp1 hp2 hp3 hp4 _ _ hw r263 _ _ hR hS _ (lv_sub hl [0] rfl)
        · have hw := hw.2 hc
          refine sa_const X.1 dX10_border_126 ?_
          exact sa_iret X.1 X.2.2.2.1 X.2.2.2.2 hR hS (inR_c (a := 0) rfl) hw dX10_border_127
    · have hw := hw.2 hc
      refine lv_aload_n X.1.1 X.1.2.1 dX10_border_72 rfl (lv_at hl 1 rfl) ?_
      refine lv_iload_n X.1.1 X.1.2.1 dX10_border_73 rfl (lv_at hl 3 rfl) ?_
      refine cs_X10_isCell X hp2 (kc := 2) rmL_ok rm_c (by decide) hR hS kw_1753 hl.1 dX10_border_74 (Nat.le_of_ble_eq_true rfl) hw (fun x284 M283 H locs hw r285 hR hS => ?_)
      have r286 := inR_ite (c := x284 = 0) (inR_c (a := 0) rfl) (inR_c (a := 1) rfl)
      refine cut_j (A := ∀ v287 : Int, v287 = (if x284 = 0 then (0 : Int) else 1) → WI p l e 2 s m args below meth c G e0 α κ B Qm H locs 112 ls [.int (Int32.ofInt v287)]) (fun J288 => ?_) ?_
      · refine sa_if_eq (tgt := 111) X.1 r285 dX10_border_77 (by decide) (fun hc => ?_) (fun hc => ?_)
        · skip
          refine sa_const X.1 dX10_border_111 ?_
          exact J288 (0) (if_pos (c := x284 = 0) hc).symm
        · skip
          refine lv_goto (tgt := 107) X.1.1 X.1.2.1 dX10_border_80 (by decide) ?_
          refine sa_const X.1 dX10_border_107 ?_
          refine lv_goto (tgt := 112) X.1.1 X.1.2.1 dX10_border_108 (by decide) ?_
          exact J288 (1) (if_neg (c := x284 = 0) hc).symm
      intro v287 hv287
      subst hv287
      refine lv_istore (lv' := [(6, .int (Int32.ofInt (if x284 = 0 then (0 : Int) else 1))), (5, .int (Int32.ofInt 1)), (0, .ref (α 11 0)), (1, .int (Int32.ofInt p1)), (2, .int (Int32.ofInt p2)), (3, .int (Int32.ofInt p3)), (4, .int (Int32.ofInt p4))]) X.1.1 X.1.2.1 dX10_border_112 hl (by decide) rfl (fun ls hl => ?_)
      refine lv_aload_n X.1.1 X.1.2.1 dX10_border_114 rfl (lv_at hl 2 rfl) ?_
      refine lv_iload X.1.1 X.1.2.1 dX10_border_115 (lv_at hl 1 rfl) ?_
      refine lv_iload X.1.1 X.1.2.1 dX10_border_117 (lv_at hl 0 rfl) ?_
      refine sa_const X.1 dX10_border_119 ?_
      refine cs_X10_goes X (inR_c (a := 1) rfl) r286 (inR_c (a := 1) rfl) (kc := 2) rmL_ok rm_c (by decide) hR hS kw_1721 hl.1 dX10_border_120 (Nat.le_of_ble_eq_true rfl) hw (fun x290 M289 H locs hw r291 hR hS => ?_)
      refine sa_if_ne (tgt := 128) X.1 r291 dX10_border_123 (by decide) (fun hc => ?_) (fun hc => ?_)
      · have hw := hw.1 hc
        refine lv_iload_n X.1.1 X.1.2.1 dX10_border_128 rfl (lv_at hl 3 rfl) ?_
        have s308 := hw.1
        have hw := hw.2
        have s309 := hw.1
        have hw := hw.2
        have r310 := inR_ite (c := ¬ p1 = 0) (inR_ite (c := ¬ p1 = 1) (inR_ite (c := ¬ p1 = 2) (hR.r 11 0 30) (hR.r 79 0 ((4 * p2) + p3))) (hR.r 78 0 ((4 * p2) + p3))) (hR.r 77 0 ((4 * p2) + p3))
        refine cut_j (A := ∀ v311 : Int, v311 = (if ¬ p1 = 0 then (if ¬ p1 = 1 then (if ¬ p1 = 2 then (M289 11 0 30) else (M289 79 0 ((4 * p2) + p3))) else (M289 78 0 ((4 * p2) + p3))) else (M289 77 0 ((4 * p2) + p3))) → WI p l e 2 s m args below meth c G e0 α κ B Qm H locs 185 ls [.int (Int32.ofInt v311)]) (fun J312 => ?_) ?_
        · refine sa_if_ne (tgt := 145) X.1 hp1 dX10_border_129 (by decide) (fun hc => ?_) (fun hc => ?_)
          · have hw := s308 hc
            refine lv_iload_n X.1.1 X.1.2.1 dX10_border_145 rfl (lv_at hl 3 rfl) ?_
            refine sa_const X.1 dX10_border_146 ?_
            have s301 := hw.1
            have hw := hw.2
            have s302 := hw.1
            have hw := hw.2
            refine cut_j (A := ∀ v303 : Int, v303 = (if ¬ p1 = 1 then (if ¬ p1 = 2 then (M289 11 0 30) else (M289 79 0 ((4 * p2) + p3))) else (M289 78 0 ((4 * p2) + p3))) → WI p l e 2 s m args below meth c G e0 α κ B Qm H locs 185 ls [.int (Int32.ofInt v303)]) (fun J304 => ?_) ?_
            · refine sa_icmp_ne (tgt := 163) X.1 hp1 (inR_c (a := 1) rfl) dX10_border_147 (by decide) (fun hc => ?_) (fun hc => ?_)
              · have hw := s301 hc
                refine lv_iload_n X.1.1 X.1.2.1 dX10_border_163 rfl (lv_at hl 3 rfl) ?_
                refine sa_const X.1 dX10_border_164 ?_
                have s295 := hw.1
                have hw := hw.2
                refine cut_j (A := ∀ v296 : Int, v296 = (if ¬ p1 = 2 then (M289 11 0 30) else (M289 79 0 ((4 * p2) + p3))) → WI p l e 2 s m args below meth c G e0 α κ B Qm H locs 185 ls [.int (Int32.ofInt v296)]) (fun J297 => ?_) ?_
                · refine sa_icmp_ne (tgt := 181) X.1 hp1 (inR_c (a := 2) rfl) dX10_border_165 (by decide) (fun hc => ?_) (fun hc => ?_)
                  · skip
                    refine lv_aload_n X.1.1 X.1.2.1 dX10_border_181 rfl (lv_at hl 2 rfl) ?_
                    refine gt_11_30 X hR (okf X.2.2.1 rfl) kw_1559 dX10_border_182 ?_
                    exact J297 ((M289 11 0 30)) (if_pos (c := ¬ p1 = 2) hc).symm
                  · have hw := s295 hc
                    refine lv_aload_n X.1.1 X.1.2.1 dX10_border_168 rfl (lv_at hl 2 rfl) ?_
                    refine gt_11_29 X hR (okf X.2.2.1 rfl) kw_1558 dX10_border_169 ?_
                    refine sa_const X.1 dX10_border_172 ?_
                    refine lv_iload_n X.1.1 X.1.2.1 dX10_border_173 rfl (lv_at hl 4 rfl) ?_
                    have c292 := hw.1
                    have hw := hw.2
                    refine sa_imul X.1 dX10_border_174 ?_
                    refine lv_iload_n X.1.1 X.1.2.1 dX10_border_175 rfl (lv_at hl 5 rfl) ?_
                    have c293 := hw.1
                    have hw := hw.2
                    refine sa_iadd X.1 dX10_border_176 ?_
                    have c294 := hw.1
                    have hw := hw.2
                    refine ra_79 X hR (okf X.2.2.1 rfl) c294 dX10_border_177 ?_
                    refine lv_goto (tgt := 185) X.1.1 X.1.2.1 dX10_border_178 (by decide) ?_
                    exact J297 ((M289 79 0 ((4 * p2) + p3))) (if_neg (c := ¬ p1 = 2) (fun z => z hc)).symm
                intro v296 hv296
                subst hv296
                exact J304 ((if ¬ p1 = 2 then (M289 11 0 30) else (M289 79 0 ((4 * p2) + p3)))) (if_pos (c := ¬ p1 = 1) hc).symm
              · have hw := s302 hc
                refine lv_aload_n X.1.1 X.1.2.1 dX10_border_150 rfl (lv_at hl 2 rfl) ?_
                refine gt_11_28 X hR (okf X.2.2.1 rfl) kw_1557 dX10_border_151 ?_
                refine sa_const X.1 dX10_border_154 ?_
                refine lv_iload_n X.1.1 X.1.2.1 dX10_border_155 rfl (lv_at hl 4 rfl) ?_
                have c298 := hw.1
                have hw := hw.2
                refine sa_imul X.1 dX10_border_156 ?_
                refine lv_iload_n X.1.1 X.1.2.1 dX10_border_157 rfl (lv_at hl 5 rfl) ?_
                have c299 := hw.1
                have hw := hw.2
                refine sa_iadd X.1 dX10_border_158 ?_
                have c300 := hw.1
                have hw := hw.2
                refine ra_78 X hR (okf X.2.2.1 rfl) c300 dX10_border_159 ?_
                refine lv_goto (tgt := 185) X.1.1 X.1.2.1 dX10_border_160 (by decide) ?_
                exact J304 ((M289 78 0 ((4 * p2) + p3))) (if_neg (c := ¬ p1 = 1) (fun z => z hc)).symm
            intro v303 hv303
            subst hv303
            exact J312 ((if ¬ p1 = 1 then (if ¬ p1 = 2 then (M289 11 0 30) else (M289 79 0 ((4 * p2) + p3))) else (M289 78 0 ((4 * p2) + p3)))) (if_pos (c := ¬ p1 = 0) hc).symm
          · have hw := s309 hc
            refine lv_aload_n X.1.1 X.1.2.1 dX10_border_132 rfl (lv_at hl 2 rfl) ?_
            refine gt_11_27 X hR (okf X.2.2.1 rfl) kw_1556 dX10_border_133 ?_
            refine sa_const X.1 dX10_border_136 ?_
            refine lv_iload_n X.1.1 X.1.2.1 dX10_border_137 rfl (lv_at hl 4 rfl) ?_
            have c305 := hw.1
            have hw := hw.2
            refine sa_imul X.1 dX10_border_138 ?_
            refine lv_iload_n X.1.1 X.1.2.1 dX10_border_139 rfl (lv_at hl 5 rfl) ?_
            have c306 := hw.1
            have hw := hw.2
            refine sa_iadd X.1 dX10_border_140 ?_
            have c307 := hw.1
            have hw := hw.2
            refine ra_77 X hR (okf X.2.2.1 rfl) c307 dX10_border_141 ?_
            refine lv_goto (tgt := 185) X.1.1 X.1.2.1 dX10_border_142 (by decide) ?_
            exact J312 ((M289 77 0 ((4 * p2) + p3))) (if_neg (c := ¬ p1 = 0) (fun z => z hc)).symm
        intro v311 hv311
        subst hv311
        refine lv_istore (lv' := [(7, .int (Int32.ofInt (if ¬ p1 = 0 then (if ¬ p1 = 1 then (if ¬ p1 = 2 then (M289 11 0 30) else (M289 79 0 ((4 * p2) + p3))) else (M289 78 0 ((4 * p2) + p3))) else (M289 77 0 ((4 * p2) + p3))))), (6, .int (Int32.ofInt (if x284 = 0 then (0 : Int) else 1))), (5, .int (Int32.ofInt 1)), (0, .ref (α 11 0)), (1, .int (Int32.ofInt p1)), (2, .int (Int32.ofInt p2)), (3, .int (Int32.ofInt p3)), (4, .int (Int32.ofInt p4))]) X.1.1 X.1.2.1 dX10_border_185 hl (by decide) rfl (fun ls hl => ?_)
        refine lv_iload_n X.1.1 X.1.2.1 dX10_border_187 rfl (lv_at hl 4 rfl) ?_
        refine sa_if_ne (tgt := 206) X.1 hp1 dX10_border_188 (by decide) (fun hc => ?_) (fun hc => ?_)
        · have hw := hw.1 hc
          refine lv_iload_n X.1.1 X.1.2.1 dX10_border_206 rfl (lv_at hl 4 rfl) ?_
          refine sa_const X.1 dX10_border_207 ?_
          refine sa_icmp_ne (tgt := 226) X.1 hp1 (inR_c (a := 1) rfl) dX10_border_208 (by decide) (fun hc => ?_) (fun hc => ?_)
          · have hw := hw.1 hc
            refine lv_iload_n X.1.1 X.1.2.1 dX10_border_226 rfl (lv_at hl 4 rfl) ?_
            refine sa_const X.1 dX10_border_227 ?_
            refine sa_icmp_ne (tgt := 246) X.1 hp1 (inR_c (a := 2) rfl) dX10_border_228 (by decide) (fun hc => ?_) (fun hc => ?_)
            · have hw := hw.1 hc
              refine lv_aload_n X.1.1 X.1.2.1 dX10_border_246 rfl (lv_at hl 3 rfl) ?_
              refine lv_iload X.1.1 X.1.2.1 dX10_border_247 (lv_at hl 7 rfl) ?_
              refine pt_11_30 X hR hS (okf X.2.2.1 rfl) hp4 kw_1559 dX10_border_249 (fun H locs hR hS => ?_)
              obtain ⟨M313, e314⟩ : ∃ z : Mem, z = up M289 11 0 30 p4 := ⟨_, rfl⟩
              rw [← e314] at hR
              have hw := hw M313 e314
              exact t_X10_border_252 X hp1 hp2 hp3 hp4 _ _ hw r310 _ _ hR hS _ (lv_sub hl [0] rfl)
            · have hw := hw.2 hc
              refine lv_aload_n X.1.1 X.1.2.1 dX10_border_231 rfl (lv_at hl 3 rfl) ?_
              refine gt_11_29 X hR (okf X.2.2.1 rfl) kw_1558 dX10_border_232 ?_
              refine sa_const X.1 dX10_border_235 ?_
              refine lv_iload_n X.1.1 X.1.2.1 dX10_border_236 rfl (lv_at hl 5 rfl) ?_
              have c315 := hw.1
              have hw := hw.2
              refine sa_imul X.1 dX10_border_237 ?_
              refine lv_iload_n X.1.1 X.1.2.1 dX10_border_238 rfl (lv_at hl 6 rfl) ?_
              have c316 := hw.1
              have hw := hw.2
              refine sa_iadd X.1 dX10_border_239 ?_
              refine lv_iload X.1.1 X.1.2.1 dX10_border_240 (lv_at hl 7 rfl) ?_
              have c317 := hw.1
              have hw := hw.2
              refine wa_79 X hR hS (okf X.2.2.1 rfl) c317 hp4 dX10_border_242 (fun H locs hR hS => ?_)
              obtain ⟨M318, e319⟩ : ∃ z : Mem, z = up M289 79 0 ((4 * p2) + p3) p4 := ⟨_, rfl⟩
              rw [← e319] at hR
              have hw := hw M318 e319
              refine lv_goto (tgt := 252) X.1.1 X.1.2.1 dX10_border_243 (by decide) ?_
              exact t_X10_border_252 X hp1 hp2 hp3 hp4 _ _ hw r310 _ _ hR hS _ (lv_sub hl [0] rfl)
          · have hw := hw.2 hc
            refine lv_aload_n X.1.1 X.1.2.1 dX10_border_211 rfl (lv_at hl 3 rfl) ?_
            refine gt_11_28 X hR (okf X.2.2.1 rfl) kw_1557 dX10_border_212 ?_
            refine sa_const X.1 dX10_border_215 ?_
            refine lv_iload_n X.1.1 X.1.2.1 dX10_border_216 rfl (lv_at hl 5 rfl) ?_
            have c320 := hw.1
            have hw := hw.2
            refine sa_imul X.1 dX10_border_217 ?_
            refine lv_iload_n X.1.1 X.1.2.1 dX10_border_218 rfl (lv_at hl 6 rfl) ?_
            have c321 := hw.1
            have hw := hw.2
            refine sa_iadd X.1 dX10_border_219 ?_
            refine lv_iload X.1.1 X.1.2.1 dX10_border_220 (lv_at hl 7 rfl) ?_
            have c322 := hw.1
            have hw := hw.2
            refine wa_78 X hR hS (okf X.2.2.1 rfl) c322 hp4 dX10_border_222 (fun H locs hR hS => ?_)
            obtain ⟨M323, e324⟩ : ∃ z : Mem, z = up M289 78 0 ((4 * p2) + p3) p4 := ⟨_, rfl⟩
            rw [← e324] at hR
            have hw := hw M323 e324
            refine lv_goto (tgt := 252) X.1.1 X.1.2.1 dX10_border_223 (by decide) ?_
            exact t_X10_border_252 X hp1 hp2 hp3 hp4 _ _ hw r310 _ _ hR hS _ (lv_sub hl [0] rfl)
        · have hw := hw.2 hc
          refine lv_aload_n X.1.1 X.1.2.1 dX10_border_191 rfl (lv_at hl 3 rfl) ?_
          refine gt_11_27 X hR (okf X.2.2.1 rfl) kw_1556 dX10_border_192 ?_
          refine sa_const X.1 dX10_border_195 ?_
          refine lv_iload_n X.1.1 X.1.2.1 dX10_border_196 rfl (lv_at hl 5 rfl) ?_
          have c325 := hw.1
          have hw := hw.2
          refine sa_imul X.1 dX10_border_197 ?_
          refine lv_iload_n X.1.1 X.1.2.1 dX10_border_198 rfl (lv_at hl 6 rfl) ?_
          have c326 := hw.1
          have hw := hw.2
          refine sa_iadd X.1 dX10_border_199 ?_
          refine lv_iload X.1.1 X.1.2.1 dX10_border_200 (lv_at hl 7 rfl) ?_
          have c327 := hw.1
          have hw := hw.2
          refine wa_77 X hR hS (okf X.2.2.1 rfl) c327 hp4 dX10_border_202 (fun H locs hR hS => ?_)
          obtain ⟨M328, e329⟩ : ∃ z : Mem, z = up M289 77 0 ((4 * p2) + p3) p4 := ⟨_, rfl⟩
          rw [← e329] at hR
          have hw := hw M328 e329
          refine lv_goto (tgt := 252) X.1.1 X.1.2.1 dX10_border_203 (by decide) ?_
          exact t_X10_border_252 X hp1 hp2 hp3 hp4 _ _ hw r310 _ _ hR hS _ (lv_sub hl [0] rfl)
      · have hw := hw.2 hc
        refine sa_const X.1 dX10_border_126 ?_
        exact sa_iret X.1 X.2.2.2.1 X.2.2.2.2 hR hS (inR_c (a := 0) rfl) hw dX10_border_127
set_option maxHeartbeats 4000000 in
set_option maxRecDepth 100000 in
theorem t_X10_border {p1 : Int} {p2 : Int} {p3 : Int} {p4 : Int} (X : CX p m c cX10_border 8 s args RX10 G B κ meth (some .int)) (hp1 : inR p1) (hp2 : inR p2) (hp3 : inR p3) (hp4 : inR p4) {M : Mem} {Qm : Int → Mem → Prop} (hw : wp_X10_border p1 p2 p3 p4 M Qm) (H : Heap) (locs : List Loc) (hR : Rp G e0 α κ B M H) (hS : va_S (fun q => B ≤ q) s.heap H locs) (ls : Array Slot) (hl : lv_has ls 8 [(0, .ref (α 11 0)), (1, .int (Int32.ofInt p1)), (2, .int (Int32.ofInt p2)), (3, .int (Int32.ofInt p3)), (4, .int (Int32.ofInt p4))]) : WI p l e 2 s m args below meth c G e0 α κ B Qm H locs 0 ls [] := by
  have hw : wp_X10_in p1 0 3 M fun (x2 : Int) (M1 : Mem) => ((x2 = 0 → wp_X10_border_60 p1 p2 p3 p4 Qm M1) ∧ (¬ x2 = 0 → wp_X10_in p4 0 5 M1 fun (x187 : Int) (M186 : Mem) => ((x187 = 0 → wp_X10_border_60 p1 p2 p3 p4 Qm M186) ∧ (¬ x187 = 0 → ((p1 = 3 → wp_X10_border_56 p1 p2 p3 p4 Qm M186) ∧ (¬ p1 = 3 → wp_X10_in p3 0 3 M186 fun (x331 : Int) (M330 : Mem) => ((p1 = 3 → wp_X10_border_107 p1 p2 p3 p4 Qm (if x331 = 0 then (0 : Int) else (if ¬ p1 = 1 then (if ¬ p1 = 2 then (1 : Int) else (if ¬ (Int.tmod p3 2) = 1 then (0 : Int) else 1)) else (if ¬ (Int.tmod p3 2) = 0 then (0 : Int) else (if ¬ p1 = 2 then (1 : Int) else (if ¬ (Int.tmod p3 2) = 1 then (0 : Int) else 1))))) M330) ∧ (¬ p1 = 3 → ((¬ p1 = 0 → ((¬ p1 = 1 → wp_X10_isColumn p2 M330 fun (x349 : Int) (M348 : Mem) => wp_X10_goes (if x331 = 0 then (0 : Int) else (if ¬ p1 = 1 then (if ¬ p1 = 2 then (1 : Int) else (if ¬ (Int.tmod p3 2) = 1 then (0 : Int) else 1)) else (if ¬ (Int.tmod p3 2) = 0 then (0 : Int) else (if ¬ p1 = 2 then (1 : Int) else (if ¬ (Int.tmod p3 2) = 1 then (0 : Int) else 1))))) (if x349 = 0 then (0 : Int) else 1) 1 M348 fun (x355 : Int) (M354 : Mem) => ((¬ x355 = 0 → (¬ p1 = 0 → (¬ p1 = 1 → (p1 = 2 → (inR (4 * p2)) ∧ (inR ((4 * p2) + p3)) ∧ (0 ≤ ((4 * p2) + p3) ∧ ((4 * p2) + p3) < 24) ∧ True) ∧ True) ∧ (p1 = 1 → (inR (4 * p2)) ∧ (inR ((4 * p2) + p3)) ∧ (0 ≤ ((4 * p2) + p3) ∧ ((4 * p2) + p3) < 116) ∧ True) ∧ True) ∧ (p1 = 0 → (inR (4 * p2)) ∧ (inR ((4 * p2) + p3)) ∧ (0 ≤ ((4 * p2) + p3) ∧ ((4 * p2) + p3) < 400) ∧ True) ∧ ((¬ p1 = 0 → ((¬ p1 = 1 → ((¬ p1 = 2 → ∀ M378 : Mem, M378 = up M354 11 0 30 p4 → wp_X10_border_252 p1 p2 p3 p4 Qm (if ¬ p1 = 0 then (if ¬ p1 = 1 then (if ¬ p1 = 2 then (M354 11 0 30) else (M354 79 0 ((4 * p2) + p3))) else (M354 78 0 ((4 * p2) + p3))) else (M354 77 0 ((4 * p2) + p3))) M378) ∧ (p1 = 2 → (inR (4 * p2)) ∧ (inR ((4 * p2) + p3)) ∧ (0 ≤ ((4 * p2) + p3) ∧ ((4 * p2) + p3) < 24) ∧ ∀ M383 : Mem, M383 = up M354 79 0 ((4 * p2) + p3) p4 → wp_X10_border_252 p1 p2 p3 p4 Qm (if ¬ p1 = 0 then (if ¬ p1 = 1 then (if ¬ p1 = 2 then (M354 11 0 30) else (M354 79 0 ((4 * p2) + p3))) else (M354 78 0 ((4 * p2) + p3))) else (M354 77 0 ((4 * p2) + p3))) M383))) ∧ (p1 = 1 → (inR (4 * p2)) ∧ (inR ((4 * p2) + p3)) ∧ (0 ≤ ((4 * p2) + p3) ∧ ((4 * p2) + p3) < 116) ∧ ∀ M388 : Mem, M388 = up M354 78 0 ((4 * p2) + p3) p4 → wp_X10_border_252 p1 p2 p3 p4 Qm (if ¬ p1 = 0 then (if ¬ p1 = 1 then (if ¬ p1 = 2 then (M354 11 0 30) else (M354 79 0 ((4 * p2) + p3))) else (M354 78 0 ((4 * p2) + p3))) else (M354 77 0 ((4 * p2) + p3))) M388))) ∧ (p1 = 0 → (inR (4 * p2)) ∧ (inR ((4 * p2) + p3)) ∧ (0 ≤ ((4 * p2) + p3) ∧ ((4 * p2) + p3) < 400) ∧ ∀ M393 : Mem, M393 = up M354 77 0 ((4 * p2) + p3) p4 → wp_X10_border_252 p1 p2 p3 p4 Qm (if ¬ p1 = 0 then (if ¬ p1 = 1 then (if ¬ p1 = 2 then (M354 11 0 30) else (M354 79 0 ((4 * p2) + p3))) else (M354 78 0 ((4 * p2) + p3))) else (M354 77 0 ((4 * p2) + p3))) M393))) ∧ (x355 = 0 → Qm 0 M354))) ∧ (p1 = 1 → wp_X10_isRow p2 M330 fun (x396 : Int) (M395 : Mem) => wp_X10_goes (if x331 = 0 then (0 : Int) else (if ¬ p1 = 1 then (if ¬ p1 = 2 then (1 : Int) else (if ¬ (Int.tmod p3 2) = 1 then (0 : Int) else 1)) else (if ¬ (Int.tmod p3 2) = 0 then (0 : Int) else (if ¬ p1 = 2 then (1 : Int) else (if ¬ (Int.tmod p3 2) = 1 then (0 : Int) else 1))))) (if x396 = 0 then (0 : Int) else 1) 1 M395 fun (x402 : Int) (M401 : Mem) => ((¬ x402 = 0 → (¬ p1 = 0 → (¬ p1 = 1 → (p1 = 2 → (inR (4 * p2)) ∧ (inR ((4 * p2) + p3)) ∧ (0 ≤ ((4 * p2) + p3) ∧ ((4 * p2) + p3) < 24) ∧ True) ∧ True) ∧ (p1 = 1 → (inR (4 * p2)) ∧ (inR ((4 * p2) + p3)) ∧ (0 ≤ ((4 * p2) + p3) ∧ ((4 * p2) + p3) < 116) ∧ True) ∧ True) ∧ (p1 = 0 → (inR (4 * p2)) ∧ (inR ((4 * p2) + p3)) ∧ (0 ≤ ((4 * p2) + p3) ∧ ((4 * p2) + p3) < 400) ∧ True) ∧ ((¬ p1 = 0 → ((¬ p1 = 1 → ((¬ p1 = 2 → ∀ M425 : Mem, M425 = up M401 11 0 30 p4 → wp_X10_border_252 p1 p2 p3 p4 Qm (if ¬ p1 = 0 then (if ¬ p1 = 1 then (if ¬ p1 = 2 then (M401 11 0 30) else (M401 79 0 ((4 * p2) + p3))) else (M401 78 0 ((4 * p2) + p3))) else (M401 77 0 ((4 * p2) + p3))) M425) ∧ (p1 = 2 → (inR (4 * p2)) ∧ (inR ((4 * p2) + p3)) ∧ (0 ≤ ((4 * p2) + p3) ∧ ((4 * p2) + p3) < 24) ∧ ∀ M430 : Mem, M430 = up M401 79 0 ((4 * p2) + p3) p4 → wp_X10_border_252 p1 p2 p3 p4 Qm (if ¬ p1 = 0 then (if ¬ p1 = 1 then (if ¬ p1 = 2 then (M401 11 0 30) else (M401 79 0 ((4 * p2) + p3))) else (M401 78 0 ((4 * p2) + p3))) else (M401 77 0 ((4 * p2) + p3))) M430))) ∧ (p1 = 1 → (inR (4 * p2)) ∧ (inR ((4 * p2) + p3)) ∧ (0 ≤ ((4 * p2) + p3) ∧ ((4 * p2) + p3) < 116) ∧ ∀ M435 : Mem, M435 = up M401 78 0 ((4 * p2) + p3) p4 → wp_X10_border_252 p1 p2 p3 p4 Qm (if ¬ p1 = 0 then (if ¬ p1 = 1 then (if ¬ p1 = 2 then (M401 11 0 30) else (M401 79 0 ((4 * p2) + p3))) else (M401 78 0 ((4 * p2) + p3))) else (M401 77 0 ((4 * p2) + p3))) M435))) ∧ (p1 = 0 → (inR (4 * p2)) ∧ (inR ((4 * p2) + p3)) ∧ (0 ≤ ((4 * p2) + p3) ∧ ((4 * p2) + p3) < 400) ∧ ∀ M440 : Mem, M440 = up M401 77 0 ((4 * p2) + p3) p4 → wp_X10_border_252 p1 p2 p3 p4 Qm (if ¬ p1 = 0 then (if ¬ p1 = 1 then (if ¬ p1 = 2 then (M401 11 0 30) else (M401 79 0 ((4 * p2) + p3))) else (M401 78 0 ((4 * p2) + p3))) else (M401 77 0 ((4 * p2) + p3))) M440))) ∧ (x402 = 0 → Qm 0 M401))))) ∧ (p1 = 0 → wp_X10_isCell p2 M330 fun (x443 : Int) (M442 : Mem) => wp_X10_goes (if x331 = 0 then (0 : Int) else (if ¬ p1 = 1 then (if ¬ p1 = 2 then (1 : Int) else (if ¬ (Int.tmod p3 2) = 1 then (0 : Int) else 1)) else (if ¬ (Int.tmod p3 2) = 0 then (0 : Int) else (if ¬ p1 = 2 then (1 : Int) else (if ¬ (Int.tmod p3 2) = 1 then (0 : Int) else 1))))) (if x443 = 0 then (0 : Int) else 1) 1 M442 fun (x449 : Int) (M448 : Mem) => ((¬ x449 = 0 → (¬ p1 = 0 → (¬ p1 = 1 → (p1 = 2 → (inR (4 * p2)) ∧ (inR ((4 * p2) + p3)) ∧ (0 ≤ ((4 * p2) + p3) ∧ ((4 * p2) + p3) < 24) ∧ True) ∧ True) ∧ (p1 = 1 → (inR (4 * p2)) ∧ (inR ((4 * p2) + p3)) ∧ (0 ≤ ((4 * p2) + p3) ∧ ((4 * p2) + p3) < 116) ∧ True) ∧ True) ∧ (p1 = 0 → (inR (4 * p2)) ∧ (inR ((4 * p2) + p3)) ∧ (0 ≤ ((4 * p2) + p3) ∧ ((4 * p2) + p3) < 400) ∧ True) ∧ ((¬ p1 = 0 → ((¬ p1 = 1 → ((¬ p1 = 2 → ∀ M472 : Mem, M472 = up M448 11 0 30 p4 → wp_X10_border_252 p1 p2 p3 p4 Qm (if ¬ p1 = 0 then (if ¬ p1 = 1 then (if ¬ p1 = 2 then (M448 11 0 30) else (M448 79 0 ((4 * p2) + p3))) else (M448 78 0 ((4 * p2) + p3))) else (M448 77 0 ((4 * p2) + p3))) M472) ∧ (p1 = 2 → (inR (4 * p2)) ∧ (inR ((4 * p2) + p3)) ∧ (0 ≤ ((4 * p2) + p3) ∧ ((4 * p2) + p3) < 24) ∧ ∀ M477 : Mem, M477 = up M448 79 0 ((4 * p2) + p3) p4 → wp_X10_border_252 p1 p2 p3 p4 Qm (if ¬ p1 = 0 then (if ¬ p1 = 1 then (if ¬ p1 = 2 then (M448 11 0 30) else (M448 79 0 ((4 * p2) + p3))) else (M448 78 0 ((4 * p2) + p3))) else (M448 77 0 ((4 * p2) + p3))) M477))) ∧ (p1 = 1 → (inR (4 * p2)) ∧ (inR ((4 * p2) + p3)) ∧ (0 ≤ ((4 * p2) + p3) ∧ ((4 * p2) + p3) < 116) ∧ ∀ M482 : Mem, M482 = up M448 78 0 ((4 * p2) + p3) p4 → wp_X10_border_252 p1 p2 p3 p4 Qm (if ¬ p1 = 0 then (if ¬ p1 = 1 then (if ¬ p1 = 2 then (M448 11 0 30) else (M448 79 0 ((4 * p2) + p3))) else (M448 78 0 ((4 * p2) + p3))) else (M448 77 0 ((4 * p2) + p3))) M482))) ∧ (p1 = 0 → (inR (4 * p2)) ∧ (inR ((4 * p2) + p3)) ∧ (0 ≤ ((4 * p2) + p3) ∧ ((4 * p2) + p3) < 400) ∧ ∀ M487 : Mem, M487 = up M448 77 0 ((4 * p2) + p3) p4 → wp_X10_border_252 p1 p2 p3 p4 Qm (if ¬ p1 = 0 then (if ¬ p1 = 1 then (if ¬ p1 = 2 then (M448 11 0 30) else (M448 79 0 ((4 * p2) + p3))) else (M448 78 0 ((4 * p2) + p3))) else (M448 77 0 ((4 * p2) + p3))) M487))) ∧ (x449 = 0 → Qm 0 M448)))))))))))) := hw
  refine lv_iload_n X.1.1 X.1.2.1 dX10_border_0 rfl (lv_at hl 1 rfl) ?_
  refine sa_const X.1 dX10_border_1 ?_
  refine sa_const X.1 dX10_border_2 ?_
  refine cs_X10_in X hp1 (inR_c (a := 0) rfl) (inR_c (a := 3) rfl) (kc := 2) rmL_ok rm_c (by decide) hR hS kw_1718 hl.1 dX10_border_3 (Nat.le_of_ble_eq_true rfl) hw (fun x2 M1 H locs hw r3 hR hS => ?_)
  refine sa_if_eq (tgt := 60) X.1 r3 dX10_border_6 (by decide) (fun hc => ?_) (fun hc => ?_)
  · have hw := hw.1 hc
    exact t_X10_border_60 X hp1 hp2 hp3 hp4 _ hw _ _ hR hS _ (lv_sub hl [0, 1, 2, 3, 4] rfl)
  · have hw := hw.2 hc
    refine lv_iload X.1.1 X.1.2.1 dX10_border_9 (lv_at hl 4 rfl) ?_
    refine sa_const X.1 dX10_border_11 ?_
    refine sa_const X.1 dX10_border_12 ?_
    refine cs_X10_in X hp4 (inR_c (a := 0) rfl) (inR_c (a := 5) rfl) (kc := 2) rmL_ok rm_c (by decide) hR hS kw_1718 hl.1 dX10_border_13 (Nat.le_of_ble_eq_true rfl) hw (fun x187 M186 H locs hw r188 hR hS => ?_)
    refine sa_if_eq (tgt := 60) X.1 r188 dX10_border_16 (by decide) (fun hc => ?_) (fun hc => ?_)
    · have hw := hw.1 hc
      exact t_X10_border_60 X hp1 hp2 hp3 hp4 _ hw _ _ hR hS _ (lv_sub hl [0, 1, 2, 3, 4] rfl)
    · have hw := hw.2 hc
      refine lv_iload_n X.1.1 X.1.2.1 dX10_border_19 rfl (lv_at hl 1 rfl) ?_
      refine sa_const X.1 dX10_border_20 ?_
      refine sa_icmp_eq (tgt := 56) X.1 hp1 (inR_c (a := 3) rfl) dX10_border_21 (by decide) (fun hc => ?_) (fun hc => ?_)
      · have hw := hw.1 hc
        exact t_X10_border_56 X hp1 hp2 hp3 hp4 _ hw _ _ hR hS _ (lv_sub hl [0, 1, 2, 3, 4] rfl)
      · have hw := hw.2 hc
        refine lv_iload_n X.1.1 X.1.2.1 dX10_border_24 rfl (lv_at hl 3 rfl) ?_
        refine sa_const X.1 dX10_border_25 ?_
        refine sa_const X.1 dX10_border_26 ?_
        refine cs_X10_in X hp3 (inR_c (a := 0) rfl) (inR_c (a := 3) rfl) (kc := 2) rmL_ok rm_c (by decide) hR hS kw_1718 hl.1 dX10_border_27 (Nat.le_of_ble_eq_true rfl) hw (fun x331 M330 H locs hw r332 hR hS => ?_)
        have r345 := inR_ite (c := x331 = 0) (inR_c (a := 0) rfl) (inR_ite (c := ¬ p1 = 1) (inR_ite (c := ¬ p1 = 2) (inR_c (a := 1) rfl) (inR_ite (c := ¬ (Int.tmod p3 2) = 1) (inR_c (a := 0) rfl) (inR_c (a := 1) rfl))) (inR_ite (c := ¬ (Int.tmod p3 2) = 0) (inR_c (a := 0) rfl) (inR_ite (c := ¬ p1 = 2) (inR_c (a := 1) rfl) (inR_ite (c := ¬ (Int.tmod p3 2) = 1) (inR_c (a := 0) rfl) (inR_c (a := 1) rfl)))))
        refine cut_j (A := ∀ v346 : Int, v346 = (if x331 = 0 then (0 : Int) else (if ¬ p1 = 1 then (if ¬ p1 = 2 then (1 : Int) else (if ¬ (Int.tmod p3 2) = 1 then (0 : Int) else 1)) else (if ¬ (Int.tmod p3 2) = 0 then (0 : Int) else (if ¬ p1 = 2 then (1 : Int) else (if ¬ (Int.tmod p3 2) = 1 then (0 : Int) else 1))))) → WI p l e 2 s m args below meth c G e0 α κ B Qm H locs 61 ls [.int (Int32.ofInt v346)]) (fun J347 => ?_) ?_
        · refine sa_if_eq (tgt := 60) X.1 r332 dX10_border_30 (by decide) (fun hc => ?_) (fun hc => ?_)
          · skip
            refine sa_const X.1 dX10_border_60 ?_
            exact J347 (0) (if_pos (c := x331 = 0) hc).symm
          · skip
            refine lv_iload_n X.1.1 X.1.2.1 dX10_border_33 rfl (lv_at hl 1 rfl) ?_
            refine sa_const X.1 dX10_border_34 ?_
            refine cut_j (A := ∀ v343 : Int, v343 = (if ¬ p1 = 1 then (if ¬ p1 = 2 then (1 : Int) else (if ¬ (Int.tmod p3 2) = 1 then (0 : Int) else 1)) else (if ¬ (Int.tmod p3 2) = 0 then (0 : Int) else (if ¬ p1 = 2 then (1 : Int) else (if ¬ (Int.tmod p3 2) = 1 then (0 : Int) else 1)))) → WI p l e 2 s m args below meth c G e0 α κ B Qm H locs 61 ls [.int (Int32.ofInt v343)]) (fun J344 => ?_) ?_
            · refine sa_icmp_ne (tgt := 44) X.1 hp1 (inR_c (a := 1) rfl) dX10_border_35 (by decide) (fun hc => ?_) (fun hc => ?_)
              · skip
                refine lv_iload_n X.1.1 X.1.2.1 dX10_border_44 rfl (lv_at hl 1 rfl) ?_
                refine sa_const X.1 dX10_border_45 ?_
                refine cut_j (A := ∀ v335 : Int, v335 = (if ¬ p1 = 2 then (1 : Int) else (if ¬ (Int.tmod p3 2) = 1 then (0 : Int) else 1)) → WI p l e 2 s m args below meth c G e0 α κ B Qm H locs 61 ls [.int (Int32.ofInt v335)]) (fun J336 => ?_) ?_
                · refine sa_icmp_ne (tgt := 56) X.1 hp1 (inR_c (a := 2) rfl) dX10_border_46 (by decide) (fun hc => ?_) (fun hc => ?_)
                  · skip
                    refine sa_const X.1 dX10_border_56 ?_
                    refine lv_goto (tgt := 61) X.1.1 X.1.2.1 dX10_border_57 (by decide) ?_
                    exact J336 (1) (if_pos (c := ¬ p1 = 2) hc).symm
                  · skip
                    refine lv_iload_n X.1.1 X.1.2.1 dX10_border_49 rfl (lv_at hl 3 rfl) ?_
                    refine sa_const X.1 dX10_border_50 ?_
                    refine sa_irem X.1 hp3 (inR_c (a := 2) rfl) (Int.ne_of_gt (by decide)) dX10_border_51 ?_
                    refine sa_const X.1 dX10_border_52 ?_
                    refine cut_j (A := ∀ v333 : Int, v333 = (if ¬ (Int.tmod p3 2) = 1 then (0 : Int) else 1) → WI p l e 2 s m args below meth c G e0 α κ B Qm H locs 61 ls [.int (Int32.ofInt v333)]) (fun J334 => ?_) ?_
                    · refine sa_icmp_ne (tgt := 60) X.1 (inR_tmod hp3 (inR_c (a := 2) rfl) (by decide)) (inR_c (a := 1) rfl) dX10_border_53 (by decide) (fun hc => ?_) (fun hc => ?_)
                      · skip
                        refine sa_const X.1 dX10_border_60 ?_
                        exact J334 (0) (if_pos (c := ¬ (Int.tmod p3 2) = 1) hc).symm
                      · skip
                        refine sa_const X.1 dX10_border_56 ?_
                        refine lv_goto (tgt := 61) X.1.1 X.1.2.1 dX10_border_57 (by decide) ?_
                        exact J334 (1) (if_neg (c := ¬ (Int.tmod p3 2) = 1) (fun z => z hc)).symm
                    intro v333 hv333
                    subst hv333
                    exact J336 ((if ¬ (Int.tmod p3 2) = 1 then (0 : Int) else 1)) (if_neg (c := ¬ p1 = 2) (fun z => z hc)).symm
                intro v335 hv335
                subst hv335
                exact J344 ((if ¬ p1 = 2 then (1 : Int) else (if ¬ (Int.tmod p3 2) = 1 then (0 : Int) else 1))) (if_pos (c := ¬ p1 = 1) hc).symm
              · skip
                refine lv_iload_n X.1.1 X.1.2.1 dX10_border_38 rfl (lv_at hl 3 rfl) ?_
                refine sa_const X.1 dX10_border_39 ?_
                refine sa_irem X.1 hp3 (inR_c (a := 2) rfl) (Int.ne_of_gt (by decide)) dX10_border_40 ?_
                refine cut_j (A := ∀ v341 : Int, v341 = (if ¬ (Int.tmod p3 2) = 0 then (0 : Int) else (if ¬ p1 = 2 then (1 : Int) else (if ¬ (Int.tmod p3 2) = 1 then (0 : Int) else 1))) → WI p l e 2 s m args below meth c G e0 α κ B Qm H locs 61 ls [.int (Int32.ofInt v341)]) (fun J342 => ?_) ?_
                · refine sa_if_ne (tgt := 60) X.1 (inR_tmod hp3 (inR_c (a := 2) rfl) (by decide)) dX10_border_41 (by decide) (fun hc => ?_) (fun hc => ?_)
                  · skip
                    refine sa_const X.1 dX10_border_60 ?_
                    exact J342 (0) (if_pos (c := ¬ (Int.tmod p3 2) = 0) hc).symm
                  · skip
                    refine lv_iload_n X.1.1 X.1.2.1 dX10_border_44 rfl (lv_at hl 1 rfl) ?_
                    refine sa_const X.1 dX10_border_45 ?_
                    refine cut_j (A := ∀ v339 : Int, v339 = (if ¬ p1 = 2 then (1 : Int) else (if ¬ (Int.tmod p3 2) = 1 then (0 : Int) else 1)) → WI p l e 2 s m args below meth c G e0 α κ B Qm H locs 61 ls [.int (Int32.ofInt v339)]) (fun J340 => ?_) ?_
                    · refine sa_icmp_ne (tgt := 56) X.1 hp1 (inR_c (a := 2) rfl) dX10_border_46 (by decide) (fun hc => ?_) (fun hc => ?_)
                      · skip
                        refine sa_const X.1 dX10_border_56 ?_
                        refine lv_goto (tgt := 61) X.1.1 X.1.2.1 dX10_border_57 (by decide) ?_
                        exact J340 (1) (if_pos (c := ¬ p1 = 2) hc).symm
                      · skip
                        refine lv_iload_n X.1.1 X.1.2.1 dX10_border_49 rfl (lv_at hl 3 rfl) ?_
                        refine sa_const X.1 dX10_border_50 ?_
                        refine sa_irem X.1 hp3 (inR_c (a := 2) rfl) (Int.ne_of_gt (by decide)) dX10_border_51 ?_
                        refine sa_const X.1 dX10_border_52 ?_
                        refine cut_j (A := ∀ v337 : Int, v337 = (if ¬ (Int.tmod p3 2) = 1 then (0 : Int) else 1) → WI p l e 2 s m args below meth c G e0 α κ B Qm H locs 61 ls [.int (Int32.ofInt v337)]) (fun J338 => ?_) ?_
                        · refine sa_icmp_ne (tgt := 60) X.1 (inR_tmod hp3 (inR_c (a := 2) rfl) (by decide)) (inR_c (a := 1) rfl) dX10_border_53 (by decide) (fun hc => ?_) (fun hc => ?_)
                          · skip
                            refine sa_const X.1 dX10_border_60 ?_
                            exact J338 (0) (if_pos (c := ¬ (Int.tmod p3 2) = 1) hc).symm
                          · skip
                            refine sa_const X.1 dX10_border_56 ?_
                            refine lv_goto (tgt := 61) X.1.1 X.1.2.1 dX10_border_57 (by decide) ?_
                            exact J338 (1) (if_neg (c := ¬ (Int.tmod p3 2) = 1) (fun z => z hc)).symm
                        intro v337 hv337
                        subst hv337
                        exact J340 ((if ¬ (Int.tmod p3 2) = 1 then (0 : Int) else 1)) (if_neg (c := ¬ p1 = 2) (fun z => z hc)).symm
                    intro v339 hv339
                    subst hv339
                    exact J342 ((if ¬ p1 = 2 then (1 : Int) else (if ¬ (Int.tmod p3 2) = 1 then (0 : Int) else 1))) (if_neg (c := ¬ (Int.tmod p3 2) = 0) (fun z => z hc)).symm
                intro v341 hv341
                subst hv341
                exact J344 ((if ¬ (Int.tmod p3 2) = 0 then (0 : Int) else (if ¬ p1 = 2 then (1 : Int) else (if ¬ (Int.tmod p3 2) = 1 then (0 : Int) else 1)))) (if_neg (c := ¬ p1 = 1) (fun z => z hc)).symm
            intro v343 hv343
            subst hv343
            exact J347 ((if ¬ p1 = 1 then (if ¬ p1 = 2 then (1 : Int) else (if ¬ (Int.tmod p3 2) = 1 then (0 : Int) else 1)) else (if ¬ (Int.tmod p3 2) = 0 then (0 : Int) else (if ¬ p1 = 2 then (1 : Int) else (if ¬ (Int.tmod p3 2) = 1 then (0 : Int) else 1))))) (if_neg (c := x331 = 0) hc).symm
        intro v346 hv346
        subst hv346
        refine lv_istore (lv' := [(5, .int (Int32.ofInt (if x331 = 0 then (0 : Int) else (if ¬ p1 = 1 then (if ¬ p1 = 2 then (1 : Int) else (if ¬ (Int.tmod p3 2) = 1 then (0 : Int) else 1)) else (if ¬ (Int.tmod p3 2) = 0 then (0 : Int) else (if ¬ p1 = 2 then (1 : Int) else (if ¬ (Int.tmod p3 2) = 1 then (0 : Int) else 1))))))), (0, .ref (α 11 0)), (1, .int (Int32.ofInt p1)), (2, .int (Int32.ofInt p2)), (3, .int (Int32.ofInt p3)), (4, .int (Int32.ofInt p4))]) X.1.1 X.1.2.1 dX10_border_61 hl (by decide) rfl (fun ls hl => ?_)
        refine lv_iload_n X.1.1 X.1.2.1 dX10_border_63 rfl (lv_at hl 2 rfl) ?_
        refine sa_const X.1 dX10_border_64 ?_
        refine sa_icmp_eq (tgt := 107) X.1 hp1 (inR_c (a := 3) rfl) dX10_border_65 (by decide) (fun hc => ?_) (fun hc => ?_)
        · have hw := hw.1 hc
          exact t_X10_border_107 X hp1 hp2 hp3 hp4 _ _ hw r345 _ _ hR hS _ (lv_sub hl [1, 2, 3, 4, 5, 0] rfl)
        · have hw := hw.2 hc
          refine lv_iload_n X.1.1 X.1.2.1 dX10_border_68 rfl (lv_at hl 2 rfl) ?_
          refine sa_if_ne (tgt := 83) X.1 hp1 dX10_border_69 (by decide) (fun hc => ?_) (fun hc => ?_)
          · have hw := hw.1 hc
            refine lv_iload_n X.1.1 X.1.2.1 dX10_border_83 rfl (lv_at hl 2 rfl) ?_
            refine sa_const X.1 dX10_border_84 ?_
            refine sa_icmp_ne (tgt := 99) X.1 hp1 (inR_c (a := 1) rfl) dX10_border_85 (by decide) (fun hc => ?_) (fun hc => ?_)
            · have hw := hw.1 hc
              refine lv_aload_n X.1.1 X.1.2.1 dX10_border_99 rfl (lv_at hl 1 rfl) ?_
              refine lv_iload_n X.1.1 X.1.2.1 dX10_border_100 rfl (lv_at hl 3 rfl) ?_
              refine cs_X10_isColumn X hp2 (kc := 2) rmL_ok rm_c (by decide) hR hS kw_1737 hl.1 dX10_border_101 (Nat.le_of_ble_eq_true rfl) hw (fun x349 M348 H locs hw r350 hR hS => ?_)
              have r351 := inR_ite (c := x349 = 0) (inR_c (a := 0) rfl) (inR_c (a := 1) rfl)
              refine cut_j (A := ∀ v352 : Int, v352 = (if x349 = 0 then (0 : Int) else 1) → WI p l e 2 s m args below meth c G e0 α κ B Qm H locs 112 ls [.int (Int32.ofInt v352)]) (fun J353 => ?_) ?_
              · refine sa_if_eq (tgt := 111) X.1 r350 dX10_border_104 (by decide) (fun hc => ?_) (fun hc => ?_)
                · skip
                  refine sa_const X.1 dX10_border_111 ?_
                  exact J353 (0) (if_pos (c := x349 = 0) hc).symm
                · skip
                  refine sa_const X.1 dX10_border_107 ?_
                  refine lv_goto (tgt := 112) X.1.1 X.1.2.1 dX10_border_108 (by decide) ?_
                  exact J353 (1) (if_neg (c := x349 = 0) hc).symm
              intro v352 hv352
              subst hv352
              refine lv_istore (lv' := [(6, .int (Int32.ofInt (if x349 = 0 then (0 : Int) else 1))), (5, .int (Int32.ofInt (if x331 = 0 then (0 : Int) else (if ¬ p1 = 1 then (if ¬ p1 = 2 then (1 : Int) else (if ¬ (Int.tmod p3 2) = 1 then (0 : Int) else 1)) else (if ¬ (Int.tmod p3 2) = 0 then (0 : Int) else (if ¬ p1 = 2 then (1 : Int) else (if ¬ (Int.tmod p3 2) = 1 then (0 : Int) else 1))))))), (0, .ref (α 11 0)), (1, .int (Int32.ofInt p1)), (2, .int (Int32.ofInt p2)), (3, .int (Int32.ofInt p3)), (4, .int (Int32.ofInt p4))]) X.1.1 X.1.2.1 dX10_border_112 hl (by decide) rfl (fun ls hl => ?_)
              refine lv_aload_n X.1.1 X.1.2.1 dX10_border_114 rfl (lv_at hl 2 rfl) ?_
              refine lv_iload X.1.1 X.1.2.1 dX10_border_115 (lv_at hl 1 rfl) ?_
              refine lv_iload X.1.1 X.1.2.1 dX10_border_117 (lv_at hl 0 rfl) ?_
              refine sa_const X.1 dX10_border_119 ?_
              refine cs_X10_goes X r345 r351 (inR_c (a := 1) rfl) (kc := 2) rmL_ok rm_c (by decide) hR hS kw_1721 hl.1 dX10_border_120 (Nat.le_of_ble_eq_true rfl) hw (fun x355 M354 H locs hw r356 hR hS => ?_)
              refine sa_if_ne (tgt := 128) X.1 r356 dX10_border_123 (by decide) (fun hc => ?_) (fun hc => ?_)
              · have hw := hw.1 hc
                refine lv_iload_n X.1.1 X.1.2.1 dX10_border_128 rfl (lv_at hl 3 rfl) ?_
                have s373 := hw.1
                have hw := hw.2
                have s374 := hw.1
                have hw := hw.2
                have r375 := inR_ite (c := ¬ p1 = 0) (inR_ite (c := ¬ p1 = 1) (inR_ite (c := ¬ p1 = 2) (hR.r 11 0 30) (hR.r 79 0 ((4 * p2) + p3))) (hR.r 78 0 ((4 * p2) + p3))) (hR.r 77 0 ((4 * p2) + p3))
                refine cut_j (A := ∀ v376 : Int, v376 = (if ¬ p1 = 0 then (if ¬ p1 = 1 then (if ¬ p1 = 2 then (M354 11 0 30) else (M354 79 0 ((4 * p2) + p3))) else (M354 78 0 ((4 * p2) + p3))) else (M354 77 0 ((4 * p2) + p3))) → WI p l e 2 s m args below meth c G e0 α κ B Qm H locs 185 ls [.int (Int32.ofInt v376)]) (fun J377 => ?_) ?_
                · refine sa_if_ne (tgt := 145) X.1 hp1 dX10_border_129 (by decide) (fun hc => ?_) (fun hc => ?_)
                  · have hw := s373 hc
                    refine lv_iload_n X.1.1 X.1.2.1 dX10_border_145 rfl (lv_at hl 3 rfl) ?_
                    refine sa_const X.1 dX10_border_146 ?_
                    have s366 := hw.1
                    have hw := hw.2
                    have s367 := hw.1
                    have hw := hw.2
                    refine cut_j (A := ∀ v368 : Int, v368 = (if ¬ p1 = 1 then (if ¬ p1 = 2 then (M354 11 0 30) else (M354 79 0 ((4 * p2) + p3))) else (M354 78 0 ((4 * p2) + p3))) → WI p l e 2 s m args below meth c G e0 α κ B Qm H locs 185 ls [.int (Int32.ofInt v368)]) (fun J369 => ?_) ?_
                    · refine sa_icmp_ne (tgt := 163) X.1 hp1 (inR_c (a := 1) rfl) dX10_border_147 (by decide) (fun hc => ?_) (fun hc => ?_)
                      · have hw := s366 hc
                        refine lv_iload_n X.1.1 X.1.2.1 dX10_border_163 rfl (lv_at hl 3 rfl) ?_
                        refine sa_const X.1 dX10_border_164 ?_
                        have s360 := hw.1
                        have hw := hw.2
                        refine cut_j (A := ∀ v361 : Int, v361 = (if ¬ p1 = 2 then (M354 11 0 30) else (M354 79 0 ((4 * p2) + p3))) → WI p l e 2 s m args below meth c G e0 α κ B Qm H locs 185 ls [.int (Int32.ofInt v361)]) (fun J362 => ?_) ?_
                        · refine sa_icmp_ne (tgt := 181) X.1 hp1 (inR_c (a := 2) rfl) dX10_border_165 (by decide) (fun hc => ?_) (fun hc => ?_)
                          · skip
                            refine lv_aload_n X.1.1 X.1.2.1 dX10_border_181 rfl (lv_at hl 2 rfl) ?_
                            refine gt_11_30 X hR (okf X.2.2.1 rfl) kw_1559 dX10_border_182 ?_
                            exact J362 ((M354 11 0 30)) (if_pos (c := ¬ p1 = 2) hc).symm
                          · have hw := s360 hc
                            refine lv_aload_n X.1.1 X.1.2.1 dX10_border_168 rfl (lv_at hl 2 rfl) ?_
                            refine gt_11_29 X hR (okf X.2.2.1 rfl) kw_1558 dX10_border_169 ?_
                            refine sa_const X.1 dX10_border_172 ?_
                            refine lv_iload_n X.1.1 X.1.2.1 dX10_border_173 rfl (lv_at hl 4 rfl) ?_
                            have c357 := hw.1
                            have hw := hw.2
                            refine sa_imul X.1 dX10_border_174 ?_
                            refine lv_iload_n X.1.1 X.1.2.1 dX10_border_175 rfl (lv_at hl 5 rfl) ?_
                            have c358 := hw.1
                            have hw := hw.2
                            refine sa_iadd X.1 dX10_border_176 ?_
                            have c359 := hw.1
                            have hw := hw.2
                            refine ra_79 X hR (okf X.2.2.1 rfl) c359 dX10_border_177 ?_
                            refine lv_goto (tgt := 185) X.1.1 X.1.2.1 dX10_border_178 (by decide) ?_
                            exact J362 ((M354 79 0 ((4 * p2) + p3))) (if_neg (c := ¬ p1 = 2) (fun z => z hc)).symm
                        intro v361 hv361
                        subst hv361
                        exact J369 ((if ¬ p1 = 2 then (M354 11 0 30) else (M354 79 0 ((4 * p2) + p3)))) (if_pos (c := ¬ p1 = 1) hc).symm
                      · have hw := s367 hc
                        refine lv_aload_n X.1.1 X.1.2.1 dX10_border_150 rfl (lv_at hl 2 rfl) ?_
                        refine gt_11_28 X hR (okf X.2.2.1 rfl) kw_1557 dX10_border_151 ?_
                        refine sa_const X.1 dX10_border_154 ?_
                        refine lv_iload_n X.1.1 X.1.2.1 dX10_border_155 rfl (lv_at hl 4 rfl) ?_
                        have c363 := hw.1
                        have hw := hw.2
                        refine sa_imul X.1 dX10_border_156 ?_
                        refine lv_iload_n X.1.1 X.1.2.1 dX10_border_157 rfl (lv_at hl 5 rfl) ?_
                        have c364 := hw.1
                        have hw := hw.2
                        refine sa_iadd X.1 dX10_border_158 ?_
                        have c365 := hw.1
                        have hw := hw.2
                        refine ra_78 X hR (okf X.2.2.1 rfl) c365 dX10_border_159 ?_
                        refine lv_goto (tgt := 185) X.1.1 X.1.2.1 dX10_border_160 (by decide) ?_
                        exact J369 ((M354 78 0 ((4 * p2) + p3))) (if_neg (c := ¬ p1 = 1) (fun z => z hc)).symm
                    intro v368 hv368
                    subst hv368
                    exact J377 ((if ¬ p1 = 1 then (if ¬ p1 = 2 then (M354 11 0 30) else (M354 79 0 ((4 * p2) + p3))) else (M354 78 0 ((4 * p2) + p3)))) (if_pos (c := ¬ p1 = 0) hc).symm
                  · have hw := s374 hc
                    refine lv_aload_n X.1.1 X.1.2.1 dX10_border_132 rfl (lv_at hl 2 rfl) ?_
                    refine gt_11_27 X hR (okf X.2.2.1 rfl) kw_1556 dX10_border_133 ?_
                    refine sa_const X.1 dX10_border_136 ?_
                    refine lv_iload_n X.1.1 X.1.2.1 dX10_border_137 rfl (lv_at hl 4 rfl) ?_
                    have c370 := hw.1
                    have hw := hw.2
                    refine sa_imul X.1 dX10_border_138 ?_
                    refine lv_iload_n X.1.1 X.1.2.1 dX10_border_139 rfl (lv_at hl 5 rfl) ?_
                    have c371 := hw.1
                    have hw := hw.2
                    refine sa_iadd X.1 dX10_border_140 ?_
                    have c372 := hw.1
                    have hw := hw.2
                    refine ra_77 X hR (okf X.2.2.1 rfl) c372 dX10_border_141 ?_
                    refine lv_goto (tgt := 185) X.1.1 X.1.2.1 dX10_border_142 (by decide) ?_
                    exact J377 ((M354 77 0 ((4 * p2) + p3))) (if_neg (c := ¬ p1 = 0) (fun z => z hc)).symm
                intro v376 hv376
                subst hv376
                refine lv_istore (lv' := [(7, .int (Int32.ofInt (if ¬ p1 = 0 then (if ¬ p1 = 1 then (if ¬ p1 = 2 then (M354 11 0 30) else (M354 79 0 ((4 * p2) + p3))) else (M354 78 0 ((4 * p2) + p3))) else (M354 77 0 ((4 * p2) + p3))))), (6, .int (Int32.ofInt (if x349 = 0 then (0 : Int) else 1))), (5, .int (Int32.ofInt (if x331 = 0 then (0 : Int) else (if ¬ p1 = 1 then (if ¬ p1 = 2 then (1 : Int) else (if ¬ (Int.tmod p3 2) = 1 then (0 : Int) else 1)) else (if ¬ (Int.tmod p3 2) = 0 then (0 : Int) else (if ¬ p1 = 2 then (1 : Int) else (if ¬ (Int.tmod p3 2) = 1 then (0 : Int) else 1))))))), (0, .ref (α 11 0)), (1, .int (Int32.ofInt p1)), (2, .int (Int32.ofInt p2)), (3, .int (Int32.ofInt p3)), (4, .int (Int32.ofInt p4))]) X.1.1 X.1.2.1 dX10_border_185 hl (by decide) rfl (fun ls hl => ?_)
                refine lv_iload_n X.1.1 X.1.2.1 dX10_border_187 rfl (lv_at hl 4 rfl) ?_
                refine sa_if_ne (tgt := 206) X.1 hp1 dX10_border_188 (by decide) (fun hc => ?_) (fun hc => ?_)
                · have hw := hw.1 hc
                  refine lv_iload_n X.1.1 X.1.2.1 dX10_border_206 rfl (lv_at hl 4 rfl) ?_
                  refine sa_const X.1 dX10_border_207 ?_
                  refine sa_icmp_ne (tgt := 226) X.1 hp1 (inR_c (a := 1) rfl) dX10_border_208 (by decide) (fun hc => ?_) (fun hc => ?_)
                  · have hw := hw.1 hc
                    refine lv_iload_n X.1.1 X.1.2.1 dX10_border_226 rfl (lv_at hl 4 rfl) ?_
                    refine sa_const X.1 dX10_border_227 ?_
                    refine sa_icmp_ne (tgt := 246) X.1 hp1 (inR_c (a := 2) rfl) dX10_border_228 (by decide) (fun hc => ?_) (fun hc => ?_)
                    · have hw := hw.1 hc
                      refine lv_aload_n X.1.1 X.1.2.1 dX10_border_246 rfl (lv_at hl 3 rfl) ?_
                      refine lv_iload X.1.1 X.1.2.1 dX10_border_247 (lv_at hl 7 rfl) ?_
                      refine pt_11_30 X hR hS (okf X.2.2.1 rfl) hp4 kw_1559 dX10_border_249 (fun H locs hR hS => ?_)
                      obtain ⟨M378, e379⟩ : ∃ z : Mem, z = up M354 11 0 30 p4 := ⟨_, rfl⟩
                      rw [← e379] at hR
                      have hw := hw M378 e379
                      exact t_X10_border_252 X hp1 hp2 hp3 hp4 _ _ hw r375 _ _ hR hS _ (lv_sub hl [0] rfl)
                    · have hw := hw.2 hc
                      refine lv_aload_n X.1.1 X.1.2.1 dX10_border_231 rfl (lv_at hl 3 rfl) ?_
                      refine gt_11_29 X hR (okf X.2.2.1 rfl) kw_1558 dX10_border_232 ?_
                      refine sa_const X.1 dX10_border_235 ?_
                      refine lv_iload_n X.1.1 X.1.2.1 dX10_border_236 rfl (lv_at hl 5 rfl) ?_
                      have c380 := hw.1
                      have hw := hw.2
                      refine sa_imul X.1 dX10_border_237 ?_
                      refine lv_iload_n X.1.1 X.1.2.1 dX10_border_238 rfl (lv_at hl 6 rfl) ?_
                      have c381 := hw.1
                      have hw := hw.2
                      refine sa_iadd X.1 dX10_border_239 ?_
                      refine lv_iload X.1.1 X.1.2.1 dX10_border_240 (lv_at hl 7 rfl) ?_
                      have c382 := hw.1
                      have hw := hw.2
                      refine wa_79 X hR hS (okf X.2.2.1 rfl) c382 hp4 dX10_border_242 (fun H locs hR hS => ?_)
                      obtain ⟨M383, e384⟩ : ∃ z : Mem, z = up M354 79 0 ((4 * p2) + p3) p4 := ⟨_, rfl⟩
                      rw [← e384] at hR
                      have hw := hw M383 e384
                      refine lv_goto (tgt := 252) X.1.1 X.1.2.1 dX10_border_243 (by decide) ?_
                      exact t_X10_border_252 X hp1 hp2 hp3 hp4 _ _ hw r375 _ _ hR hS _ (lv_sub hl [0] rfl)
                  · have hw := hw.2 hc
                    refine lv_aload_n X.1.1 X.1.2.1 dX10_border_211 rfl (lv_at hl 3 rfl) ?_
                    refine gt_11_28 X hR (okf X.2.2.1 rfl) kw_1557 dX10_border_212 ?_
                    refine sa_const X.1 dX10_border_215 ?_
                    refine lv_iload_n X.1.1 X.1.2.1 dX10_border_216 rfl (lv_at hl 5 rfl) ?_
                    have c385 := hw.1
                    have hw := hw.2
                    refine sa_imul X.1 dX10_border_217 ?_
                    refine lv_iload_n X.1.1 X.1.2.1 dX10_border_218 rfl (lv_at hl 6 rfl) ?_
                    have c386 := hw.1
                    have hw := hw.2
                    refine sa_iadd X.1 dX10_border_219 ?_
                    refine lv_iload X.1.1 X.1.2.1 dX10_border_220 (lv_at hl 7 rfl) ?_
                    have c387 := hw.1
                    have hw := hw.2
                    refine wa_78 X hR hS (okf X.2.2.1 rfl) c387 hp4 dX10_border_222 (fun H locs hR hS => ?_)
                    obtain ⟨M388, e389⟩ : ∃ z : Mem, z = up M354 78 0 ((4 * p2) + p3) p4 := ⟨_, rfl⟩
                    rw [← e389] at hR
                    have hw := hw M388 e389
                    refine lv_goto (tgt := 252) X.1.1 X.1.2.1 dX10_border_223 (by decide) ?_
                    exact t_X10_border_252 X hp1 hp2 hp3 hp4 _ _ hw r375 _ _ hR hS _ (lv_sub hl [0] rfl)
                · have hw := hw.2 hc
                  refine lv_aload_n X.1.1 X.1.2.1 dX10_border_191 rfl (lv_at hl 3 rfl) ?_
                  refine gt_11_27 X hR (okf X.2.2.1 rfl) kw_1556 dX10_border_192 ?_
                  refine sa_const X.1 dX10_border_195 ?_
                  refine lv_iload_n X.1.1 X.1.2.1 dX10_border_196 rfl (lv_at hl 5 rfl) ?_
                  have c390 := hw.1
                  have hw := hw.2
                  refine sa_imul X.1 dX10_border_197 ?_
                  refine lv_iload_n X.1.1 X.1.2.1 dX10_border_198 rfl (lv_at hl 6 rfl) ?_
                  have c391 := hw.1
                  have hw := hw.2
                  refine sa_iadd X.1 dX10_border_199 ?_
                  refine lv_iload X.1.1 X.1.2.1 dX10_border_200 (lv_at hl 7 rfl) ?_
                  have c392 := hw.1
                  have hw := hw.2
                  refine wa_77 X hR hS (okf X.2.2.1 rfl) c392 hp4 dX10_border_202 (fun H locs hR hS => ?_)
                  obtain ⟨M393, e394⟩ : ∃ z : Mem, z = up M354 77 0 ((4 * p2) + p3) p4 := ⟨_, rfl⟩
                  rw [← e394] at hR
                  have hw := hw M393 e394
                  refine lv_goto (tgt := 252) X.1.1 X.1.2.1 dX10_border_203 (by decide) ?_
                  exact t_X10_border_252 X hp1 hp2 hp3 hp4 _ _ hw r375 _ _ hR hS _ (lv_sub hl [0] rfl)
              · have hw := hw.2 hc
                refine sa_const X.1 dX10_border_126 ?_
                exact sa_iret X.1 X.2.2.2.1 X.2.2.2.2 hR hS (inR_c (a := 0) rfl) hw dX10_border_127
            · have hw := hw.2 hc
              refine lv_aload_n X.1.1 X.1.2.1 dX10_border_88 rfl (lv_at hl 1 rfl) ?_
              refine lv_iload_n X.1.1 X.1.2.1 dX10_border_89 rfl (lv_at hl 3 rfl) ?_
              refine cs_X10_isRow X hp2 (kc := 2) rmL_ok rm_c (by decide) hR hS kw_1733 hl.1 dX10_border_90 (Nat.le_of_ble_eq_true rfl) hw (fun x396 M395 H locs hw r397 hR hS => ?_)
              have r398 := inR_ite (c := x396 = 0) (inR_c (a := 0) rfl) (inR_c (a := 1) rfl)
              refine cut_j (A := ∀ v399 : Int, v399 = (if x396 = 0 then (0 : Int) else 1) → WI p l e 2 s m args below meth c G e0 α κ B Qm H locs 112 ls [.int (Int32.ofInt v399)]) (fun J400 => ?_) ?_
              · refine sa_if_eq (tgt := 111) X.1 r397 dX10_border_93 (by decide) (fun hc => ?_) (fun hc => ?_)
                · skip
                  refine sa_const X.1 dX10_border_111 ?_
                  exact J400 (0) (if_pos (c := x396 = 0) hc).symm
                · skip
                  refine lv_goto (tgt := 107) X.1.1 X.1.2.1 dX10_border_96 (by decide) ?_
                  refine sa_const X.1 dX10_border_107 ?_
                  refine lv_goto (tgt := 112) X.1.1 X.1.2.1 dX10_border_108 (by decide) ?_
                  exact J400 (1) (if_neg (c := x396 = 0) hc).symm
              intro v399 hv399
              subst hv399
              refine lv_istore (lv' := [(6, .int (Int32.ofInt (if x396 = 0 then (0 : Int) else 1))), (5, .int (Int32.ofInt (if x331 = 0 then (0 : Int) else (if ¬ p1 = 1 then (if ¬ p1 = 2 then (1 : Int) else (if ¬ (Int.tmod p3 2) = 1 then (0 : Int) else 1)) else (if ¬ (Int.tmod p3 2) = 0 then (0 : Int) else (if ¬ p1 = 2 then (1 : Int) else (if ¬ (Int.tmod p3 2) = 1 then (0 : Int) else 1))))))), (0, .ref (α 11 0)), (1, .int (Int32.ofInt p1)), (2, .int (Int32.ofInt p2)), (3, .int (Int32.ofInt p3)), (4, .int (Int32.ofInt p4))]) X.1.1 X.1.2.1 dX10_border_112 hl (by decide) rfl (fun ls hl => ?_)
              refine lv_aload_n X.1.1 X.1.2.1 dX10_border_114 rfl (lv_at hl 2 rfl) ?_
              refine lv_iload X.1.1 X.1.2.1 dX10_border_115 (lv_at hl 1 rfl) ?_
              refine lv_iload X.1.1 X.1.2.1 dX10_border_117 (lv_at hl 0 rfl) ?_
              refine sa_const X.1 dX10_border_119 ?_
              refine cs_X10_goes X r345 r398 (inR_c (a := 1) rfl) (kc := 2) rmL_ok rm_c (by decide) hR hS kw_1721 hl.1 dX10_border_120 (Nat.le_of_ble_eq_true rfl) hw (fun x402 M401 H locs hw r403 hR hS => ?_)
              refine sa_if_ne (tgt := 128) X.1 r403 dX10_border_123 (by decide) (fun hc => ?_) (fun hc => ?_)
              · have hw := hw.1 hc
                refine lv_iload_n X.1.1 X.1.2.1 dX10_border_128 rfl (lv_at hl 3 rfl) ?_
                have s420 := hw.1
                have hw := hw.2
                have s421 := hw.1
                have hw := hw.2
                have r422 := inR_ite (c := ¬ p1 = 0) (inR_ite (c := ¬ p1 = 1) (inR_ite (c := ¬ p1 = 2) (hR.r 11 0 30) (hR.r 79 0 ((4 * p2) + p3))) (hR.r 78 0 ((4 * p2) + p3))) (hR.r 77 0 ((4 * p2) + p3))
                refine cut_j (A := ∀ v423 : Int, v423 = (if ¬ p1 = 0 then (if ¬ p1 = 1 then (if ¬ p1 = 2 then (M401 11 0 30) else (M401 79 0 ((4 * p2) + p3))) else (M401 78 0 ((4 * p2) + p3))) else (M401 77 0 ((4 * p2) + p3))) → WI p l e 2 s m args below meth c G e0 α κ B Qm H locs 185 ls [.int (Int32.ofInt v423)]) (fun J424 => ?_) ?_
                · refine sa_if_ne (tgt := 145) X.1 hp1 dX10_border_129 (by decide) (fun hc => ?_) (fun hc => ?_)
                  · have hw := s420 hc
                    refine lv_iload_n X.1.1 X.1.2.1 dX10_border_145 rfl (lv_at hl 3 rfl) ?_
                    refine sa_const X.1 dX10_border_146 ?_
                    have s413 := hw.1
                    have hw := hw.2
                    have s414 := hw.1
                    have hw := hw.2
                    refine cut_j (A := ∀ v415 : Int, v415 = (if ¬ p1 = 1 then (if ¬ p1 = 2 then (M401 11 0 30) else (M401 79 0 ((4 * p2) + p3))) else (M401 78 0 ((4 * p2) + p3))) → WI p l e 2 s m args below meth c G e0 α κ B Qm H locs 185 ls [.int (Int32.ofInt v415)]) (fun J416 => ?_) ?_
                    · refine sa_icmp_ne (tgt := 163) X.1 hp1 (inR_c (a := 1) rfl) dX10_border_147 (by decide) (fun hc => ?_) (fun hc => ?_)
                      · have hw := s413 hc
                        refine lv_iload_n X.1.1 X.1.2.1 dX10_border_163 rfl (lv_at hl 3 rfl) ?_
                        refine sa_const X.1 dX10_border_164 ?_
                        have s407 := hw.1
                        have hw := hw.2
                        refine cut_j (A := ∀ v408 : Int, v408 = (if ¬ p1 = 2 then (M401 11 0 30) else (M401 79 0 ((4 * p2) + p3))) → WI p l e 2 s m args below meth c G e0 α κ B Qm H locs 185 ls [.int (Int32.ofInt v408)]) (fun J409 => ?_) ?_
                        · refine sa_icmp_ne (tgt := 181) X.1 hp1 (inR_c (a := 2) rfl) dX10_border_165 (by decide) (fun hc => ?_) (fun hc => ?_)
                          · skip
                            refine lv_aload_n X.1.1 X.1.2.1 dX10_border_181 rfl (lv_at hl 2 rfl) ?_
                            refine gt_11_30 X hR (okf X.2.2.1 rfl) kw_1559 dX10_border_182 ?_
                            exact J409 ((M401 11 0 30)) (if_pos (c := ¬ p1 = 2) hc).symm
                          · have hw := s407 hc
                            refine lv_aload_n X.1.1 X.1.2.1 dX10_border_168 rfl (lv_at hl 2 rfl) ?_
                            refine gt_11_29 X hR (okf X.2.2.1 rfl) kw_1558 dX10_border_169 ?_
                            refine sa_const X.1 dX10_border_172 ?_
                            refine lv_iload_n X.1.1 X.1.2.1 dX10_border_173 rfl (lv_at hl 4 rfl) ?_
                            have c404 := hw.1
                            have hw := hw.2
                            refine sa_imul X.1 dX10_border_174 ?_
                            refine lv_iload_n X.1.1 X.1.2.1 dX10_border_175 rfl (lv_at hl 5 rfl) ?_
                            have c405 := hw.1
                            have hw := hw.2
                            refine sa_iadd X.1 dX10_border_176 ?_
                            have c406 := hw.1
                            have hw := hw.2
                            refine ra_79 X hR (okf X.2.2.1 rfl) c406 dX10_border_177 ?_
                            refine lv_goto (tgt := 185) X.1.1 X.1.2.1 dX10_border_178 (by decide) ?_
                            exact J409 ((M401 79 0 ((4 * p2) + p3))) (if_neg (c := ¬ p1 = 2) (fun z => z hc)).symm
                        intro v408 hv408
                        subst hv408
                        exact J416 ((if ¬ p1 = 2 then (M401 11 0 30) else (M401 79 0 ((4 * p2) + p3)))) (if_pos (c := ¬ p1 = 1) hc).symm
                      · have hw := s414 hc
                        refine lv_aload_n X.1.1 X.1.2.1 dX10_border_150 rfl (lv_at hl 2 rfl) ?_
                        refine gt_11_28 X hR (okf X.2.2.1 rfl) kw_1557 dX10_border_151 ?_
                        refine sa_const X.1 dX10_border_154 ?_
                        refine lv_iload_n X.1.1 X.1.2.1 dX10_border_155 rfl (lv_at hl 4 rfl) ?_
                        have c410 := hw.1
                        have hw := hw.2
                        refine sa_imul X.1 dX10_border_156 ?_
                        refine lv_iload_n X.1.1 X.1.2.1 dX10_border_157 rfl (lv_at hl 5 rfl) ?_
                        have c411 := hw.1
                        have hw := hw.2
                        refine sa_iadd X.1 dX10_border_158 ?_
                        have c412 := hw.1
                        have hw := hw.2
                        refine ra_78 X hR (okf X.2.2.1 rfl) c412 dX10_border_159 ?_
                        refine lv_goto (tgt := 185) X.1.1 X.1.2.1 dX10_border_160 (by decide) ?_
                        exact J416 ((M401 78 0 ((4 * p2) + p3))) (if_neg (c := ¬ p1 = 1) (fun z => z hc)).symm
                    intro v415 hv415
                    subst hv415
                    exact J424 ((if ¬ p1 = 1 then (if ¬ p1 = 2 then (M401 11 0 30) else (M401 79 0 ((4 * p2) + p3))) else (M401 78 0 ((4 * p2) + p3)))) (if_pos (c := ¬ p1 = 0) hc).symm
                  · have hw := s421 hc
                    refine lv_aload_n X.1.1 X.1.2.1 dX10_border_132 rfl (lv_at hl 2 rfl) ?_
                    refine gt_11_27 X hR (okf X.2.2.1 rfl) kw_1556 dX10_border_133 ?_
                    refine sa_const X.1 dX10_border_136 ?_
                    refine lv_iload_n X.1.1 X.1.2.1 dX10_border_137 rfl (lv_at hl 4 rfl) ?_
                    have c417 := hw.1
                    have hw := hw.2
                    refine sa_imul X.1 dX10_border_138 ?_
                    refine lv_iload_n X.1.1 X.1.2.1 dX10_border_139 rfl (lv_at hl 5 rfl) ?_
                    have c418 := hw.1
                    have hw := hw.2
                    refine sa_iadd X.1 dX10_border_140 ?_
                    have c419 := hw.1
                    have hw := hw.2
                    refine ra_77 X hR (okf X.2.2.1 rfl) c419 dX10_border_141 ?_
                    refine lv_goto (tgt := 185) X.1.1 X.1.2.1 dX10_border_142 (by decide) ?_
                    exact J424 ((M401 77 0 ((4 * p2) + p3))) (if_neg (c := ¬ p1 = 0) (fun z => z hc)).symm
                intro v423 hv423
                subst hv423
                refine lv_istore (lv' := [(7, .int (Int32.ofInt (if ¬ p1 = 0 then (if ¬ p1 = 1 then (if ¬ p1 = 2 then (M401 11 0 30) else (M401 79 0 ((4 * p2) + p3))) else (M401 78 0 ((4 * p2) + p3))) else (M401 77 0 ((4 * p2) + p3))))), (6, .int (Int32.ofInt (if x396 = 0 then (0 : Int) else 1))), (5, .int (Int32.ofInt (if x331 = 0 then (0 : Int) else (if ¬ p1 = 1 then (if ¬ p1 = 2 then (1 : Int) else (if ¬ (Int.tmod p3 2) = 1 then (0 : Int) else 1)) else (if ¬ (Int.tmod p3 2) = 0 then (0 : Int) else (if ¬ p1 = 2 then (1 : Int) else (if ¬ (Int.tmod p3 2) = 1 then (0 : Int) else 1))))))), (0, .ref (α 11 0)), (1, .int (Int32.ofInt p1)), (2, .int (Int32.ofInt p2)), (3, .int (Int32.ofInt p3)), (4, .int (Int32.ofInt p4))]) X.1.1 X.1.2.1 dX10_border_185 hl (by decide) rfl (fun ls hl => ?_)
                refine lv_iload_n X.1.1 X.1.2.1 dX10_border_187 rfl (lv_at hl 4 rfl) ?_
                refine sa_if_ne (tgt := 206) X.1 hp1 dX10_border_188 (by decide) (fun hc => ?_) (fun hc => ?_)
                · have hw := hw.1 hc
                  refine lv_iload_n X.1.1 X.1.2.1 dX10_border_206 rfl (lv_at hl 4 rfl) ?_
                  refine sa_const X.1 dX10_border_207 ?_
                  refine sa_icmp_ne (tgt := 226) X.1 hp1 (inR_c (a := 1) rfl) dX10_border_208 (by decide) (fun hc => ?_) (fun hc => ?_)
                  · have hw := hw.1 hc
                    refine lv_iload_n X.1.1 X.1.2.1 dX10_border_226 rfl (lv_at hl 4 rfl) ?_
                    refine sa_const X.1 dX10_border_227 ?_
                    refine sa_icmp_ne (tgt := 246) X.1 hp1 (inR_c (a := 2) rfl) dX10_border_228 (by decide) (fun hc => ?_) (fun hc => ?_)
                    · have hw := hw.1 hc
                      refine lv_aload_n X.1.1 X.1.2.1 dX10_border_246 rfl (lv_at hl 3 rfl) ?_
                      refine lv_iload X.1.1 X.1.2.1 dX10_border_247 (lv_at hl 7 rfl) ?_
                      refine pt_11_30 X hR hS (okf X.2.2.1 rfl) hp4 kw_1559 dX10_border_249 (fun H locs hR hS => ?_)
                      obtain ⟨M425, e426⟩ : ∃ z : Mem, z = up M401 11 0 30 p4 := ⟨_, rfl⟩
                      rw [← e426] at hR
                      have hw := hw M425 e426
                      exact t_X10_border_252 X hp1 hp2 hp3 hp4 _ _ hw r422 _ _ hR hS _ (lv_sub hl [0] rfl)
                    · have hw := hw.2 hc
                      refine lv_aload_n X.1.1 X.1.2.1 dX10_border_231 rfl (lv_at hl 3 rfl) ?_
                      refine gt_11_29 X hR (okf X.2.2.1 rfl) kw_1558 dX10_border_232 ?_
                      refine sa_const X.1 dX10_border_235 ?_
                      refine lv_iload_n X.1.1 X.1.2.1 dX10_border_236 rfl (lv_at hl 5 rfl) ?_
                      have c427 := hw.1
                      have hw := hw.2
                      refine sa_imul X.1 dX10_border_237 ?_
                      refine lv_iload_n X.1.1 X.1.2.1 dX10_border_238 rfl (lv_at hl 6 rfl) ?_
                      have c428 := hw.1
                      have hw := hw.2
                      refine sa_iadd X.1 dX10_border_239 ?_
                      refine lv_iload X.1.1 X.1.2.1 dX10_border_240 (lv_at hl 7 rfl) ?_
                      have c429 := hw.1
                      have hw := hw.2
                      refine wa_79 X hR hS (okf X.2.2.1 rfl) c429 hp4 dX10_border_242 (fun H locs hR hS => ?_)
                      obtain ⟨M430, e431⟩ : ∃ z : Mem, z = up M401 79 0 ((4 * p2) + p3) p4 := ⟨_, rfl⟩
                      rw [← e431] at hR
                      have hw := hw M430 e431
                      refine lv_goto (tgt := 252) X.1.1 X.1.2.1 dX10_border_243 (by decide) ?_
                      exact t_X10_border_252 X hp1 hp2 hp3 hp4 _ _ hw r422 _ _ hR hS _ (lv_sub hl [0] rfl)
                  · have hw := hw.2 hc
                    refine lv_aload_n X.1.1 X.1.2.1 dX10_border_211 rfl (lv_at hl 3 rfl) ?_
                    refine gt_11_28 X hR (okf X.2.2.1 rfl) kw_1557 dX10_border_212 ?_
                    refine sa_const X.1 dX10_border_215 ?_
                    refine lv_iload_n X.1.1 X.1.2.1 dX10_border_216 rfl (lv_at hl 5 rfl) ?_
                    have c432 := hw.1
                    have hw := hw.2
                    refine sa_imul X.1 dX10_border_217 ?_
                    refine lv_iload_n X.1.1 X.1.2.1 dX10_border_218 rfl (lv_at hl 6 rfl) ?_
                    have c433 := hw.1
                    have hw := hw.2
                    refine sa_iadd X.1 dX10_border_219 ?_
                    refine lv_iload X.1.1 X.1.2.1 dX10_border_220 (lv_at hl 7 rfl) ?_
                    have c434 := hw.1
                    have hw := hw.2
                    refine wa_78 X hR hS (okf X.2.2.1 rfl) c434 hp4 dX10_border_222 (fun H locs hR hS => ?_)
                    obtain ⟨M435, e436⟩ : ∃ z : Mem, z = up M401 78 0 ((4 * p2) + p3) p4 := ⟨_, rfl⟩
                    rw [← e436] at hR
                    have hw := hw M435 e436
                    refine lv_goto (tgt := 252) X.1.1 X.1.2.1 dX10_border_223 (by decide) ?_
                    exact t_X10_border_252 X hp1 hp2 hp3 hp4 _ _ hw r422 _ _ hR hS _ (lv_sub hl [0] rfl)
                · have hw := hw.2 hc
                  refine lv_aload_n X.1.1 X.1.2.1 dX10_border_191 rfl (lv_at hl 3 rfl) ?_
                  refine gt_11_27 X hR (okf X.2.2.1 rfl) kw_1556 dX10_border_192 ?_
                  refine sa_const X.1 dX10_border_195 ?_
                  refine lv_iload_n X.1.1 X.1.2.1 dX10_border_196 rfl (lv_at hl 5 rfl) ?_
                  have c437 := hw.1
                  have hw := hw.2
                  refine sa_imul X.1 dX10_border_197 ?_
                  refine lv_iload_n X.1.1 X.1.2.1 dX10_border_198 rfl (lv_at hl 6 rfl) ?_
                  have c438 := hw.1
                  have hw := hw.2
                  refine sa_iadd X.1 dX10_border_199 ?_
                  refine lv_iload X.1.1 X.1.2.1 dX10_border_200 (lv_at hl 7 rfl) ?_
                  have c439 := hw.1
                  have hw := hw.2
                  refine wa_77 X hR hS (okf X.2.2.1 rfl) c439 hp4 dX10_border_202 (fun H locs hR hS => ?_)
                  obtain ⟨M440, e441⟩ : ∃ z : Mem, z = up M401 77 0 ((4 * p2) + p3) p4 := ⟨_, rfl⟩
                  rw [← e441] at hR
                  have hw := hw M440 e441
                  refine lv_goto (tgt := 252) X.1.1 X.1.2.1 dX10_border_203 (by decide) ?_
                  exact t_X10_border_252 X hp1 hp2 hp3 hp4 _ _ hw r422 _ _ hR hS _ (lv_sub hl [0] rfl)
              · have hw := hw.2 hc
                refine sa_const X.1 dX10_border_126 ?_
                exact sa_iret X.1 X.2.2.2.1 X.2.2.2.2 hR hS (inR_c (a := 0) rfl) hw dX10_border_127
          · have hw := hw.2 hc
            refine lv_aload_n X.1.1 X.1.2.1 dX10_border_72 rfl (lv_at hl 1 rfl) ?_
            refine lv_iload_n X.1.1 X.1.2.1 dX10_border_73 rfl (lv_at hl 3 rfl) ?_
            refine cs_X10_isCell X hp2 (kc := 2) rmL_ok rm_c (by decide) hR hS kw_1753 hl.1 dX10_border_74 (Nat.le_of_ble_eq_true rfl) hw (fun x443 M442 H locs hw r444 hR hS => ?_)
            have r445 := inR_ite (c := x443 = 0) (inR_c (a := 0) rfl) (inR_c (a := 1) rfl)
            refine cut_j (A := ∀ v446 : Int, v446 = (if x443 = 0 then (0 : Int) else 1) → WI p l e 2 s m args below meth c G e0 α κ B Qm H locs 112 ls [.int (Int32.ofInt v446)]) (fun J447 => ?_) ?_
            · refine sa_if_eq (tgt := 111) X.1 r444 dX10_border_77 (by decide) (fun hc => ?_) (fun hc => ?_)
              · skip
                refine sa_const X.1 dX10_border_111 ?_
                exact J447 (0) (if_pos (c := x443 = 0) hc).symm
              · skip
                refine lv_goto (tgt := 107) X.1.1 X.1.2.1 dX10_border_80 (by decide) ?_
                refine sa_const X.1 dX10_border_107 ?_
                refine lv_goto (tgt := 112) X.1.1 X.1.2.1 dX10_border_108 (by decide) ?_
                exact J447 (1) (if_neg (c := x443 = 0) hc).symm
            intro v446 hv446
            subst hv446
            refine lv_istore (lv' := [(6, .int (Int32.ofInt (if x443 = 0 then (0 : Int) else 1))), (5, .int (Int32.ofInt (if x331 = 0 then (0 : Int) else (if ¬ p1 = 1 then (if ¬ p1 = 2 then (1 : Int) else (if ¬ (Int.tmod p3 2) = 1 then (0 : Int) else 1)) else (if ¬ (Int.tmod p3 2) = 0 then (0 : Int) else (if ¬ p1 = 2 then (1 : Int) else (if ¬ (Int.tmod p3 2) = 1 then (0 : Int) else 1))))))), (0, .ref (α 11 0)), (1, .int (Int32.ofInt p1)), (2, .int (Int32.ofInt p2)), (3, .int (Int32.ofInt p3)), (4, .int (Int32.ofInt p4))]) X.1.1 X.1.2.1 dX10_border_112 hl (by decide) rfl (fun ls hl => ?_)
            refine lv_aload_n X.1.1 X.1.2.1 dX10_border_114 rfl (lv_at hl 2 rfl) ?_
            refine lv_iload X.1.1 X.1.2.1 dX10_border_115 (lv_at hl 1 rfl) ?_
            refine lv_iload X.1.1 X.1.2.1 dX10_border_117 (lv_at hl 0 rfl) ?_
            refine sa_const X.1 dX10_border_119 ?_
            refine cs_X10_goes X r345 r445 (inR_c (a := 1) rfl) (kc := 2) rmL_ok rm_c (by decide) hR hS kw_1721 hl.1 dX10_border_120 (Nat.le_of_ble_eq_true rfl) hw (fun x449 M448 H locs hw r450 hR hS => ?_)
            refine sa_if_ne (tgt := 128) X.1 r450 dX10_border_123 (by decide) (fun hc => ?_) (fun hc => ?_)
            · have hw := hw.1 hc
              refine lv_iload_n X.1.1 X.1.2.1 dX10_border_128 rfl (lv_at hl 3 rfl) ?_
              have s467 := hw.1
              have hw := hw.2
              have s468 := hw.1
              have hw := hw.2
              have r469 := inR_ite (c := ¬ p1 = 0) (inR_ite (c := ¬ p1 = 1) (inR_ite (c := ¬ p1 = 2) (hR.r 11 0 30) (hR.r 79 0 ((4 * p2) + p3))) (hR.r 78 0 ((4 * p2) + p3))) (hR.r 77 0 ((4 * p2) + p3))
              refine cut_j (A := ∀ v470 : Int, v470 = (if ¬ p1 = 0 then (if ¬ p1 = 1 then (if ¬ p1 = 2 then (M448 11 0 30) else (M448 79 0 ((4 * p2) + p3))) else (M448 78 0 ((4 * p2) + p3))) else (M448 77 0 ((4 * p2) + p3))) → WI p l e 2 s m args below meth c G e0 α κ B Qm H locs 185 ls [.int (Int32.ofInt v470)]) (fun J471 => ?_) ?_
              · refine sa_if_ne (tgt := 145) X.1 hp1 dX10_border_129 (by decide) (fun hc => ?_) (fun hc => ?_)
                · have hw := s467 hc
                  refine lv_iload_n X.1.1 X.1.2.1 dX10_border_145 rfl (lv_at hl 3 rfl) ?_
                  refine sa_const X.1 dX10_border_146 ?_
                  have s460 := hw.1
                  have hw := hw.2
                  have s461 := hw.1
                  have hw := hw.2
                  refine cut_j (A := ∀ v462 : Int, v462 = (if ¬ p1 = 1 then (if ¬ p1 = 2 then (M448 11 0 30) else (M448 79 0 ((4 * p2) + p3))) else (M448 78 0 ((4 * p2) + p3))) → WI p l e 2 s m args below meth c G e0 α κ B Qm H locs 185 ls [.int (Int32.ofInt v462)]) (fun J463 => ?_) ?_
                  · refine sa_icmp_ne (tgt := 163) X.1 hp1 (inR_c (a := 1) rfl) dX10_border_147 (by decide) (fun hc => ?_) (fun hc => ?_)
                    · have hw := s460 hc
                      refine lv_iload_n X.1.1 X.1.2.1 dX10_border_163 rfl (lv_at hl 3 rfl) ?_
                      refine sa_const X.1 dX10_border_164 ?_
                      have s454 := hw.1
                      have hw := hw.2
                      refine cut_j (A := ∀ v455 : Int, v455 = (if ¬ p1 = 2 then (M448 11 0 30) else (M448 79 0 ((4 * p2) + p3))) → WI p l e 2 s m args below meth c G e0 α κ B Qm H locs 185 ls [.int (Int32.ofInt v455)]) (fun J456 => ?_) ?_
                      · refine sa_icmp_ne (tgt := 181) X.1 hp1 (inR_c (a := 2) rfl) dX10_border_165 (by decide) (fun hc => ?_) (fun hc => ?_)
                        · skip
                          refine lv_aload_n X.1.1 X.1.2.1 dX10_border_181 rfl (lv_at hl 2 rfl) ?_
                          refine gt_11_30 X hR (okf X.2.2.1 rfl) kw_1559 dX10_border_182 ?_
                          exact J456 ((M448 11 0 30)) (if_pos (c := ¬ p1 = 2) hc).symm
                        · have hw := s454 hc
                          refine lv_aload_n X.1.1 X.1.2.1 dX10_border_168 rfl (lv_at hl 2 rfl) ?_
                          refine gt_11_29 X hR (okf X.2.2.1 rfl) kw_1558 dX10_border_169 ?_
                          refine sa_const X.1 dX10_border_172 ?_
                          refine lv_iload_n X.1.1 X.1.2.1 dX10_border_173 rfl (lv_at hl 4 rfl) ?_
                          have c451 := hw.1
                          have hw := hw.2
                          refine sa_imul X.1 dX10_border_174 ?_
                          refine lv_iload_n X.1.1 X.1.2.1 dX10_border_175 rfl (lv_at hl 5 rfl) ?_
                          have c452 := hw.1
                          have hw := hw.2
                          refine sa_iadd X.1 dX10_border_176 ?_
                          have c453 := hw.1
                          have hw := hw.2
                          refine ra_79 X hR (okf X.2.2.1 rfl) c453 dX10_border_177 ?_
                          refine lv_goto (tgt := 185) X.1.1 X.1.2.1 dX10_border_178 (by decide) ?_
                          exact J456 ((M448 79 0 ((4 * p2) + p3))) (if_neg (c := ¬ p1 = 2) (fun z => z hc)).symm
                      intro v455 hv455
                      subst hv455
                      exact J463 ((if ¬ p1 = 2 then (M448 11 0 30) else (M448 79 0 ((4 * p2) + p3)))) (if_pos (c := ¬ p1 = 1) hc).symm
                    · have hw := s461 hc
                      refine lv_aload_n X.1.1 X.1.2.1 dX10_border_150 rfl (lv_at hl 2 rfl) ?_
                      refine gt_11_28 X hR (okf X.2.2.1 rfl) kw_1557 dX10_border_151 ?_
                      refine sa_const X.1 dX10_border_154 ?_
                      refine lv_iload_n X.1.1 X.1.2.1 dX10_border_155 rfl (lv_at hl 4 rfl) ?_
                      have c457 := hw.1
                      have hw := hw.2
                      refine sa_imul X.1 dX10_border_156 ?_
                      refine lv_iload_n X.1.1 X.1.2.1 dX10_border_157 rfl (lv_at hl 5 rfl) ?_
                      have c458 := hw.1
                      have hw := hw.2
                      refine sa_iadd X.1 dX10_border_158 ?_
                      have c459 := hw.1
                      have hw := hw.2
                      refine ra_78 X hR (okf X.2.2.1 rfl) c459 dX10_border_159 ?_
                      refine lv_goto (tgt := 185) X.1.1 X.1.2.1 dX10_border_160 (by decide) ?_
                      exact J463 ((M448 78 0 ((4 * p2) + p3))) (if_neg (c := ¬ p1 = 1) (fun z => z hc)).symm
                  intro v462 hv462
                  subst hv462
                  exact J471 ((if ¬ p1 = 1 then (if ¬ p1 = 2 then (M448 11 0 30) else (M448 79 0 ((4 * p2) + p3))) else (M448 78 0 ((4 * p2) + p3)))) (if_pos (c := ¬ p1 = 0) hc).symm
                · have hw := s468 hc
                  refine lv_aload_n X.1.1 X.1.2.1 dX10_border_132 rfl (lv_at hl 2 rfl) ?_
                  refine gt_11_27 X hR (okf X.2.2.1 rfl) kw_1556 dX10_border_133 ?_
                  refine sa_const X.1 dX10_border_136 ?_
                  refine lv_iload_n X.1.1 X.1.2.1 dX10_border_137 rfl (lv_at hl 4 rfl) ?_
                  have c464 := hw.1
                  have hw := hw.2
                  refine sa_imul X.1 dX10_border_138 ?_
                  refine lv_iload_n X.1.1 X.1.2.1 dX10_border_139 rfl (lv_at hl 5 rfl) ?_
                  have c465 := hw.1
                  have hw := hw.2
                  refine sa_iadd X.1 dX10_border_140 ?_
                  have c466 := hw.1
                  have hw := hw.2
                  refine ra_77 X hR (okf X.2.2.1 rfl) c466 dX10_border_141 ?_
                  refine lv_goto (tgt := 185) X.1.1 X.1.2.1 dX10_border_142 (by decide) ?_
                  exact J471 ((M448 77 0 ((4 * p2) + p3))) (if_neg (c := ¬ p1 = 0) (fun z => z hc)).symm
              intro v470 hv470
              subst hv470
              refine lv_istore (lv' := [(7, .int (Int32.ofInt (if ¬ p1 = 0 then (if ¬ p1 = 1 then (if ¬ p1 = 2 then (M448 11 0 30) else (M448 79 0 ((4 * p2) + p3))) else (M448 78 0 ((4 * p2) + p3))) else (M448 77 0 ((4 * p2) + p3))))), (6, .int (Int32.ofInt (if x443 = 0 then (0 : Int) else 1))), (5, .int (Int32.ofInt (if x331 = 0 then (0 : Int) else (if ¬ p1 = 1 then (if ¬ p1 = 2 then (1 : Int) else (if ¬ (Int.tmod p3 2) = 1 then (0 : Int) else 1)) else (if ¬ (Int.tmod p3 2) = 0 then (0 : Int) else (if ¬ p1 = 2 then (1 : Int) else (if ¬ (Int.tmod p3 2) = 1 then (0 : Int) else 1))))))), (0, .ref (α 11 0)), (1, .int (Int32.ofInt p1)), (2, .int (Int32.ofInt p2)), (3, .int (Int32.ofInt p3)), (4, .int (Int32.ofInt p4))]) X.1.1 X.1.2.1 dX10_border_185 hl (by decide) rfl (fun ls hl => ?_)
              refine lv_iload_n X.1.1 X.1.2.1 dX10_border_187 rfl (lv_at hl 4 rfl) ?_
              refine sa_if_ne (tgt := 206) X.1 hp1 dX10_border_188 (by decide) (fun hc => ?_) (fun hc => ?_)
              · have hw := hw.1 hc
                refine lv_iload_n X.1.1 X.1.2.1 dX10_border_206 rfl (lv_at hl 4 rfl) ?_
                refine sa_const X.1 dX10_border_207 ?_
                refine sa_icmp_ne (tgt := 226) X.1 hp1 (inR_c (a := 1) rfl) dX10_border_208 (by decide) (fun hc => ?_) (fun hc => ?_)
                · have hw := hw.1 hc
                  refine lv_iload_n X.1.1 X.1.2.1 dX10_border_226 rfl (lv_at hl 4 rfl) ?_
                  refine sa_const X.1 dX10_border_227 ?_
                  refine sa_icmp_ne (tgt := 246) X.1 hp1 (inR_c (a := 2) rfl) dX10_border_228 (by decide) (fun hc => ?_) (fun hc => ?_)
                  · have hw := hw.1 hc
                    refine lv_aload_n X.1.1 X.1.2.1 dX10_border_246 rfl (lv_at hl 3 rfl) ?_
                    refine lv_iload X.1.1 X.1.2.1 dX10_border_247 (lv_at hl 7 rfl) ?_
                    refine pt_11_30 X hR hS (okf X.2.2.1 rfl) hp4 kw_1559 dX10_border_249 (fun H locs hR hS => ?_)
                    obtain ⟨M472, e473⟩ : ∃ z : Mem, z = up M448 11 0 30 p4 := ⟨_, rfl⟩
                    rw [← e473] at hR
                    have hw := hw M472 e473
                    exact t_X10_border_252 X hp1 hp2 hp3 hp4 _ _ hw r469 _ _ hR hS _ (lv_sub hl [0] rfl)
                  · have hw := hw.2 hc
                    refine lv_aload_n X.1.1 X.1.2.1 dX10_border_231 rfl (lv_at hl 3 rfl) ?_
                    refine gt_11_29 X hR (okf X.2.2.1 rfl) kw_1558 dX10_border_232 ?_
                    refine sa_const X.1 dX10_border_235 ?_
                    refine lv_iload_n X.1.1 X.1.2.1 dX10_border_236 rfl (lv_at hl 5 rfl) ?_
                    have c474 := hw.1
                    have hw := hw.2
                    refine sa_imul X.1 dX10_border_237 ?_
                    refine lv_iload_n X.1.1 X.1.2.1 dX10_border_238 rfl (lv_at hl 6 rfl) ?_
                    have c475 := hw.1
                    have hw := hw.2
                    refine sa_iadd X.1 dX10_border_239 ?_
                    refine lv_iload X.1.1 X.1.2.1 dX10_border_240 (lv_at hl 7 rfl) ?_
                    have c476 := hw.1
                    have hw := hw.2
                    refine wa_79 X hR hS (okf X.2.2.1 rfl) c476 hp4 dX10_border_242 (fun H locs hR hS => ?_)
                    obtain ⟨M477, e478⟩ : ∃ z : Mem, z = up M448 79 0 ((4 * p2) + p3) p4 := ⟨_, rfl⟩
                    rw [← e478] at hR
                    have hw := hw M477 e478
                    refine lv_goto (tgt := 252) X.1.1 X.1.2.1 dX10_border_243 (by decide) ?_
                    exact t_X10_border_252 X hp1 hp2 hp3 hp4 _ _ hw r469 _ _ hR hS _ (lv_sub hl [0] rfl)
                · have hw := hw.2 hc
                  refine lv_aload_n X.1.1 X.1.2.1 dX10_border_211 rfl (lv_at hl 3 rfl) ?_
                  refine gt_11_28 X hR (okf X.2.2.1 rfl) kw_1557 dX10_border_212 ?_
                  refine sa_const X.1 dX10_border_215 ?_
                  refine lv_iload_n X.1.1 X.1.2.1 dX10_border_216 rfl (lv_at hl 5 rfl) ?_
                  have c479 := hw.1
                  have hw := hw.2
                  refine sa_imul X.1 dX10_border_217 ?_
                  refine lv_iload_n X.1.1 X.1.2.1 dX10_border_218 rfl (lv_at hl 6 rfl) ?_
                  have c480 := hw.1
                  have hw := hw.2
                  refine sa_iadd X.1 dX10_border_219 ?_
                  refine lv_iload X.1.1 X.1.2.1 dX10_border_220 (lv_at hl 7 rfl) ?_
                  have c481 := hw.1
                  have hw := hw.2
                  refine wa_78 X hR hS (okf X.2.2.1 rfl) c481 hp4 dX10_border_222 (fun H locs hR hS => ?_)
                  obtain ⟨M482, e483⟩ : ∃ z : Mem, z = up M448 78 0 ((4 * p2) + p3) p4 := ⟨_, rfl⟩
                  rw [← e483] at hR
                  have hw := hw M482 e483
                  refine lv_goto (tgt := 252) X.1.1 X.1.2.1 dX10_border_223 (by decide) ?_
                  exact t_X10_border_252 X hp1 hp2 hp3 hp4 _ _ hw r469 _ _ hR hS _ (lv_sub hl [0] rfl)
              · have hw := hw.2 hc
                refine lv_aload_n X.1.1 X.1.2.1 dX10_border_191 rfl (lv_at hl 3 rfl) ?_
                refine gt_11_27 X hR (okf X.2.2.1 rfl) kw_1556 dX10_border_192 ?_
                refine sa_const X.1 dX10_border_195 ?_
                refine lv_iload_n X.1.1 X.1.2.1 dX10_border_196 rfl (lv_at hl 5 rfl) ?_
                have c484 := hw.1
                have hw := hw.2
                refine sa_imul X.1 dX10_border_197 ?_
                refine lv_iload_n X.1.1 X.1.2.1 dX10_border_198 rfl (lv_at hl 6 rfl) ?_
                have c485 := hw.1
                have hw := hw.2
                refine sa_iadd X.1 dX10_border_199 ?_
                refine lv_iload X.1.1 X.1.2.1 dX10_border_200 (lv_at hl 7 rfl) ?_
                have c486 := hw.1
                have hw := hw.2
                refine wa_77 X hR hS (okf X.2.2.1 rfl) c486 hp4 dX10_border_202 (fun H locs hR hS => ?_)
                obtain ⟨M487, e488⟩ : ∃ z : Mem, z = up M448 77 0 ((4 * p2) + p3) p4 := ⟨_, rfl⟩
                rw [← e488] at hR
                have hw := hw M487 e488
                refine lv_goto (tgt := 252) X.1.1 X.1.2.1 dX10_border_203 (by decide) ?_
                exact t_X10_border_252 X hp1 hp2 hp3 hp4 _ _ hw r469 _ _ hR hS _ (lv_sub hl [0] rfl)
            · have hw := hw.2 hc
              refine sa_const X.1 dX10_border_126 ?_
              exact sa_iret X.1 X.2.2.2.1 X.2.2.2.2 hR hS (inR_c (a := 0) rfl) hw dX10_border_127
theorem m_X10_border {l : Launch} {G : Gx} {e0 : Nat} {α : Ax} {κ : Nat → Int} {B : Nat} {p1 : Int} {p2 : Int} {p3 : Int} {p4 : Int} (hκ : kOK κ) (hp1 : inR p1) (hp2 : inR p2) (hp3 : inR p3) (hp4 : inR p4) {M : Mem} {Qm : Int → Mem → Prop} (hw : wp_X10_border p1 p2 p3 p4 M Qm) : CI l yX10_border (Cond.code yX10_border cX10_border 8 (some .int)) 2 G e0 α κ B [.ref (α 11 0), .int (Int32.ofInt p1), .int (Int32.ofInt p2), .int (Int32.ofInt p3), .int (Int32.ofInt p4)] M Qm :=
  CI.mk hκ (by decide +kernel) rfl (Nat.le_of_ble_eq_true rfl) (lv := [(0, .ref (α 11 0)), (1, .int (Int32.ofInt p1)), (2, .int (Int32.ofInt p2)), (3, .int (Int32.ofInt p3)), (4, .int (Int32.ofInt p4))]) rfl (fun p e s m args below meth c ls X hR hS hl => t_X10_border X hp1 hp2 hp3 hp4 hw _ _ hR hS ls hl)
theorem cs_X10_border {cc : ByteArray} {nL : Nat} {own : String} {ret : Option FieldType} {idx pc : Nat} {p1 : Int} {p2 : Int} {p3 : Int} {p4 : Int} (X : CX p m c cc nL s args own G B κ meth ret) (hp1 : inR p1) (hp2 : inR p2) (hp3 : inR p3) (hp4 : inR p4) {kc : Nat} {R : Room} {cells slots : Nat} (hRr : RmOK R kc) (hcel : cells ≤ R.cells ∧ slots ≤ R.slots) (hk : 2 + 1 ≤ kc) {M : Mem} {H : Heap} {locs : List Loc} (hR : Rp G e0 α κ B M H) (hS : va_S (fun q => B ≤ q) s.heap H locs) (k1 : Cond.methodLink own idx yX10_border ∈ gw) {ls : Array Slot} (hml : ls.size = nL) {rest : List Value} (hd : decode cc pc = .ok (.invokevirtual idx, 3)) (hrest : (rest.map fun v => v.category).sum ≤ 8) {Q : State → Prop} {Qm : Int → Mem → Prop} (hw : wp_X10_border p1 p2 p3 p4 M Qm) (kk : ∀ (r : Int) (M1 : Mem) (H1 : Heap) (locs1 : List Loc), Qm r M1 → inR r → Rp G e0 α κ B M1 H1 → va_S (fun q => B ≤ q) s.heap H1 locs1 → W p l e R s m args below meth c H1 locs1 cells slots Q (F0 m (pc + 3) ls (.int (Int32.ofInt r) :: rest))) : W p l e R s m args below meth c H locs cells slots Q (F0 m pc ls (.int (Int32.ofInt p4) :: .int (Int32.ofInt p3) :: .int (Int32.ofInt p2) :: .int (Int32.ofInt p1) :: .ref (α 11 0) :: rest)) :=
  sa_callVI 2 (n := 4) (As := [.int (Int32.ofInt p1), .int (Int32.ofInt p2), .int (Int32.ofInt p3), .int (Int32.ofInt p4)]) (rest := rest) X.1 X.2.1 hR hS (m_X10_border X.2.2.1 hp1 hp2 hp3 hp4 hw) k1 kw_1947 kw_1948 kw_104 kw_1949 ⟨rfl, by decide +kernel, by decide +kernel, by decide +kernel⟩ (rm_ok hRr hk (by decide)) (rc_11 X hR (okf X.2.2.1 rfl)) rfl rfl hrest hml hd hcel kk
def wp_X10_nextRow_80 (p1 : Int) (p2 : Int) (Qm : Int → Mem → Prop) (y3 : Int) (y4 : Int) (M : Mem) : Prop := (0 ≤ y3 → (y3 ≤ 2 → (inR (24 * y3)) ∧ (inR ((24 * y3) + y4)) ∧ (0 ≤ ((24 * y3) + y4) ∧ ((24 * y3) + y4) < 72) ∧ True) ∧ True) ∧ Qm (if y3 < 0 then ((-1) : Int) else (if y3 ≤ 2 then (M 63 0 ((24 * y3) + y4)) else (-1))) M
def wp_X10_nextRow_16 (p1 : Int) (p2 : Int) (Qm : Int → Mem → Prop) : Nat → Int → Int → Mem → Prop
  | 0 => fun _ _ _ => False
  | n + 1 => fun y3 y4 M => ((y3 < 0 → wp_X10_nextRow_80 p1 p2 Qm y3 y4 M) ∧ (0 ≤ y3 → ((2 < y3 → wp_X10_nextRow_80 p1 p2 Qm y3 y4 M) ∧ (y3 ≤ 2 → (0 ≤ y3 ∧ y3 < 3) ∧ (inR ((M 64 0 y3) - 1)) ∧ wp_X10_in y4 0 ((M 64 0 y3) - 1) M fun (x21 : Int) (M20 : Mem) => ((¬ x21 = 0 → wp_X10_nextRow_80 p1 p2 Qm y3 y4 M20) ∧ (x21 = 0 → (inR (y3 + p2)) ∧ (0 ≤ (y3 + p2) → ((y3 + p2) ≤ 2 → (p2 ≤ 0 → (0 ≤ (y3 + p2) ∧ (y3 + p2) < 3) ∧ (inR ((M20 64 0 (y3 + p2)) - 1)) ∧ True) ∧ (inR (if p2 ≤ 0 then ((M20 64 0 (y3 + p2)) - 1) else 0)) ∧ True) ∧ (inR (if (y3 + p2) ≤ 2 then (if p2 ≤ 0 then ((M20 64 0 (y3 + p2)) - 1) else 0) else 0)) ∧ True) ∧ (inR (if (y3 + p2) < 0 then (0 : Int) else (if (y3 + p2) ≤ 2 then (if p2 ≤ 0 then ((M20 64 0 (y3 + p2)) - 1) else 0) else 0))) ∧ wp_X10_nextRow_16 p1 p2 Qm n (y3 + p2) (if (y3 + p2) < 0 then (0 : Int) else (if (y3 + p2) ≤ 2 then (if p2 ≤ 0 then ((M20 64 0 (y3 + p2)) - 1) else 0) else 0)) M20))))))
def wp_X10_nextRow (p1 : Int) (p2 : Int) (M : Mem) (Qm : Int → Mem → Prop) : Prop := (0 ≤ p1 ∧ p1 < 29) ∧ wp_X10_placeOf p1 M fun (x4 : Int) (M3 : Mem) => (inR (x4 + p2)) ∧ (∃ n38 : Nat, wp_X10_nextRow_16 p1 p2 Qm n38 (M 60 0 p1) (x4 + p2) M3)
set_option maxHeartbeats 4000000 in
set_option maxRecDepth 100000 in
theorem t_X10_nextRow_80 {p1 : Int} {p2 : Int} (X : CX p m c cX10_nextRow 5 s args RX10 G B κ meth (some .int)) (hp1 : inR p1) (hp2 : inR p2) {Qm : Int → Mem → Prop} : ∀ y3 : Int, ∀ y4 : Int, ∀ M : Mem, wp_X10_nextRow_80 p1 p2 Qm y3 y4 M → inR y3 → inR y4 → ∀ (H : Heap) (locs : List Loc), Rp G e0 α κ B M H → va_S (fun q => B ≤ q) s.heap H locs → ∀ (ls : Array Slot), lv_has ls 5 [(0, .ref (α 11 0)), (3, .int (Int32.ofInt y3)), (4, .int (Int32.ofInt y4))] → WI p l e 1 s m args below meth c G e0 α κ B Qm H locs 80 ls [] := by
  intro y3 y4 M hw hy3 hy4 H locs hR hS ls hl
  have hw : (0 ≤ y3 → (y3 ≤ 2 → (inR (24 * y3)) ∧ (inR ((24 * y3) + y4)) ∧ (0 ≤ ((24 * y3) + y4) ∧ ((24 * y3) + y4) < 72) ∧ True) ∧ True) ∧ Qm (if y3 < 0 then ((-1) : Int) else (if y3 ≤ 2 then (M 63 0 ((24 * y3) + y4)) else (-1))) M := hw
  refine lv_iload_n X.1.1 X.1.2.1 dX10_nextRow_80 rfl (lv_at hl 1 rfl) ?_
  have s13 := hw.1
  have hw := hw.2
  have r14 := inR_ite (c := y3 < 0) (inR_c (a := -1) rfl) (inR_ite (c := y3 ≤ 2) (hR.r 63 0 ((24 * y3) + y4)) (inR_c (a := -1) rfl))
  refine cut_j (A := ∀ v15 : Int, v15 = (if y3 < 0 then ((-1) : Int) else (if y3 ≤ 2 then (M 63 0 ((24 * y3) + y4)) else (-1))) → WI p l e 1 s m args below meth c G e0 α κ B Qm H locs 105 ls [.int (Int32.ofInt v15)]) (fun J16 => ?_) ?_
  · refine sa_if_lt (tgt := 89) X.1 hy3 dX10_nextRow_81 (by decide) (fun hc => ?_) (fun hc => ?_)
    · skip
      refine sa_const X.1 dX10_nextRow_89 ?_
      refine lv_goto (tgt := 105) X.1.1 X.1.2.1 dX10_nextRow_90 (by decide) ?_
      exact J16 ((-1)) (if_pos (c := y3 < 0) hc).symm
    · have hw := s13 hc
      refine lv_iload_n X.1.1 X.1.2.1 dX10_nextRow_84 rfl (lv_at hl 1 rfl) ?_
      refine sa_const X.1 dX10_nextRow_85 ?_
      have s10 := hw.1
      have hw := hw.2
      refine cut_j (A := ∀ v11 : Int, v11 = (if y3 ≤ 2 then (M 63 0 ((24 * y3) + y4)) else (-1)) → WI p l e 1 s m args below meth c G e0 α κ B Qm H locs 105 ls [.int (Int32.ofInt v11)]) (fun J12 => ?_) ?_
      · refine sa_icmp_le (tgt := 93) X.1 hy3 (inR_c (a := 2) rfl) dX10_nextRow_86 (by decide) (fun hc => ?_) (fun hc => ?_)
        · have hw := s10 hc
          refine lv_aload_n X.1.1 X.1.2.1 dX10_nextRow_93 rfl (lv_at hl 0 rfl) ?_
          refine gt_11_9 X hR (okf X.2.2.1 rfl) kw_1538 dX10_nextRow_94 ?_
          refine sa_bipush X.1 dX10_nextRow_97 (by decide) ?_
          refine lv_iload_n X.1.1 X.1.2.1 dX10_nextRow_99 rfl (lv_at hl 1 rfl) ?_
          have c7 := hw.1
          have hw := hw.2
          refine sa_imul X.1 dX10_nextRow_100 ?_
          refine lv_iload X.1.1 X.1.2.1 dX10_nextRow_101 (lv_at hl 2 rfl) ?_
          have c8 := hw.1
          have hw := hw.2
          refine sa_iadd X.1 dX10_nextRow_103 ?_
          have c9 := hw.1
          have hw := hw.2
          refine ra_63 X hR (okf X.2.2.1 rfl) c9 dX10_nextRow_104 ?_
          exact J12 ((M 63 0 ((24 * y3) + y4))) (if_pos (c := y3 ≤ 2) hc).symm
        · skip
          refine sa_const X.1 dX10_nextRow_89 ?_
          refine lv_goto (tgt := 105) X.1.1 X.1.2.1 dX10_nextRow_90 (by decide) ?_
          exact J12 ((-1)) (if_neg (c := y3 ≤ 2) (Int.not_le.mpr hc)).symm
      intro v11 hv11
      subst hv11
      exact J16 ((if y3 ≤ 2 then (M 63 0 ((24 * y3) + y4)) else (-1))) (if_neg (c := y3 < 0) (Int.not_lt.mpr hc)).symm
  intro v15 hv15
  subst hv15
  exact sa_iret X.1 X.2.2.2.1 X.2.2.2.2 hR hS r14 hw dX10_nextRow_105
set_option maxHeartbeats 4000000 in
set_option maxRecDepth 100000 in
theorem t_X10_nextRow_16 {p1 : Int} {p2 : Int} (X : CX p m c cX10_nextRow 5 s args RX10 G B κ meth (some .int)) (hp1 : inR p1) (hp2 : inR p2) {Qm : Int → Mem → Prop} : ∀ n : Nat, ∀ y3 : Int, ∀ y4 : Int, ∀ M : Mem, wp_X10_nextRow_16 p1 p2 Qm n y3 y4 M → inR y3 → inR y4 → ∀ (H : Heap) (locs : List Loc), Rp G e0 α κ B M H → va_S (fun q => B ≤ q) s.heap H locs → ∀ (ls : Array Slot), lv_has ls 5 [(0, .ref (α 11 0)), (2, .int (Int32.ofInt p2)), (3, .int (Int32.ofInt y3)), (4, .int (Int32.ofInt y4))] → WI p l e 1 s m args below meth c G e0 α κ B Qm H locs 16 ls [] := by
  intro n
  induction n with
  | zero =>
    intro y3 y4 M hw hy3 hy4 H locs hR hS ls hl
    exact hw.elim
  | succ n ih =>
    intro y3 y4 M hw hy3 hy4 H locs hR hS ls hl
    have hw : ((y3 < 0 → wp_X10_nextRow_80 p1 p2 Qm y3 y4 M) ∧ (0 ≤ y3 → ((2 < y3 → wp_X10_nextRow_80 p1 p2 Qm y3 y4 M) ∧ (y3 ≤ 2 → (0 ≤ y3 ∧ y3 < 3) ∧ (inR ((M 64 0 y3) - 1)) ∧ wp_X10_in y4 0 ((M 64 0 y3) - 1) M fun (x21 : Int) (M20 : Mem) => ((¬ x21 = 0 → wp_X10_nextRow_80 p1 p2 Qm y3 y4 M20) ∧ (x21 = 0 → (inR (y3 + p2)) ∧ (0 ≤ (y3 + p2) → ((y3 + p2) ≤ 2 → (p2 ≤ 0 → (0 ≤ (y3 + p2) ∧ (y3 + p2) < 3) ∧ (inR ((M20 64 0 (y3 + p2)) - 1)) ∧ True) ∧ (inR (if p2 ≤ 0 then ((M20 64 0 (y3 + p2)) - 1) else 0)) ∧ True) ∧ (inR (if (y3 + p2) ≤ 2 then (if p2 ≤ 0 then ((M20 64 0 (y3 + p2)) - 1) else 0) else 0)) ∧ True) ∧ (inR (if (y3 + p2) < 0 then (0 : Int) else (if (y3 + p2) ≤ 2 then (if p2 ≤ 0 then ((M20 64 0 (y3 + p2)) - 1) else 0) else 0))) ∧ wp_X10_nextRow_16 p1 p2 Qm n (y3 + p2) (if (y3 + p2) < 0 then (0 : Int) else (if (y3 + p2) ≤ 2 then (if p2 ≤ 0 then ((M20 64 0 (y3 + p2)) - 1) else 0) else 0)) M20)))))) := hw
    refine lv_iload_n X.1.1 X.1.2.1 dX10_nextRow_16 rfl (lv_at hl 2 rfl) ?_
    refine sa_if_lt (tgt := 80) X.1 hy3 dX10_nextRow_17 (by decide) (fun hc => ?_) (fun hc => ?_)
    · have hw := hw.1 hc
      exact t_X10_nextRow_80 X hp1 hp2 _ _ _ hw hy3 hy4 _ _ hR hS _ (lv_sub hl [0, 2, 3] rfl)
    · have hw := hw.2 hc
      refine lv_iload_n X.1.1 X.1.2.1 dX10_nextRow_20 rfl (lv_at hl 2 rfl) ?_
      refine sa_const X.1 dX10_nextRow_21 ?_
      refine sa_icmp_gt (tgt := 80) X.1 hy3 (inR_c (a := 2) rfl) dX10_nextRow_22 (by decide) (fun hc => ?_) (fun hc => ?_)
      · have hw := hw.1 hc
        exact t_X10_nextRow_80 X hp1 hp2 _ _ _ hw hy3 hy4 _ _ hR hS _ (lv_sub hl [0, 2, 3] rfl)
      · have hw := hw.2 hc
        refine lv_iload X.1.1 X.1.2.1 dX10_nextRow_25 (lv_at hl 3 rfl) ?_
        refine sa_const X.1 dX10_nextRow_27 ?_
        refine lv_aload_n X.1.1 X.1.2.1 dX10_nextRow_28 rfl (lv_at hl 0 rfl) ?_
        refine gt_11_10 X hR (okf X.2.2.1 rfl) kw_1539 dX10_nextRow_29 ?_
        refine lv_iload_n X.1.1 X.1.2.1 dX10_nextRow_32 rfl (lv_at hl 2 rfl) ?_
        have c17 := hw.1
        have hw := hw.2
        refine ra_64 X hR (okf X.2.2.1 rfl) c17 dX10_nextRow_33 ?_
        have r18 := hR.r 64 0 y3
        refine sa_const X.1 dX10_nextRow_34 ?_
        have c19 := hw.1
        have hw := hw.2
        refine sa_isub X.1 dX10_nextRow_35 ?_
        refine cs_X10_in X hy4 (inR_c (a := 0) rfl) c19 (kc := 1) rmL_ok rm_c (by decide) hR hS kw_1718 hl.1 dX10_nextRow_36 (Nat.le_of_ble_eq_true rfl) hw (fun x21 M20 H locs hw r22 hR hS => ?_)
        refine sa_if_ne (tgt := 80) X.1 r22 dX10_nextRow_39 (by decide) (fun hc => ?_) (fun hc => ?_)
        · have hw := hw.1 hc
          exact t_X10_nextRow_80 X hp1 hp2 _ _ _ hw hy3 hy4 _ _ hR hS _ (lv_sub hl [0, 2, 3] rfl)
        · have hw := hw.2 hc
          refine lv_iload_n X.1.1 X.1.2.1 dX10_nextRow_42 rfl (lv_at hl 2 rfl) ?_
          refine lv_iload_n X.1.1 X.1.2.1 dX10_nextRow_43 rfl (lv_at hl 1 rfl) ?_
          have c23 := hw.1
          have hw := hw.2
          refine sa_iadd X.1 dX10_nextRow_44 ?_
          refine lv_istore_n (lv' := [(3, .int (Int32.ofInt (y3 + p2))), (0, .ref (α 11 0)), (2, .int (Int32.ofInt p2)), (4, .int (Int32.ofInt y4))]) X.1.1 X.1.2.1 dX10_nextRow_45 rfl hl (by decide) rfl (fun ls hl => ?_)
          refine lv_iload_n X.1.1 X.1.2.1 dX10_nextRow_46 rfl (lv_at hl 0 rfl) ?_
          have s34 := hw.1
          have hw := hw.2
          have c35 := hw.1
          have hw := hw.2
          refine cut_j (A := ∀ v36 : Int, v36 = (if (y3 + p2) < 0 then (0 : Int) else (if (y3 + p2) ≤ 2 then (if p2 ≤ 0 then ((M20 64 0 (y3 + p2)) - 1) else 0) else 0)) → WI p l e 1 s m args below meth c G e0 α κ B Qm H locs 75 ls [.int (Int32.ofInt v36)]) (fun J37 => ?_) ?_
          · refine sa_if_lt (tgt := 55) X.1 c23 dX10_nextRow_47 (by decide) (fun hc => ?_) (fun hc => ?_)
            · skip
              refine sa_const X.1 dX10_nextRow_55 ?_
              refine lv_goto (tgt := 75) X.1.1 X.1.2.1 dX10_nextRow_56 (by decide) ?_
              exact J37 (0) (if_pos (c := (y3 + p2) < 0) hc).symm
            · have hw := s34 hc
              refine lv_iload_n X.1.1 X.1.2.1 dX10_nextRow_50 rfl (lv_at hl 0 rfl) ?_
              refine sa_const X.1 dX10_nextRow_51 ?_
              have s30 := hw.1
              have hw := hw.2
              have c31 := hw.1
              have hw := hw.2
              refine cut_j (A := ∀ v32 : Int, v32 = (if (y3 + p2) ≤ 2 then (if p2 ≤ 0 then ((M20 64 0 (y3 + p2)) - 1) else 0) else 0) → WI p l e 1 s m args below meth c G e0 α κ B Qm H locs 75 ls [.int (Int32.ofInt v32)]) (fun J33 => ?_) ?_
              · refine sa_icmp_le (tgt := 59) X.1 c23 (inR_c (a := 2) rfl) dX10_nextRow_52 (by decide) (fun hc => ?_) (fun hc => ?_)
                · have hw := s30 hc
                  refine lv_iload_n X.1.1 X.1.2.1 dX10_nextRow_59 rfl (lv_at hl 2 rfl) ?_
                  have s26 := hw.1
                  have hw := hw.2
                  have c27 := hw.1
                  have hw := hw.2
                  refine cut_j (A := ∀ v28 : Int, v28 = (if p2 ≤ 0 then ((M20 64 0 (y3 + p2)) - 1) else 0) → WI p l e 1 s m args below meth c G e0 α κ B Qm H locs 75 ls [.int (Int32.ofInt v28)]) (fun J29 => ?_) ?_
                  · refine sa_if_le (tgt := 67) X.1 hp2 dX10_nextRow_60 (by decide) (fun hc => ?_) (fun hc => ?_)
                    · have hw := s26 hc
                      refine lv_aload_n X.1.1 X.1.2.1 dX10_nextRow_67 rfl (lv_at hl 1 rfl) ?_
                      refine gt_11_10 X hR (okf X.2.2.1 rfl) kw_1539 dX10_nextRow_68 ?_
                      refine lv_iload_n X.1.1 X.1.2.1 dX10_nextRow_71 rfl (lv_at hl 0 rfl) ?_
                      have c24 := hw.1
                      have hw := hw.2
                      refine ra_64 X hR (okf X.2.2.1 rfl) c24 dX10_nextRow_72 ?_
                      refine sa_const X.1 dX10_nextRow_73 ?_
                      have c25 := hw.1
                      have hw := hw.2
                      refine sa_isub X.1 dX10_nextRow_74 ?_
                      exact J29 (((M20 64 0 (y3 + p2)) - 1)) (if_pos (c := p2 ≤ 0) hc).symm
                    · skip
                      refine sa_const X.1 dX10_nextRow_63 ?_
                      refine lv_goto (tgt := 75) X.1.1 X.1.2.1 dX10_nextRow_64 (by decide) ?_
                      exact J29 (0) (if_neg (c := p2 ≤ 0) (Int.not_le.mpr hc)).symm
                  intro v28 hv28
                  subst hv28
                  exact J33 ((if p2 ≤ 0 then ((M20 64 0 (y3 + p2)) - 1) else 0)) (if_pos (c := (y3 + p2) ≤ 2) hc).symm
                · skip
                  refine sa_const X.1 dX10_nextRow_55 ?_
                  refine lv_goto (tgt := 75) X.1.1 X.1.2.1 dX10_nextRow_56 (by decide) ?_
                  exact J33 (0) (if_neg (c := (y3 + p2) ≤ 2) (Int.not_le.mpr hc)).symm
              intro v32 hv32
              subst hv32
              exact J37 ((if (y3 + p2) ≤ 2 then (if p2 ≤ 0 then ((M20 64 0 (y3 + p2)) - 1) else 0) else 0)) (if_neg (c := (y3 + p2) < 0) (Int.not_lt.mpr hc)).symm
          intro v36 hv36
          subst hv36
          refine lv_istore (lv' := [(4, .int (Int32.ofInt (if (y3 + p2) < 0 then (0 : Int) else (if (y3 + p2) ≤ 2 then (if p2 ≤ 0 then ((M20 64 0 (y3 + p2)) - 1) else 0) else 0)))), (3, .int (Int32.ofInt (y3 + p2))), (0, .ref (α 11 0)), (2, .int (Int32.ofInt p2))]) X.1.1 X.1.2.1 dX10_nextRow_75 hl (by decide) rfl (fun ls hl => ?_)
          refine lv_goto (tgt := 16) X.1.1 X.1.2.1 dX10_nextRow_77 (by decide) ?_
          exact ih _ _ _ hw c23 c35 _ _ hR hS _ (lv_sub hl [2, 3, 1, 0] rfl)
set_option maxHeartbeats 4000000 in
set_option maxRecDepth 100000 in
theorem t_X10_nextRow {p1 : Int} {p2 : Int} (X : CX p m c cX10_nextRow 5 s args RX10 G B κ meth (some .int)) (hp1 : inR p1) (hp2 : inR p2) {M : Mem} {Qm : Int → Mem → Prop} (hw : wp_X10_nextRow p1 p2 M Qm) (H : Heap) (locs : List Loc) (hR : Rp G e0 α κ B M H) (hS : va_S (fun q => B ≤ q) s.heap H locs) (ls : Array Slot) (hl : lv_has ls 5 [(0, .ref (α 11 0)), (1, .int (Int32.ofInt p1)), (2, .int (Int32.ofInt p2))]) : WI p l e 1 s m args below meth c G e0 α κ B Qm H locs 0 ls [] := by
  have hw : (0 ≤ p1 ∧ p1 < 29) ∧ wp_X10_placeOf p1 M fun (x4 : Int) (M3 : Mem) => (inR (x4 + p2)) ∧ (∃ n38 : Nat, wp_X10_nextRow_16 p1 p2 Qm n38 (M 60 0 p1) (x4 + p2) M3) := hw
  refine lv_aload_n X.1.1 X.1.2.1 dX10_nextRow_0 rfl (lv_at hl 0 rfl) ?_
  refine gt_11_5 X hR (okf X.2.2.1 rfl) kw_1534 dX10_nextRow_1 ?_
  refine lv_iload_n X.1.1 X.1.2.1 dX10_nextRow_4 rfl (lv_at hl 1 rfl) ?_
  have c1 := hw.1
  have hw := hw.2
  refine ra_60 X hR (okf X.2.2.1 rfl) c1 dX10_nextRow_5 ?_
  have r2 := hR.r 60 0 p1
  refine lv_istore_n (lv' := [(3, .int (Int32.ofInt (M 60 0 p1))), (0, .ref (α 11 0)), (1, .int (Int32.ofInt p1)), (2, .int (Int32.ofInt p2))]) X.1.1 X.1.2.1 dX10_nextRow_6 rfl hl (by decide) rfl (fun ls hl => ?_)
  refine lv_aload_n X.1.1 X.1.2.1 dX10_nextRow_7 rfl (lv_at hl 1 rfl) ?_
  refine lv_iload_n X.1.1 X.1.2.1 dX10_nextRow_8 rfl (lv_at hl 2 rfl) ?_
  refine cs_X10_placeOf X hp1 (kc := 1) rmL_ok rm_c (by decide) hR hS kw_1741 hl.1 dX10_nextRow_9 (Nat.le_of_ble_eq_true rfl) hw (fun x4 M3 H locs hw r5 hR hS => ?_)
  refine lv_iload_n X.1.1 X.1.2.1 dX10_nextRow_12 rfl (lv_at hl 3 rfl) ?_
  have c6 := hw.1
  have hw := hw.2
  refine sa_iadd X.1 dX10_nextRow_13 ?_
  refine lv_istore (lv' := [(4, .int (Int32.ofInt (x4 + p2))), (3, .int (Int32.ofInt (M 60 0 p1))), (0, .ref (α 11 0)), (1, .int (Int32.ofInt p1)), (2, .int (Int32.ofInt p2))]) X.1.1 X.1.2.1 dX10_nextRow_14 hl (by decide) rfl (fun ls hl => ?_)
  obtain ⟨n38, hw⟩ := hw
  exact t_X10_nextRow_16 X hp1 hp2 n38 _ _ _ hw r2 c6 _ _ hR hS _ (lv_sub hl [2, 4, 1, 0] rfl)
theorem m_X10_nextRow {l : Launch} {G : Gx} {e0 : Nat} {α : Ax} {κ : Nat → Int} {B : Nat} {p1 : Int} {p2 : Int} (hκ : kOK κ) (hp1 : inR p1) (hp2 : inR p2) {M : Mem} {Qm : Int → Mem → Prop} (hw : wp_X10_nextRow p1 p2 M Qm) : CI l yX10_nextRow (Cond.code yX10_nextRow cX10_nextRow 5 (some .int)) 1 G e0 α κ B [.ref (α 11 0), .int (Int32.ofInt p1), .int (Int32.ofInt p2)] M Qm :=
  CI.mk hκ (by decide +kernel) rfl (Nat.le_of_ble_eq_true rfl) (lv := [(0, .ref (α 11 0)), (1, .int (Int32.ofInt p1)), (2, .int (Int32.ofInt p2))]) rfl (fun p e s m args below meth c ls X hR hS hl => t_X10_nextRow X hp1 hp2 hw _ _ hR hS ls hl)
theorem cs_X10_nextRow {cc : ByteArray} {nL : Nat} {own : String} {ret : Option FieldType} {idx pc : Nat} {p1 : Int} {p2 : Int} (X : CX p m c cc nL s args own G B κ meth ret) (hp1 : inR p1) (hp2 : inR p2) {kc : Nat} {R : Room} {cells slots : Nat} (hRr : RmOK R kc) (hcel : cells ≤ R.cells ∧ slots ≤ R.slots) (hk : 1 + 1 ≤ kc) {M : Mem} {H : Heap} {locs : List Loc} (hR : Rp G e0 α κ B M H) (hS : va_S (fun q => B ≤ q) s.heap H locs) (k1 : Cond.methodLink own idx yX10_nextRow ∈ gw) {ls : Array Slot} (hml : ls.size = nL) {rest : List Value} (hd : decode cc pc = .ok (.invokevirtual idx, 3)) (hrest : (rest.map fun v => v.category).sum ≤ 8) {Q : State → Prop} {Qm : Int → Mem → Prop} (hw : wp_X10_nextRow p1 p2 M Qm) (kk : ∀ (r : Int) (M1 : Mem) (H1 : Heap) (locs1 : List Loc), Qm r M1 → inR r → Rp G e0 α κ B M1 H1 → va_S (fun q => B ≤ q) s.heap H1 locs1 → W p l e R s m args below meth c H1 locs1 cells slots Q (F0 m (pc + 3) ls (.int (Int32.ofInt r) :: rest))) : W p l e R s m args below meth c H locs cells slots Q (F0 m pc ls (.int (Int32.ofInt p2) :: .int (Int32.ofInt p1) :: .ref (α 11 0) :: rest)) :=
  sa_callVI 1 (n := 2) (As := [.int (Int32.ofInt p1), .int (Int32.ofInt p2)]) (rest := rest) X.1 X.2.1 hR hS (m_X10_nextRow X.2.2.1 hp1 hp2 hw) k1 kw_1960 kw_73 kw_104 kw_1961 ⟨rfl, by decide +kernel, by decide +kernel, by decide +kernel⟩ (rm_ok hRr hk (by decide)) (rc_11 X hR (okf X.2.2.1 rfl)) rfl rfl hrest hml hd hcel kk
def wp_X10_nextColumn_28 (p1 : Int) (p2 : Int) (Qm : Int → Mem → Prop) (y3 : Int) (M : Mem) : Prop := wp_X10_isColumn y3 M fun (x6 : Int) (M5 : Mem) => Qm (if x6 = 0 then ((-1) : Int) else y3) M5
def wp_X10_nextColumn_4 (p1 : Int) (p2 : Int) (Qm : Int → Mem → Prop) : Nat → Int → Mem → Prop
  | 0 => fun _ _ => False
  | n + 1 => fun y3 M => wp_X10_isColumn y3 M fun (x3 : Int) (M2 : Mem) => ((x3 = 0 → wp_X10_nextColumn_28 p1 p2 Qm y3 M2) ∧ (¬ x3 = 0 → (0 ≤ y3 ∧ y3 < 6) ∧ (((M2 59 0 y3) = 0 → wp_X10_nextColumn_28 p1 p2 Qm y3 M2) ∧ (¬ (M2 59 0 y3) = 0 → (inR (y3 + p2)) ∧ wp_X10_nextColumn_4 p1 p2 Qm n (y3 + p2) M2))))
def wp_X10_nextColumn (p1 : Int) (p2 : Int) (M : Mem) (Qm : Int → Mem → Prop) : Prop := (inR (p1 + p2)) ∧ (∃ n14 : Nat, wp_X10_nextColumn_4 p1 p2 Qm n14 (p1 + p2) M)
set_option maxHeartbeats 4000000 in
set_option maxRecDepth 100000 in
theorem t_X10_nextColumn_28 {p1 : Int} {p2 : Int} (X : CX p m c cX10_nextColumn 4 s args RX10 G B κ meth (some .int)) (hp1 : inR p1) (hp2 : inR p2) {Qm : Int → Mem → Prop} : ∀ y3 : Int, ∀ M : Mem, wp_X10_nextColumn_28 p1 p2 Qm y3 M → inR y3 → ∀ (H : Heap) (locs : List Loc), Rp G e0 α κ B M H → va_S (fun q => B ≤ q) s.heap H locs → ∀ (ls : Array Slot), lv_has ls 4 [(0, .ref (α 11 0)), (3, .int (Int32.ofInt y3))] → WI p l e 2 s m args below meth c G e0 α κ B Qm H locs 28 ls [] := by
  intro y3 M hw hy3 H locs hR hS ls hl
  have hw : wp_X10_isColumn y3 M fun (x6 : Int) (M5 : Mem) => Qm (if x6 = 0 then ((-1) : Int) else y3) M5 := hw
  refine lv_aload_n X.1.1 X.1.2.1 dX10_nextColumn_28 rfl (lv_at hl 0 rfl) ?_
  refine lv_iload_n X.1.1 X.1.2.1 dX10_nextColumn_29 rfl (lv_at hl 1 rfl) ?_
  refine cs_X10_isColumn X hy3 (kc := 2) rmL_ok rm_c (by decide) hR hS kw_1737 hl.1 dX10_nextColumn_30 (Nat.le_of_ble_eq_true rfl) hw (fun x6 M5 H locs hw r7 hR hS => ?_)
  have r8 := inR_ite (c := x6 = 0) (inR_c (a := -1) rfl) hy3
  refine cut_j (A := ∀ v9 : Int, v9 = (if x6 = 0 then ((-1) : Int) else y3) → WI p l e 2 s m args below meth c G e0 α κ B Qm H locs 41 ls [.int (Int32.ofInt v9)]) (fun J10 => ?_) ?_
  · refine sa_if_eq (tgt := 40) X.1 r7 dX10_nextColumn_33 (by decide) (fun hc => ?_) (fun hc => ?_)
    · skip
      refine sa_const X.1 dX10_nextColumn_40 ?_
      exact J10 ((-1)) (if_pos (c := x6 = 0) hc).symm
    · skip
      refine lv_iload_n X.1.1 X.1.2.1 dX10_nextColumn_36 rfl (lv_at hl 1 rfl) ?_
      refine lv_goto (tgt := 41) X.1.1 X.1.2.1 dX10_nextColumn_37 (by decide) ?_
      exact J10 (y3) (if_neg (c := x6 = 0) hc).symm
  intro v9 hv9
  subst hv9
  exact sa_iret X.1 X.2.2.2.1 X.2.2.2.2 hR hS r8 hw dX10_nextColumn_41
set_option maxHeartbeats 4000000 in
set_option maxRecDepth 100000 in
theorem t_X10_nextColumn_4 {p1 : Int} {p2 : Int} (X : CX p m c cX10_nextColumn 4 s args RX10 G B κ meth (some .int)) (hp1 : inR p1) (hp2 : inR p2) {Qm : Int → Mem → Prop} : ∀ n : Nat, ∀ y3 : Int, ∀ M : Mem, wp_X10_nextColumn_4 p1 p2 Qm n y3 M → inR y3 → ∀ (H : Heap) (locs : List Loc), Rp G e0 α κ B M H → va_S (fun q => B ≤ q) s.heap H locs → ∀ (ls : Array Slot), lv_has ls 4 [(0, .ref (α 11 0)), (2, .int (Int32.ofInt p2)), (3, .int (Int32.ofInt y3))] → WI p l e 2 s m args below meth c G e0 α κ B Qm H locs 4 ls [] := by
  intro n
  induction n with
  | zero =>
    intro y3 M hw hy3 H locs hR hS ls hl
    exact hw.elim
  | succ n ih =>
    intro y3 M hw hy3 H locs hR hS ls hl
    have hw : wp_X10_isColumn y3 M fun (x3 : Int) (M2 : Mem) => ((x3 = 0 → wp_X10_nextColumn_28 p1 p2 Qm y3 M2) ∧ (¬ x3 = 0 → (0 ≤ y3 ∧ y3 < 6) ∧ (((M2 59 0 y3) = 0 → wp_X10_nextColumn_28 p1 p2 Qm y3 M2) ∧ (¬ (M2 59 0 y3) = 0 → (inR (y3 + p2)) ∧ wp_X10_nextColumn_4 p1 p2 Qm n (y3 + p2) M2)))) := hw
    refine lv_aload_n X.1.1 X.1.2.1 dX10_nextColumn_4 rfl (lv_at hl 0 rfl) ?_
    refine lv_iload_n X.1.1 X.1.2.1 dX10_nextColumn_5 rfl (lv_at hl 2 rfl) ?_
    refine cs_X10_isColumn X hy3 (kc := 2) rmL_ok rm_c (by decide) hR hS kw_1737 hl.1 dX10_nextColumn_6 (Nat.le_of_ble_eq_true rfl) hw (fun x3 M2 H locs hw r4 hR hS => ?_)
    refine sa_if_eq (tgt := 28) X.1 r4 dX10_nextColumn_9 (by decide) (fun hc => ?_) (fun hc => ?_)
    · have hw := hw.1 hc
      exact t_X10_nextColumn_28 X hp1 hp2 _ _ hw hy3 _ _ hR hS _ (lv_sub hl [0, 2] rfl)
    · have hw := hw.2 hc
      refine lv_aload_n X.1.1 X.1.2.1 dX10_nextColumn_12 rfl (lv_at hl 0 rfl) ?_
      refine gt_11_3 X hR (okf X.2.2.1 rfl) kw_1532 dX10_nextColumn_13 ?_
      refine lv_iload_n X.1.1 X.1.2.1 dX10_nextColumn_16 rfl (lv_at hl 2 rfl) ?_
      have c11 := hw.1
      have hw := hw.2
      refine ra_59 X hR (okf X.2.2.1 rfl) c11 dX10_nextColumn_17 ?_
      have r12 := hR.r 59 0 y3
      refine sa_if_eq (tgt := 28) X.1 r12 dX10_nextColumn_18 (by decide) (fun hc => ?_) (fun hc => ?_)
      · have hw := hw.1 hc
        exact t_X10_nextColumn_28 X hp1 hp2 _ _ hw hy3 _ _ hR hS _ (lv_sub hl [0, 2] rfl)
      · have hw := hw.2 hc
        refine lv_iload_n X.1.1 X.1.2.1 dX10_nextColumn_21 rfl (lv_at hl 2 rfl) ?_
        refine lv_iload_n X.1.1 X.1.2.1 dX10_nextColumn_22 rfl (lv_at hl 1 rfl) ?_
        have c13 := hw.1
        have hw := hw.2
        refine sa_iadd X.1 dX10_nextColumn_23 ?_
        refine lv_istore_n (lv' := [(3, .int (Int32.ofInt (y3 + p2))), (0, .ref (α 11 0)), (2, .int (Int32.ofInt p2))]) X.1.1 X.1.2.1 dX10_nextColumn_24 rfl hl (by decide) rfl (fun ls hl => ?_)
        refine lv_goto (tgt := 4) X.1.1 X.1.2.1 dX10_nextColumn_25 (by decide) ?_
        exact ih _ _ hw c13 _ _ hR hS _ (lv_sub hl [1, 2, 0] rfl)
set_option maxHeartbeats 4000000 in
set_option maxRecDepth 100000 in
theorem t_X10_nextColumn {p1 : Int} {p2 : Int} (X : CX p m c cX10_nextColumn 4 s args RX10 G B κ meth (some .int)) (hp1 : inR p1) (hp2 : inR p2) {M : Mem} {Qm : Int → Mem → Prop} (hw : wp_X10_nextColumn p1 p2 M Qm) (H : Heap) (locs : List Loc) (hR : Rp G e0 α κ B M H) (hS : va_S (fun q => B ≤ q) s.heap H locs) (ls : Array Slot) (hl : lv_has ls 4 [(0, .ref (α 11 0)), (1, .int (Int32.ofInt p1)), (2, .int (Int32.ofInt p2))]) : WI p l e 2 s m args below meth c G e0 α κ B Qm H locs 0 ls [] := by
  have hw : (inR (p1 + p2)) ∧ (∃ n14 : Nat, wp_X10_nextColumn_4 p1 p2 Qm n14 (p1 + p2) M) := hw
  refine lv_iload_n X.1.1 X.1.2.1 dX10_nextColumn_0 rfl (lv_at hl 1 rfl) ?_
  refine lv_iload_n X.1.1 X.1.2.1 dX10_nextColumn_1 rfl (lv_at hl 2 rfl) ?_
  have c1 := hw.1
  have hw := hw.2
  refine sa_iadd X.1 dX10_nextColumn_2 ?_
  refine lv_istore_n (lv' := [(3, .int (Int32.ofInt (p1 + p2))), (0, .ref (α 11 0)), (1, .int (Int32.ofInt p1)), (2, .int (Int32.ofInt p2))]) X.1.1 X.1.2.1 dX10_nextColumn_3 rfl hl (by decide) rfl (fun ls hl => ?_)
  obtain ⟨n14, hw⟩ := hw
  exact t_X10_nextColumn_4 X hp1 hp2 n14 _ _ hw c1 _ _ hR hS _ (lv_sub hl [1, 3, 0] rfl)
theorem m_X10_nextColumn {l : Launch} {G : Gx} {e0 : Nat} {α : Ax} {κ : Nat → Int} {B : Nat} {p1 : Int} {p2 : Int} (hκ : kOK κ) (hp1 : inR p1) (hp2 : inR p2) {M : Mem} {Qm : Int → Mem → Prop} (hw : wp_X10_nextColumn p1 p2 M Qm) : CI l yX10_nextColumn (Cond.code yX10_nextColumn cX10_nextColumn 4 (some .int)) 2 G e0 α κ B [.ref (α 11 0), .int (Int32.ofInt p1), .int (Int32.ofInt p2)] M Qm :=
  CI.mk hκ (by decide +kernel) rfl (Nat.le_of_ble_eq_true rfl) (lv := [(0, .ref (α 11 0)), (1, .int (Int32.ofInt p1)), (2, .int (Int32.ofInt p2))]) rfl (fun p e s m args below meth c ls X hR hS hl => t_X10_nextColumn X hp1 hp2 hw _ _ hR hS ls hl)
theorem cs_X10_nextColumn {cc : ByteArray} {nL : Nat} {own : String} {ret : Option FieldType} {idx pc : Nat} {p1 : Int} {p2 : Int} (X : CX p m c cc nL s args own G B κ meth ret) (hp1 : inR p1) (hp2 : inR p2) {kc : Nat} {R : Room} {cells slots : Nat} (hRr : RmOK R kc) (hcel : cells ≤ R.cells ∧ slots ≤ R.slots) (hk : 2 + 1 ≤ kc) {M : Mem} {H : Heap} {locs : List Loc} (hR : Rp G e0 α κ B M H) (hS : va_S (fun q => B ≤ q) s.heap H locs) (k1 : Cond.methodLink own idx yX10_nextColumn ∈ gw) {ls : Array Slot} (hml : ls.size = nL) {rest : List Value} (hd : decode cc pc = .ok (.invokevirtual idx, 3)) (hrest : (rest.map fun v => v.category).sum ≤ 8) {Q : State → Prop} {Qm : Int → Mem → Prop} (hw : wp_X10_nextColumn p1 p2 M Qm) (kk : ∀ (r : Int) (M1 : Mem) (H1 : Heap) (locs1 : List Loc), Qm r M1 → inR r → Rp G e0 α κ B M1 H1 → va_S (fun q => B ≤ q) s.heap H1 locs1 → W p l e R s m args below meth c H1 locs1 cells slots Q (F0 m (pc + 3) ls (.int (Int32.ofInt r) :: rest))) : W p l e R s m args below meth c H locs cells slots Q (F0 m pc ls (.int (Int32.ofInt p2) :: .int (Int32.ofInt p1) :: .ref (α 11 0) :: rest)) :=
  sa_callVI 2 (n := 2) (As := [.int (Int32.ofInt p1), .int (Int32.ofInt p2)]) (rest := rest) X.1 X.2.1 hR hS (m_X10_nextColumn X.2.2.1 hp1 hp2 hw) k1 kw_1964 kw_74 kw_104 kw_1965 ⟨rfl, by decide +kernel, by decide +kernel, by decide +kernel⟩ (rm_ok hRr hk (by decide)) (rc_11 X hR (okf X.2.2.1 rfl)) rfl rfl hrest hml hd hcel kk
def wp_X10_wins (p0 : Int) (p1 : Int) (p2 : Int) (M : Mem) (Qm : Int → Mem → Prop) : Prop := ((Int.tdiv p0 10) < p1 → (inR (10 * p1)) ∧ (inR ((10 * p1) + p2)) ∧ True) ∧ (inR (if p1 ≤ (Int.tdiv p0 10) then p0 else ((10 * p1) + p2))) ∧ Qm (if p1 ≤ (Int.tdiv p0 10) then p0 else ((10 * p1) + p2)) M
set_option maxHeartbeats 4000000 in
set_option maxRecDepth 100000 in
theorem t_X10_wins {p0 : Int} {p1 : Int} {p2 : Int} (X : CX p m c cX10_wins 3 s args RX10 G B κ meth (some .int)) (hp0 : inR p0) (hp1 : inR p1) (hp2 : inR p2) {M : Mem} {Qm : Int → Mem → Prop} (hw : wp_X10_wins p0 p1 p2 M Qm) (H : Heap) (locs : List Loc) (hR : Rp G e0 α κ B M H) (hS : va_S (fun q => B ≤ q) s.heap H locs) (ls : Array Slot) (hl : lv_has ls 3 [(0, .int (Int32.ofInt p0)), (1, .int (Int32.ofInt p1)), (2, .int (Int32.ofInt p2))]) : WI p l e 0 s m args below meth c G e0 α κ B Qm H locs 0 ls [] := by
  have hw : ((Int.tdiv p0 10) < p1 → (inR (10 * p1)) ∧ (inR ((10 * p1) + p2)) ∧ True) ∧ (inR (if p1 ≤ (Int.tdiv p0 10) then p0 else ((10 * p1) + p2))) ∧ Qm (if p1 ≤ (Int.tdiv p0 10) then p0 else ((10 * p1) + p2)) M := hw
  refine lv_iload_n X.1.1 X.1.2.1 dX10_wins_0 rfl (lv_at hl 1 rfl) ?_
  refine lv_iload_n X.1.1 X.1.2.1 dX10_wins_1 rfl (lv_at hl 0 rfl) ?_
  refine sa_bipush X.1 dX10_wins_2 (by decide) ?_
  have r1 := inR_tdiv hp0 (inR_c (a := 10) rfl) (by decide)
  refine sa_idiv X.1 hp0 (inR_c (a := 10) rfl) (Int.ne_of_gt (by decide)) dX10_wins_4 ?_
  have s4 := hw.1
  have hw := hw.2
  have c5 := hw.1
  have hw := hw.2
  refine cut_j (A := ∀ v6 : Int, v6 = (if p1 ≤ (Int.tdiv p0 10) then p0 else ((10 * p1) + p2)) → WI p l e 0 s m args below meth c G e0 α κ B Qm H locs 18 ls [.int (Int32.ofInt v6)]) (fun J7 => ?_) ?_
  · refine sa_icmp_le (tgt := 17) X.1 hp1 r1 dX10_wins_5 (by decide) (fun hc => ?_) (fun hc => ?_)
    · skip
      refine lv_iload_n X.1.1 X.1.2.1 dX10_wins_17 rfl (lv_at hl 0 rfl) ?_
      exact J7 (p0) (if_pos (c := p1 ≤ (Int.tdiv p0 10)) hc).symm
    · have hw := s4 hc
      refine sa_bipush X.1 dX10_wins_8 (by decide) ?_
      refine lv_iload_n X.1.1 X.1.2.1 dX10_wins_10 rfl (lv_at hl 1 rfl) ?_
      have c2 := hw.1
      have hw := hw.2
      refine sa_imul X.1 dX10_wins_11 ?_
      refine lv_iload_n X.1.1 X.1.2.1 dX10_wins_12 rfl (lv_at hl 2 rfl) ?_
      have c3 := hw.1
      have hw := hw.2
      refine sa_iadd X.1 dX10_wins_13 ?_
      refine lv_goto (tgt := 18) X.1.1 X.1.2.1 dX10_wins_14 (by decide) ?_
      exact J7 (((10 * p1) + p2)) (if_neg (c := p1 ≤ (Int.tdiv p0 10)) (Int.not_le.mpr hc)).symm
  intro v6 hv6
  subst hv6
  exact sa_iret X.1 X.2.2.2.1 X.2.2.2.2 hR hS c5 hw dX10_wins_18
theorem m_X10_wins {l : Launch} {G : Gx} {e0 : Nat} {α : Ax} {κ : Nat → Int} {B : Nat} {p0 : Int} {p1 : Int} {p2 : Int} (hκ : kOK κ) (hp0 : inR p0) (hp1 : inR p1) (hp2 : inR p2) {M : Mem} {Qm : Int → Mem → Prop} (hw : wp_X10_wins p0 p1 p2 M Qm) : CI l yX10_wins (Cond.code yX10_wins cX10_wins 3 (some .int)) 0 G e0 α κ B [.int (Int32.ofInt p0), .int (Int32.ofInt p1), .int (Int32.ofInt p2)] M Qm :=
  CI.mk hκ (by decide +kernel) rfl (Nat.le_of_ble_eq_true rfl) (lv := [(0, .int (Int32.ofInt p0)), (1, .int (Int32.ofInt p1)), (2, .int (Int32.ofInt p2))]) rfl (fun p e s m args below meth c ls X hR hS hl => t_X10_wins X hp0 hp1 hp2 hw _ _ hR hS ls hl)
theorem cs_X10_wins {cc : ByteArray} {nL : Nat} {own : String} {ret : Option FieldType} {idx pc : Nat} {p0 : Int} {p1 : Int} {p2 : Int} (X : CX p m c cc nL s args own G B κ meth ret) (hp0 : inR p0) (hp1 : inR p1) (hp2 : inR p2) {kc : Nat} {R : Room} {cells slots : Nat} (hRr : RmOK R kc) (hcel : cells ≤ R.cells ∧ slots ≤ R.slots) (hk : 0 + 1 ≤ kc) {M : Mem} {H : Heap} {locs : List Loc} (hR : Rp G e0 α κ B M H) (hS : va_S (fun q => B ≤ q) s.heap H locs) (k1 : Cond.methodLink own idx yX10_wins ∈ gw) {ls : Array Slot} (hml : ls.size = nL) {rest : List Value} (hd : decode cc pc = .ok (.invokestatic idx, 3)) (hrest : (rest.map fun v => v.category).sum ≤ 8) {Q : State → Prop} {Qm : Int → Mem → Prop} (hw : wp_X10_wins p0 p1 p2 M Qm) (kk : ∀ (r : Int) (M1 : Mem) (H1 : Heap) (locs1 : List Loc), Qm r M1 → inR r → Rp G e0 α κ B M1 H1 → va_S (fun q => B ≤ q) s.heap H1 locs1 → W p l e R s m args below meth c H1 locs1 cells slots Q (F0 m (pc + 3) ls (.int (Int32.ofInt r) :: rest))) : W p l e R s m args below meth c H locs cells slots Q (F0 m pc ls (.int (Int32.ofInt p2) :: .int (Int32.ofInt p1) :: .int (Int32.ofInt p0) :: rest)) :=
  sa_callSI 0 (n := 3) (As := [.int (Int32.ofInt p0), .int (Int32.ofInt p1), .int (Int32.ofInt p2)]) (rest := rest) X.1 X.2.1 hR hS (m_X10_wins X.2.2.1 hp0 hp1 hp2 hw) k1 kw_1967 kw_104 kw_1968 ⟨by decide +kernel, by decide +kernel, by decide +kernel⟩ (rm_ok hRr hk (by decide)) rfl rfl hrest hml hd hcel kk
def wp_X10_won_327 (p1 : Int) (p2 : Int) (p3 : Int) (Qm : Int → Mem → Prop) (z0 : Int) (M : Mem) : Prop := Qm z0 M
def wp_X10_won_307 (p1 : Int) (p2 : Int) (p3 : Int) (Qm : Int → Mem → Prop) (y8 : Int) (y12 : Int) (M : Mem) : Prop := ((y8 = 0 → wp_X10_won_327 p1 p2 p3 Qm y12 M) ∧ (¬ y8 = 0 → wp_X10_wins y12 (M 11 0 30) 4 M fun (x49 : Int) (M48 : Mem) => wp_X10_won_327 p1 p2 p3 Qm x49 M48))
def wp_X10_won_305 (p1 : Int) (p2 : Int) (p3 : Int) (Qm : Int → Mem → Prop) (y8 : Int) (z0 : Int) (M : Mem) : Prop := wp_X10_won_307 p1 p2 p3 Qm y8 z0 M
def wp_X10_won_254 (p1 : Int) (p2 : Int) (p3 : Int) (Qm : Int → Mem → Prop) (y8 : Int) (z0 : Int) (M : Mem) : Prop := wp_X10_won_307 p1 p2 p3 Qm y8 z0 M
def wp_X10_won_201 (p1 : Int) (p2 : Int) (p3 : Int) (Qm : Int → Mem → Prop) (y4 : Int) (y6 : Int) (y7 : Int) (y8 : Int) (y9 : Int) (z0 : Int) (M : Mem) : Prop := ((y4 = 0 → (inR (4 * p2)) ∧ (inR ((4 * p2) + p3)) ∧ (0 ≤ ((4 * p2) + p3) ∧ ((4 * p2) + p3) < 24) ∧ wp_X10_wins z0 (M 79 0 ((4 * p2) + p3)) 3 M fun (x38 : Int) (M37 : Mem) => ((y8 = 0 → (inR (4 * y7)) ∧ (inR ((4 * y7) + y9)) ∧ (0 ≤ ((4 * y7) + y9) ∧ ((4 * y7) + y9) < 24) ∧ wp_X10_wins x38 (M37 79 0 ((4 * y7) + y9)) 3 M37 fun (x45 : Int) (M44 : Mem) => wp_X10_won_305 p1 p2 p3 Qm y8 x45 M44) ∧ (¬ y8 = 0 → wp_X10_won_305 p1 p2 p3 Qm y8 x38 M37))) ∧ (¬ y4 = 0 → (inR (4 * p1)) ∧ (inR ((4 * p1) + p3)) ∧ (0 ≤ ((4 * p1) + p3) ∧ ((4 * p1) + p3) < 116) ∧ wp_X10_wins z0 (M 78 0 ((4 * p1) + p3)) 2 M fun (x56 : Int) (M55 : Mem) => ((y8 = 0 → (inR (4 * y6)) ∧ (inR ((4 * y6) + y9)) ∧ (0 ≤ ((4 * y6) + y9) ∧ ((4 * y6) + y9) < 116) ∧ wp_X10_wins x56 (M55 78 0 ((4 * y6) + y9)) 2 M55 fun (x63 : Int) (M62 : Mem) => wp_X10_won_254 p1 p2 p3 Qm y8 x63 M62) ∧ (¬ y8 = 0 → wp_X10_won_254 p1 p2 p3 Qm y8 x56 M55))))
def wp_X10_won_171 (p1 : Int) (p2 : Int) (p3 : Int) (Qm : Int → Mem → Prop) (y4 : Int) (y6 : Int) (y7 : Int) (y8 : Int) (y9 : Int) (y11 : Int) (z0 : Int) (M : Mem) : Prop := ((y11 < 0 → wp_X10_won_201 p1 p2 p3 Qm y4 y6 y7 y8 y9 z0 M) ∧ (0 ≤ y11 → (inR (4 * y11)) ∧ (inR ((4 * y11) + y9)) ∧ (0 ≤ ((4 * y11) + y9) ∧ ((4 * y11) + y9) < 400) ∧ wp_X10_wins z0 (M 77 0 ((4 * y11) + y9)) 1 M fun (x70 : Int) (M69 : Mem) => wp_X10_won_201 p1 p2 p3 Qm y4 y6 y7 y8 y9 x70 M69))
def wp_X10_won_146 (p1 : Int) (p2 : Int) (p3 : Int) (Qm : Int → Mem → Prop) (y4 : Int) (y6 : Int) (y7 : Int) (y8 : Int) (y9 : Int) (y10 : Int) (y11 : Int) (M : Mem) : Prop := ((y10 < 0 → wp_X10_won_171 p1 p2 p3 Qm y4 y6 y7 y8 y9 y11 0 M) ∧ (0 ≤ y10 → (inR (4 * y10)) ∧ (inR ((4 * y10) + p3)) ∧ (0 ≤ ((4 * y10) + p3) ∧ ((4 * y10) + p3) < 400) ∧ wp_X10_wins 0 (M 77 0 ((4 * y10) + p3)) 1 M fun (x77 : Int) (M76 : Mem) => wp_X10_won_171 p1 p2 p3 Qm y4 y6 y7 y8 y9 y11 x77 M76))
def wp_X10_won_63 (p1 : Int) (p2 : Int) (p3 : Int) (Qm : Int → Mem → Prop) (y4 : Int) (y6 : Int) (z0 : Int) (M : Mem) : Prop := (inR (p3 + 2)) ∧ (inR (6 * p1)) ∧ (inR ((6 * p1) + p2)) ∧ (0 ≤ ((6 * p1) + p2) ∧ ((6 * p1) + p2) < 174) ∧ (inR ((M 69 0 ((6 * p1) + p2)) - 1)) ∧ ((if y6 = (-1) then (1 : Int) else (if ¬ z0 = (-1) then (0 : Int) else 1)) = 0 → (inR (6 * y6)) ∧ (inR ((6 * y6) + z0)) ∧ (0 ≤ ((6 * y6) + z0) ∧ ((6 * y6) + z0) < 174) ∧ (inR ((M 69 0 ((6 * y6) + z0)) - 1)) ∧ True) ∧ (inR (if (if y6 = (-1) then (1 : Int) else (if ¬ z0 = (-1) then (0 : Int) else 1)) = 0 then ((M 69 0 ((6 * y6) + z0)) - 1) else (-1))) ∧ ((((M 69 0 ((6 * p1) + p2)) - 1) < 0 → wp_X10_won_146 p1 p2 p3 Qm y4 y6 z0 (if y6 = (-1) then (1 : Int) else (if ¬ z0 = (-1) then (0 : Int) else 1)) (Int.tmod (p3 + 2) 4) ((M 69 0 ((6 * p1) + p2)) - 1) (if (if y6 = (-1) then (1 : Int) else (if ¬ z0 = (-1) then (0 : Int) else 1)) = 0 then ((M 69 0 ((6 * y6) + z0)) - 1) else (-1)) M) ∧ (0 ≤ ((M 69 0 ((6 * p1) + p2)) - 1) → ((¬ ((M 69 0 ((6 * p1) + p2)) - 1) = (if (if y6 = (-1) then (1 : Int) else (if ¬ z0 = (-1) then (0 : Int) else 1)) = 0 then ((M 69 0 ((6 * y6) + z0)) - 1) else (-1)) → wp_X10_won_146 p1 p2 p3 Qm y4 y6 z0 (if y6 = (-1) then (1 : Int) else (if ¬ z0 = (-1) then (0 : Int) else 1)) (Int.tmod (p3 + 2) 4) ((M 69 0 ((6 * p1) + p2)) - 1) (if (if y6 = (-1) then (1 : Int) else (if ¬ z0 = (-1) then (0 : Int) else 1)) = 0 then ((M 69 0 ((6 * y6) + z0)) - 1) else (-1)) M) ∧ (((M 69 0 ((6 * p1) + p2)) - 1) = (if (if y6 = (-1) then (1 : Int) else (if ¬ z0 = (-1) then (0 : Int) else 1)) = 0 then ((M 69 0 ((6 * y6) + z0)) - 1) else (-1)) → Qm 0 M))))
def wp_X10_won_45 (p1 : Int) (p2 : Int) (p3 : Int) (Qm : Int → Mem → Prop) (y4 : Int) (y5 : Int) (z0 : Int) (M : Mem) : Prop := ((y4 = 0 → wp_X10_nextColumn p2 y5 M fun (x11 : Int) (M10 : Mem) => wp_X10_won_63 p1 p2 p3 Qm y4 z0 x11 M10) ∧ (¬ y4 = 0 → wp_X10_won_63 p1 p2 p3 Qm y4 z0 p2 M))
def wp_X10_won (p1 : Int) (p2 : Int) (p3 : Int) (M : Mem) (Qm : Int → Mem → Prop) : Prop := (((if ¬ (Int.tmod p3 2) = 0 then (0 : Int) else 1) = 0 → wp_X10_won_45 p1 p2 p3 Qm (if ¬ (Int.tmod p3 2) = 0 then (0 : Int) else 1) (if p3 = 0 then ((-1) : Int) else (if ¬ p3 = 3 then (1 : Int) else (-1))) p1 M) ∧ (¬ (if ¬ (Int.tmod p3 2) = 0 then (0 : Int) else 1) = 0 → wp_X10_nextRow p1 (if p3 = 0 then ((-1) : Int) else (if ¬ p3 = 3 then (1 : Int) else (-1))) M fun (x80 : Int) (M79 : Mem) => wp_X10_won_45 p1 p2 p3 Qm (if ¬ (Int.tmod p3 2) = 0 then (0 : Int) else 1) (if p3 = 0 then ((-1) : Int) else (if ¬ p3 = 3 then (1 : Int) else (-1))) x80 M79))
set_option maxHeartbeats 4000000 in
set_option maxRecDepth 100000 in
theorem t_X10_won_327 {p1 : Int} {p2 : Int} {p3 : Int} (X : CX p m c cX10_won 13 s args RX10 G B κ meth (some .int)) (hp1 : inR p1) (hp2 : inR p2) (hp3 : inR p3) {Qm : Int → Mem → Prop} : ∀ z0 : Int, ∀ M : Mem, wp_X10_won_327 p1 p2 p3 Qm z0 M → inR z0 → ∀ (H : Heap) (locs : List Loc), Rp G e0 α κ B M H → va_S (fun q => B ≤ q) s.heap H locs → ∀ (ls : Array Slot), lv_has ls 13 [] → WI p l e 3 s m args below meth c G e0 α κ B Qm H locs 327 ls [.int (Int32.ofInt z0)] := by
  intro z0 M hw hz0 H locs hR hS ls hl
  have hw : Qm z0 M := hw
  exact sa_iret X.1 X.2.2.2.1 X.2.2.2.2 hR hS hz0 hw dX10_won_327
set_option maxHeartbeats 4000000 in
set_option maxRecDepth 100000 in
theorem t_X10_won_307 {p1 : Int} {p2 : Int} {p3 : Int} (X : CX p m c cX10_won 13 s args RX10 G B κ meth (some .int)) (hp1 : inR p1) (hp2 : inR p2) (hp3 : inR p3) {Qm : Int → Mem → Prop} : ∀ y8 : Int, ∀ y12 : Int, ∀ M : Mem, wp_X10_won_307 p1 p2 p3 Qm y8 y12 M → inR y8 → inR y12 → ∀ (H : Heap) (locs : List Loc), Rp G e0 α κ B M H → va_S (fun q => B ≤ q) s.heap H locs → ∀ (ls : Array Slot), lv_has ls 13 [(0, .ref (α 11 0)), (8, .int (Int32.ofInt y8)), (12, .int (Int32.ofInt y12))] → WI p l e 3 s m args below meth c G e0 α κ B Qm H locs 307 ls [] := by
  intro y8 y12 M hw hy8 hy12 H locs hR hS ls hl
  have hw : ((y8 = 0 → wp_X10_won_327 p1 p2 p3 Qm y12 M) ∧ (¬ y8 = 0 → wp_X10_wins y12 (M 11 0 30) 4 M fun (x49 : Int) (M48 : Mem) => wp_X10_won_327 p1 p2 p3 Qm x49 M48)) := hw
  refine lv_iload X.1.1 X.1.2.1 dX10_won_307 (lv_at hl 1 rfl) ?_
  refine sa_if_eq (tgt := 325) X.1 hy8 dX10_won_309 (by decide) (fun hc => ?_) (fun hc => ?_)
  · have hw := hw.1 hc
    refine lv_iload X.1.1 X.1.2.1 dX10_won_325 (lv_at hl 2 rfl) ?_
    exact t_X10_won_327 X hp1 hp2 hp3 _ _ hw hy12 _ _ hR hS _ (lv_sub hl [] rfl)
  · have hw := hw.2 hc
    refine lv_iload X.1.1 X.1.2.1 dX10_won_312 (lv_at hl 2 rfl) ?_
    refine lv_aload_n X.1.1 X.1.2.1 dX10_won_314 rfl (lv_at hl 0 rfl) ?_
    refine gt_11_30 X hR (okf X.2.2.1 rfl) kw_1559 dX10_won_315 ?_
    have r47 := hR.r 11 0 30
    refine sa_const X.1 dX10_won_318 ?_
    refine cs_X10_wins X hy12 r47 (inR_c (a := 4) rfl) (kc := 3) rmL_ok rm_c (by decide) hR hS kw_1966 hl.1 dX10_won_319 (Nat.le_of_ble_eq_true rfl) hw (fun x49 M48 H locs hw r50 hR hS => ?_)
    refine lv_goto (tgt := 327) X.1.1 X.1.2.1 dX10_won_322 (by decide) ?_
    exact t_X10_won_327 X hp1 hp2 hp3 _ _ hw r50 _ _ hR hS _ (lv_sub hl [] rfl)
set_option maxHeartbeats 4000000 in
set_option maxRecDepth 100000 in
theorem t_X10_won_305 {p1 : Int} {p2 : Int} {p3 : Int} (X : CX p m c cX10_won 13 s args RX10 G B κ meth (some .int)) (hp1 : inR p1) (hp2 : inR p2) (hp3 : inR p3) {Qm : Int → Mem → Prop} : ∀ y8 : Int, ∀ z0 : Int, ∀ M : Mem, wp_X10_won_305 p1 p2 p3 Qm y8 z0 M → inR y8 → inR z0 → ∀ (H : Heap) (locs : List Loc), Rp G e0 α κ B M H → va_S (fun q => B ≤ q) s.heap H locs → ∀ (ls : Array Slot), lv_has ls 13 [(0, .ref (α 11 0)), (8, .int (Int32.ofInt y8))] → WI p l e 3 s m args below meth c G e0 α κ B Qm H locs 305 ls [.int (Int32.ofInt z0)] := by
  intro y8 z0 M hw hy8 hz0 H locs hR hS ls hl
  have hw : wp_X10_won_307 p1 p2 p3 Qm y8 z0 M := hw
  refine lv_istore (lv' := [(12, .int (Int32.ofInt z0)), (0, .ref (α 11 0)), (8, .int (Int32.ofInt y8))]) X.1.1 X.1.2.1 dX10_won_305 hl (by decide) rfl (fun ls hl => ?_)
  exact t_X10_won_307 X hp1 hp2 hp3 _ _ _ hw hy8 hz0 _ _ hR hS _ (lv_sub hl [1, 2, 0] rfl)
set_option maxHeartbeats 4000000 in
set_option maxRecDepth 100000 in
theorem t_X10_won_254 {p1 : Int} {p2 : Int} {p3 : Int} (X : CX p m c cX10_won 13 s args RX10 G B κ meth (some .int)) (hp1 : inR p1) (hp2 : inR p2) (hp3 : inR p3) {Qm : Int → Mem → Prop} : ∀ y8 : Int, ∀ z0 : Int, ∀ M : Mem, wp_X10_won_254 p1 p2 p3 Qm y8 z0 M → inR y8 → inR z0 → ∀ (H : Heap) (locs : List Loc), Rp G e0 α κ B M H → va_S (fun q => B ≤ q) s.heap H locs → ∀ (ls : Array Slot), lv_has ls 13 [(0, .ref (α 11 0)), (8, .int (Int32.ofInt y8))] → WI p l e 3 s m args below meth c G e0 α κ B Qm H locs 254 ls [.int (Int32.ofInt z0)] := by
  intro y8 z0 M hw hy8 hz0 H locs hR hS ls hl
  have hw : wp_X10_won_307 p1 p2 p3 Qm y8 z0 M := hw
  refine lv_istore (lv' := [(12, .int (Int32.ofInt z0)), (0, .ref (α 11 0)), (8, .int (Int32.ofInt y8))]) X.1.1 X.1.2.1 dX10_won_254 hl (by decide) rfl (fun ls hl => ?_)
  refine lv_goto (tgt := 307) X.1.1 X.1.2.1 dX10_won_256 (by decide) ?_
  exact t_X10_won_307 X hp1 hp2 hp3 _ _ _ hw hy8 hz0 _ _ hR hS _ (lv_sub hl [1, 2, 0] rfl)
set_option maxHeartbeats 4000000 in
set_option maxRecDepth 100000 in
theorem t_X10_won_201 {p1 : Int} {p2 : Int} {p3 : Int} (X : CX p m c cX10_won 13 s args RX10 G B κ meth (some .int)) (hp1 : inR p1) (hp2 : inR p2) (hp3 : inR p3) {Qm : Int → Mem → Prop} : ∀ y4 : Int, ∀ y6 : Int, ∀ y7 : Int, ∀ y8 : Int, ∀ y9 : Int, ∀ z0 : Int, ∀ M : Mem, wp_X10_won_201 p1 p2 p3 Qm y4 y6 y7 y8 y9 z0 M → inR y4 → inR y6 → inR y7 → inR y8 → inR y9 → inR z0 → ∀ (H : Heap) (locs : List Loc), Rp G e0 α κ B M H → va_S (fun q => B ≤ q) s.heap H locs → ∀ (ls : Array Slot), lv_has ls 13 [(0, .ref (α 11 0)), (1, .int (Int32.ofInt p1)), (2, .int (Int32.ofInt p2)), (3, .int (Int32.ofInt p3)), (4, .int (Int32.ofInt y4)), (6, .int (Int32.ofInt y6)), (7, .int (Int32.ofInt y7)), (8, .int (Int32.ofInt y8)), (9, .int (Int32.ofInt y9))] → WI p l e 3 s m args below meth c G e0 α κ B Qm H locs 201 ls [.int (Int32.ofInt z0)] := by
  intro y4 y6 y7 y8 y9 z0 M hw hy4 hy6 hy7 hy8 hy9 hz0 H locs hR hS ls hl
  have hw : ((y4 = 0 → (inR (4 * p2)) ∧ (inR ((4 * p2) + p3)) ∧ (0 ≤ ((4 * p2) + p3) ∧ ((4 * p2) + p3) < 24) ∧ wp_X10_wins z0 (M 79 0 ((4 * p2) + p3)) 3 M fun (x38 : Int) (M37 : Mem) => ((y8 = 0 → (inR (4 * y7)) ∧ (inR ((4 * y7) + y9)) ∧ (0 ≤ ((4 * y7) + y9) ∧ ((4 * y7) + y9) < 24) ∧ wp_X10_wins x38 (M37 79 0 ((4 * y7) + y9)) 3 M37 fun (x45 : Int) (M44 : Mem) => wp_X10_won_305 p1 p2 p3 Qm y8 x45 M44) ∧ (¬ y8 = 0 → wp_X10_won_305 p1 p2 p3 Qm y8 x38 M37))) ∧ (¬ y4 = 0 → (inR (4 * p1)) ∧ (inR ((4 * p1) + p3)) ∧ (0 ≤ ((4 * p1) + p3) ∧ ((4 * p1) + p3) < 116) ∧ wp_X10_wins z0 (M 78 0 ((4 * p1) + p3)) 2 M fun (x56 : Int) (M55 : Mem) => ((y8 = 0 → (inR (4 * y6)) ∧ (inR ((4 * y6) + y9)) ∧ (0 ≤ ((4 * y6) + y9) ∧ ((4 * y6) + y9) < 116) ∧ wp_X10_wins x56 (M55 78 0 ((4 * y6) + y9)) 2 M55 fun (x63 : Int) (M62 : Mem) => wp_X10_won_254 p1 p2 p3 Qm y8 x63 M62) ∧ (¬ y8 = 0 → wp_X10_won_254 p1 p2 p3 Qm y8 x56 M55)))) := hw
  refine lv_istore (lv' := [(12, .int (Int32.ofInt z0)), (0, .ref (α 11 0)), (1, .int (Int32.ofInt p1)), (2, .int (Int32.ofInt p2)), (3, .int (Int32.ofInt p3)), (4, .int (Int32.ofInt y4)), (6, .int (Int32.ofInt y6)), (7, .int (Int32.ofInt y7)), (8, .int (Int32.ofInt y8)), (9, .int (Int32.ofInt y9))]) X.1.1 X.1.2.1 dX10_won_201 hl (by decide) rfl (fun ls hl => ?_)
  refine lv_iload X.1.1 X.1.2.1 dX10_won_203 (lv_at hl 5 rfl) ?_
  refine sa_if_eq (tgt := 259) X.1 hy4 dX10_won_205 (by decide) (fun hc => ?_) (fun hc => ?_)
  · have hw := hw.1 hc
    refine lv_iload X.1.1 X.1.2.1 dX10_won_259 (lv_at hl 0 rfl) ?_
    refine lv_aload_n X.1.1 X.1.2.1 dX10_won_261 rfl (lv_at hl 1 rfl) ?_
    refine gt_11_29 X hR (okf X.2.2.1 rfl) kw_1558 dX10_won_262 ?_
    refine sa_const X.1 dX10_won_265 ?_
    refine lv_iload_n X.1.1 X.1.2.1 dX10_won_266 rfl (lv_at hl 3 rfl) ?_
    have c33 := hw.1
    have hw := hw.2
    refine sa_imul X.1 dX10_won_267 ?_
    refine lv_iload_n X.1.1 X.1.2.1 dX10_won_268 rfl (lv_at hl 4 rfl) ?_
    have c34 := hw.1
    have hw := hw.2
    refine sa_iadd X.1 dX10_won_269 ?_
    have c35 := hw.1
    have hw := hw.2
    refine ra_79 X hR (okf X.2.2.1 rfl) c35 dX10_won_270 ?_
    have r36 := hR.r 79 0 ((4 * p2) + p3)
    refine sa_const X.1 dX10_won_271 ?_
    refine cs_X10_wins X hz0 r36 (inR_c (a := 3) rfl) (kc := 3) rmL_ok rm_c (by decide) hR hS kw_1966 hl.1 dX10_won_272 (Nat.le_of_ble_eq_true rfl) hw (fun x38 M37 H locs hw r39 hR hS => ?_)
    refine lv_istore (lv' := [(12, .int (Int32.ofInt x38)), (0, .ref (α 11 0)), (1, .int (Int32.ofInt p1)), (2, .int (Int32.ofInt p2)), (3, .int (Int32.ofInt p3)), (4, .int (Int32.ofInt y4)), (6, .int (Int32.ofInt y6)), (7, .int (Int32.ofInt y7)), (8, .int (Int32.ofInt y8)), (9, .int (Int32.ofInt y9))]) X.1.1 X.1.2.1 dX10_won_275 hl (by decide) rfl (fun ls hl => ?_)
    refine lv_iload X.1.1 X.1.2.1 dX10_won_277 (lv_at hl 8 rfl) ?_
    refine sa_if_eq (tgt := 287) X.1 hy8 dX10_won_279 (by decide) (fun hc => ?_) (fun hc => ?_)
    · have hw := hw.1 hc
      refine lv_iload X.1.1 X.1.2.1 dX10_won_287 (lv_at hl 0 rfl) ?_
      refine lv_aload_n X.1.1 X.1.2.1 dX10_won_289 rfl (lv_at hl 1 rfl) ?_
      refine gt_11_29 X hR (okf X.2.2.1 rfl) kw_1558 dX10_won_290 ?_
      refine sa_const X.1 dX10_won_293 ?_
      refine lv_iload X.1.1 X.1.2.1 dX10_won_294 (lv_at hl 7 rfl) ?_
      have c40 := hw.1
      have hw := hw.2
      refine sa_imul X.1 dX10_won_296 ?_
      refine lv_iload X.1.1 X.1.2.1 dX10_won_297 (lv_at hl 9 rfl) ?_
      have c41 := hw.1
      have hw := hw.2
      refine sa_iadd X.1 dX10_won_299 ?_
      have c42 := hw.1
      have hw := hw.2
      refine ra_79 X hR (okf X.2.2.1 rfl) c42 dX10_won_300 ?_
      have r43 := hR.r 79 0 ((4 * y7) + y9)
      refine sa_const X.1 dX10_won_301 ?_
      refine cs_X10_wins X r39 r43 (inR_c (a := 3) rfl) (kc := 3) rmL_ok rm_c (by decide) hR hS kw_1966 hl.1 dX10_won_302 (Nat.le_of_ble_eq_true rfl) hw (fun x45 M44 H locs hw r46 hR hS => ?_)
      exact t_X10_won_305 X hp1 hp2 hp3 _ _ _ hw hy8 r46 _ _ hR hS _ (lv_sub hl [1, 8] rfl)
    · have hw := hw.2 hc
      refine lv_iload X.1.1 X.1.2.1 dX10_won_282 (lv_at hl 0 rfl) ?_
      refine lv_goto (tgt := 305) X.1.1 X.1.2.1 dX10_won_284 (by decide) ?_
      exact t_X10_won_305 X hp1 hp2 hp3 _ _ _ hw hy8 r39 _ _ hR hS _ (lv_sub hl [1, 8] rfl)
  · have hw := hw.2 hc
    refine lv_iload X.1.1 X.1.2.1 dX10_won_208 (lv_at hl 0 rfl) ?_
    refine lv_aload_n X.1.1 X.1.2.1 dX10_won_210 rfl (lv_at hl 1 rfl) ?_
    refine gt_11_28 X hR (okf X.2.2.1 rfl) kw_1557 dX10_won_211 ?_
    refine sa_const X.1 dX10_won_214 ?_
    refine lv_iload_n X.1.1 X.1.2.1 dX10_won_215 rfl (lv_at hl 2 rfl) ?_
    have c51 := hw.1
    have hw := hw.2
    refine sa_imul X.1 dX10_won_216 ?_
    refine lv_iload_n X.1.1 X.1.2.1 dX10_won_217 rfl (lv_at hl 4 rfl) ?_
    have c52 := hw.1
    have hw := hw.2
    refine sa_iadd X.1 dX10_won_218 ?_
    have c53 := hw.1
    have hw := hw.2
    refine ra_78 X hR (okf X.2.2.1 rfl) c53 dX10_won_219 ?_
    have r54 := hR.r 78 0 ((4 * p1) + p3)
    refine sa_const X.1 dX10_won_220 ?_
    refine cs_X10_wins X hz0 r54 (inR_c (a := 2) rfl) (kc := 3) rmL_ok rm_c (by decide) hR hS kw_1966 hl.1 dX10_won_221 (Nat.le_of_ble_eq_true rfl) hw (fun x56 M55 H locs hw r57 hR hS => ?_)
    refine lv_istore (lv' := [(12, .int (Int32.ofInt x56)), (0, .ref (α 11 0)), (1, .int (Int32.ofInt p1)), (2, .int (Int32.ofInt p2)), (3, .int (Int32.ofInt p3)), (4, .int (Int32.ofInt y4)), (6, .int (Int32.ofInt y6)), (7, .int (Int32.ofInt y7)), (8, .int (Int32.ofInt y8)), (9, .int (Int32.ofInt y9))]) X.1.1 X.1.2.1 dX10_won_224 hl (by decide) rfl (fun ls hl => ?_)
    refine lv_iload X.1.1 X.1.2.1 dX10_won_226 (lv_at hl 8 rfl) ?_
    refine sa_if_eq (tgt := 236) X.1 hy8 dX10_won_228 (by decide) (fun hc => ?_) (fun hc => ?_)
    · have hw := hw.1 hc
      refine lv_iload X.1.1 X.1.2.1 dX10_won_236 (lv_at hl 0 rfl) ?_
      refine lv_aload_n X.1.1 X.1.2.1 dX10_won_238 rfl (lv_at hl 1 rfl) ?_
      refine gt_11_28 X hR (okf X.2.2.1 rfl) kw_1557 dX10_won_239 ?_
      refine sa_const X.1 dX10_won_242 ?_
      refine lv_iload X.1.1 X.1.2.1 dX10_won_243 (lv_at hl 6 rfl) ?_
      have c58 := hw.1
      have hw := hw.2
      refine sa_imul X.1 dX10_won_245 ?_
      refine lv_iload X.1.1 X.1.2.1 dX10_won_246 (lv_at hl 9 rfl) ?_
      have c59 := hw.1
      have hw := hw.2
      refine sa_iadd X.1 dX10_won_248 ?_
      have c60 := hw.1
      have hw := hw.2
      refine ra_78 X hR (okf X.2.2.1 rfl) c60 dX10_won_249 ?_
      have r61 := hR.r 78 0 ((4 * y6) + y9)
      refine sa_const X.1 dX10_won_250 ?_
      refine cs_X10_wins X r57 r61 (inR_c (a := 2) rfl) (kc := 3) rmL_ok rm_c (by decide) hR hS kw_1966 hl.1 dX10_won_251 (Nat.le_of_ble_eq_true rfl) hw (fun x63 M62 H locs hw r64 hR hS => ?_)
      exact t_X10_won_254 X hp1 hp2 hp3 _ _ _ hw hy8 r64 _ _ hR hS _ (lv_sub hl [1, 8] rfl)
    · have hw := hw.2 hc
      refine lv_iload X.1.1 X.1.2.1 dX10_won_231 (lv_at hl 0 rfl) ?_
      refine lv_goto (tgt := 254) X.1.1 X.1.2.1 dX10_won_233 (by decide) ?_
      exact t_X10_won_254 X hp1 hp2 hp3 _ _ _ hw hy8 r57 _ _ hR hS _ (lv_sub hl [1, 8] rfl)
set_option maxHeartbeats 4000000 in
set_option maxRecDepth 100000 in
theorem t_X10_won_171 {p1 : Int} {p2 : Int} {p3 : Int} (X : CX p m c cX10_won 13 s args RX10 G B κ meth (some .int)) (hp1 : inR p1) (hp2 : inR p2) (hp3 : inR p3) {Qm : Int → Mem → Prop} : ∀ y4 : Int, ∀ y6 : Int, ∀ y7 : Int, ∀ y8 : Int, ∀ y9 : Int, ∀ y11 : Int, ∀ z0 : Int, ∀ M : Mem, wp_X10_won_171 p1 p2 p3 Qm y4 y6 y7 y8 y9 y11 z0 M → inR y4 → inR y6 → inR y7 → inR y8 → inR y9 → inR y11 → inR z0 → ∀ (H : Heap) (locs : List Loc), Rp G e0 α κ B M H → va_S (fun q => B ≤ q) s.heap H locs → ∀ (ls : Array Slot), lv_has ls 13 [(0, .ref (α 11 0)), (1, .int (Int32.ofInt p1)), (2, .int (Int32.ofInt p2)), (3, .int (Int32.ofInt p3)), (4, .int (Int32.ofInt y4)), (6, .int (Int32.ofInt y6)), (7, .int (Int32.ofInt y7)), (8, .int (Int32.ofInt y8)), (9, .int (Int32.ofInt y9)), (11, .int (Int32.ofInt y11))] → WI p l e 3 s m args below meth c G e0 α κ B Qm H locs 171 ls [.int (Int32.ofInt z0)] := by
  intro y4 y6 y7 y8 y9 y11 z0 M hw hy4 hy6 hy7 hy8 hy9 hy11 hz0 H locs hR hS ls hl
  have hw : ((y11 < 0 → wp_X10_won_201 p1 p2 p3 Qm y4 y6 y7 y8 y9 z0 M) ∧ (0 ≤ y11 → (inR (4 * y11)) ∧ (inR ((4 * y11) + y9)) ∧ (0 ≤ ((4 * y11) + y9) ∧ ((4 * y11) + y9) < 400) ∧ wp_X10_wins z0 (M 77 0 ((4 * y11) + y9)) 1 M fun (x70 : Int) (M69 : Mem) => wp_X10_won_201 p1 p2 p3 Qm y4 y6 y7 y8 y9 x70 M69)) := hw
  refine lv_istore (lv' := [(12, .int (Int32.ofInt z0)), (0, .ref (α 11 0)), (1, .int (Int32.ofInt p1)), (2, .int (Int32.ofInt p2)), (3, .int (Int32.ofInt p3)), (4, .int (Int32.ofInt y4)), (6, .int (Int32.ofInt y6)), (7, .int (Int32.ofInt y7)), (8, .int (Int32.ofInt y8)), (9, .int (Int32.ofInt y9)), (11, .int (Int32.ofInt y11))]) X.1.1 X.1.2.1 dX10_won_171 hl (by decide) rfl (fun ls hl => ?_)
  refine lv_iload X.1.1 X.1.2.1 dX10_won_173 (lv_at hl 10 rfl) ?_
  refine sa_if_lt (tgt := 199) X.1 hy11 dX10_won_175 (by decide) (fun hc => ?_) (fun hc => ?_)
  · have hw := hw.1 hc
    refine lv_iload X.1.1 X.1.2.1 dX10_won_199 (lv_at hl 0 rfl) ?_
    exact t_X10_won_201 X hp1 hp2 hp3 _ _ _ _ _ _ _ hw hy4 hy6 hy7 hy8 hy9 hz0 _ _ hR hS _ (lv_sub hl [1, 2, 3, 4, 5, 6, 7, 8, 9] rfl)
  · have hw := hw.2 hc
    refine lv_iload X.1.1 X.1.2.1 dX10_won_178 (lv_at hl 0 rfl) ?_
    refine lv_aload_n X.1.1 X.1.2.1 dX10_won_180 rfl (lv_at hl 1 rfl) ?_
    refine gt_11_27 X hR (okf X.2.2.1 rfl) kw_1556 dX10_won_181 ?_
    refine sa_const X.1 dX10_won_184 ?_
    refine lv_iload X.1.1 X.1.2.1 dX10_won_185 (lv_at hl 10 rfl) ?_
    have c65 := hw.1
    have hw := hw.2
    refine sa_imul X.1 dX10_won_187 ?_
    refine lv_iload X.1.1 X.1.2.1 dX10_won_188 (lv_at hl 9 rfl) ?_
    have c66 := hw.1
    have hw := hw.2
    refine sa_iadd X.1 dX10_won_190 ?_
    have c67 := hw.1
    have hw := hw.2
    refine ra_77 X hR (okf X.2.2.1 rfl) c67 dX10_won_191 ?_
    have r68 := hR.r 77 0 ((4 * y11) + y9)
    refine sa_const X.1 dX10_won_192 ?_
    refine cs_X10_wins X hz0 r68 (inR_c (a := 1) rfl) (kc := 3) rmL_ok rm_c (by decide) hR hS kw_1966 hl.1 dX10_won_193 (Nat.le_of_ble_eq_true rfl) hw (fun x70 M69 H locs hw r71 hR hS => ?_)
    refine lv_goto (tgt := 201) X.1.1 X.1.2.1 dX10_won_196 (by decide) ?_
    exact t_X10_won_201 X hp1 hp2 hp3 _ _ _ _ _ _ _ hw hy4 hy6 hy7 hy8 hy9 r71 _ _ hR hS _ (lv_sub hl [1, 2, 3, 4, 5, 6, 7, 8, 9] rfl)
set_option maxHeartbeats 4000000 in
set_option maxRecDepth 100000 in
theorem t_X10_won_146 {p1 : Int} {p2 : Int} {p3 : Int} (X : CX p m c cX10_won 13 s args RX10 G B κ meth (some .int)) (hp1 : inR p1) (hp2 : inR p2) (hp3 : inR p3) {Qm : Int → Mem → Prop} : ∀ y4 : Int, ∀ y6 : Int, ∀ y7 : Int, ∀ y8 : Int, ∀ y9 : Int, ∀ y10 : Int, ∀ y11 : Int, ∀ M : Mem, wp_X10_won_146 p1 p2 p3 Qm y4 y6 y7 y8 y9 y10 y11 M → inR y4 → inR y6 → inR y7 → inR y8 → inR y9 → inR y10 → inR y11 → ∀ (H : Heap) (locs : List Loc), Rp G e0 α κ B M H → va_S (fun q => B ≤ q) s.heap H locs → ∀ (ls : Array Slot), lv_has ls 13 [(0, .ref (α 11 0)), (1, .int (Int32.ofInt p1)), (2, .int (Int32.ofInt p2)), (3, .int (Int32.ofInt p3)), (4, .int (Int32.ofInt y4)), (6, .int (Int32.ofInt y6)), (7, .int (Int32.ofInt y7)), (8, .int (Int32.ofInt y8)), (9, .int (Int32.ofInt y9)), (10, .int (Int32.ofInt y10)), (11, .int (Int32.ofInt y11))] → WI p l e 3 s m args below meth c G e0 α κ B Qm H locs 146 ls [] := by
  intro y4 y6 y7 y8 y9 y10 y11 M hw hy4 hy6 hy7 hy8 hy9 hy10 hy11 H locs hR hS ls hl
  have hw : ((y10 < 0 → wp_X10_won_171 p1 p2 p3 Qm y4 y6 y7 y8 y9 y11 0 M) ∧ (0 ≤ y10 → (inR (4 * y10)) ∧ (inR ((4 * y10) + p3)) ∧ (0 ≤ ((4 * y10) + p3) ∧ ((4 * y10) + p3) < 400) ∧ wp_X10_wins 0 (M 77 0 ((4 * y10) + p3)) 1 M fun (x77 : Int) (M76 : Mem) => wp_X10_won_171 p1 p2 p3 Qm y4 y6 y7 y8 y9 y11 x77 M76)) := hw
  refine lv_iload X.1.1 X.1.2.1 dX10_won_146 (lv_at hl 9 rfl) ?_
  refine sa_if_lt (tgt := 170) X.1 hy10 dX10_won_148 (by decide) (fun hc => ?_) (fun hc => ?_)
  · have hw := hw.1 hc
    refine sa_const X.1 dX10_won_170 ?_
    exact t_X10_won_171 X hp1 hp2 hp3 _ _ _ _ _ _ _ _ hw hy4 hy6 hy7 hy8 hy9 hy11 (inR_c (a := 0) rfl) _ _ hR hS _ (lv_sub hl [0, 1, 2, 3, 4, 5, 6, 7, 8, 10] rfl)
  · have hw := hw.2 hc
    refine sa_const X.1 dX10_won_151 ?_
    refine lv_aload_n X.1.1 X.1.2.1 dX10_won_152 rfl (lv_at hl 0 rfl) ?_
    refine gt_11_27 X hR (okf X.2.2.1 rfl) kw_1556 dX10_won_153 ?_
    refine sa_const X.1 dX10_won_156 ?_
    refine lv_iload X.1.1 X.1.2.1 dX10_won_157 (lv_at hl 9 rfl) ?_
    have c72 := hw.1
    have hw := hw.2
    refine sa_imul X.1 dX10_won_159 ?_
    refine lv_iload_n X.1.1 X.1.2.1 dX10_won_160 rfl (lv_at hl 3 rfl) ?_
    have c73 := hw.1
    have hw := hw.2
    refine sa_iadd X.1 dX10_won_161 ?_
    have c74 := hw.1
    have hw := hw.2
    refine ra_77 X hR (okf X.2.2.1 rfl) c74 dX10_won_162 ?_
    have r75 := hR.r 77 0 ((4 * y10) + p3)
    refine sa_const X.1 dX10_won_163 ?_
    refine cs_X10_wins X (inR_c (a := 0) rfl) r75 (inR_c (a := 1) rfl) (kc := 3) rmL_ok rm_c (by decide) hR hS kw_1966 hl.1 dX10_won_164 (Nat.le_of_ble_eq_true rfl) hw (fun x77 M76 H locs hw r78 hR hS => ?_)
    refine lv_goto (tgt := 171) X.1.1 X.1.2.1 dX10_won_167 (by decide) ?_
    exact t_X10_won_171 X hp1 hp2 hp3 _ _ _ _ _ _ _ _ hw hy4 hy6 hy7 hy8 hy9 hy11 r78 _ _ hR hS _ (lv_sub hl [0, 1, 2, 3, 4, 5, 6, 7, 8, 10] rfl)
set_option maxHeartbeats 4000000 in
set_option maxRecDepth 100000 in
theorem t_X10_won_63 {p1 : Int} {p2 : Int} {p3 : Int} (X : CX p m c cX10_won 13 s args RX10 G B κ meth (some .int)) (hp1 : inR p1) (hp2 : inR p2) (hp3 : inR p3) {Qm : Int → Mem → Prop} : ∀ y4 : Int, ∀ y6 : Int, ∀ z0 : Int, ∀ M : Mem, wp_X10_won_63 p1 p2 p3 Qm y4 y6 z0 M → inR y4 → inR y6 → inR z0 → ∀ (H : Heap) (locs : List Loc), Rp G e0 α κ B M H → va_S (fun q => B ≤ q) s.heap H locs → ∀ (ls : Array Slot), lv_has ls 13 [(0, .ref (α 11 0)), (1, .int (Int32.ofInt p1)), (2, .int (Int32.ofInt p2)), (3, .int (Int32.ofInt p3)), (4, .int (Int32.ofInt y4)), (6, .int (Int32.ofInt y6))] → WI p l e 3 s m args below meth c G e0 α κ B Qm H locs 63 ls [.int (Int32.ofInt z0)] := by
  intro y4 y6 z0 M hw hy4 hy6 hz0 H locs hR hS ls hl
  have hw : (inR (p3 + 2)) ∧ (inR (6 * p1)) ∧ (inR ((6 * p1) + p2)) ∧ (0 ≤ ((6 * p1) + p2) ∧ ((6 * p1) + p2) < 174) ∧ (inR ((M 69 0 ((6 * p1) + p2)) - 1)) ∧ ((if y6 = (-1) then (1 : Int) else (if ¬ z0 = (-1) then (0 : Int) else 1)) = 0 → (inR (6 * y6)) ∧ (inR ((6 * y6) + z0)) ∧ (0 ≤ ((6 * y6) + z0) ∧ ((6 * y6) + z0) < 174) ∧ (inR ((M 69 0 ((6 * y6) + z0)) - 1)) ∧ True) ∧ (inR (if (if y6 = (-1) then (1 : Int) else (if ¬ z0 = (-1) then (0 : Int) else 1)) = 0 then ((M 69 0 ((6 * y6) + z0)) - 1) else (-1))) ∧ ((((M 69 0 ((6 * p1) + p2)) - 1) < 0 → wp_X10_won_146 p1 p2 p3 Qm y4 y6 z0 (if y6 = (-1) then (1 : Int) else (if ¬ z0 = (-1) then (0 : Int) else 1)) (Int.tmod (p3 + 2) 4) ((M 69 0 ((6 * p1) + p2)) - 1) (if (if y6 = (-1) then (1 : Int) else (if ¬ z0 = (-1) then (0 : Int) else 1)) = 0 then ((M 69 0 ((6 * y6) + z0)) - 1) else (-1)) M) ∧ (0 ≤ ((M 69 0 ((6 * p1) + p2)) - 1) → ((¬ ((M 69 0 ((6 * p1) + p2)) - 1) = (if (if y6 = (-1) then (1 : Int) else (if ¬ z0 = (-1) then (0 : Int) else 1)) = 0 then ((M 69 0 ((6 * y6) + z0)) - 1) else (-1)) → wp_X10_won_146 p1 p2 p3 Qm y4 y6 z0 (if y6 = (-1) then (1 : Int) else (if ¬ z0 = (-1) then (0 : Int) else 1)) (Int.tmod (p3 + 2) 4) ((M 69 0 ((6 * p1) + p2)) - 1) (if (if y6 = (-1) then (1 : Int) else (if ¬ z0 = (-1) then (0 : Int) else 1)) = 0 then ((M 69 0 ((6 * y6) + z0)) - 1) else (-1)) M) ∧ (((M 69 0 ((6 * p1) + p2)) - 1) = (if (if y6 = (-1) then (1 : Int) else (if ¬ z0 = (-1) then (0 : Int) else 1)) = 0 then ((M 69 0 ((6 * y6) + z0)) - 1) else (-1)) → Qm 0 M)))) := hw
  refine lv_istore (lv' := [(7, .int (Int32.ofInt z0)), (0, .ref (α 11 0)), (1, .int (Int32.ofInt p1)), (2, .int (Int32.ofInt p2)), (3, .int (Int32.ofInt p3)), (4, .int (Int32.ofInt y4)), (6, .int (Int32.ofInt y6))]) X.1.1 X.1.2.1 dX10_won_63 hl (by decide) rfl (fun ls hl => ?_)
  refine lv_iload X.1.1 X.1.2.1 dX10_won_65 (lv_at hl 6 rfl) ?_
  refine sa_const X.1 dX10_won_67 ?_
  have r15 := inR_ite (c := y6 = (-1)) (inR_c (a := 1) rfl) (inR_ite (c := ¬ z0 = (-1)) (inR_c (a := 0) rfl) (inR_c (a := 1) rfl))
  refine cut_j (A := ∀ v16 : Int, v16 = (if y6 = (-1) then (1 : Int) else (if ¬ z0 = (-1) then (0 : Int) else 1)) → WI p l e 3 s m args below meth c G e0 α κ B Qm H locs 82 ls [.int (Int32.ofInt v16)]) (fun J17 => ?_) ?_
  · refine sa_icmp_eq (tgt := 77) X.1 hy6 (inR_c (a := -1) rfl) dX10_won_68 (by decide) (fun hc => ?_) (fun hc => ?_)
    · skip
      refine sa_const X.1 dX10_won_77 ?_
      refine lv_goto (tgt := 82) X.1.1 X.1.2.1 dX10_won_78 (by decide) ?_
      exact J17 (1) (if_pos (c := y6 = (-1)) hc).symm
    · skip
      refine lv_iload X.1.1 X.1.2.1 dX10_won_71 (lv_at hl 0 rfl) ?_
      refine sa_const X.1 dX10_won_73 ?_
      refine cut_j (A := ∀ v13 : Int, v13 = (if ¬ z0 = (-1) then (0 : Int) else 1) → WI p l e 3 s m args below meth c G e0 α κ B Qm H locs 82 ls [.int (Int32.ofInt v13)]) (fun J14 => ?_) ?_
      · refine sa_icmp_ne (tgt := 81) X.1 hz0 (inR_c (a := -1) rfl) dX10_won_74 (by decide) (fun hc => ?_) (fun hc => ?_)
        · skip
          refine sa_const X.1 dX10_won_81 ?_
          exact J14 (0) (if_pos (c := ¬ z0 = (-1)) hc).symm
        · skip
          refine sa_const X.1 dX10_won_77 ?_
          refine lv_goto (tgt := 82) X.1.1 X.1.2.1 dX10_won_78 (by decide) ?_
          exact J14 (1) (if_neg (c := ¬ z0 = (-1)) (fun z => z hc)).symm
      intro v13 hv13
      subst hv13
      exact J17 ((if ¬ z0 = (-1) then (0 : Int) else 1)) (if_neg (c := y6 = (-1)) hc).symm
  intro v16 hv16
  subst hv16
  refine lv_istore (lv' := [(8, .int (Int32.ofInt (if y6 = (-1) then (1 : Int) else (if ¬ z0 = (-1) then (0 : Int) else 1)))), (7, .int (Int32.ofInt z0)), (0, .ref (α 11 0)), (1, .int (Int32.ofInt p1)), (2, .int (Int32.ofInt p2)), (3, .int (Int32.ofInt p3)), (4, .int (Int32.ofInt y4)), (6, .int (Int32.ofInt y6))]) X.1.1 X.1.2.1 dX10_won_82 hl (by decide) rfl (fun ls hl => ?_)
  refine lv_iload_n X.1.1 X.1.2.1 dX10_won_84 rfl (lv_at hl 5 rfl) ?_
  refine sa_const X.1 dX10_won_85 ?_
  have c18 := hw.1
  have hw := hw.2
  refine sa_iadd X.1 dX10_won_86 ?_
  refine sa_const X.1 dX10_won_87 ?_
  have r19 := inR_tmod c18 (inR_c (a := 4) rfl) (by decide)
  refine sa_irem X.1 c18 (inR_c (a := 4) rfl) (Int.ne_of_gt (by decide)) dX10_won_88 ?_
  refine lv_istore (lv' := [(9, .int (Int32.ofInt (Int.tmod (p3 + 2) 4))), (8, .int (Int32.ofInt (if y6 = (-1) then (1 : Int) else (if ¬ z0 = (-1) then (0 : Int) else 1)))), (7, .int (Int32.ofInt z0)), (0, .ref (α 11 0)), (1, .int (Int32.ofInt p1)), (2, .int (Int32.ofInt p2)), (3, .int (Int32.ofInt p3)), (4, .int (Int32.ofInt y4)), (6, .int (Int32.ofInt y6))]) X.1.1 X.1.2.1 dX10_won_89 hl (by decide) rfl (fun ls hl => ?_)
  refine lv_aload_n X.1.1 X.1.2.1 dX10_won_91 rfl (lv_at hl 3 rfl) ?_
  refine gt_11_16 X hR (okf X.2.2.1 rfl) kw_1545 dX10_won_92 ?_
  refine sa_bipush X.1 dX10_won_95 (by decide) ?_
  refine lv_iload_n X.1.1 X.1.2.1 dX10_won_97 rfl (lv_at hl 4 rfl) ?_
  have c20 := hw.1
  have hw := hw.2
  refine sa_imul X.1 dX10_won_98 ?_
  refine lv_iload_n X.1.1 X.1.2.1 dX10_won_99 rfl (lv_at hl 5 rfl) ?_
  have c21 := hw.1
  have hw := hw.2
  refine sa_iadd X.1 dX10_won_100 ?_
  have c22 := hw.1
  have hw := hw.2
  refine ra_69 X hR (okf X.2.2.1 rfl) c22 dX10_won_101 ?_
  have r23 := hR.r 69 0 ((6 * p1) + p2)
  refine sa_const X.1 dX10_won_102 ?_
  have c24 := hw.1
  have hw := hw.2
  refine sa_isub X.1 dX10_won_103 ?_
  refine lv_istore (lv' := [(10, .int (Int32.ofInt ((M 69 0 ((6 * p1) + p2)) - 1))), (9, .int (Int32.ofInt (Int.tmod (p3 + 2) 4))), (8, .int (Int32.ofInt (if y6 = (-1) then (1 : Int) else (if ¬ z0 = (-1) then (0 : Int) else 1)))), (7, .int (Int32.ofInt z0)), (0, .ref (α 11 0)), (1, .int (Int32.ofInt p1)), (2, .int (Int32.ofInt p2)), (3, .int (Int32.ofInt p3)), (4, .int (Int32.ofInt y4)), (6, .int (Int32.ofInt y6))]) X.1.1 X.1.2.1 dX10_won_104 hl (by decide) rfl (fun ls hl => ?_)
  refine lv_iload X.1.1 X.1.2.1 dX10_won_106 (lv_at hl 2 rfl) ?_
  have s29 := hw.1
  have hw := hw.2
  have c30 := hw.1
  have hw := hw.2
  refine cut_j (A := ∀ v31 : Int, v31 = (if (if y6 = (-1) then (1 : Int) else (if ¬ z0 = (-1) then (0 : Int) else 1)) = 0 then ((M 69 0 ((6 * y6) + z0)) - 1) else (-1)) → WI p l e 3 s m args below meth c G e0 α κ B Qm H locs 130 ls [.int (Int32.ofInt v31)]) (fun J32 => ?_) ?_
  · refine sa_if_eq (tgt := 115) X.1 r15 dX10_won_108 (by decide) (fun hc => ?_) (fun hc => ?_)
    · have hw := s29 hc
      refine lv_aload_n X.1.1 X.1.2.1 dX10_won_115 rfl (lv_at hl 4 rfl) ?_
      refine gt_11_16 X hR (okf X.2.2.1 rfl) kw_1545 dX10_won_116 ?_
      refine sa_bipush X.1 dX10_won_119 (by decide) ?_
      refine lv_iload X.1.1 X.1.2.1 dX10_won_121 (lv_at hl 9 rfl) ?_
      have c25 := hw.1
      have hw := hw.2
      refine sa_imul X.1 dX10_won_123 ?_
      refine lv_iload X.1.1 X.1.2.1 dX10_won_124 (lv_at hl 3 rfl) ?_
      have c26 := hw.1
      have hw := hw.2
      refine sa_iadd X.1 dX10_won_126 ?_
      have c27 := hw.1
      have hw := hw.2
      refine ra_69 X hR (okf X.2.2.1 rfl) c27 dX10_won_127 ?_
      refine sa_const X.1 dX10_won_128 ?_
      have c28 := hw.1
      have hw := hw.2
      refine sa_isub X.1 dX10_won_129 ?_
      exact J32 (((M 69 0 ((6 * y6) + z0)) - 1)) (if_pos (c := (if y6 = (-1) then (1 : Int) else (if ¬ z0 = (-1) then (0 : Int) else 1)) = 0) hc).symm
    · skip
      refine sa_const X.1 dX10_won_111 ?_
      refine lv_goto (tgt := 130) X.1.1 X.1.2.1 dX10_won_112 (by decide) ?_
      exact J32 ((-1)) (if_neg (c := (if y6 = (-1) then (1 : Int) else (if ¬ z0 = (-1) then (0 : Int) else 1)) = 0) hc).symm
  intro v31 hv31
  subst hv31
  refine lv_istore (lv' := [(11, .int (Int32.ofInt (if (if y6 = (-1) then (1 : Int) else (if ¬ z0 = (-1) then (0 : Int) else 1)) = 0 then ((M 69 0 ((6 * y6) + z0)) - 1) else (-1)))), (10, .int (Int32.ofInt ((M 69 0 ((6 * p1) + p2)) - 1))), (9, .int (Int32.ofInt (Int.tmod (p3 + 2) 4))), (8, .int (Int32.ofInt (if y6 = (-1) then (1 : Int) else (if ¬ z0 = (-1) then (0 : Int) else 1)))), (7, .int (Int32.ofInt z0)), (0, .ref (α 11 0)), (1, .int (Int32.ofInt p1)), (2, .int (Int32.ofInt p2)), (3, .int (Int32.ofInt p3)), (4, .int (Int32.ofInt y4)), (6, .int (Int32.ofInt y6))]) X.1.1 X.1.2.1 dX10_won_130 hl (by decide) rfl (fun ls hl => ?_)
  refine lv_iload X.1.1 X.1.2.1 dX10_won_132 (lv_at hl 1 rfl) ?_
  refine sa_if_lt (tgt := 146) X.1 c24 dX10_won_134 (by decide) (fun hc => ?_) (fun hc => ?_)
  · have hw := hw.1 hc
    exact t_X10_won_146 X hp1 hp2 hp3 _ _ _ _ _ _ _ _ hw hy4 hy6 hz0 r15 r19 c24 c30 _ _ hR hS _ (lv_sub hl [5, 6, 7, 8, 9, 10, 4, 3, 2, 1, 0] rfl)
  · have hw := hw.2 hc
    refine lv_iload X.1.1 X.1.2.1 dX10_won_137 (lv_at hl 1 rfl) ?_
    refine lv_iload X.1.1 X.1.2.1 dX10_won_139 (lv_at hl 0 rfl) ?_
    refine sa_icmp_ne (tgt := 146) X.1 c24 c30 dX10_won_141 (by decide) (fun hc => ?_) (fun hc => ?_)
    · have hw := hw.1 hc
      exact t_X10_won_146 X hp1 hp2 hp3 _ _ _ _ _ _ _ _ hw hy4 hy6 hz0 r15 r19 c24 c30 _ _ hR hS _ (lv_sub hl [5, 6, 7, 8, 9, 10, 4, 3, 2, 1, 0] rfl)
    · have hw := hw.2 hc
      refine sa_const X.1 dX10_won_144 ?_
      exact sa_iret X.1 X.2.2.2.1 X.2.2.2.2 hR hS (inR_c (a := 0) rfl) hw dX10_won_145
set_option maxHeartbeats 4000000 in
set_option maxRecDepth 100000 in
theorem t_X10_won_45 {p1 : Int} {p2 : Int} {p3 : Int} (X : CX p m c cX10_won 13 s args RX10 G B κ meth (some .int)) (hp1 : inR p1) (hp2 : inR p2) (hp3 : inR p3) {Qm : Int → Mem → Prop} : ∀ y4 : Int, ∀ y5 : Int, ∀ z0 : Int, ∀ M : Mem, wp_X10_won_45 p1 p2 p3 Qm y4 y5 z0 M → inR y4 → inR y5 → inR z0 → ∀ (H : Heap) (locs : List Loc), Rp G e0 α κ B M H → va_S (fun q => B ≤ q) s.heap H locs → ∀ (ls : Array Slot), lv_has ls 13 [(0, .ref (α 11 0)), (1, .int (Int32.ofInt p1)), (2, .int (Int32.ofInt p2)), (3, .int (Int32.ofInt p3)), (4, .int (Int32.ofInt y4)), (5, .int (Int32.ofInt y5))] → WI p l e 3 s m args below meth c G e0 α κ B Qm H locs 45 ls [.int (Int32.ofInt z0)] := by
  intro y4 y5 z0 M hw hy4 hy5 hz0 H locs hR hS ls hl
  have hw : ((y4 = 0 → wp_X10_nextColumn p2 y5 M fun (x11 : Int) (M10 : Mem) => wp_X10_won_63 p1 p2 p3 Qm y4 z0 x11 M10) ∧ (¬ y4 = 0 → wp_X10_won_63 p1 p2 p3 Qm y4 z0 p2 M)) := hw
  refine lv_istore (lv' := [(6, .int (Int32.ofInt z0)), (0, .ref (α 11 0)), (1, .int (Int32.ofInt p1)), (2, .int (Int32.ofInt p2)), (3, .int (Int32.ofInt p3)), (4, .int (Int32.ofInt y4)), (5, .int (Int32.ofInt y5))]) X.1.1 X.1.2.1 dX10_won_45 hl (by decide) rfl (fun ls hl => ?_)
  refine lv_iload X.1.1 X.1.2.1 dX10_won_47 (lv_at hl 5 rfl) ?_
  refine sa_if_eq (tgt := 56) X.1 hy4 dX10_won_49 (by decide) (fun hc => ?_) (fun hc => ?_)
  · have hw := hw.1 hc
    refine lv_aload_n X.1.1 X.1.2.1 dX10_won_56 rfl (lv_at hl 1 rfl) ?_
    refine lv_iload_n X.1.1 X.1.2.1 dX10_won_57 rfl (lv_at hl 3 rfl) ?_
    refine lv_iload X.1.1 X.1.2.1 dX10_won_58 (lv_at hl 6 rfl) ?_
    refine cs_X10_nextColumn X hp2 hy5 (kc := 3) rmL_ok rm_c (by decide) hR hS kw_1962 hl.1 dX10_won_60 (Nat.le_of_ble_eq_true rfl) hw (fun x11 M10 H locs hw r12 hR hS => ?_)
    exact t_X10_won_63 X hp1 hp2 hp3 _ _ _ _ hw hy4 hz0 r12 _ _ hR hS _ (lv_sub hl [1, 2, 3, 4, 5, 0] rfl)
  · have hw := hw.2 hc
    refine lv_iload_n X.1.1 X.1.2.1 dX10_won_52 rfl (lv_at hl 3 rfl) ?_
    refine lv_goto (tgt := 63) X.1.1 X.1.2.1 dX10_won_53 (by decide) ?_
    exact t_X10_won_63 X hp1 hp2 hp3 _ _ _ _ hw hy4 hz0 hp2 _ _ hR hS _ (lv_sub hl [1, 2, 3, 4, 5, 0] rfl)
set_option maxHeartbeats 4000000 in
set_option maxRecDepth 100000 in
theorem t_X10_won {p1 : Int} {p2 : Int} {p3 : Int} (X : CX p m c cX10_won 13 s args RX10 G B κ meth (some .int)) (hp1 : inR p1) (hp2 : inR p2) (hp3 : inR p3) {M : Mem} {Qm : Int → Mem → Prop} (hw : wp_X10_won p1 p2 p3 M Qm) (H : Heap) (locs : List Loc) (hR : Rp G e0 α κ B M H) (hS : va_S (fun q => B ≤ q) s.heap H locs) (ls : Array Slot) (hl : lv_has ls 13 [(0, .ref (α 11 0)), (1, .int (Int32.ofInt p1)), (2, .int (Int32.ofInt p2)), (3, .int (Int32.ofInt p3))]) : WI p l e 3 s m args below meth c G e0 α κ B Qm H locs 0 ls [] := by
  have hw : (((if ¬ (Int.tmod p3 2) = 0 then (0 : Int) else 1) = 0 → wp_X10_won_45 p1 p2 p3 Qm (if ¬ (Int.tmod p3 2) = 0 then (0 : Int) else 1) (if p3 = 0 then ((-1) : Int) else (if ¬ p3 = 3 then (1 : Int) else (-1))) p1 M) ∧ (¬ (if ¬ (Int.tmod p3 2) = 0 then (0 : Int) else 1) = 0 → wp_X10_nextRow p1 (if p3 = 0 then ((-1) : Int) else (if ¬ p3 = 3 then (1 : Int) else (-1))) M fun (x80 : Int) (M79 : Mem) => wp_X10_won_45 p1 p2 p3 Qm (if ¬ (Int.tmod p3 2) = 0 then (0 : Int) else 1) (if p3 = 0 then ((-1) : Int) else (if ¬ p3 = 3 then (1 : Int) else (-1))) x80 M79)) := hw
  refine lv_iload_n X.1.1 X.1.2.1 dX10_won_0 rfl (lv_at hl 3 rfl) ?_
  refine sa_const X.1 dX10_won_1 ?_
  have r1 := inR_tmod hp3 (inR_c (a := 2) rfl) (by decide)
  refine sa_irem X.1 hp3 (inR_c (a := 2) rfl) (Int.ne_of_gt (by decide)) dX10_won_2 ?_
  have r2 := inR_ite (c := ¬ (Int.tmod p3 2) = 0) (inR_c (a := 0) rfl) (inR_c (a := 1) rfl)
  refine cut_j (A := ∀ v3 : Int, v3 = (if ¬ (Int.tmod p3 2) = 0 then (0 : Int) else 1) → WI p l e 3 s m args below meth c G e0 α κ B Qm H locs 11 ls [.int (Int32.ofInt v3)]) (fun J4 => ?_) ?_
  · refine sa_if_ne (tgt := 10) X.1 r1 dX10_won_3 (by decide) (fun hc => ?_) (fun hc => ?_)
    · skip
      refine sa_const X.1 dX10_won_10 ?_
      exact J4 (0) (if_pos (c := ¬ (Int.tmod p3 2) = 0) hc).symm
    · skip
      refine sa_const X.1 dX10_won_6 ?_
      refine lv_goto (tgt := 11) X.1.1 X.1.2.1 dX10_won_7 (by decide) ?_
      exact J4 (1) (if_neg (c := ¬ (Int.tmod p3 2) = 0) (fun z => z hc)).symm
  intro v3 hv3
  subst hv3
  refine lv_istore (lv' := [(4, .int (Int32.ofInt (if ¬ (Int.tmod p3 2) = 0 then (0 : Int) else 1))), (0, .ref (α 11 0)), (1, .int (Int32.ofInt p1)), (2, .int (Int32.ofInt p2)), (3, .int (Int32.ofInt p3))]) X.1.1 X.1.2.1 dX10_won_11 hl (by decide) rfl (fun ls hl => ?_)
  refine lv_iload_n X.1.1 X.1.2.1 dX10_won_13 rfl (lv_at hl 4 rfl) ?_
  have r7 := inR_ite (c := p3 = 0) (inR_c (a := -1) rfl) (inR_ite (c := ¬ p3 = 3) (inR_c (a := 1) rfl) (inR_c (a := -1) rfl))
  refine cut_j (A := ∀ v8 : Int, v8 = (if p3 = 0 then ((-1) : Int) else (if ¬ p3 = 3 then (1 : Int) else (-1))) → WI p l e 3 s m args below meth c G e0 α κ B Qm H locs 27 ls [.int (Int32.ofInt v8)]) (fun J9 => ?_) ?_
  · refine sa_if_eq (tgt := 22) X.1 hp3 dX10_won_14 (by decide) (fun hc => ?_) (fun hc => ?_)
    · skip
      refine sa_const X.1 dX10_won_22 ?_
      refine lv_goto (tgt := 27) X.1.1 X.1.2.1 dX10_won_23 (by decide) ?_
      exact J9 ((-1)) (if_pos (c := p3 = 0) hc).symm
    · skip
      refine lv_iload_n X.1.1 X.1.2.1 dX10_won_17 rfl (lv_at hl 4 rfl) ?_
      refine sa_const X.1 dX10_won_18 ?_
      refine cut_j (A := ∀ v5 : Int, v5 = (if ¬ p3 = 3 then (1 : Int) else (-1)) → WI p l e 3 s m args below meth c G e0 α κ B Qm H locs 27 ls [.int (Int32.ofInt v5)]) (fun J6 => ?_) ?_
      · refine sa_icmp_ne (tgt := 26) X.1 hp3 (inR_c (a := 3) rfl) dX10_won_19 (by decide) (fun hc => ?_) (fun hc => ?_)
        · skip
          refine sa_const X.1 dX10_won_26 ?_
          exact J6 (1) (if_pos (c := ¬ p3 = 3) hc).symm
        · skip
          refine sa_const X.1 dX10_won_22 ?_
          refine lv_goto (tgt := 27) X.1.1 X.1.2.1 dX10_won_23 (by decide) ?_
          exact J6 ((-1)) (if_neg (c := ¬ p3 = 3) (fun z => z hc)).symm
      intro v5 hv5
      subst hv5
      exact J9 ((if ¬ p3 = 3 then (1 : Int) else (-1))) (if_neg (c := p3 = 0) hc).symm
  intro v8 hv8
  subst hv8
  refine lv_istore (lv' := [(5, .int (Int32.ofInt (if p3 = 0 then ((-1) : Int) else (if ¬ p3 = 3 then (1 : Int) else (-1))))), (4, .int (Int32.ofInt (if ¬ (Int.tmod p3 2) = 0 then (0 : Int) else 1))), (0, .ref (α 11 0)), (1, .int (Int32.ofInt p1)), (2, .int (Int32.ofInt p2)), (3, .int (Int32.ofInt p3))]) X.1.1 X.1.2.1 dX10_won_27 hl (by decide) rfl (fun ls hl => ?_)
  refine lv_iload X.1.1 X.1.2.1 dX10_won_29 (lv_at hl 1 rfl) ?_
  refine sa_if_eq (tgt := 44) X.1 r2 dX10_won_31 (by decide) (fun hc => ?_) (fun hc => ?_)
  · have hw := hw.1 hc
    refine lv_iload_n X.1.1 X.1.2.1 dX10_won_44 rfl (lv_at hl 3 rfl) ?_
    exact t_X10_won_45 X hp1 hp2 hp3 _ _ _ _ hw r2 r7 hp1 _ _ hR hS _ (lv_sub hl [2, 3, 4, 5, 1, 0] rfl)
  · have hw := hw.2 hc
    refine lv_aload_n X.1.1 X.1.2.1 dX10_won_34 rfl (lv_at hl 2 rfl) ?_
    refine lv_iload_n X.1.1 X.1.2.1 dX10_won_35 rfl (lv_at hl 3 rfl) ?_
    refine lv_iload X.1.1 X.1.2.1 dX10_won_36 (lv_at hl 0 rfl) ?_
    refine cs_X10_nextRow X hp1 r7 (kc := 3) rmL_ok rm_c (by decide) hR hS kw_1958 hl.1 dX10_won_38 (Nat.le_of_ble_eq_true rfl) hw (fun x80 M79 H locs hw r81 hR hS => ?_)
    refine lv_goto (tgt := 45) X.1.1 X.1.2.1 dX10_won_41 (by decide) ?_
    exact t_X10_won_45 X hp1 hp2 hp3 _ _ _ _ hw r2 r7 r81 _ _ hR hS _ (lv_sub hl [2, 3, 4, 5, 1, 0] rfl)
theorem m_X10_won {l : Launch} {G : Gx} {e0 : Nat} {α : Ax} {κ : Nat → Int} {B : Nat} {p1 : Int} {p2 : Int} {p3 : Int} (hκ : kOK κ) (hp1 : inR p1) (hp2 : inR p2) (hp3 : inR p3) {M : Mem} {Qm : Int → Mem → Prop} (hw : wp_X10_won p1 p2 p3 M Qm) : CI l yX10_won (Cond.code yX10_won cX10_won 13 (some .int)) 3 G e0 α κ B [.ref (α 11 0), .int (Int32.ofInt p1), .int (Int32.ofInt p2), .int (Int32.ofInt p3)] M Qm :=
  CI.mk hκ (by decide +kernel) rfl (Nat.le_of_ble_eq_true rfl) (lv := [(0, .ref (α 11 0)), (1, .int (Int32.ofInt p1)), (2, .int (Int32.ofInt p2)), (3, .int (Int32.ofInt p3))]) rfl (fun p e s m args below meth c ls X hR hS hl => t_X10_won X hp1 hp2 hp3 hw _ _ hR hS ls hl)
theorem cs_X10_won {cc : ByteArray} {nL : Nat} {own : String} {ret : Option FieldType} {idx pc : Nat} {p1 : Int} {p2 : Int} {p3 : Int} (X : CX p m c cc nL s args own G B κ meth ret) (hp1 : inR p1) (hp2 : inR p2) (hp3 : inR p3) {kc : Nat} {R : Room} {cells slots : Nat} (hRr : RmOK R kc) (hcel : cells ≤ R.cells ∧ slots ≤ R.slots) (hk : 3 + 1 ≤ kc) {M : Mem} {H : Heap} {locs : List Loc} (hR : Rp G e0 α κ B M H) (hS : va_S (fun q => B ≤ q) s.heap H locs) (k1 : Cond.methodLink own idx yX10_won ∈ gw) {ls : Array Slot} (hml : ls.size = nL) {rest : List Value} (hd : decode cc pc = .ok (.invokevirtual idx, 3)) (hrest : (rest.map fun v => v.category).sum ≤ 8) {Q : State → Prop} {Qm : Int → Mem → Prop} (hw : wp_X10_won p1 p2 p3 M Qm) (kk : ∀ (r : Int) (M1 : Mem) (H1 : Heap) (locs1 : List Loc), Qm r M1 → inR r → Rp G e0 α κ B M1 H1 → va_S (fun q => B ≤ q) s.heap H1 locs1 → W p l e R s m args below meth c H1 locs1 cells slots Q (F0 m (pc + 3) ls (.int (Int32.ofInt r) :: rest))) : W p l e R s m args below meth c H locs cells slots Q (F0 m pc ls (.int (Int32.ofInt p3) :: .int (Int32.ofInt p2) :: .int (Int32.ofInt p1) :: .ref (α 11 0) :: rest)) :=
  sa_callVI 3 (n := 3) (As := [.int (Int32.ofInt p1), .int (Int32.ofInt p2), .int (Int32.ofInt p3)]) (rest := rest) X.1 X.2.1 hR hS (m_X10_won X.2.2.1 hp1 hp2 hp3 hw) k1 kw_1956 kw_72 kw_104 kw_1957 ⟨rfl, by decide +kernel, by decide +kernel, by decide +kernel⟩ (rm_ok hRr hk (by decide)) (rc_11 X hR (okf X.2.2.1 rfl)) rfl rfl hrest hml hd hcel kk
def wp_X10_edge_68 (p1 : Int) (p2 : Int) (p3 : Int) (Qm : Int → Mem → Prop) (z0 : Int) (M : Mem) : Prop := Qm z0 M
def wp_X10_edge_20 (p1 : Int) (p2 : Int) (p3 : Int) (Qm : Int → Mem → Prop) (M : Mem) : Prop := wp_X10_in p3 0 3 M fun (x5 : Int) (M4 : Mem) => wp_X10_goes 0 x5 0 M4 fun (x8 : Int) (M7 : Mem) => ((x8 = 0 → wp_X10_edge_68 p1 p2 p3 Qm 0 M7) ∧ (¬ x8 = 0 → wp_X10_won p1 p2 p3 M7 fun (x11 : Int) (M10 : Mem) => wp_X10_edge_68 p1 p2 p3 Qm x11 M10))
def wp_X10_edge (p1 : Int) (p2 : Int) (p3 : Int) (M : Mem) (Qm : Int → Mem → Prop) : Prop := wp_X10_isRow p1 M fun (x2 : Int) (M1 : Mem) => ((x2 = 0 → wp_X10_edge_20 p1 p2 p3 Qm M1) ∧ (¬ x2 = 0 → wp_X10_isColumn p2 M1 fun (x14 : Int) (M13 : Mem) => wp_X10_in p3 0 3 M13 fun (x20 : Int) (M19 : Mem) => (¬ (if x14 = 0 then (0 : Int) else 1) = 0 → (0 ≤ p2 ∧ p2 < 6) ∧ True) ∧ wp_X10_goes (if x14 = 0 then (0 : Int) else 1) x20 (if (if x14 = 0 then (0 : Int) else 1) = 0 then (0 : Int) else (if ¬ (M19 59 0 p2) = 0 then (0 : Int) else 1)) M19 fun (x30 : Int) (M29 : Mem) => ((x30 = 0 → wp_X10_edge_68 p1 p2 p3 Qm 0 M29) ∧ (¬ x30 = 0 → wp_X10_won p1 p2 p3 M29 fun (x33 : Int) (M32 : Mem) => wp_X10_edge_68 p1 p2 p3 Qm x33 M32))))
set_option maxHeartbeats 4000000 in
set_option maxRecDepth 100000 in
theorem t_X10_edge_68 {p1 : Int} {p2 : Int} {p3 : Int} (X : CX p m c cX10_edge 5 s args RX10 G B κ meth (some .int)) (hp1 : inR p1) (hp2 : inR p2) (hp3 : inR p3) {Qm : Int → Mem → Prop} : ∀ z0 : Int, ∀ M : Mem, wp_X10_edge_68 p1 p2 p3 Qm z0 M → inR z0 → ∀ (H : Heap) (locs : List Loc), Rp G e0 α κ B M H → va_S (fun q => B ≤ q) s.heap H locs → ∀ (ls : Array Slot), lv_has ls 5 [] → WI p l e 4 s m args below meth c G e0 α κ B Qm H locs 68 ls [.int (Int32.ofInt z0)] := by
  intro z0 M hw hz0 H locs hR hS ls hl
  have hw : Qm z0 M := hw
  exact sa_iret X.1 X.2.2.2.1 X.2.2.2.2 hR hS hz0 hw dX10_edge_68
set_option maxHeartbeats 4000000 in
set_option maxRecDepth 100000 in
theorem t_X10_edge_20 {p1 : Int} {p2 : Int} {p3 : Int} (X : CX p m c cX10_edge 5 s args RX10 G B κ meth (some .int)) (hp1 : inR p1) (hp2 : inR p2) (hp3 : inR p3) {Qm : Int → Mem → Prop} : ∀ M : Mem, wp_X10_edge_20 p1 p2 p3 Qm M → ∀ (H : Heap) (locs : List Loc), Rp G e0 α κ B M H → va_S (fun q => B ≤ q) s.heap H locs → ∀ (ls : Array Slot), lv_has ls 5 [(0, .ref (α 11 0)), (1, .int (Int32.ofInt p1)), (2, .int (Int32.ofInt p2)), (3, .int (Int32.ofInt p3))] → WI p l e 4 s m args below meth c G e0 α κ B Qm H locs 20 ls [] := by
  intro M hw H locs hR hS ls hl
  have hw : wp_X10_in p3 0 3 M fun (x5 : Int) (M4 : Mem) => wp_X10_goes 0 x5 0 M4 fun (x8 : Int) (M7 : Mem) => ((x8 = 0 → wp_X10_edge_68 p1 p2 p3 Qm 0 M7) ∧ (¬ x8 = 0 → wp_X10_won p1 p2 p3 M7 fun (x11 : Int) (M10 : Mem) => wp_X10_edge_68 p1 p2 p3 Qm x11 M10)) := hw
  refine sa_const X.1 dX10_edge_20 ?_
  refine lv_istore (lv' := [(4, .int (Int32.ofInt 0)), (0, .ref (α 11 0)), (1, .int (Int32.ofInt p1)), (2, .int (Int32.ofInt p2)), (3, .int (Int32.ofInt p3))]) X.1.1 X.1.2.1 dX10_edge_21 hl (by decide) rfl (fun ls hl => ?_)
  refine lv_aload_n X.1.1 X.1.2.1 dX10_edge_23 rfl (lv_at hl 1 rfl) ?_
  refine lv_iload X.1.1 X.1.2.1 dX10_edge_24 (lv_at hl 0 rfl) ?_
  refine lv_iload_n X.1.1 X.1.2.1 dX10_edge_26 rfl (lv_at hl 4 rfl) ?_
  refine sa_const X.1 dX10_edge_27 ?_
  refine sa_const X.1 dX10_edge_28 ?_
  refine cs_X10_in X hp3 (inR_c (a := 0) rfl) (inR_c (a := 3) rfl) (kc := 4) rmL_ok rm_c (by decide) hR hS kw_1718 hl.1 dX10_edge_29 (Nat.le_of_ble_eq_true rfl) hw (fun x5 M4 H locs hw r6 hR hS => ?_)
  refine lv_iload X.1.1 X.1.2.1 dX10_edge_32 (lv_at hl 0 rfl) ?_
  refine sa_if_eq (tgt := 50) X.1 (inR_c (a := 0) rfl) dX10_edge_34 (by decide) (fun hc => ?_) (fun hc => absurd hc (by decide))
  refine sa_const X.1 dX10_edge_50 ?_
  refine cs_X10_goes X (inR_c (a := 0) rfl) r6 (inR_c (a := 0) rfl) (kc := 4) rmL_ok rm_c (by decide) hR hS kw_1721 hl.1 dX10_edge_51 (Nat.le_of_ble_eq_true rfl) hw (fun x8 M7 H locs hw r9 hR hS => ?_)
  refine sa_if_eq (tgt := 67) X.1 r9 dX10_edge_54 (by decide) (fun hc => ?_) (fun hc => ?_)
  · have hw := hw.1 hc
    refine sa_const X.1 dX10_edge_67 ?_
    exact t_X10_edge_68 X hp1 hp2 hp3 _ _ hw (inR_c (a := 0) rfl) _ _ hR hS _ (lv_sub hl [] rfl)
  · have hw := hw.2 hc
    refine lv_aload_n X.1.1 X.1.2.1 dX10_edge_57 rfl (lv_at hl 1 rfl) ?_
    refine lv_iload_n X.1.1 X.1.2.1 dX10_edge_58 rfl (lv_at hl 2 rfl) ?_
    refine lv_iload_n X.1.1 X.1.2.1 dX10_edge_59 rfl (lv_at hl 3 rfl) ?_
    refine lv_iload_n X.1.1 X.1.2.1 dX10_edge_60 rfl (lv_at hl 4 rfl) ?_
    refine cs_X10_won X hp1 hp2 hp3 (kc := 4) rmL_ok rm_c (by decide) hR hS kw_1954 hl.1 dX10_edge_61 (Nat.le_of_ble_eq_true rfl) hw (fun x11 M10 H locs hw r12 hR hS => ?_)
    refine lv_goto (tgt := 68) X.1.1 X.1.2.1 dX10_edge_64 (by decide) ?_
    exact t_X10_edge_68 X hp1 hp2 hp3 _ _ hw r12 _ _ hR hS _ (lv_sub hl [] rfl)
set_option maxHeartbeats 4000000 in
set_option maxRecDepth 100000 in
theorem t_X10_edge {p1 : Int} {p2 : Int} {p3 : Int} (X : CX p m c cX10_edge 5 s args RX10 G B κ meth (some .int)) (hp1 : inR p1) (hp2 : inR p2) (hp3 : inR p3) {M : Mem} {Qm : Int → Mem → Prop} (hw : wp_X10_edge p1 p2 p3 M Qm) (H : Heap) (locs : List Loc) (hR : Rp G e0 α κ B M H) (hS : va_S (fun q => B ≤ q) s.heap H locs) (ls : Array Slot) (hl : lv_has ls 5 [(0, .ref (α 11 0)), (1, .int (Int32.ofInt p1)), (2, .int (Int32.ofInt p2)), (3, .int (Int32.ofInt p3))]) : WI p l e 4 s m args below meth c G e0 α κ B Qm H locs 0 ls [] := by
  have hw : wp_X10_isRow p1 M fun (x2 : Int) (M1 : Mem) => ((x2 = 0 → wp_X10_edge_20 p1 p2 p3 Qm M1) ∧ (¬ x2 = 0 → wp_X10_isColumn p2 M1 fun (x14 : Int) (M13 : Mem) => wp_X10_in p3 0 3 M13 fun (x20 : Int) (M19 : Mem) => (¬ (if x14 = 0 then (0 : Int) else 1) = 0 → (0 ≤ p2 ∧ p2 < 6) ∧ True) ∧ wp_X10_goes (if x14 = 0 then (0 : Int) else 1) x20 (if (if x14 = 0 then (0 : Int) else 1) = 0 then (0 : Int) else (if ¬ (M19 59 0 p2) = 0 then (0 : Int) else 1)) M19 fun (x30 : Int) (M29 : Mem) => ((x30 = 0 → wp_X10_edge_68 p1 p2 p3 Qm 0 M29) ∧ (¬ x30 = 0 → wp_X10_won p1 p2 p3 M29 fun (x33 : Int) (M32 : Mem) => wp_X10_edge_68 p1 p2 p3 Qm x33 M32)))) := hw
  refine lv_aload_n X.1.1 X.1.2.1 dX10_edge_0 rfl (lv_at hl 0 rfl) ?_
  refine lv_iload_n X.1.1 X.1.2.1 dX10_edge_1 rfl (lv_at hl 1 rfl) ?_
  refine cs_X10_isRow X hp1 (kc := 4) rmL_ok rm_c (by decide) hR hS kw_1733 hl.1 dX10_edge_2 (Nat.le_of_ble_eq_true rfl) hw (fun x2 M1 H locs hw r3 hR hS => ?_)
  refine sa_if_eq (tgt := 20) X.1 r3 dX10_edge_5 (by decide) (fun hc => ?_) (fun hc => ?_)
  · have hw := hw.1 hc
    exact t_X10_edge_20 X hp1 hp2 hp3 _ hw _ _ hR hS _ (lv_sub hl [0, 1, 2, 3] rfl)
  · have hw := hw.2 hc
    refine lv_aload_n X.1.1 X.1.2.1 dX10_edge_8 rfl (lv_at hl 0 rfl) ?_
    refine lv_iload_n X.1.1 X.1.2.1 dX10_edge_9 rfl (lv_at hl 2 rfl) ?_
    refine cs_X10_isColumn X hp2 (kc := 4) rmL_ok rm_c (by decide) hR hS kw_1737 hl.1 dX10_edge_10 (Nat.le_of_ble_eq_true rfl) hw (fun x14 M13 H locs hw r15 hR hS => ?_)
    have r16 := inR_ite (c := x14 = 0) (inR_c (a := 0) rfl) (inR_c (a := 1) rfl)
    refine cut_j (A := ∀ v17 : Int, v17 = (if x14 = 0 then (0 : Int) else 1) → WI p l e 4 s m args below meth c G e0 α κ B Qm H locs 21 ls [.int (Int32.ofInt v17)]) (fun J18 => ?_) ?_
    · refine sa_if_eq (tgt := 20) X.1 r15 dX10_edge_13 (by decide) (fun hc => ?_) (fun hc => ?_)
      · skip
        refine sa_const X.1 dX10_edge_20 ?_
        exact J18 (0) (if_pos (c := x14 = 0) hc).symm
      · skip
        refine sa_const X.1 dX10_edge_16 ?_
        refine lv_goto (tgt := 21) X.1.1 X.1.2.1 dX10_edge_17 (by decide) ?_
        exact J18 (1) (if_neg (c := x14 = 0) hc).symm
    intro v17 hv17
    subst hv17
    refine lv_istore (lv' := [(4, .int (Int32.ofInt (if x14 = 0 then (0 : Int) else 1))), (0, .ref (α 11 0)), (1, .int (Int32.ofInt p1)), (2, .int (Int32.ofInt p2)), (3, .int (Int32.ofInt p3))]) X.1.1 X.1.2.1 dX10_edge_21 hl (by decide) rfl (fun ls hl => ?_)
    refine lv_aload_n X.1.1 X.1.2.1 dX10_edge_23 rfl (lv_at hl 1 rfl) ?_
    refine lv_iload X.1.1 X.1.2.1 dX10_edge_24 (lv_at hl 0 rfl) ?_
    refine lv_iload_n X.1.1 X.1.2.1 dX10_edge_26 rfl (lv_at hl 4 rfl) ?_
    refine sa_const X.1 dX10_edge_27 ?_
    refine sa_const X.1 dX10_edge_28 ?_
    refine cs_X10_in X hp3 (inR_c (a := 0) rfl) (inR_c (a := 3) rfl) (kc := 4) rmL_ok rm_c (by decide) hR hS kw_1718 hl.1 dX10_edge_29 (Nat.le_of_ble_eq_true rfl) hw (fun x20 M19 H locs hw r21 hR hS => ?_)
    refine lv_iload X.1.1 X.1.2.1 dX10_edge_32 (lv_at hl 0 rfl) ?_
    have s25 := hw.1
    have hw := hw.2
    have r26 := inR_ite (c := (if x14 = 0 then (0 : Int) else 1) = 0) (inR_c (a := 0) rfl) (inR_ite (c := ¬ (M19 59 0 p2) = 0) (inR_c (a := 0) rfl) (inR_c (a := 1) rfl))
    refine cut_j (A := ∀ v27 : Int, v27 = (if (if x14 = 0 then (0 : Int) else 1) = 0 then (0 : Int) else (if ¬ (M19 59 0 p2) = 0 then (0 : Int) else 1)) → WI p l e 4 s m args below meth c G e0 α κ B Qm H locs 51 ls [.int (Int32.ofInt v27), .int (Int32.ofInt x20), .int (Int32.ofInt (if x14 = 0 then (0 : Int) else 1)), .ref (α 11 0)]) (fun J28 => ?_) ?_
    · refine sa_if_eq (tgt := 50) X.1 r16 dX10_edge_34 (by decide) (fun hc => ?_) (fun hc => ?_)
      · skip
        refine sa_const X.1 dX10_edge_50 ?_
        exact J28 (0) (if_pos (c := (if x14 = 0 then (0 : Int) else 1) = 0) hc).symm
      · have hw := s25 hc
        refine lv_aload_n X.1.1 X.1.2.1 dX10_edge_37 rfl (lv_at hl 1 rfl) ?_
        refine gt_11_3 X hR (okf X.2.2.1 rfl) kw_1532 dX10_edge_38 ?_
        refine lv_iload_n X.1.1 X.1.2.1 dX10_edge_41 rfl (lv_at hl 3 rfl) ?_
        have c22 := hw.1
        have hw := hw.2
        refine ra_59 X hR (okf X.2.2.1 rfl) c22 dX10_edge_42 ?_
        refine cut_j (A := ∀ v23 : Int, v23 = (if ¬ (M19 59 0 p2) = 0 then (0 : Int) else 1) → WI p l e 4 s m args below meth c G e0 α κ B Qm H locs 51 ls [.int (Int32.ofInt v23), .int (Int32.ofInt x20), .int (Int32.ofInt (if x14 = 0 then (0 : Int) else 1)), .ref (α 11 0)]) (fun J24 => ?_) ?_
        · refine sa_if_ne (tgt := 50) X.1 (hR.r 59 0 p2) dX10_edge_43 (by decide) (fun hc => ?_) (fun hc => ?_)
          · skip
            refine sa_const X.1 dX10_edge_50 ?_
            exact J24 (0) (if_pos (c := ¬ (M19 59 0 p2) = 0) hc).symm
          · skip
            refine sa_const X.1 dX10_edge_46 ?_
            refine lv_goto (tgt := 51) X.1.1 X.1.2.1 dX10_edge_47 (by decide) ?_
            exact J24 (1) (if_neg (c := ¬ (M19 59 0 p2) = 0) (fun z => z hc)).symm
        intro v23 hv23
        subst hv23
        exact J28 ((if ¬ (M19 59 0 p2) = 0 then (0 : Int) else 1)) (if_neg (c := (if x14 = 0 then (0 : Int) else 1) = 0) hc).symm
    intro v27 hv27
    subst hv27
    refine cs_X10_goes X r16 r21 r26 (kc := 4) rmL_ok rm_c (by decide) hR hS kw_1721 hl.1 dX10_edge_51 (Nat.le_of_ble_eq_true rfl) hw (fun x30 M29 H locs hw r31 hR hS => ?_)
    refine sa_if_eq (tgt := 67) X.1 r31 dX10_edge_54 (by decide) (fun hc => ?_) (fun hc => ?_)
    · have hw := hw.1 hc
      refine sa_const X.1 dX10_edge_67 ?_
      exact t_X10_edge_68 X hp1 hp2 hp3 _ _ hw (inR_c (a := 0) rfl) _ _ hR hS _ (lv_sub hl [] rfl)
    · have hw := hw.2 hc
      refine lv_aload_n X.1.1 X.1.2.1 dX10_edge_57 rfl (lv_at hl 1 rfl) ?_
      refine lv_iload_n X.1.1 X.1.2.1 dX10_edge_58 rfl (lv_at hl 2 rfl) ?_
      refine lv_iload_n X.1.1 X.1.2.1 dX10_edge_59 rfl (lv_at hl 3 rfl) ?_
      refine lv_iload_n X.1.1 X.1.2.1 dX10_edge_60 rfl (lv_at hl 4 rfl) ?_
      refine cs_X10_won X hp1 hp2 hp3 (kc := 4) rmL_ok rm_c (by decide) hR hS kw_1954 hl.1 dX10_edge_61 (Nat.le_of_ble_eq_true rfl) hw (fun x33 M32 H locs hw r34 hR hS => ?_)
      refine lv_goto (tgt := 68) X.1.1 X.1.2.1 dX10_edge_64 (by decide) ?_
      exact t_X10_edge_68 X hp1 hp2 hp3 _ _ hw r34 _ _ hR hS _ (lv_sub hl [] rfl)
theorem m_X10_edge {l : Launch} {G : Gx} {e0 : Nat} {α : Ax} {κ : Nat → Int} {B : Nat} {p1 : Int} {p2 : Int} {p3 : Int} (hκ : kOK κ) (hp1 : inR p1) (hp2 : inR p2) (hp3 : inR p3) {M : Mem} {Qm : Int → Mem → Prop} (hw : wp_X10_edge p1 p2 p3 M Qm) : CI l yX10_edge (Cond.code yX10_edge cX10_edge 5 (some .int)) 4 G e0 α κ B [.ref (α 11 0), .int (Int32.ofInt p1), .int (Int32.ofInt p2), .int (Int32.ofInt p3)] M Qm :=
  CI.mk hκ (by decide +kernel) rfl (Nat.le_of_ble_eq_true rfl) (lv := [(0, .ref (α 11 0)), (1, .int (Int32.ofInt p1)), (2, .int (Int32.ofInt p2)), (3, .int (Int32.ofInt p3))]) rfl (fun p e s m args below meth c ls X hR hS hl => t_X10_edge X hp1 hp2 hp3 hw _ _ hR hS ls hl)
theorem cs_X10_edge {cc : ByteArray} {nL : Nat} {own : String} {ret : Option FieldType} {idx pc : Nat} {p1 : Int} {p2 : Int} {p3 : Int} (X : CX p m c cc nL s args own G B κ meth ret) (hp1 : inR p1) (hp2 : inR p2) (hp3 : inR p3) {kc : Nat} {R : Room} {cells slots : Nat} (hRr : RmOK R kc) (hcel : cells ≤ R.cells ∧ slots ≤ R.slots) (hk : 4 + 1 ≤ kc) {M : Mem} {H : Heap} {locs : List Loc} (hR : Rp G e0 α κ B M H) (hS : va_S (fun q => B ≤ q) s.heap H locs) (k1 : Cond.methodLink own idx yX10_edge ∈ gw) {ls : Array Slot} (hml : ls.size = nL) {rest : List Value} (hd : decode cc pc = .ok (.invokevirtual idx, 3)) (hrest : (rest.map fun v => v.category).sum ≤ 8) {Q : State → Prop} {Qm : Int → Mem → Prop} (hw : wp_X10_edge p1 p2 p3 M Qm) (kk : ∀ (r : Int) (M1 : Mem) (H1 : Heap) (locs1 : List Loc), Qm r M1 → inR r → Rp G e0 α κ B M1 H1 → va_S (fun q => B ≤ q) s.heap H1 locs1 → W p l e R s m args below meth c H1 locs1 cells slots Q (F0 m (pc + 3) ls (.int (Int32.ofInt r) :: rest))) : W p l e R s m args below meth c H locs cells slots Q (F0 m pc ls (.int (Int32.ofInt p3) :: .int (Int32.ofInt p2) :: .int (Int32.ofInt p1) :: .ref (α 11 0) :: rest)) :=
  sa_callVI 4 (n := 3) (As := [.int (Int32.ofInt p1), .int (Int32.ofInt p2), .int (Int32.ofInt p3)]) (rest := rest) X.1 X.2.1 hR hS (m_X10_edge X.2.2.1 hp1 hp2 hp3 hw) k1 kw_1951 kw_1952 kw_104 kw_1953 ⟨rfl, by decide +kernel, by decide +kernel, by decide +kernel⟩ (rm_ok hRr hk (by decide)) (rc_11 X hR (okf X.2.2.1 rfl)) rfl rfl hrest hml hd hcel kk
def wp_X10_isAnyTotalled_4 (Qm : Int → Mem → Prop) : Nat → Int → Int → Mem → Prop
  | 0 => fun _ _ _ => False
  | n + 1 => fun y1 y2 M => (((M 11 0 4) ≤ y2 → (bit y1) ∧ Qm y1 M) ∧ (y2 < (M 11 0 4) → (y1 = 0 → (0 ≤ y2 ∧ y2 < 6) ∧ (¬ (M 58 0 y2) = 0 → (0 ≤ y2 ∧ y2 < 6) ∧ True) ∧ True) ∧ (inR (y2 + 1)) ∧ wp_X10_isAnyTotalled_4 Qm n (if ¬ y1 = 0 then (1 : Int) else (if (M 58 0 y2) = 0 then (0 : Int) else (if ¬ (M 59 0 y2) = 0 then (0 : Int) else 1))) (y2 + 1) M))
def wp_X10_isAnyTotalled (M : Mem) (Qm : Int → Mem → Prop) : Prop := (∃ n15 : Nat, wp_X10_isAnyTotalled_4 Qm n15 0 0 M)
set_option maxHeartbeats 4000000 in
set_option maxRecDepth 100000 in
theorem t_X10_isAnyTotalled_4 (X : CX p m c cX10_isAnyTotalled 3 s args RX10 G B κ meth (some .boolean)) {Qm : Int → Mem → Prop} : ∀ n : Nat, ∀ y1 : Int, ∀ y2 : Int, ∀ M : Mem, wp_X10_isAnyTotalled_4 Qm n y1 y2 M → inR y1 → inR y2 → ∀ (H : Heap) (locs : List Loc), Rp G e0 α κ B M H → va_S (fun q => B ≤ q) s.heap H locs → ∀ (ls : Array Slot), lv_has ls 3 [(0, .ref (α 11 0)), (1, .int (Int32.ofInt y1)), (2, .int (Int32.ofInt y2))] → WI p l e 0 s m args below meth c G e0 α κ B Qm H locs 4 ls [] := by
  intro n
  induction n with
  | zero =>
    intro y1 y2 M hw hy1 hy2 H locs hR hS ls hl
    exact hw.elim
  | succ n ih =>
    intro y1 y2 M hw hy1 hy2 H locs hR hS ls hl
    have hw : (((M 11 0 4) ≤ y2 → (bit y1) ∧ Qm y1 M) ∧ (y2 < (M 11 0 4) → (y1 = 0 → (0 ≤ y2 ∧ y2 < 6) ∧ (¬ (M 58 0 y2) = 0 → (0 ≤ y2 ∧ y2 < 6) ∧ True) ∧ True) ∧ (inR (y2 + 1)) ∧ wp_X10_isAnyTotalled_4 Qm n (if ¬ y1 = 0 then (1 : Int) else (if (M 58 0 y2) = 0 then (0 : Int) else (if ¬ (M 59 0 y2) = 0 then (0 : Int) else 1))) (y2 + 1) M)) := hw
    refine lv_iload_n X.1.1 X.1.2.1 dX10_isAnyTotalled_4 rfl (lv_at hl 2 rfl) ?_
    refine lv_aload_n X.1.1 X.1.2.1 dX10_isAnyTotalled_5 rfl (lv_at hl 0 rfl) ?_
    refine gt_11_4 X hR (okf X.2.2.1 rfl) kw_1533 dX10_isAnyTotalled_6 ?_
    have r1 := hR.r 11 0 4
    refine sa_icmp_ge (tgt := 46) X.1 hy2 r1 dX10_isAnyTotalled_9 (by decide) (fun hc => ?_) (fun hc => ?_)
    · have hw := hw.1 hc
      refine lv_iload_n X.1.1 X.1.2.1 dX10_isAnyTotalled_46 rfl (lv_at hl 1 rfl) ?_
      have c2 := hw.1
      have hw := hw.2
      exact sa_zret X.1 X.2.2.2.1 X.2.2.2.2 hR hS c2 hw dX10_isAnyTotalled_47
    · have hw := hw.2 hc
      refine lv_iload_n X.1.1 X.1.2.1 dX10_isAnyTotalled_12 rfl (lv_at hl 1 rfl) ?_
      have s10 := hw.1
      have hw := hw.2
      have r11 := inR_ite (c := ¬ y1 = 0) (inR_c (a := 1) rfl) (inR_ite (c := (M 58 0 y2) = 0) (inR_c (a := 0) rfl) (inR_ite (c := ¬ (M 59 0 y2) = 0) (inR_c (a := 0) rfl) (inR_c (a := 1) rfl)))
      refine cut_j (A := ∀ v12 : Int, v12 = (if ¬ y1 = 0 then (1 : Int) else (if (M 58 0 y2) = 0 then (0 : Int) else (if ¬ (M 59 0 y2) = 0 then (0 : Int) else 1))) → WI p l e 0 s m args below meth c G e0 α κ B Qm H locs 39 ls [.int (Int32.ofInt v12)]) (fun J13 => ?_) ?_
      · refine sa_if_ne (tgt := 34) X.1 hy1 dX10_isAnyTotalled_13 (by decide) (fun hc => ?_) (fun hc => ?_)
        · skip
          refine sa_const X.1 dX10_isAnyTotalled_34 ?_
          refine lv_goto (tgt := 39) X.1.1 X.1.2.1 dX10_isAnyTotalled_35 (by decide) ?_
          exact J13 (1) (if_pos (c := ¬ y1 = 0) hc).symm
        · have hw := s10 hc
          refine lv_aload_n X.1.1 X.1.2.1 dX10_isAnyTotalled_16 rfl (lv_at hl 0 rfl) ?_
          refine gt_11_2 X hR (okf X.2.2.1 rfl) kw_1531 dX10_isAnyTotalled_17 ?_
          refine lv_iload_n X.1.1 X.1.2.1 dX10_isAnyTotalled_20 rfl (lv_at hl 2 rfl) ?_
          have c3 := hw.1
          have hw := hw.2
          refine ra_58 X hR (okf X.2.2.1 rfl) c3 dX10_isAnyTotalled_21 ?_
          have s7 := hw.1
          have hw := hw.2
          refine cut_j (A := ∀ v8 : Int, v8 = (if (M 58 0 y2) = 0 then (0 : Int) else (if ¬ (M 59 0 y2) = 0 then (0 : Int) else 1)) → WI p l e 0 s m args below meth c G e0 α κ B Qm H locs 39 ls [.int (Int32.ofInt v8)]) (fun J9 => ?_) ?_
          · refine sa_if_eq (tgt := 38) X.1 (hR.r 58 0 y2) dX10_isAnyTotalled_22 (by decide) (fun hc => ?_) (fun hc => ?_)
            · skip
              refine sa_const X.1 dX10_isAnyTotalled_38 ?_
              exact J9 (0) (if_pos (c := (M 58 0 y2) = 0) hc).symm
            · have hw := s7 hc
              refine lv_aload_n X.1.1 X.1.2.1 dX10_isAnyTotalled_25 rfl (lv_at hl 0 rfl) ?_
              refine gt_11_3 X hR (okf X.2.2.1 rfl) kw_1532 dX10_isAnyTotalled_26 ?_
              refine lv_iload_n X.1.1 X.1.2.1 dX10_isAnyTotalled_29 rfl (lv_at hl 2 rfl) ?_
              have c4 := hw.1
              have hw := hw.2
              refine ra_59 X hR (okf X.2.2.1 rfl) c4 dX10_isAnyTotalled_30 ?_
              refine cut_j (A := ∀ v5 : Int, v5 = (if ¬ (M 59 0 y2) = 0 then (0 : Int) else 1) → WI p l e 0 s m args below meth c G e0 α κ B Qm H locs 39 ls [.int (Int32.ofInt v5)]) (fun J6 => ?_) ?_
              · refine sa_if_ne (tgt := 38) X.1 (hR.r 59 0 y2) dX10_isAnyTotalled_31 (by decide) (fun hc => ?_) (fun hc => ?_)
                · skip
                  refine sa_const X.1 dX10_isAnyTotalled_38 ?_
                  exact J6 (0) (if_pos (c := ¬ (M 59 0 y2) = 0) hc).symm
                · skip
                  refine sa_const X.1 dX10_isAnyTotalled_34 ?_
                  refine lv_goto (tgt := 39) X.1.1 X.1.2.1 dX10_isAnyTotalled_35 (by decide) ?_
                  exact J6 (1) (if_neg (c := ¬ (M 59 0 y2) = 0) (fun z => z hc)).symm
              intro v5 hv5
              subst hv5
              exact J9 ((if ¬ (M 59 0 y2) = 0 then (0 : Int) else 1)) (if_neg (c := (M 58 0 y2) = 0) hc).symm
          intro v8 hv8
          subst hv8
          exact J13 ((if (M 58 0 y2) = 0 then (0 : Int) else (if ¬ (M 59 0 y2) = 0 then (0 : Int) else 1))) (if_neg (c := ¬ y1 = 0) (fun z => z hc)).symm
      intro v12 hv12
      subst hv12
      refine lv_istore_n (lv' := [(1, .int (Int32.ofInt (if ¬ y1 = 0 then (1 : Int) else (if (M 58 0 y2) = 0 then (0 : Int) else (if ¬ (M 59 0 y2) = 0 then (0 : Int) else 1))))), (0, .ref (α 11 0)), (2, .int (Int32.ofInt y2))]) X.1.1 X.1.2.1 dX10_isAnyTotalled_39 rfl hl (by decide) rfl (fun ls hl => ?_)
      have c14 := hw.1
      have hw := hw.2
      refine lv_iinc (v := Int32.ofInt (y2 + 1)) (lv' := [(2, .int (Int32.ofInt (y2 + 1))), (1, .int (Int32.ofInt (if ¬ y1 = 0 then (1 : Int) else (if (M 58 0 y2) = 0 then (0 : Int) else (if ¬ (M 59 0 y2) = 0 then (0 : Int) else 1))))), (0, .ref (α 11 0))]) X.1.1 X.1.2.1 dX10_isAnyTotalled_40 hl (k := 2) rfl (Int32.ofInt_add _ _).symm (by decide) rfl (fun ls hl => ?_)
      refine lv_goto (tgt := 4) X.1.1 X.1.2.1 dX10_isAnyTotalled_43 (by decide) ?_
      exact ih _ _ _ hw r11 c14 _ _ hR hS _ (lv_sub hl [2, 1, 0] rfl)
set_option maxHeartbeats 4000000 in
set_option maxRecDepth 100000 in
theorem t_X10_isAnyTotalled (X : CX p m c cX10_isAnyTotalled 3 s args RX10 G B κ meth (some .boolean)) {M : Mem} {Qm : Int → Mem → Prop} (hw : wp_X10_isAnyTotalled M Qm) (H : Heap) (locs : List Loc) (hR : Rp G e0 α κ B M H) (hS : va_S (fun q => B ≤ q) s.heap H locs) (ls : Array Slot) (hl : lv_has ls 3 [(0, .ref (α 11 0))]) : WI p l e 0 s m args below meth c G e0 α κ B Qm H locs 0 ls [] := by
  have hw : (∃ n15 : Nat, wp_X10_isAnyTotalled_4 Qm n15 0 0 M) := hw
  refine sa_const X.1 dX10_isAnyTotalled_0 ?_
  refine lv_istore_n (lv' := [(1, .int (Int32.ofInt 0)), (0, .ref (α 11 0))]) X.1.1 X.1.2.1 dX10_isAnyTotalled_1 rfl hl (by decide) rfl (fun ls hl => ?_)
  refine sa_const X.1 dX10_isAnyTotalled_2 ?_
  refine lv_istore_n (lv' := [(2, .int (Int32.ofInt 0)), (1, .int (Int32.ofInt 0)), (0, .ref (α 11 0))]) X.1.1 X.1.2.1 dX10_isAnyTotalled_3 rfl hl (by decide) rfl (fun ls hl => ?_)
  obtain ⟨n15, hw⟩ := hw
  exact t_X10_isAnyTotalled_4 X n15 _ _ _ hw (inR_c (a := 0) rfl) (inR_c (a := 0) rfl) _ _ hR hS _ (lv_sub hl [2, 1, 0] rfl)
theorem m_X10_isAnyTotalled {l : Launch} {G : Gx} {e0 : Nat} {α : Ax} {κ : Nat → Int} {B : Nat} (hκ : kOK κ) {M : Mem} {Qm : Int → Mem → Prop} (hw : wp_X10_isAnyTotalled M Qm) : CI l yX10_isAnyTotalled (Cond.code yX10_isAnyTotalled cX10_isAnyTotalled 3 (some .boolean)) 0 G e0 α κ B [.ref (α 11 0)] M Qm :=
  CI.mk hκ (by decide +kernel) rfl (Nat.le_of_ble_eq_true rfl) (lv := [(0, .ref (α 11 0))]) rfl (fun p e s m args below meth c ls X hR hS hl => t_X10_isAnyTotalled X hw _ _ hR hS ls hl)
theorem cs_X10_isAnyTotalled {cc : ByteArray} {nL : Nat} {own : String} {ret : Option FieldType} {idx pc : Nat} (X : CX p m c cc nL s args own G B κ meth ret) {kc : Nat} {R : Room} {cells slots : Nat} (hRr : RmOK R kc) (hcel : cells ≤ R.cells ∧ slots ≤ R.slots) (hk : 0 + 1 ≤ kc) {M : Mem} {H : Heap} {locs : List Loc} (hR : Rp G e0 α κ B M H) (hS : va_S (fun q => B ≤ q) s.heap H locs) (k1 : Cond.methodLink own idx yX10_isAnyTotalled ∈ gw) {ls : Array Slot} (hml : ls.size = nL) {rest : List Value} (hd : decode cc pc = .ok (.invokevirtual idx, 3)) (hrest : (rest.map fun v => v.category).sum ≤ 8) {Q : State → Prop} {Qm : Int → Mem → Prop} (hw : wp_X10_isAnyTotalled M Qm) (kk : ∀ (r : Int) (M1 : Mem) (H1 : Heap) (locs1 : List Loc), Qm r M1 → inR r → Rp G e0 α κ B M1 H1 → va_S (fun q => B ≤ q) s.heap H1 locs1 → W p l e R s m args below meth c H1 locs1 cells slots Q (F0 m (pc + 3) ls (.int (Int32.ofInt r) :: rest))) : W p l e R s m args below meth c H locs cells slots Q (F0 m pc ls (.ref (α 11 0) :: rest)) :=
  sa_callVI 0 (n := 0) (As := []) (rest := rest) X.1 X.2.1 hR hS (m_X10_isAnyTotalled X.2.2.1 hw) k1 kw_1983 kw_77 kw_104 kw_1984 ⟨rfl, by decide +kernel, by decide +kernel, by decide +kernel⟩ (rm_ok hRr hk (by decide)) (rc_11 X hR (okf X.2.2.1 rfl)) rfl rfl hrest hml hd hcel kk
end
