theorem dX10_thrown_0 : decode cX10_thrown 0 = .ok (.aload_n 0, 1) := by decide +kernel
theorem dX10_thrown_1 : decode cX10_thrown 1 = .ok (.getfield 159, 3) := by decide +kernel
theorem dX10_thrown_4 : decode cX10_thrown 4 = .ok (.ireturn, 1) := by decide +kernel
theorem dX10_in_0 : decode cX10_in 0 = .ok (.iload_n 0, 1) := by decide +kernel
theorem dX10_in_1 : decode cX10_in 1 = .ok (.iload_n 1, 1) := by decide +kernel
theorem dX10_in_2 : decode cX10_in 2 = .ok (.if_icmp .lt 12, 3) := by decide +kernel
theorem dX10_in_5 : decode cX10_in 5 = .ok (.iload_n 0, 1) := by decide +kernel
theorem dX10_in_6 : decode cX10_in 6 = .ok (.iload_n 2, 1) := by decide +kernel
theorem dX10_in_7 : decode cX10_in 7 = .ok (.if_icmp .gt 7, 3) := by decide +kernel
theorem dX10_in_10 : decode cX10_in 10 = .ok (.iconst 1, 1) := by decide +kernel
theorem dX10_in_11 : decode cX10_in 11 = .ok (.goto 4, 3) := by decide +kernel
theorem dX10_in_14 : decode cX10_in 14 = .ok (.iconst 0, 1) := by decide +kernel
theorem dX10_in_15 : decode cX10_in 15 = .ok (.ireturn, 1) := by decide +kernel
theorem dX10_goes_0 : decode cX10_goes 0 = .ok (.aload_n 0, 1) := by decide +kernel
theorem dX10_goes_1 : decode cX10_goes 1 = .ok (.iload_n 1, 1) := by decide +kernel
theorem dX10_goes_2 : decode cX10_goes 2 = .ok (.ifCond .ne 7, 3) := by decide +kernel
theorem dX10_goes_5 : decode cX10_goes 5 = .ok (.iconst 1, 1) := by decide +kernel
theorem dX10_goes_6 : decode cX10_goes 6 = .ok (.goto 20, 3) := by decide +kernel
theorem dX10_goes_9 : decode cX10_goes 9 = .ok (.iload_n 2, 1) := by decide +kernel
theorem dX10_goes_10 : decode cX10_goes 10 = .ok (.ifCond .ne 7, 3) := by decide +kernel
theorem dX10_goes_13 : decode cX10_goes 13 = .ok (.iconst 2, 1) := by decide +kernel
theorem dX10_goes_14 : decode cX10_goes 14 = .ok (.goto 12, 3) := by decide +kernel
theorem dX10_goes_17 : decode cX10_goes 17 = .ok (.iload_n 3, 1) := by decide +kernel
theorem dX10_goes_18 : decode cX10_goes 18 = .ok (.ifCond .eq 7, 3) := by decide +kernel
theorem dX10_goes_21 : decode cX10_goes 21 = .ok (.iconst 0, 1) := by decide +kernel
theorem dX10_goes_22 : decode cX10_goes 22 = .ok (.goto 4, 3) := by decide +kernel
theorem dX10_goes_25 : decode cX10_goes 25 = .ok (.iconst 3, 1) := by decide +kernel
theorem dX10_goes_26 : decode cX10_goes 26 = .ok (.putfield 159, 3) := by decide +kernel
theorem dX10_goes_29 : decode cX10_goes 29 = .ok (.aload_n 0, 1) := by decide +kernel
theorem dX10_goes_30 : decode cX10_goes 30 = .ok (.getfield 159, 3) := by decide +kernel
theorem dX10_goes_33 : decode cX10_goes 33 = .ok (.ifCond .ne 7, 3) := by decide +kernel
theorem dX10_goes_36 : decode cX10_goes 36 = .ok (.iconst 1, 1) := by decide +kernel
theorem dX10_goes_37 : decode cX10_goes 37 = .ok (.goto 4, 3) := by decide +kernel
theorem dX10_goes_40 : decode cX10_goes 40 = .ok (.iconst 0, 1) := by decide +kernel
theorem dX10_goes_41 : decode cX10_goes 41 = .ok (.ireturn, 1) := by decide +kernel
theorem dX10_isColumn_0 : decode cX10_isColumn 0 = .ok (.iload_n 1, 1) := by decide +kernel
theorem dX10_isColumn_1 : decode cX10_isColumn 1 = .ok (.iconst 0, 1) := by decide +kernel
theorem dX10_isColumn_2 : decode cX10_isColumn 2 = .ok (.aload_n 0, 1) := by decide +kernel
theorem dX10_isColumn_3 : decode cX10_isColumn 3 = .ok (.getfield 162, 3) := by decide +kernel
theorem dX10_isColumn_6 : decode cX10_isColumn 6 = .ok (.iconst 1, 1) := by decide +kernel
theorem dX10_isColumn_7 : decode cX10_isColumn 7 = .ok (.isub, 1) := by decide +kernel
theorem dX10_isColumn_8 : decode cX10_isColumn 8 = .ok (.invokestatic 165, 3) := by decide +kernel
theorem dX10_isColumn_11 : decode cX10_isColumn 11 = .ok (.ireturn, 1) := by decide +kernel
theorem dX10_isRow_0 : decode cX10_isRow 0 = .ok (.iload_n 1, 1) := by decide +kernel
theorem dX10_isRow_1 : decode cX10_isRow 1 = .ok (.iconst 0, 1) := by decide +kernel
theorem dX10_isRow_2 : decode cX10_isRow 2 = .ok (.aload_n 0, 1) := by decide +kernel
theorem dX10_isRow_3 : decode cX10_isRow 3 = .ok (.getfield 169, 3) := by decide +kernel
theorem dX10_isRow_6 : decode cX10_isRow 6 = .ok (.iconst 1, 1) := by decide +kernel
theorem dX10_isRow_7 : decode cX10_isRow 7 = .ok (.isub, 1) := by decide +kernel
theorem dX10_isRow_8 : decode cX10_isRow 8 = .ok (.invokestatic 165, 3) := by decide +kernel
theorem dX10_isRow_11 : decode cX10_isRow 11 = .ok (.ireturn, 1) := by decide +kernel
theorem dX10_isCell_0 : decode cX10_isCell 0 = .ok (.iload_n 1, 1) := by decide +kernel
theorem dX10_isCell_1 : decode cX10_isCell 1 = .ok (.iconst 0, 1) := by decide +kernel
theorem dX10_isCell_2 : decode cX10_isCell 2 = .ok (.aload_n 0, 1) := by decide +kernel
theorem dX10_isCell_3 : decode cX10_isCell 3 = .ok (.getfield 172, 3) := by decide +kernel
theorem dX10_isCell_6 : decode cX10_isCell 6 = .ok (.iconst 1, 1) := by decide +kernel
theorem dX10_isCell_7 : decode cX10_isCell 7 = .ok (.isub, 1) := by decide +kernel
theorem dX10_isCell_8 : decode cX10_isCell 8 = .ok (.invokestatic 165, 3) := by decide +kernel
theorem dX10_isCell_11 : decode cX10_isCell 11 = .ok (.ireturn, 1) := by decide +kernel
theorem dX10_column_0 : decode cX10_column 0 = .ok (.aload_n 0, 1) := by decide +kernel
theorem dX10_column_1 : decode cX10_column 1 = .ok (.iload_n 1, 1) := by decide +kernel
theorem dX10_column_2 : decode cX10_column 2 = .ok (.iconst 0, 1) := by decide +kernel
theorem dX10_column_3 : decode cX10_column 3 = .ok (.iconst 2, 1) := by decide +kernel
theorem dX10_column_4 : decode cX10_column 4 = .ok (.invokestatic 165, 3) := by decide +kernel
theorem dX10_column_7 : decode cX10_column 7 = .ok (.ifCond .eq 17, 3) := by decide +kernel
theorem dX10_column_10 : decode cX10_column 10 = .ok (.iload_n 2, 1) := by decide +kernel
theorem dX10_column_11 : decode cX10_column 11 = .ok (.iconst 1, 1) := by decide +kernel
theorem dX10_column_12 : decode cX10_column 12 = .ok (.bipush 60, 2) := by decide +kernel
theorem dX10_column_14 : decode cX10_column 14 = .ok (.invokestatic 165, 3) := by decide +kernel
theorem dX10_column_17 : decode cX10_column 17 = .ok (.ifCond .eq 7, 3) := by decide +kernel
theorem dX10_column_20 : decode cX10_column 20 = .ok (.iconst 1, 1) := by decide +kernel
theorem dX10_column_21 : decode cX10_column 21 = .ok (.goto 4, 3) := by decide +kernel
theorem dX10_column_24 : decode cX10_column 24 = .ok (.iconst 0, 1) := by decide +kernel
theorem dX10_column_25 : decode cX10_column 25 = .ok (.aload_n 0, 1) := by decide +kernel
theorem dX10_column_26 : decode cX10_column 26 = .ok (.getfield 162, 3) := by decide +kernel
theorem dX10_column_29 : decode cX10_column 29 = .ok (.bipush 6, 2) := by decide +kernel
theorem dX10_column_31 : decode cX10_column 31 = .ok (.if_icmp .ge 14, 3) := by decide +kernel
theorem dX10_column_34 : decode cX10_column 34 = .ok (.aload_n 0, 1) := by decide +kernel
theorem dX10_column_35 : decode cX10_column 35 = .ok (.getfield 169, 3) := by decide +kernel
theorem dX10_column_38 : decode cX10_column 38 = .ok (.ifCond .ne 7, 3) := by decide +kernel
theorem dX10_column_41 : decode cX10_column 41 = .ok (.iconst 1, 1) := by decide +kernel
theorem dX10_column_42 : decode cX10_column 42 = .ok (.goto 4, 3) := by decide +kernel
theorem dX10_column_45 : decode cX10_column 45 = .ok (.iconst 0, 1) := by decide +kernel
theorem dX10_column_46 : decode cX10_column 46 = .ok (.iconst 1, 1) := by decide +kernel
theorem dX10_column_47 : decode cX10_column 47 = .ok (.invokevirtual 175, 3) := by decide +kernel
theorem dX10_column_50 : decode cX10_column 50 = .ok (.ifCond .ne 5, 3) := by decide +kernel
theorem dX10_column_53 : decode cX10_column 53 = .ok (.iconst 0, 1) := by decide +kernel
theorem dX10_column_54 : decode cX10_column 54 = .ok (.ireturn, 1) := by decide +kernel
theorem dX10_column_55 : decode cX10_column 55 = .ok (.aload_n 0, 1) := by decide +kernel
theorem dX10_column_56 : decode cX10_column 56 = .ok (.getfield 7, 3) := by decide +kernel
theorem dX10_column_59 : decode cX10_column 59 = .ok (.aload_n 0, 1) := by decide +kernel
theorem dX10_column_60 : decode cX10_column 60 = .ok (.getfield 162, 3) := by decide +kernel
theorem dX10_column_63 : decode cX10_column 63 = .ok (.iload_n 1, 1) := by decide +kernel
theorem dX10_column_64 : decode cX10_column 64 = .ok (.iastore, 1) := by decide +kernel
theorem dX10_column_65 : decode cX10_column 65 = .ok (.aload_n 0, 1) := by decide +kernel
theorem dX10_column_66 : decode cX10_column 66 = .ok (.getfield 13, 3) := by decide +kernel
theorem dX10_column_69 : decode cX10_column 69 = .ok (.aload_n 0, 1) := by decide +kernel
theorem dX10_column_70 : decode cX10_column 70 = .ok (.getfield 162, 3) := by decide +kernel
theorem dX10_column_73 : decode cX10_column 73 = .ok (.iload_n 2, 1) := by decide +kernel
theorem dX10_column_74 : decode cX10_column 74 = .ok (.iastore, 1) := by decide +kernel
theorem dX10_column_75 : decode cX10_column 75 = .ok (.aload_n 0, 1) := by decide +kernel
theorem dX10_column_76 : decode cX10_column 76 = .ok (.dup, 1) := by decide +kernel
theorem dX10_column_77 : decode cX10_column 77 = .ok (.getfield 162, 3) := by decide +kernel
theorem dX10_column_80 : decode cX10_column 80 = .ok (.iconst 1, 1) := by decide +kernel
theorem dX10_column_81 : decode cX10_column 81 = .ok (.iadd, 1) := by decide +kernel
theorem dX10_column_82 : decode cX10_column 82 = .ok (.putfield 162, 3) := by decide +kernel
theorem dX10_column_85 : decode cX10_column 85 = .ok (.aload_n 0, 1) := by decide +kernel
theorem dX10_column_86 : decode cX10_column 86 = .ok (.getfield 162, 3) := by decide +kernel
theorem dX10_column_89 : decode cX10_column 89 = .ok (.iconst 1, 1) := by decide +kernel
theorem dX10_column_90 : decode cX10_column 90 = .ok (.isub, 1) := by decide +kernel
theorem dX10_column_91 : decode cX10_column 91 = .ok (.ireturn, 1) := by decide +kernel
theorem dX10_row_0 : decode cX10_row 0 = .ok (.iload_n 1, 1) := by decide +kernel
theorem dX10_row_1 : decode cX10_row 1 = .ok (.iconst 0, 1) := by decide +kernel
theorem dX10_row_2 : decode cX10_row 2 = .ok (.iconst 2, 1) := by decide +kernel
theorem dX10_row_3 : decode cX10_row 3 = .ok (.invokestatic 165, 3) := by decide +kernel
theorem dX10_row_6 : decode cX10_row 6 = .ok (.ifCond .eq 17, 3) := by decide +kernel
theorem dX10_row_9 : decode cX10_row 9 = .ok (.iload_n 2, 1) := by decide +kernel
theorem dX10_row_10 : decode cX10_row 10 = .ok (.iconst 0, 1) := by decide +kernel
theorem dX10_row_11 : decode cX10_row 11 = .ok (.bipush 9, 2) := by decide +kernel
theorem dX10_row_13 : decode cX10_row 13 = .ok (.invokestatic 165, 3) := by decide +kernel
theorem dX10_row_16 : decode cX10_row 16 = .ok (.ifCond .eq 7, 3) := by decide +kernel
theorem dX10_row_19 : decode cX10_row 19 = .ok (.iconst 1, 1) := by decide +kernel
theorem dX10_row_20 : decode cX10_row 20 = .ok (.goto 4, 3) := by decide +kernel
theorem dX10_row_23 : decode cX10_row 23 = .ok (.iconst 0, 1) := by decide +kernel
theorem dX10_row_24 : decode cX10_row 24 = .ok (.istore 4, 2) := by decide +kernel
theorem dX10_row_26 : decode cX10_row 26 = .ok (.iload_n 1, 1) := by decide +kernel
theorem dX10_row_27 : decode cX10_row 27 = .ok (.ifCond .ne 7, 3) := by decide +kernel
theorem dX10_row_30 : decode cX10_row 30 = .ok (.iconst 3, 1) := by decide +kernel
theorem dX10_row_31 : decode cX10_row 31 = .ok (.goto 14, 3) := by decide +kernel
theorem dX10_row_34 : decode cX10_row 34 = .ok (.iload_n 1, 1) := by decide +kernel
theorem dX10_row_35 : decode cX10_row 35 = .ok (.iconst 1, 1) := by decide +kernel
theorem dX10_row_36 : decode cX10_row 36 = .ok (.if_icmp .ne 8, 3) := by decide +kernel
theorem dX10_row_39 : decode cX10_row 39 = .ok (.bipush 24, 2) := by decide +kernel
theorem dX10_row_41 : decode cX10_row 41 = .ok (.goto 4, 3) := by decide +kernel
theorem dX10_row_44 : decode cX10_row 44 = .ok (.iconst 2, 1) := by decide +kernel
theorem dX10_row_45 : decode cX10_row 45 = .ok (.istore 5, 2) := by decide +kernel
theorem dX10_row_47 : decode cX10_row 47 = .ok (.aload_n 0, 1) := by decide +kernel
theorem dX10_row_48 : decode cX10_row 48 = .ok (.iload 4, 2) := by decide +kernel
theorem dX10_row_50 : decode cX10_row 50 = .ok (.iload 4, 2) := by decide +kernel
theorem dX10_row_52 : decode cX10_row 52 = .ok (.ifCond .eq 25, 3) := by decide +kernel
theorem dX10_row_55 : decode cX10_row 55 = .ok (.aload_n 0, 1) := by decide +kernel
theorem dX10_row_56 : decode cX10_row 56 = .ok (.getfield 162, 3) := by decide +kernel
theorem dX10_row_59 : decode cX10_row 59 = .ok (.ifCond .le 18, 3) := by decide +kernel
theorem dX10_row_62 : decode cX10_row 62 = .ok (.aload_n 0, 1) := by decide +kernel
theorem dX10_row_63 : decode cX10_row 63 = .ok (.getfield 35, 3) := by decide +kernel
theorem dX10_row_66 : decode cX10_row 66 = .ok (.iload_n 1, 1) := by decide +kernel
theorem dX10_row_67 : decode cX10_row 67 = .ok (.iaload, 1) := by decide +kernel
theorem dX10_row_68 : decode cX10_row 68 = .ok (.iload 5, 2) := by decide +kernel
theorem dX10_row_70 : decode cX10_row 70 = .ok (.if_icmp .ge 7, 3) := by decide +kernel
theorem dX10_row_73 : decode cX10_row 73 = .ok (.iconst 1, 1) := by decide +kernel
theorem dX10_row_74 : decode cX10_row 74 = .ok (.goto 4, 3) := by decide +kernel
theorem dX10_row_77 : decode cX10_row 77 = .ok (.iconst 0, 1) := by decide +kernel
theorem dX10_row_78 : decode cX10_row 78 = .ok (.iconst 1, 1) := by decide +kernel
theorem dX10_row_79 : decode cX10_row 79 = .ok (.invokevirtual 175, 3) := by decide +kernel
theorem dX10_row_82 : decode cX10_row 82 = .ok (.ifCond .ne 5, 3) := by decide +kernel
theorem dX10_row_85 : decode cX10_row 85 = .ok (.iconst 0, 1) := by decide +kernel
theorem dX10_row_86 : decode cX10_row 86 = .ok (.ireturn, 1) := by decide +kernel
theorem dX10_row_87 : decode cX10_row 87 = .ok (.aload_n 0, 1) := by decide +kernel
theorem dX10_row_88 : decode cX10_row 88 = .ok (.getfield 23, 3) := by decide +kernel
theorem dX10_row_91 : decode cX10_row 91 = .ok (.aload_n 0, 1) := by decide +kernel
theorem dX10_row_92 : decode cX10_row 92 = .ok (.getfield 169, 3) := by decide +kernel
theorem dX10_row_95 : decode cX10_row 95 = .ok (.iload_n 1, 1) := by decide +kernel
theorem dX10_row_96 : decode cX10_row 96 = .ok (.iastore, 1) := by decide +kernel
theorem dX10_row_97 : decode cX10_row 97 = .ok (.aload_n 0, 1) := by decide +kernel
theorem dX10_row_98 : decode cX10_row 98 = .ok (.getfield 26, 3) := by decide +kernel
theorem dX10_row_101 : decode cX10_row 101 = .ok (.aload_n 0, 1) := by decide +kernel
theorem dX10_row_102 : decode cX10_row 102 = .ok (.getfield 169, 3) := by decide +kernel
theorem dX10_row_105 : decode cX10_row 105 = .ok (.iload_n 1, 1) := by decide +kernel
theorem dX10_row_106 : decode cX10_row 106 = .ok (.iconst 1, 1) := by decide +kernel
theorem dX10_row_107 : decode cX10_row 107 = .ok (.if_icmp .ne 7, 3) := by decide +kernel
theorem dX10_row_110 : decode cX10_row 110 = .ok (.iload_n 2, 1) := by decide +kernel
theorem dX10_row_111 : decode cX10_row 111 = .ok (.goto 4, 3) := by decide +kernel
theorem dX10_row_114 : decode cX10_row 114 = .ok (.iconst 0, 1) := by decide +kernel
theorem dX10_row_115 : decode cX10_row 115 = .ok (.iastore, 1) := by decide +kernel
theorem dX10_row_116 : decode cX10_row 116 = .ok (.aload_n 0, 1) := by decide +kernel
theorem dX10_row_117 : decode cX10_row 117 = .ok (.getfield 29, 3) := by decide +kernel
theorem dX10_row_120 : decode cX10_row 120 = .ok (.aload_n 0, 1) := by decide +kernel
theorem dX10_row_121 : decode cX10_row 121 = .ok (.getfield 169, 3) := by decide +kernel
theorem dX10_row_124 : decode cX10_row 124 = .ok (.iload_n 1, 1) := by decide +kernel
theorem dX10_row_125 : decode cX10_row 125 = .ok (.iconst 1, 1) := by decide +kernel
theorem dX10_row_126 : decode cX10_row 126 = .ok (.if_icmp .ne 11, 3) := by decide +kernel
theorem dX10_row_129 : decode cX10_row 129 = .ok (.iload_n 3, 1) := by decide +kernel
theorem dX10_row_130 : decode cX10_row 130 = .ok (.ifCond .eq 7, 3) := by decide +kernel
theorem dX10_row_133 : decode cX10_row 133 = .ok (.iconst 1, 1) := by decide +kernel
theorem dX10_row_134 : decode cX10_row 134 = .ok (.goto 4, 3) := by decide +kernel
theorem dX10_row_137 : decode cX10_row 137 = .ok (.iconst 0, 1) := by decide +kernel
theorem dX10_row_138 : decode cX10_row 138 = .ok (.bastore, 1) := by decide +kernel
theorem dX10_row_139 : decode cX10_row 139 = .ok (.aload_n 0, 1) := by decide +kernel
theorem dX10_row_140 : decode cX10_row 140 = .ok (.getfield 32, 3) := by decide +kernel
theorem dX10_row_143 : decode cX10_row 143 = .ok (.bipush 24, 2) := by decide +kernel
theorem dX10_row_145 : decode cX10_row 145 = .ok (.iload_n 1, 1) := by decide +kernel
theorem dX10_row_146 : decode cX10_row 146 = .ok (.imul, 1) := by decide +kernel
theorem dX10_row_147 : decode cX10_row 147 = .ok (.aload_n 0, 1) := by decide +kernel
theorem dX10_row_148 : decode cX10_row 148 = .ok (.getfield 35, 3) := by decide +kernel
theorem dX10_row_151 : decode cX10_row 151 = .ok (.iload_n 1, 1) := by decide +kernel
theorem dX10_row_152 : decode cX10_row 152 = .ok (.iaload, 1) := by decide +kernel
theorem dX10_row_153 : decode cX10_row 153 = .ok (.iadd, 1) := by decide +kernel
theorem dX10_row_154 : decode cX10_row 154 = .ok (.aload_n 0, 1) := by decide +kernel
theorem dX10_row_155 : decode cX10_row 155 = .ok (.getfield 169, 3) := by decide +kernel
theorem dX10_row_158 : decode cX10_row 158 = .ok (.iastore, 1) := by decide +kernel
theorem dX10_row_159 : decode cX10_row 159 = .ok (.aload_n 0, 1) := by decide +kernel
theorem dX10_row_160 : decode cX10_row 160 = .ok (.getfield 35, 3) := by decide +kernel
theorem dX10_row_163 : decode cX10_row 163 = .ok (.iload_n 1, 1) := by decide +kernel
theorem dX10_row_164 : decode cX10_row 164 = .ok (.dup2, 1) := by decide +kernel
theorem dX10_row_165 : decode cX10_row 165 = .ok (.iaload, 1) := by decide +kernel
theorem dX10_row_166 : decode cX10_row 166 = .ok (.iconst 1, 1) := by decide +kernel
theorem dX10_row_167 : decode cX10_row 167 = .ok (.iadd, 1) := by decide +kernel
theorem dX10_row_168 : decode cX10_row 168 = .ok (.iastore, 1) := by decide +kernel
theorem dX10_row_169 : decode cX10_row 169 = .ok (.aload_n 0, 1) := by decide +kernel
theorem dX10_row_170 : decode cX10_row 170 = .ok (.dup, 1) := by decide +kernel
theorem dX10_row_171 : decode cX10_row 171 = .ok (.getfield 169, 3) := by decide +kernel
theorem dX10_row_174 : decode cX10_row 174 = .ok (.iconst 1, 1) := by decide +kernel
theorem dX10_row_175 : decode cX10_row 175 = .ok (.iadd, 1) := by decide +kernel
theorem dX10_row_176 : decode cX10_row 176 = .ok (.putfield 169, 3) := by decide +kernel
theorem dX10_row_179 : decode cX10_row 179 = .ok (.aload_n 0, 1) := by decide +kernel
theorem dX10_row_180 : decode cX10_row 180 = .ok (.getfield 169, 3) := by decide +kernel
theorem dX10_row_183 : decode cX10_row 183 = .ok (.iconst 1, 1) := by decide +kernel
theorem dX10_row_184 : decode cX10_row 184 = .ok (.isub, 1) := by decide +kernel
theorem dX10_row_185 : decode cX10_row 185 = .ok (.ireturn, 1) := by decide +kernel
theorem dX10_placeOf_0 : decode cX10_placeOf 0 = .ok (.iconst 0, 1) := by decide +kernel
theorem dX10_placeOf_1 : decode cX10_placeOf 1 = .ok (.istore_n 2, 1) := by decide +kernel
theorem dX10_placeOf_2 : decode cX10_placeOf 2 = .ok (.aload_n 0, 1) := by decide +kernel
theorem dX10_placeOf_3 : decode cX10_placeOf 3 = .ok (.getfield 32, 3) := by decide +kernel
theorem dX10_placeOf_6 : decode cX10_placeOf 6 = .ok (.bipush 24, 2) := by decide +kernel
theorem dX10_placeOf_8 : decode cX10_placeOf 8 = .ok (.aload_n 0, 1) := by decide +kernel
theorem dX10_placeOf_9 : decode cX10_placeOf 9 = .ok (.getfield 23, 3) := by decide +kernel
theorem dX10_placeOf_12 : decode cX10_placeOf 12 = .ok (.iload_n 1, 1) := by decide +kernel
theorem dX10_placeOf_13 : decode cX10_placeOf 13 = .ok (.iaload, 1) := by decide +kernel
theorem dX10_placeOf_14 : decode cX10_placeOf 14 = .ok (.imul, 1) := by decide +kernel
theorem dX10_placeOf_15 : decode cX10_placeOf 15 = .ok (.iload_n 2, 1) := by decide +kernel
theorem dX10_placeOf_16 : decode cX10_placeOf 16 = .ok (.iadd, 1) := by decide +kernel
theorem dX10_placeOf_17 : decode cX10_placeOf 17 = .ok (.iaload, 1) := by decide +kernel
theorem dX10_placeOf_18 : decode cX10_placeOf 18 = .ok (.iload_n 1, 1) := by decide +kernel
theorem dX10_placeOf_19 : decode cX10_placeOf 19 = .ok (.if_icmp .eq 9, 3) := by decide +kernel
theorem dX10_placeOf_22 : decode cX10_placeOf 22 = .ok (.iinc 2 1, 3) := by decide +kernel
theorem dX10_placeOf_25 : decode cX10_placeOf 25 = .ok (.goto (-23), 3) := by decide +kernel
theorem dX10_placeOf_28 : decode cX10_placeOf 28 = .ok (.iload_n 2, 1) := by decide +kernel
theorem dX10_placeOf_29 : decode cX10_placeOf 29 = .ok (.ireturn, 1) := by decide +kernel
theorem dX10_below_0 : decode cX10_below 0 = .ok (.aload_n 0, 1) := by decide +kernel
theorem dX10_below_1 : decode cX10_below 1 = .ok (.getfield 32, 3) := by decide +kernel
theorem dX10_below_4 : decode cX10_below 4 = .ok (.bipush 24, 2) := by decide +kernel
theorem dX10_below_6 : decode cX10_below 6 = .ok (.aload_n 0, 1) := by decide +kernel
theorem dX10_below_7 : decode cX10_below 7 = .ok (.getfield 23, 3) := by decide +kernel
theorem dX10_below_10 : decode cX10_below 10 = .ok (.iload_n 1, 1) := by decide +kernel
theorem dX10_below_11 : decode cX10_below 11 = .ok (.iaload, 1) := by decide +kernel
theorem dX10_below_12 : decode cX10_below 12 = .ok (.imul, 1) := by decide +kernel
theorem dX10_below_13 : decode cX10_below 13 = .ok (.aload_n 0, 1) := by decide +kernel
theorem dX10_below_14 : decode cX10_below 14 = .ok (.iload_n 1, 1) := by decide +kernel
theorem dX10_below_15 : decode cX10_below 15 = .ok (.invokevirtual 179, 3) := by decide +kernel
theorem dX10_below_18 : decode cX10_below 18 = .ok (.iadd, 1) := by decide +kernel
theorem dX10_below_19 : decode cX10_below 19 = .ok (.iload_n 2, 1) := by decide +kernel
theorem dX10_below_20 : decode cX10_below 20 = .ok (.iadd, 1) := by decide +kernel
theorem dX10_below_21 : decode cX10_below 21 = .ok (.iaload, 1) := by decide +kernel
theorem dX10_below_22 : decode cX10_below 22 = .ok (.ireturn, 1) := by decide +kernel
theorem dX10_cell_0 : decode cX10_cell 0 = .ok (.aload_n 0, 1) := by decide +kernel
theorem dX10_cell_1 : decode cX10_cell 1 = .ok (.iload_n 1, 1) := by decide +kernel
theorem dX10_cell_2 : decode cX10_cell 2 = .ok (.invokevirtual 183, 3) := by decide +kernel
theorem dX10_cell_5 : decode cX10_cell 5 = .ok (.ifCond .eq 15, 3) := by decide +kernel
theorem dX10_cell_8 : decode cX10_cell 8 = .ok (.aload_n 0, 1) := by decide +kernel
theorem dX10_cell_9 : decode cX10_cell 9 = .ok (.iload_n 2, 1) := by decide +kernel
theorem dX10_cell_10 : decode cX10_cell 10 = .ok (.invokevirtual 187, 3) := by decide +kernel
theorem dX10_cell_13 : decode cX10_cell 13 = .ok (.ifCond .eq 7, 3) := by decide +kernel
theorem dX10_cell_16 : decode cX10_cell 16 = .ok (.iconst 1, 1) := by decide +kernel
theorem dX10_cell_17 : decode cX10_cell 17 = .ok (.goto 4, 3) := by decide +kernel
theorem dX10_cell_20 : decode cX10_cell 20 = .ok (.iconst 0, 1) := by decide +kernel
theorem dX10_cell_21 : decode cX10_cell 21 = .ok (.istore 5, 2) := by decide +kernel
theorem dX10_cell_23 : decode cX10_cell 23 = .ok (.iload_n 3, 1) := by decide +kernel
theorem dX10_cell_24 : decode cX10_cell 24 = .ok (.iconst 1, 1) := by decide +kernel
theorem dX10_cell_25 : decode cX10_cell 25 = .ok (.iconst 4, 1) := by decide +kernel
theorem dX10_cell_26 : decode cX10_cell 26 = .ok (.invokestatic 165, 3) := by decide +kernel
theorem dX10_cell_29 : decode cX10_cell 29 = .ok (.ifCond .eq 18, 3) := by decide +kernel
theorem dX10_cell_32 : decode cX10_cell 32 = .ok (.iload 4, 2) := by decide +kernel
theorem dX10_cell_34 : decode cX10_cell 34 = .ok (.iconst 1, 1) := by decide +kernel
theorem dX10_cell_35 : decode cX10_cell 35 = .ok (.bipush 6, 2) := by decide +kernel
theorem dX10_cell_37 : decode cX10_cell 37 = .ok (.invokestatic 165, 3) := by decide +kernel
theorem dX10_cell_40 : decode cX10_cell 40 = .ok (.ifCond .eq 7, 3) := by decide +kernel
theorem dX10_cell_43 : decode cX10_cell 43 = .ok (.iconst 1, 1) := by decide +kernel
theorem dX10_cell_44 : decode cX10_cell 44 = .ok (.goto 4, 3) := by decide +kernel
theorem dX10_cell_47 : decode cX10_cell 47 = .ok (.iconst 0, 1) := by decide +kernel
theorem dX10_cell_48 : decode cX10_cell 48 = .ok (.istore 6, 2) := by decide +kernel
theorem dX10_cell_50 : decode cX10_cell 50 = .ok (.iload 5, 2) := by decide +kernel
theorem dX10_cell_52 : decode cX10_cell 52 = .ok (.ifCond .eq 53, 3) := by decide +kernel
theorem dX10_cell_55 : decode cX10_cell 55 = .ok (.iload 6, 2) := by decide +kernel
theorem dX10_cell_57 : decode cX10_cell 57 = .ok (.ifCond .eq 48, 3) := by decide +kernel
theorem dX10_cell_60 : decode cX10_cell 60 = .ok (.aload_n 0, 1) := by decide +kernel
theorem dX10_cell_61 : decode cX10_cell 61 = .ok (.getfield 172, 3) := by decide +kernel
theorem dX10_cell_64 : decode cX10_cell 64 = .ok (.bipush 100, 2) := by decide +kernel
theorem dX10_cell_66 : decode cX10_cell 66 = .ok (.if_icmp .ge 39, 3) := by decide +kernel
theorem dX10_cell_69 : decode cX10_cell 69 = .ok (.aload_n 0, 1) := by decide +kernel
theorem dX10_cell_70 : decode cX10_cell 70 = .ok (.iload_n 1, 1) := by decide +kernel
theorem dX10_cell_71 : decode cX10_cell 71 = .ok (.invokevirtual 179, 3) := by decide +kernel
theorem dX10_cell_74 : decode cX10_cell 74 = .ok (.iload_n 3, 1) := by decide +kernel
theorem dX10_cell_75 : decode cX10_cell 75 = .ok (.iadd, 1) := by decide +kernel
theorem dX10_cell_76 : decode cX10_cell 76 = .ok (.aload_n 0, 1) := by decide +kernel
theorem dX10_cell_77 : decode cX10_cell 77 = .ok (.getfield 35, 3) := by decide +kernel
theorem dX10_cell_80 : decode cX10_cell 80 = .ok (.aload_n 0, 1) := by decide +kernel
theorem dX10_cell_81 : decode cX10_cell 81 = .ok (.getfield 23, 3) := by decide +kernel
theorem dX10_cell_84 : decode cX10_cell 84 = .ok (.iload_n 1, 1) := by decide +kernel
theorem dX10_cell_85 : decode cX10_cell 85 = .ok (.iaload, 1) := by decide +kernel
theorem dX10_cell_86 : decode cX10_cell 86 = .ok (.iaload, 1) := by decide +kernel
theorem dX10_cell_87 : decode cX10_cell 87 = .ok (.if_icmp .gt 18, 3) := by decide +kernel
theorem dX10_cell_90 : decode cX10_cell 90 = .ok (.iload_n 2, 1) := by decide +kernel
theorem dX10_cell_91 : decode cX10_cell 91 = .ok (.iload 4, 2) := by decide +kernel
theorem dX10_cell_93 : decode cX10_cell 93 = .ok (.iadd, 1) := by decide +kernel
theorem dX10_cell_94 : decode cX10_cell 94 = .ok (.aload_n 0, 1) := by decide +kernel
theorem dX10_cell_95 : decode cX10_cell 95 = .ok (.getfield 162, 3) := by decide +kernel
theorem dX10_cell_98 : decode cX10_cell 98 = .ok (.if_icmp .gt 7, 3) := by decide +kernel
theorem dX10_cell_101 : decode cX10_cell 101 = .ok (.iconst 1, 1) := by decide +kernel
theorem dX10_cell_102 : decode cX10_cell 102 = .ok (.goto 4, 3) := by decide +kernel
theorem dX10_cell_105 : decode cX10_cell 105 = .ok (.iconst 0, 1) := by decide +kernel
theorem dX10_cell_106 : decode cX10_cell 106 = .ok (.istore 7, 2) := by decide +kernel
theorem dX10_cell_108 : decode cX10_cell 108 = .ok (.iconst 0, 1) := by decide +kernel
theorem dX10_cell_109 : decode cX10_cell 109 = .ok (.istore 8, 2) := by decide +kernel
theorem dX10_cell_111 : decode cX10_cell 111 = .ok (.iload 7, 2) := by decide +kernel
theorem dX10_cell_113 : decode cX10_cell 113 = .ok (.ifCond .eq 54, 3) := by decide +kernel
theorem dX10_cell_116 : decode cX10_cell 116 = .ok (.iload 8, 2) := by decide +kernel
theorem dX10_cell_118 : decode cX10_cell 118 = .ok (.iload_n 3, 1) := by decide +kernel
theorem dX10_cell_119 : decode cX10_cell 119 = .ok (.iload 4, 2) := by decide +kernel
theorem dX10_cell_121 : decode cX10_cell 121 = .ok (.imul, 1) := by decide +kernel
theorem dX10_cell_122 : decode cX10_cell 122 = .ok (.if_icmp .ge 45, 3) := by decide +kernel
theorem dX10_cell_125 : decode cX10_cell 125 = .ok (.aload_n 0, 1) := by decide +kernel
theorem dX10_cell_126 : decode cX10_cell 126 = .ok (.getfield 50, 3) := by decide +kernel
theorem dX10_cell_129 : decode cX10_cell 129 = .ok (.bipush 6, 2) := by decide +kernel
theorem dX10_cell_131 : decode cX10_cell 131 = .ok (.aload_n 0, 1) := by decide +kernel
theorem dX10_cell_132 : decode cX10_cell 132 = .ok (.iload_n 1, 1) := by decide +kernel
theorem dX10_cell_133 : decode cX10_cell 133 = .ok (.iload 8, 2) := by decide +kernel
theorem dX10_cell_135 : decode cX10_cell 135 = .ok (.iload 4, 2) := by decide +kernel
theorem dX10_cell_137 : decode cX10_cell 137 = .ok (.idiv, 1) := by decide +kernel
theorem dX10_cell_138 : decode cX10_cell 138 = .ok (.invokevirtual 190, 3) := by decide +kernel
theorem dX10_cell_141 : decode cX10_cell 141 = .ok (.imul, 1) := by decide +kernel
theorem dX10_cell_142 : decode cX10_cell 142 = .ok (.iload_n 2, 1) := by decide +kernel
theorem dX10_cell_143 : decode cX10_cell 143 = .ok (.iadd, 1) := by decide +kernel
theorem dX10_cell_144 : decode cX10_cell 144 = .ok (.iload 8, 2) := by decide +kernel
theorem dX10_cell_146 : decode cX10_cell 146 = .ok (.iload 4, 2) := by decide +kernel
theorem dX10_cell_148 : decode cX10_cell 148 = .ok (.irem, 1) := by decide +kernel
theorem dX10_cell_149 : decode cX10_cell 149 = .ok (.iadd, 1) := by decide +kernel
theorem dX10_cell_150 : decode cX10_cell 150 = .ok (.iaload, 1) := by decide +kernel
theorem dX10_cell_151 : decode cX10_cell 151 = .ok (.ifCond .ne 7, 3) := by decide +kernel
theorem dX10_cell_154 : decode cX10_cell 154 = .ok (.iconst 1, 1) := by decide +kernel
theorem dX10_cell_155 : decode cX10_cell 155 = .ok (.goto 4, 3) := by decide +kernel
theorem dX10_cell_158 : decode cX10_cell 158 = .ok (.iconst 0, 1) := by decide +kernel
theorem dX10_cell_159 : decode cX10_cell 159 = .ok (.istore 7, 2) := by decide +kernel
theorem dX10_cell_161 : decode cX10_cell 161 = .ok (.iinc 8 1, 3) := by decide +kernel
theorem dX10_cell_164 : decode cX10_cell 164 = .ok (.goto (-53), 3) := by decide +kernel
theorem dX10_cell_167 : decode cX10_cell 167 = .ok (.aload_n 0, 1) := by decide +kernel
theorem dX10_cell_168 : decode cX10_cell 168 = .ok (.iload 5, 2) := by decide +kernel
theorem dX10_cell_170 : decode cX10_cell 170 = .ok (.iload 6, 2) := by decide +kernel
theorem dX10_cell_172 : decode cX10_cell 172 = .ok (.iload 7, 2) := by decide +kernel
theorem dX10_cell_174 : decode cX10_cell 174 = .ok (.invokevirtual 175, 3) := by decide +kernel
theorem dX10_cell_177 : decode cX10_cell 177 = .ok (.ifCond .ne 5, 3) := by decide +kernel
theorem dX10_cell_180 : decode cX10_cell 180 = .ok (.iconst 0, 1) := by decide +kernel
theorem dX10_cell_181 : decode cX10_cell 181 = .ok (.ireturn, 1) := by decide +kernel
theorem dX10_cell_182 : decode cX10_cell 182 = .ok (.aload_n 0, 1) := by decide +kernel
theorem dX10_cell_183 : decode cX10_cell 183 = .ok (.getfield 38, 3) := by decide +kernel
theorem dX10_cell_186 : decode cX10_cell 186 = .ok (.aload_n 0, 1) := by decide +kernel
theorem dX10_cell_187 : decode cX10_cell 187 = .ok (.getfield 172, 3) := by decide +kernel
theorem dX10_cell_190 : decode cX10_cell 190 = .ok (.iload_n 1, 1) := by decide +kernel
theorem dX10_cell_191 : decode cX10_cell 191 = .ok (.iastore, 1) := by decide +kernel
theorem dX10_cell_192 : decode cX10_cell 192 = .ok (.aload_n 0, 1) := by decide +kernel
theorem dX10_cell_193 : decode cX10_cell 193 = .ok (.getfield 41, 3) := by decide +kernel
theorem dX10_cell_196 : decode cX10_cell 196 = .ok (.aload_n 0, 1) := by decide +kernel
theorem dX10_cell_197 : decode cX10_cell 197 = .ok (.getfield 172, 3) := by decide +kernel
theorem dX10_cell_200 : decode cX10_cell 200 = .ok (.iload_n 2, 1) := by decide +kernel
theorem dX10_cell_201 : decode cX10_cell 201 = .ok (.iastore, 1) := by decide +kernel
theorem dX10_cell_202 : decode cX10_cell 202 = .ok (.aload_n 0, 1) := by decide +kernel
theorem dX10_cell_203 : decode cX10_cell 203 = .ok (.getfield 44, 3) := by decide +kernel
theorem dX10_cell_206 : decode cX10_cell 206 = .ok (.aload_n 0, 1) := by decide +kernel
theorem dX10_cell_207 : decode cX10_cell 207 = .ok (.getfield 172, 3) := by decide +kernel
theorem dX10_cell_210 : decode cX10_cell 210 = .ok (.iload_n 3, 1) := by decide +kernel
theorem dX10_cell_211 : decode cX10_cell 211 = .ok (.iastore, 1) := by decide +kernel
theorem dX10_cell_212 : decode cX10_cell 212 = .ok (.aload_n 0, 1) := by decide +kernel
theorem dX10_cell_213 : decode cX10_cell 213 = .ok (.getfield 47, 3) := by decide +kernel
theorem dX10_cell_216 : decode cX10_cell 216 = .ok (.aload_n 0, 1) := by decide +kernel
theorem dX10_cell_217 : decode cX10_cell 217 = .ok (.getfield 172, 3) := by decide +kernel
theorem dX10_cell_220 : decode cX10_cell 220 = .ok (.iload 4, 2) := by decide +kernel
theorem dX10_cell_222 : decode cX10_cell 222 = .ok (.iastore, 1) := by decide +kernel
theorem dX10_cell_223 : decode cX10_cell 223 = .ok (.iconst 0, 1) := by decide +kernel
theorem dX10_cell_224 : decode cX10_cell 224 = .ok (.istore 8, 2) := by decide +kernel
theorem dX10_cell_226 : decode cX10_cell 226 = .ok (.iload 8, 2) := by decide +kernel
theorem dX10_cell_228 : decode cX10_cell 228 = .ok (.iload_n 3, 1) := by decide +kernel
theorem dX10_cell_229 : decode cX10_cell 229 = .ok (.iload 4, 2) := by decide +kernel
theorem dX10_cell_231 : decode cX10_cell 231 = .ok (.imul, 1) := by decide +kernel
theorem dX10_cell_232 : decode cX10_cell 232 = .ok (.if_icmp .ge 41, 3) := by decide +kernel
theorem dX10_cell_235 : decode cX10_cell 235 = .ok (.aload_n 0, 1) := by decide +kernel
theorem dX10_cell_236 : decode cX10_cell 236 = .ok (.getfield 50, 3) := by decide +kernel
theorem dX10_cell_239 : decode cX10_cell 239 = .ok (.bipush 6, 2) := by decide +kernel
theorem dX10_cell_241 : decode cX10_cell 241 = .ok (.aload_n 0, 1) := by decide +kernel
theorem dX10_cell_242 : decode cX10_cell 242 = .ok (.iload_n 1, 1) := by decide +kernel
theorem dX10_cell_243 : decode cX10_cell 243 = .ok (.iload 8, 2) := by decide +kernel
theorem dX10_cell_245 : decode cX10_cell 245 = .ok (.iload 4, 2) := by decide +kernel
theorem dX10_cell_247 : decode cX10_cell 247 = .ok (.idiv, 1) := by decide +kernel
theorem dX10_cell_248 : decode cX10_cell 248 = .ok (.invokevirtual 190, 3) := by decide +kernel
theorem dX10_cell_251 : decode cX10_cell 251 = .ok (.imul, 1) := by decide +kernel
theorem dX10_cell_252 : decode cX10_cell 252 = .ok (.iload_n 2, 1) := by decide +kernel
theorem dX10_cell_253 : decode cX10_cell 253 = .ok (.iadd, 1) := by decide +kernel
theorem dX10_cell_254 : decode cX10_cell 254 = .ok (.iload 8, 2) := by decide +kernel
theorem dX10_cell_256 : decode cX10_cell 256 = .ok (.iload 4, 2) := by decide +kernel
theorem dX10_cell_258 : decode cX10_cell 258 = .ok (.irem, 1) := by decide +kernel
theorem dX10_cell_259 : decode cX10_cell 259 = .ok (.iadd, 1) := by decide +kernel
theorem dX10_cell_260 : decode cX10_cell 260 = .ok (.aload_n 0, 1) := by decide +kernel
theorem dX10_cell_261 : decode cX10_cell 261 = .ok (.getfield 172, 3) := by decide +kernel
theorem dX10_cell_264 : decode cX10_cell 264 = .ok (.iconst 1, 1) := by decide +kernel
theorem dX10_cell_265 : decode cX10_cell 265 = .ok (.iadd, 1) := by decide +kernel
theorem dX10_cell_266 : decode cX10_cell 266 = .ok (.iastore, 1) := by decide +kernel
theorem dX10_cell_267 : decode cX10_cell 267 = .ok (.iinc 8 1, 3) := by decide +kernel
theorem dX10_cell_270 : decode cX10_cell 270 = .ok (.goto (-44), 3) := by decide +kernel
theorem dX10_cell_273 : decode cX10_cell 273 = .ok (.aload_n 0, 1) := by decide +kernel
theorem dX10_cell_274 : decode cX10_cell 274 = .ok (.dup, 1) := by decide +kernel
theorem dX10_cell_275 : decode cX10_cell 275 = .ok (.getfield 172, 3) := by decide +kernel
theorem dX10_cell_278 : decode cX10_cell 278 = .ok (.iconst 1, 1) := by decide +kernel
theorem dX10_cell_279 : decode cX10_cell 279 = .ok (.iadd, 1) := by decide +kernel
theorem dX10_cell_280 : decode cX10_cell 280 = .ok (.putfield 172, 3) := by decide +kernel
theorem dX10_cell_283 : decode cX10_cell 283 = .ok (.aload_n 0, 1) := by decide +kernel
theorem dX10_cell_284 : decode cX10_cell 284 = .ok (.getfield 172, 3) := by decide +kernel
theorem dX10_cell_287 : decode cX10_cell 287 = .ok (.iconst 1, 1) := by decide +kernel
theorem dX10_cell_288 : decode cX10_cell 288 = .ok (.isub, 1) := by decide +kernel
theorem dX10_cell_289 : decode cX10_cell 289 = .ok (.ireturn, 1) := by decide +kernel
theorem dX10_word_0 : decode cX10_word 0 = .ok (.aload_n 0, 1) := by decide +kernel
theorem dX10_word_1 : decode cX10_word 1 = .ok (.iload_n 1, 1) := by decide +kernel
theorem dX10_word_2 : decode cX10_word 2 = .ok (.invokevirtual 194, 3) := by decide +kernel
theorem dX10_word_5 : decode cX10_word 5 = .ok (.istore 4, 2) := by decide +kernel
theorem dX10_word_7 : decode cX10_word 7 = .ok (.aload_n 0, 1) := by decide +kernel
theorem dX10_word_8 : decode cX10_word 8 = .ok (.iload 4, 2) := by decide +kernel
theorem dX10_word_10 : decode cX10_word 10 = .ok (.iload_n 2, 1) := by decide +kernel
theorem dX10_word_11 : decode cX10_word 11 = .ok (.iconst 1, 1) := by decide +kernel
theorem dX10_word_12 : decode cX10_word 12 = .ok (.bipush 20, 2) := by decide +kernel
theorem dX10_word_14 : decode cX10_word 14 = .ok (.invokestatic 165, 3) := by decide +kernel
theorem dX10_word_17 : decode cX10_word 17 = .ok (.ifCond .eq 18, 3) := by decide +kernel
theorem dX10_word_20 : decode cX10_word 20 = .ok (.iload_n 3, 1) := by decide +kernel
theorem dX10_word_21 : decode cX10_word 21 = .ok (.iconst 0, 1) := by decide +kernel
theorem dX10_word_22 : decode cX10_word 22 = .ok (.iload_n 2, 1) := by decide +kernel
theorem dX10_word_23 : decode cX10_word 23 = .ok (.iconst 1, 1) := by decide +kernel
theorem dX10_word_24 : decode cX10_word 24 = .ok (.isub, 1) := by decide +kernel
theorem dX10_word_25 : decode cX10_word 25 = .ok (.invokestatic 165, 3) := by decide +kernel
theorem dX10_word_28 : decode cX10_word 28 = .ok (.ifCond .eq 7, 3) := by decide +kernel
theorem dX10_word_31 : decode cX10_word 31 = .ok (.iconst 1, 1) := by decide +kernel
theorem dX10_word_32 : decode cX10_word 32 = .ok (.goto 4, 3) := by decide +kernel
theorem dX10_word_35 : decode cX10_word 35 = .ok (.iconst 0, 1) := by decide +kernel
theorem dX10_word_36 : decode cX10_word 36 = .ok (.iload 4, 2) := by decide +kernel
theorem dX10_word_38 : decode cX10_word 38 = .ok (.ifCond .eq 27, 3) := by decide +kernel
theorem dX10_word_41 : decode cX10_word 41 = .ok (.aload_n 0, 1) := by decide +kernel
theorem dX10_word_42 : decode cX10_word 42 = .ok (.getfield 62, 3) := by decide +kernel
theorem dX10_word_45 : decode cX10_word 45 = .ok (.iload_n 1, 1) := by decide +kernel
theorem dX10_word_46 : decode cX10_word 46 = .ok (.baload, 1) := by decide +kernel
theorem dX10_word_47 : decode cX10_word 47 = .ok (.ifCond .ne 18, 3) := by decide +kernel
theorem dX10_word_50 : decode cX10_word 50 = .ok (.aload_n 0, 1) := by decide +kernel
theorem dX10_word_51 : decode cX10_word 51 = .ok (.getfield 59, 3) := by decide +kernel
theorem dX10_word_54 : decode cX10_word 54 = .ok (.iload_n 1, 1) := by decide +kernel
theorem dX10_word_55 : decode cX10_word 55 = .ok (.iaload, 1) := by decide +kernel
theorem dX10_word_56 : decode cX10_word 56 = .ok (.bipush 12, 2) := by decide +kernel
theorem dX10_word_58 : decode cX10_word 58 = .ok (.if_icmp .ge 7, 3) := by decide +kernel
theorem dX10_word_61 : decode cX10_word 61 = .ok (.iconst 1, 1) := by decide +kernel
theorem dX10_word_62 : decode cX10_word 62 = .ok (.goto 4, 3) := by decide +kernel
theorem dX10_word_65 : decode cX10_word 65 = .ok (.iconst 0, 1) := by decide +kernel
theorem dX10_word_66 : decode cX10_word 66 = .ok (.invokevirtual 175, 3) := by decide +kernel
theorem dX10_word_69 : decode cX10_word 69 = .ok (.ifCond .ne 5, 3) := by decide +kernel
theorem dX10_word_72 : decode cX10_word 72 = .ok (.iconst 0, 1) := by decide +kernel
theorem dX10_word_73 : decode cX10_word 73 = .ok (.ireturn, 1) := by decide +kernel
theorem dX10_word_74 : decode cX10_word 74 = .ok (.aload_n 0, 1) := by decide +kernel
theorem dX10_word_75 : decode cX10_word 75 = .ok (.getfield 53, 3) := by decide +kernel
theorem dX10_word_78 : decode cX10_word 78 = .ok (.bipush 12, 2) := by decide +kernel
theorem dX10_word_80 : decode cX10_word 80 = .ok (.iload_n 1, 1) := by decide +kernel
theorem dX10_word_81 : decode cX10_word 81 = .ok (.imul, 1) := by decide +kernel
theorem dX10_word_82 : decode cX10_word 82 = .ok (.aload_n 0, 1) := by decide +kernel
theorem dX10_word_83 : decode cX10_word 83 = .ok (.getfield 59, 3) := by decide +kernel
theorem dX10_word_86 : decode cX10_word 86 = .ok (.iload_n 1, 1) := by decide +kernel
theorem dX10_word_87 : decode cX10_word 87 = .ok (.iaload, 1) := by decide +kernel
theorem dX10_word_88 : decode cX10_word 88 = .ok (.iadd, 1) := by decide +kernel
theorem dX10_word_89 : decode cX10_word 89 = .ok (.iload_n 2, 1) := by decide +kernel
theorem dX10_word_90 : decode cX10_word 90 = .ok (.iastore, 1) := by decide +kernel
theorem dX10_word_91 : decode cX10_word 91 = .ok (.aload_n 0, 1) := by decide +kernel
theorem dX10_word_92 : decode cX10_word 92 = .ok (.getfield 56, 3) := by decide +kernel
theorem dX10_word_95 : decode cX10_word 95 = .ok (.bipush 12, 2) := by decide +kernel
theorem dX10_word_97 : decode cX10_word 97 = .ok (.iload_n 1, 1) := by decide +kernel
theorem dX10_word_98 : decode cX10_word 98 = .ok (.imul, 1) := by decide +kernel
theorem dX10_word_99 : decode cX10_word 99 = .ok (.aload_n 0, 1) := by decide +kernel
theorem dX10_word_100 : decode cX10_word 100 = .ok (.getfield 59, 3) := by decide +kernel
theorem dX10_word_103 : decode cX10_word 103 = .ok (.iload_n 1, 1) := by decide +kernel
theorem dX10_word_104 : decode cX10_word 104 = .ok (.iaload, 1) := by decide +kernel
theorem dX10_word_105 : decode cX10_word 105 = .ok (.iadd, 1) := by decide +kernel
theorem dX10_word_106 : decode cX10_word 106 = .ok (.iload_n 3, 1) := by decide +kernel
theorem dX10_word_107 : decode cX10_word 107 = .ok (.iastore, 1) := by decide +kernel
theorem dX10_word_108 : decode cX10_word 108 = .ok (.aload_n 0, 1) := by decide +kernel
theorem dX10_word_109 : decode cX10_word 109 = .ok (.getfield 59, 3) := by decide +kernel
theorem dX10_word_112 : decode cX10_word 112 = .ok (.iload_n 1, 1) := by decide +kernel
theorem dX10_word_113 : decode cX10_word 113 = .ok (.dup2, 1) := by decide +kernel
theorem dX10_word_114 : decode cX10_word 114 = .ok (.iaload, 1) := by decide +kernel
theorem dX10_word_115 : decode cX10_word 115 = .ok (.iconst 1, 1) := by decide +kernel
theorem dX10_word_116 : decode cX10_word 116 = .ok (.iadd, 1) := by decide +kernel
theorem dX10_word_117 : decode cX10_word 117 = .ok (.iastore, 1) := by decide +kernel
theorem dX10_word_118 : decode cX10_word 118 = .ok (.aload_n 0, 1) := by decide +kernel
theorem dX10_word_119 : decode cX10_word 119 = .ok (.getfield 59, 3) := by decide +kernel
theorem dX10_word_122 : decode cX10_word 122 = .ok (.iload_n 1, 1) := by decide +kernel
theorem dX10_word_123 : decode cX10_word 123 = .ok (.iaload, 1) := by decide +kernel
theorem dX10_word_124 : decode cX10_word 124 = .ok (.ireturn, 1) := by decide +kernel
theorem dX10_figure_0 : decode cX10_figure 0 = .ok (.aload_n 0, 1) := by decide +kernel
theorem dX10_figure_1 : decode cX10_figure 1 = .ok (.iload_n 1, 1) := by decide +kernel
theorem dX10_figure_2 : decode cX10_figure 2 = .ok (.invokevirtual 194, 3) := by decide +kernel
theorem dX10_figure_5 : decode cX10_figure 5 = .ok (.istore 4, 2) := by decide +kernel
theorem dX10_figure_7 : decode cX10_figure 7 = .ok (.iload_n 2, 1) := by decide +kernel
theorem dX10_figure_8 : decode cX10_figure 8 = .ok (.ldc 197, 2) := by decide +kernel
theorem dX10_figure_10 : decode cX10_figure 10 = .ok (.ldc 198, 2) := by decide +kernel
theorem dX10_figure_12 : decode cX10_figure 12 = .ok (.invokestatic 165, 3) := by decide +kernel
theorem dX10_figure_15 : decode cX10_figure 15 = .ok (.ifCond .eq 38, 3) := by decide +kernel
theorem dX10_figure_18 : decode cX10_figure 18 = .ok (.iload_n 3, 1) := by decide +kernel
theorem dX10_figure_19 : decode cX10_figure 19 = .ok (.iconst 0, 1) := by decide +kernel
theorem dX10_figure_20 : decode cX10_figure 20 = .ok (.iconst 2, 1) := by decide +kernel
theorem dX10_figure_21 : decode cX10_figure 21 = .ok (.invokestatic 165, 3) := by decide +kernel
theorem dX10_figure_24 : decode cX10_figure 24 = .ok (.ifCond .eq 29, 3) := by decide +kernel
theorem dX10_figure_27 : decode cX10_figure 27 = .ok (.iload_n 3, 1) := by decide +kernel
theorem dX10_figure_28 : decode cX10_figure 28 = .ok (.iconst 2, 1) := by decide +kernel
theorem dX10_figure_29 : decode cX10_figure 29 = .ok (.if_icmp .eq 20, 3) := by decide +kernel
theorem dX10_figure_32 : decode cX10_figure 32 = .ok (.iload_n 2, 1) := by decide +kernel
theorem dX10_figure_33 : decode cX10_figure 33 = .ok (.iload_n 3, 1) := by decide +kernel
theorem dX10_figure_34 : decode cX10_figure 34 = .ok (.iconst 1, 1) := by decide +kernel
theorem dX10_figure_35 : decode cX10_figure 35 = .ok (.if_icmp .ne 8, 3) := by decide +kernel
theorem dX10_figure_38 : decode cX10_figure 38 = .ok (.bipush 10, 2) := by decide +kernel
theorem dX10_figure_40 : decode cX10_figure 40 = .ok (.goto 5, 3) := by decide +kernel
theorem dX10_figure_43 : decode cX10_figure 43 = .ok (.bipush 100, 2) := by decide +kernel
theorem dX10_figure_45 : decode cX10_figure 45 = .ok (.irem, 1) := by decide +kernel
theorem dX10_figure_46 : decode cX10_figure 46 = .ok (.ifCond .ne 7, 3) := by decide +kernel
theorem dX10_figure_49 : decode cX10_figure 49 = .ok (.iconst 1, 1) := by decide +kernel
theorem dX10_figure_50 : decode cX10_figure 50 = .ok (.goto 4, 3) := by decide +kernel
theorem dX10_figure_53 : decode cX10_figure 53 = .ok (.iconst 0, 1) := by decide +kernel
theorem dX10_figure_54 : decode cX10_figure 54 = .ok (.istore 5, 2) := by decide +kernel
theorem dX10_figure_56 : decode cX10_figure 56 = .ok (.aload_n 0, 1) := by decide +kernel
theorem dX10_figure_57 : decode cX10_figure 57 = .ok (.iload 4, 2) := by decide +kernel
theorem dX10_figure_59 : decode cX10_figure 59 = .ok (.iload 5, 2) := by decide +kernel
theorem dX10_figure_61 : decode cX10_figure 61 = .ok (.iload 4, 2) := by decide +kernel
theorem dX10_figure_63 : decode cX10_figure 63 = .ok (.ifCond .eq 36, 3) := by decide +kernel
theorem dX10_figure_66 : decode cX10_figure 66 = .ok (.aload_n 0, 1) := by decide +kernel
theorem dX10_figure_67 : decode cX10_figure 67 = .ok (.getfield 59, 3) := by decide +kernel
theorem dX10_figure_70 : decode cX10_figure 70 = .ok (.iload_n 1, 1) := by decide +kernel
theorem dX10_figure_71 : decode cX10_figure 71 = .ok (.iaload, 1) := by decide +kernel
theorem dX10_figure_72 : decode cX10_figure 72 = .ok (.ifCond .ne 27, 3) := by decide +kernel
theorem dX10_figure_75 : decode cX10_figure 75 = .ok (.aload_n 0, 1) := by decide +kernel
theorem dX10_figure_76 : decode cX10_figure 76 = .ok (.getfield 44, 3) := by decide +kernel
theorem dX10_figure_79 : decode cX10_figure 79 = .ok (.iload_n 1, 1) := by decide +kernel
theorem dX10_figure_80 : decode cX10_figure 80 = .ok (.iaload, 1) := by decide +kernel
theorem dX10_figure_81 : decode cX10_figure 81 = .ok (.iconst 1, 1) := by decide +kernel
theorem dX10_figure_82 : decode cX10_figure 82 = .ok (.if_icmp .ne 17, 3) := by decide +kernel
theorem dX10_figure_85 : decode cX10_figure 85 = .ok (.aload_n 0, 1) := by decide +kernel
theorem dX10_figure_86 : decode cX10_figure 86 = .ok (.getfield 47, 3) := by decide +kernel
theorem dX10_figure_89 : decode cX10_figure 89 = .ok (.iload_n 1, 1) := by decide +kernel
theorem dX10_figure_90 : decode cX10_figure 90 = .ok (.iaload, 1) := by decide +kernel
theorem dX10_figure_91 : decode cX10_figure 91 = .ok (.iconst 1, 1) := by decide +kernel
theorem dX10_figure_92 : decode cX10_figure 92 = .ok (.if_icmp .ne 7, 3) := by decide +kernel
theorem dX10_figure_95 : decode cX10_figure 95 = .ok (.iconst 1, 1) := by decide +kernel
theorem dX10_figure_96 : decode cX10_figure 96 = .ok (.goto 4, 3) := by decide +kernel
theorem dX10_figure_99 : decode cX10_figure 99 = .ok (.iconst 0, 1) := by decide +kernel
theorem dX10_figure_100 : decode cX10_figure 100 = .ok (.invokevirtual 175, 3) := by decide +kernel
theorem dX10_figure_103 : decode cX10_figure 103 = .ok (.ifCond .eq 24, 3) := by decide +kernel
theorem dX10_figure_106 : decode cX10_figure 106 = .ok (.aload_n 0, 1) := by decide +kernel
theorem dX10_figure_107 : decode cX10_figure 107 = .ok (.getfield 62, 3) := by decide +kernel
theorem dX10_figure_110 : decode cX10_figure 110 = .ok (.iload_n 1, 1) := by decide +kernel
theorem dX10_figure_111 : decode cX10_figure 111 = .ok (.iconst 1, 1) := by decide +kernel
theorem dX10_figure_112 : decode cX10_figure 112 = .ok (.bastore, 1) := by decide +kernel
theorem dX10_figure_113 : decode cX10_figure 113 = .ok (.aload_n 0, 1) := by decide +kernel
theorem dX10_figure_114 : decode cX10_figure 114 = .ok (.getfield 65, 3) := by decide +kernel
theorem dX10_figure_117 : decode cX10_figure 117 = .ok (.iload_n 1, 1) := by decide +kernel
theorem dX10_figure_118 : decode cX10_figure 118 = .ok (.iload_n 2, 1) := by decide +kernel
theorem dX10_figure_119 : decode cX10_figure 119 = .ok (.iastore, 1) := by decide +kernel
theorem dX10_figure_120 : decode cX10_figure 120 = .ok (.aload_n 0, 1) := by decide +kernel
theorem dX10_figure_121 : decode cX10_figure 121 = .ok (.getfield 68, 3) := by decide +kernel
theorem dX10_figure_124 : decode cX10_figure 124 = .ok (.iload_n 1, 1) := by decide +kernel
theorem dX10_figure_125 : decode cX10_figure 125 = .ok (.iload_n 3, 1) := by decide +kernel
theorem dX10_figure_126 : decode cX10_figure 126 = .ok (.iastore, 1) := by decide +kernel
theorem dX10_figure_127 : decode cX10_figure 127 = .ok (.return_, 1) := by decide +kernel
theorem dX10_empty_0 : decode cX10_empty 0 = .ok (.aload_n 0, 1) := by decide +kernel
theorem dX10_empty_1 : decode cX10_empty 1 = .ok (.aload_n 0, 1) := by decide +kernel
theorem dX10_empty_2 : decode cX10_empty 2 = .ok (.iload_n 1, 1) := by decide +kernel
theorem dX10_empty_3 : decode cX10_empty 3 = .ok (.invokevirtual 194, 3) := by decide +kernel
theorem dX10_empty_6 : decode cX10_empty 6 = .ok (.iconst 1, 1) := by decide +kernel
theorem dX10_empty_7 : decode cX10_empty 7 = .ok (.iconst 1, 1) := by decide +kernel
theorem dX10_empty_8 : decode cX10_empty 8 = .ok (.invokevirtual 175, 3) := by decide +kernel
theorem dX10_empty_11 : decode cX10_empty 11 = .ok (.ifCond .ne 5, 3) := by decide +kernel
theorem dX10_empty_14 : decode cX10_empty 14 = .ok (.iconst 0, 1) := by decide +kernel
theorem dX10_empty_15 : decode cX10_empty 15 = .ok (.ireturn, 1) := by decide +kernel
theorem dX10_empty_16 : decode cX10_empty 16 = .ok (.aload_n 0, 1) := by decide +kernel
theorem dX10_empty_17 : decode cX10_empty 17 = .ok (.getfield 59, 3) := by decide +kernel
theorem dX10_empty_20 : decode cX10_empty 20 = .ok (.iload_n 1, 1) := by decide +kernel
theorem dX10_empty_21 : decode cX10_empty 21 = .ok (.iaload, 1) := by decide +kernel
theorem dX10_empty_22 : decode cX10_empty 22 = .ok (.istore_n 2, 1) := by decide +kernel
theorem dX10_empty_23 : decode cX10_empty 23 = .ok (.aload_n 0, 1) := by decide +kernel
theorem dX10_empty_24 : decode cX10_empty 24 = .ok (.getfield 59, 3) := by decide +kernel
theorem dX10_empty_27 : decode cX10_empty 27 = .ok (.iload_n 1, 1) := by decide +kernel
theorem dX10_empty_28 : decode cX10_empty 28 = .ok (.iconst 0, 1) := by decide +kernel
theorem dX10_empty_29 : decode cX10_empty 29 = .ok (.iastore, 1) := by decide +kernel
theorem dX10_empty_30 : decode cX10_empty 30 = .ok (.aload_n 0, 1) := by decide +kernel
theorem dX10_empty_31 : decode cX10_empty 31 = .ok (.getfield 62, 3) := by decide +kernel
theorem dX10_empty_34 : decode cX10_empty 34 = .ok (.iload_n 1, 1) := by decide +kernel
theorem dX10_empty_35 : decode cX10_empty 35 = .ok (.iconst 0, 1) := by decide +kernel
theorem dX10_empty_36 : decode cX10_empty 36 = .ok (.bastore, 1) := by decide +kernel
theorem dX10_empty_37 : decode cX10_empty 37 = .ok (.iload_n 2, 1) := by decide +kernel
theorem dX10_empty_38 : decode cX10_empty 38 = .ok (.ireturn, 1) := by decide +kernel
theorem dX10_note_0 : decode cX10_note 0 = .ok (.aload_n 0, 1) := by decide +kernel
theorem dX10_note_1 : decode cX10_note 1 = .ok (.iload_n 1, 1) := by decide +kernel
theorem dX10_note_2 : decode cX10_note 2 = .ok (.invokevirtual 194, 3) := by decide +kernel
theorem dX10_note_5 : decode cX10_note 5 = .ok (.istore_n 3, 1) := by decide +kernel
theorem dX10_note_6 : decode cX10_note 6 = .ok (.aload_n 0, 1) := by decide +kernel
theorem dX10_note_7 : decode cX10_note 7 = .ok (.iload_n 3, 1) := by decide +kernel
theorem dX10_note_8 : decode cX10_note 8 = .ok (.iload_n 2, 1) := by decide +kernel
theorem dX10_note_9 : decode cX10_note 9 = .ok (.iconst 0, 1) := by decide +kernel
theorem dX10_note_10 : decode cX10_note 10 = .ok (.iconst 3, 1) := by decide +kernel
theorem dX10_note_11 : decode cX10_note 11 = .ok (.invokestatic 165, 3) := by decide +kernel
theorem dX10_note_14 : decode cX10_note 14 = .ok (.iload_n 3, 1) := by decide +kernel
theorem dX10_note_15 : decode cX10_note 15 = .ok (.ifCond .eq 22, 3) := by decide +kernel
theorem dX10_note_18 : decode cX10_note 18 = .ok (.aload_n 0, 1) := by decide +kernel
theorem dX10_note_19 : decode cX10_note 19 = .ok (.getfield 23, 3) := by decide +kernel
theorem dX10_note_22 : decode cX10_note 22 = .ok (.aload_n 0, 1) := by decide +kernel
theorem dX10_note_23 : decode cX10_note 23 = .ok (.getfield 38, 3) := by decide +kernel
theorem dX10_note_26 : decode cX10_note 26 = .ok (.iload_n 1, 1) := by decide +kernel
theorem dX10_note_27 : decode cX10_note 27 = .ok (.iaload, 1) := by decide +kernel
theorem dX10_note_28 : decode cX10_note 28 = .ok (.iaload, 1) := by decide +kernel
theorem dX10_note_29 : decode cX10_note 29 = .ok (.iconst 1, 1) := by decide +kernel
theorem dX10_note_30 : decode cX10_note 30 = .ok (.if_icmp .ne 7, 3) := by decide +kernel
theorem dX10_note_33 : decode cX10_note 33 = .ok (.iconst 1, 1) := by decide +kernel
theorem dX10_note_34 : decode cX10_note 34 = .ok (.goto 4, 3) := by decide +kernel
theorem dX10_note_37 : decode cX10_note 37 = .ok (.iconst 0, 1) := by decide +kernel
theorem dX10_note_38 : decode cX10_note 38 = .ok (.invokevirtual 175, 3) := by decide +kernel
theorem dX10_note_41 : decode cX10_note 41 = .ok (.ifCond .ne 5, 3) := by decide +kernel
theorem dX10_note_44 : decode cX10_note 44 = .ok (.iconst 0, 1) := by decide +kernel
theorem dX10_note_45 : decode cX10_note 45 = .ok (.ireturn, 1) := by decide +kernel
theorem dX10_note_46 : decode cX10_note 46 = .ok (.aload_n 0, 1) := by decide +kernel
theorem dX10_note_47 : decode cX10_note 47 = .ok (.getfield 71, 3) := by decide +kernel
theorem dX10_note_50 : decode cX10_note 50 = .ok (.iload_n 1, 1) := by decide +kernel
theorem dX10_note_51 : decode cX10_note 51 = .ok (.iaload, 1) := by decide +kernel
theorem dX10_note_52 : decode cX10_note 52 = .ok (.istore 4, 2) := by decide +kernel
theorem dX10_note_54 : decode cX10_note 54 = .ok (.aload_n 0, 1) := by decide +kernel
theorem dX10_note_55 : decode cX10_note 55 = .ok (.getfield 71, 3) := by decide +kernel
theorem dX10_note_58 : decode cX10_note 58 = .ok (.iload_n 1, 1) := by decide +kernel
theorem dX10_note_59 : decode cX10_note 59 = .ok (.iload_n 2, 1) := by decide +kernel
theorem dX10_note_60 : decode cX10_note 60 = .ok (.iastore, 1) := by decide +kernel
theorem dX10_note_61 : decode cX10_note 61 = .ok (.iload 4, 2) := by decide +kernel
theorem dX10_note_63 : decode cX10_note 63 = .ok (.ireturn, 1) := by decide +kernel
theorem dX10_at_0 : decode cX10_at 0 = .ok (.aload_n 0, 1) := by decide +kernel
theorem dX10_at_1 : decode cX10_at 1 = .ok (.aload_n 0, 1) := by decide +kernel
theorem dX10_at_2 : decode cX10_at 2 = .ok (.iload_n 1, 1) := by decide +kernel
theorem dX10_at_3 : decode cX10_at 3 = .ok (.invokevirtual 183, 3) := by decide +kernel
theorem dX10_at_6 : decode cX10_at 6 = .ok (.ifCond .eq 15, 3) := by decide +kernel
theorem dX10_at_9 : decode cX10_at 9 = .ok (.aload_n 0, 1) := by decide +kernel
theorem dX10_at_10 : decode cX10_at 10 = .ok (.iload_n 2, 1) := by decide +kernel
theorem dX10_at_11 : decode cX10_at 11 = .ok (.invokevirtual 187, 3) := by decide +kernel
theorem dX10_at_14 : decode cX10_at 14 = .ok (.ifCond .eq 7, 3) := by decide +kernel
theorem dX10_at_17 : decode cX10_at 17 = .ok (.iconst 1, 1) := by decide +kernel
theorem dX10_at_18 : decode cX10_at 18 = .ok (.goto 4, 3) := by decide +kernel
theorem dX10_at_21 : decode cX10_at 21 = .ok (.iconst 0, 1) := by decide +kernel
theorem dX10_at_22 : decode cX10_at 22 = .ok (.iconst 1, 1) := by decide +kernel
theorem dX10_at_23 : decode cX10_at 23 = .ok (.iconst 1, 1) := by decide +kernel
theorem dX10_at_24 : decode cX10_at 24 = .ok (.invokevirtual 175, 3) := by decide +kernel
theorem dX10_at_27 : decode cX10_at 27 = .ok (.ifCond .eq 19, 3) := by decide +kernel
theorem dX10_at_30 : decode cX10_at 30 = .ok (.aload_n 0, 1) := by decide +kernel
theorem dX10_at_31 : decode cX10_at 31 = .ok (.getfield 50, 3) := by decide +kernel
theorem dX10_at_34 : decode cX10_at 34 = .ok (.bipush 6, 2) := by decide +kernel
theorem dX10_at_36 : decode cX10_at 36 = .ok (.iload_n 1, 1) := by decide +kernel
theorem dX10_at_37 : decode cX10_at 37 = .ok (.imul, 1) := by decide +kernel
theorem dX10_at_38 : decode cX10_at 38 = .ok (.iload_n 2, 1) := by decide +kernel
theorem dX10_at_39 : decode cX10_at 39 = .ok (.iadd, 1) := by decide +kernel
theorem dX10_at_40 : decode cX10_at 40 = .ok (.iaload, 1) := by decide +kernel
theorem dX10_at_41 : decode cX10_at 41 = .ok (.iconst 1, 1) := by decide +kernel
theorem dX10_at_42 : decode cX10_at 42 = .ok (.isub, 1) := by decide +kernel
theorem dX10_at_43 : decode cX10_at 43 = .ok (.goto 4, 3) := by decide +kernel
theorem dX10_at_46 : decode cX10_at 46 = .ok (.iconst 0, 1) := by decide +kernel
theorem dX10_at_47 : decode cX10_at 47 = .ok (.ireturn, 1) := by decide +kernel
theorem dX10_setPaper_0 : decode cX10_setPaper 0 = .ok (.aload_n 0, 1) := by decide +kernel
theorem dX10_setPaper_1 : decode cX10_setPaper 1 = .ok (.iload_n 1, 1) := by decide +kernel
theorem dX10_setPaper_2 : decode cX10_setPaper 2 = .ok (.iconst 1, 1) := by decide +kernel
theorem dX10_setPaper_3 : decode cX10_setPaper 3 = .ok (.sipush 150, 3) := by decide +kernel
theorem dX10_setPaper_6 : decode cX10_setPaper 6 = .ok (.invokestatic 165, 3) := by decide +kernel
theorem dX10_setPaper_9 : decode cX10_setPaper 9 = .ok (.ifCond .eq 17, 3) := by decide +kernel
theorem dX10_setPaper_12 : decode cX10_setPaper 12 = .ok (.iload_n 2, 1) := by decide +kernel
theorem dX10_setPaper_13 : decode cX10_setPaper 13 = .ok (.iconst 1, 1) := by decide +kernel
theorem dX10_setPaper_14 : decode cX10_setPaper 14 = .ok (.bipush 100, 2) := by decide +kernel
theorem dX10_setPaper_16 : decode cX10_setPaper 16 = .ok (.invokestatic 165, 3) := by decide +kernel
theorem dX10_setPaper_19 : decode cX10_setPaper 19 = .ok (.ifCond .eq 7, 3) := by decide +kernel
theorem dX10_setPaper_22 : decode cX10_setPaper 22 = .ok (.iconst 1, 1) := by decide +kernel
theorem dX10_setPaper_23 : decode cX10_setPaper 23 = .ok (.goto 4, 3) := by decide +kernel
theorem dX10_setPaper_26 : decode cX10_setPaper 26 = .ok (.iconst 0, 1) := by decide +kernel
theorem dX10_setPaper_27 : decode cX10_setPaper 27 = .ok (.iconst 1, 1) := by decide +kernel
theorem dX10_setPaper_28 : decode cX10_setPaper 28 = .ok (.iconst 1, 1) := by decide +kernel
theorem dX10_setPaper_29 : decode cX10_setPaper 29 = .ok (.invokevirtual 175, 3) := by decide +kernel
theorem dX10_setPaper_32 : decode cX10_setPaper 32 = .ok (.ifCond .eq 13, 3) := by decide +kernel
theorem dX10_setPaper_35 : decode cX10_setPaper 35 = .ok (.aload_n 0, 1) := by decide +kernel
theorem dX10_setPaper_36 : decode cX10_setPaper 36 = .ok (.iload_n 1, 1) := by decide +kernel
theorem dX10_setPaper_37 : decode cX10_setPaper 37 = .ok (.putfield 74, 3) := by decide +kernel
theorem dX10_setPaper_40 : decode cX10_setPaper 40 = .ok (.aload_n 0, 1) := by decide +kernel
theorem dX10_setPaper_41 : decode cX10_setPaper 41 = .ok (.iload_n 2, 1) := by decide +kernel
theorem dX10_setPaper_42 : decode cX10_setPaper 42 = .ok (.putfield 78, 3) := by decide +kernel
theorem dX10_setPaper_45 : decode cX10_setPaper 45 = .ok (.return_, 1) := by decide +kernel
theorem dX10_notesAtEnd_0 : decode cX10_notesAtEnd 0 = .ok (.aload_n 0, 1) := by decide +kernel
theorem dX10_notesAtEnd_1 : decode cX10_notesAtEnd 1 = .ok (.iconst 0, 1) := by decide +kernel
theorem dX10_notesAtEnd_2 : decode cX10_notesAtEnd 2 = .ok (.putfield 159, 3) := by decide +kernel
theorem dX10_notesAtEnd_5 : decode cX10_notesAtEnd 5 = .ok (.aload_n 0, 1) := by decide +kernel
theorem dX10_notesAtEnd_6 : decode cX10_notesAtEnd 6 = .ok (.aload_n 0, 1) := by decide +kernel
theorem dX10_notesAtEnd_7 : decode cX10_notesAtEnd 7 = .ok (.getfield 199, 3) := by decide +kernel
theorem dX10_notesAtEnd_10 : decode cX10_notesAtEnd 10 = .ok (.ifCond .ne 7, 3) := by decide +kernel
theorem dX10_notesAtEnd_13 : decode cX10_notesAtEnd 13 = .ok (.iconst 1, 1) := by decide +kernel
theorem dX10_notesAtEnd_14 : decode cX10_notesAtEnd 14 = .ok (.goto 4, 3) := by decide +kernel
theorem dX10_notesAtEnd_17 : decode cX10_notesAtEnd 17 = .ok (.iconst 0, 1) := by decide +kernel
theorem dX10_notesAtEnd_18 : decode cX10_notesAtEnd 18 = .ok (.putfield 199, 3) := by decide +kernel
theorem dX10_notesAtEnd_21 : decode cX10_notesAtEnd 21 = .ok (.aload_n 0, 1) := by decide +kernel
theorem dX10_notesAtEnd_22 : decode cX10_notesAtEnd 22 = .ok (.getfield 199, 3) := by decide +kernel
theorem dX10_notesAtEnd_25 : decode cX10_notesAtEnd 25 = .ok (.ireturn, 1) := by decide +kernel
section
variable {p : Program} {l : Launch} {e : Env} {s : State} {m : MethodId} {args : Array Value} {below : List Frame} {meth : Method} {c : Code} {G : Gx} {e0 : Nat} {α : Ax} {κ : Nat → Int} {B : Nat}
def wp_X10_thrown (M : Mem) (Qm : Int → Mem → Prop) : Prop := Qm (M 11 0 59) M
set_option maxHeartbeats 4000000 in
set_option maxRecDepth 100000 in
theorem t_X10_thrown (X : CX p m c cX10_thrown 1 s args RX10 G B κ meth (some .int)) {M : Mem} {Qm : Int → Mem → Prop} (hw : wp_X10_thrown M Qm) (H : Heap) (locs : List Loc) (hR : Rp G e0 α κ B M H) (hS : va_S (fun q => B ≤ q) s.heap H locs) (ls : Array Slot) (hl : lv_has ls 1 [(0, .ref (α 11 0))]) : WI p l e 0 s m args below meth c G e0 α κ B Qm H locs 0 ls [] := by
  have hw : Qm (M 11 0 59) M := hw
  refine lv_aload_n X.1.1 X.1.2.1 dX10_thrown_0 rfl (lv_at hl 0 rfl) ?_
  refine gt_11_59 X hR (okf X.2.2.1 rfl) kw_1588 dX10_thrown_1 ?_
  have r1 := hR.r 11 0 59
  exact sa_iret X.1 X.2.2.2.1 X.2.2.2.2 hR hS r1 hw dX10_thrown_4
theorem m_X10_thrown {l : Launch} {G : Gx} {e0 : Nat} {α : Ax} {κ : Nat → Int} {B : Nat} (hκ : kOK κ) {M : Mem} {Qm : Int → Mem → Prop} (hw : wp_X10_thrown M Qm) : CI l yX10_thrown (Cond.code yX10_thrown cX10_thrown 1 (some .int)) 0 G e0 α κ B [.ref (α 11 0)] M Qm :=
  CI.mk hκ (by decide +kernel) rfl (Nat.le_of_ble_eq_true rfl) (lv := [(0, .ref (α 11 0))]) rfl (fun p e s m args below meth c ls X hR hS hl => t_X10_thrown X hw _ _ hR hS ls hl)
theorem cs_X10_thrown {cc : ByteArray} {nL : Nat} {own : String} {ret : Option FieldType} {idx pc : Nat} (X : CX p m c cc nL s args own G B κ meth ret) {kc : Nat} {R : Room} {cells slots : Nat} (hRr : RmOK R kc) (hcel : cells ≤ R.cells ∧ slots ≤ R.slots) (hk : 0 + 1 ≤ kc) {M : Mem} {H : Heap} {locs : List Loc} (hR : Rp G e0 α κ B M H) (hS : va_S (fun q => B ≤ q) s.heap H locs) (k1 : Cond.methodLink own idx yX10_thrown ∈ gw) {ls : Array Slot} (hml : ls.size = nL) {rest : List Value} (hd : decode cc pc = .ok (.invokevirtual idx, 3)) (hrest : (rest.map fun v => v.category).sum ≤ 8) {Q : State → Prop} {Qm : Int → Mem → Prop} (hw : wp_X10_thrown M Qm) (kk : ∀ (r : Int) (M1 : Mem) (H1 : Heap) (locs1 : List Loc), Qm r M1 → inR r → Rp G e0 α κ B M1 H1 → va_S (fun q => B ≤ q) s.heap H1 locs1 → W p l e R s m args below meth c H1 locs1 cells slots Q (F0 m (pc + 3) ls (.int (Int32.ofInt r) :: rest))) : W p l e R s m args below meth c H locs cells slots Q (F0 m pc ls (.ref (α 11 0) :: rest)) :=
  sa_callVI 0 (n := 0) (As := []) (rest := rest) X.1 X.2.1 hR hS (m_X10_thrown X.2.2.1 hw) k1 kw_1711 kw_1712 kw_104 kw_1713 ⟨rfl, by decide +kernel, by decide +kernel, by decide +kernel⟩ (rm_ok hRr hk (by decide)) (rc_11 X hR (okf X.2.2.1 rfl)) rfl rfl hrest hml hd hcel kk
def wp_X10_in (p0 : Int) (p1 : Int) (p2 : Int) (M : Mem) (Qm : Int → Mem → Prop) : Prop := (bit (if p0 < p1 then (0 : Int) else (if p2 < p0 then (0 : Int) else 1))) ∧ Qm (if p0 < p1 then (0 : Int) else (if p2 < p0 then (0 : Int) else 1)) M
set_option maxHeartbeats 4000000 in
set_option maxRecDepth 100000 in
theorem t_X10_in {p0 : Int} {p1 : Int} {p2 : Int} (X : CX p m c cX10_in 3 s args RX10 G B κ meth (some .boolean)) (hp0 : inR p0) (hp1 : inR p1) (hp2 : inR p2) {M : Mem} {Qm : Int → Mem → Prop} (hw : wp_X10_in p0 p1 p2 M Qm) (H : Heap) (locs : List Loc) (hR : Rp G e0 α κ B M H) (hS : va_S (fun q => B ≤ q) s.heap H locs) (ls : Array Slot) (hl : lv_has ls 3 [(0, .int (Int32.ofInt p0)), (1, .int (Int32.ofInt p1)), (2, .int (Int32.ofInt p2))]) : WI p l e 0 s m args below meth c G e0 α κ B Qm H locs 0 ls [] := by
  have hw : (bit (if p0 < p1 then (0 : Int) else (if p2 < p0 then (0 : Int) else 1))) ∧ Qm (if p0 < p1 then (0 : Int) else (if p2 < p0 then (0 : Int) else 1)) M := hw
  refine lv_iload_n X.1.1 X.1.2.1 dX10_in_0 rfl (lv_at hl 0 rfl) ?_
  refine lv_iload_n X.1.1 X.1.2.1 dX10_in_1 rfl (lv_at hl 1 rfl) ?_
  have r3 := inR_ite (c := p0 < p1) (inR_c (a := 0) rfl) (inR_ite (c := p2 < p0) (inR_c (a := 0) rfl) (inR_c (a := 1) rfl))
  refine cut_j (A := ∀ v4 : Int, v4 = (if p0 < p1 then (0 : Int) else (if p2 < p0 then (0 : Int) else 1)) → WI p l e 0 s m args below meth c G e0 α κ B Qm H locs 15 ls [.int (Int32.ofInt v4)]) (fun J5 => ?_) ?_
  · refine sa_icmp_lt (tgt := 14) X.1 hp0 hp1 dX10_in_2 (by decide) (fun hc => ?_) (fun hc => ?_)
    · skip
      refine sa_const X.1 dX10_in_14 ?_
      exact J5 (0) (if_pos (c := p0 < p1) hc).symm
    · skip
      refine lv_iload_n X.1.1 X.1.2.1 dX10_in_5 rfl (lv_at hl 0 rfl) ?_
      refine lv_iload_n X.1.1 X.1.2.1 dX10_in_6 rfl (lv_at hl 2 rfl) ?_
      refine cut_j (A := ∀ v1 : Int, v1 = (if p2 < p0 then (0 : Int) else 1) → WI p l e 0 s m args below meth c G e0 α κ B Qm H locs 15 ls [.int (Int32.ofInt v1)]) (fun J2 => ?_) ?_
      · refine sa_icmp_gt (tgt := 14) X.1 hp0 hp2 dX10_in_7 (by decide) (fun hc => ?_) (fun hc => ?_)
        · skip
          refine sa_const X.1 dX10_in_14 ?_
          exact J2 (0) (if_pos (c := p2 < p0) hc).symm
        · skip
          refine sa_const X.1 dX10_in_10 ?_
          refine lv_goto (tgt := 15) X.1.1 X.1.2.1 dX10_in_11 (by decide) ?_
          exact J2 (1) (if_neg (c := p2 < p0) (Int.not_lt.mpr hc)).symm
      intro v1 hv1
      subst hv1
      exact J5 ((if p2 < p0 then (0 : Int) else 1)) (if_neg (c := p0 < p1) (Int.not_lt.mpr hc)).symm
  intro v4 hv4
  subst hv4
  have c6 := hw.1
  have hw := hw.2
  exact sa_zret X.1 X.2.2.2.1 X.2.2.2.2 hR hS c6 hw dX10_in_15
theorem m_X10_in {l : Launch} {G : Gx} {e0 : Nat} {α : Ax} {κ : Nat → Int} {B : Nat} {p0 : Int} {p1 : Int} {p2 : Int} (hκ : kOK κ) (hp0 : inR p0) (hp1 : inR p1) (hp2 : inR p2) {M : Mem} {Qm : Int → Mem → Prop} (hw : wp_X10_in p0 p1 p2 M Qm) : CI l yX10_in (Cond.code yX10_in cX10_in 3 (some .boolean)) 0 G e0 α κ B [.int (Int32.ofInt p0), .int (Int32.ofInt p1), .int (Int32.ofInt p2)] M Qm :=
  CI.mk hκ (by decide +kernel) rfl (Nat.le_of_ble_eq_true rfl) (lv := [(0, .int (Int32.ofInt p0)), (1, .int (Int32.ofInt p1)), (2, .int (Int32.ofInt p2))]) rfl (fun p e s m args below meth c ls X hR hS hl => t_X10_in X hp0 hp1 hp2 hw _ _ hR hS ls hl)
theorem cs_X10_in {cc : ByteArray} {nL : Nat} {own : String} {ret : Option FieldType} {idx pc : Nat} {p0 : Int} {p1 : Int} {p2 : Int} (X : CX p m c cc nL s args own G B κ meth ret) (hp0 : inR p0) (hp1 : inR p1) (hp2 : inR p2) {kc : Nat} {R : Room} {cells slots : Nat} (hRr : RmOK R kc) (hcel : cells ≤ R.cells ∧ slots ≤ R.slots) (hk : 0 + 1 ≤ kc) {M : Mem} {H : Heap} {locs : List Loc} (hR : Rp G e0 α κ B M H) (hS : va_S (fun q => B ≤ q) s.heap H locs) (k1 : Cond.methodLink own idx yX10_in ∈ gw) {ls : Array Slot} (hml : ls.size = nL) {rest : List Value} (hd : decode cc pc = .ok (.invokestatic idx, 3)) (hrest : (rest.map fun v => v.category).sum ≤ 8) {Q : State → Prop} {Qm : Int → Mem → Prop} (hw : wp_X10_in p0 p1 p2 M Qm) (kk : ∀ (r : Int) (M1 : Mem) (H1 : Heap) (locs1 : List Loc), Qm r M1 → inR r → Rp G e0 α κ B M1 H1 → va_S (fun q => B ≤ q) s.heap H1 locs1 → W p l e R s m args below meth c H1 locs1 cells slots Q (F0 m (pc + 3) ls (.int (Int32.ofInt r) :: rest))) : W p l e R s m args below meth c H locs cells slots Q (F0 m pc ls (.int (Int32.ofInt p2) :: .int (Int32.ofInt p1) :: .int (Int32.ofInt p0) :: rest)) :=
  sa_callSI 0 (n := 3) (As := [.int (Int32.ofInt p0), .int (Int32.ofInt p1), .int (Int32.ofInt p2)]) (rest := rest) X.1 X.2.1 hR hS (m_X10_in X.2.2.1 hp0 hp1 hp2 hw) k1 kw_1719 kw_104 kw_1720 ⟨by decide +kernel, by decide +kernel, by decide +kernel⟩ (rm_ok hRr hk (by decide)) rfl rfl hrest hml hd hcel kk
def wp_X10_goes (p1 : Int) (p2 : Int) (p3 : Int) (M : Mem) (Qm : Int → Mem → Prop) : Prop := ∀ M8 : Mem, M8 = up M 11 0 59 (if ¬ p1 = 0 then (if ¬ p2 = 0 then (if p3 = 0 then (3 : Int) else 0) else 2) else 1) → (bit (if ¬ (M8 11 0 59) = 0 then (0 : Int) else 1)) ∧ Qm (if ¬ (M8 11 0 59) = 0 then (0 : Int) else 1) M8
set_option maxHeartbeats 4000000 in
set_option maxRecDepth 100000 in
theorem t_X10_goes {p1 : Int} {p2 : Int} {p3 : Int} (X : CX p m c cX10_goes 4 s args RX10 G B κ meth (some .boolean)) (hp1 : inR p1) (hp2 : inR p2) (hp3 : inR p3) {M : Mem} {Qm : Int → Mem → Prop} (hw : wp_X10_goes p1 p2 p3 M Qm) (H : Heap) (locs : List Loc) (hR : Rp G e0 α κ B M H) (hS : va_S (fun q => B ≤ q) s.heap H locs) (ls : Array Slot) (hl : lv_has ls 4 [(0, .ref (α 11 0)), (1, .int (Int32.ofInt p1)), (2, .int (Int32.ofInt p2)), (3, .int (Int32.ofInt p3))]) : WI p l e 0 s m args below meth c G e0 α κ B Qm H locs 0 ls [] := by
  have hw : ∀ M8 : Mem, M8 = up M 11 0 59 (if ¬ p1 = 0 then (if ¬ p2 = 0 then (if p3 = 0 then (3 : Int) else 0) else 2) else 1) → (bit (if ¬ (M8 11 0 59) = 0 then (0 : Int) else 1)) ∧ Qm (if ¬ (M8 11 0 59) = 0 then (0 : Int) else 1) M8 := hw
  refine lv_aload_n X.1.1 X.1.2.1 dX10_goes_0 rfl (lv_at hl 0 rfl) ?_
  refine lv_iload_n X.1.1 X.1.2.1 dX10_goes_1 rfl (lv_at hl 1 rfl) ?_
  have r5 := inR_ite (c := ¬ p1 = 0) (inR_ite (c := ¬ p2 = 0) (inR_ite (c := p3 = 0) (inR_c (a := 3) rfl) (inR_c (a := 0) rfl)) (inR_c (a := 2) rfl)) (inR_c (a := 1) rfl)
  refine cut_j (A := ∀ v6 : Int, v6 = (if ¬ p1 = 0 then (if ¬ p2 = 0 then (if p3 = 0 then (3 : Int) else 0) else 2) else 1) → WI p l e 0 s m args below meth c G e0 α κ B Qm H locs 26 ls [.int (Int32.ofInt v6), .ref (α 11 0)]) (fun J7 => ?_) ?_
  · refine sa_if_ne (tgt := 9) X.1 hp1 dX10_goes_2 (by decide) (fun hc => ?_) (fun hc => ?_)
    · skip
      refine lv_iload_n X.1.1 X.1.2.1 dX10_goes_9 rfl (lv_at hl 2 rfl) ?_
      refine cut_j (A := ∀ v3 : Int, v3 = (if ¬ p2 = 0 then (if p3 = 0 then (3 : Int) else 0) else 2) → WI p l e 0 s m args below meth c G e0 α κ B Qm H locs 26 ls [.int (Int32.ofInt v3), .ref (α 11 0)]) (fun J4 => ?_) ?_
      · refine sa_if_ne (tgt := 17) X.1 hp2 dX10_goes_10 (by decide) (fun hc => ?_) (fun hc => ?_)
        · skip
          refine lv_iload_n X.1.1 X.1.2.1 dX10_goes_17 rfl (lv_at hl 3 rfl) ?_
          refine cut_j (A := ∀ v1 : Int, v1 = (if p3 = 0 then (3 : Int) else 0) → WI p l e 0 s m args below meth c G e0 α κ B Qm H locs 26 ls [.int (Int32.ofInt v1), .ref (α 11 0)]) (fun J2 => ?_) ?_
          · refine sa_if_eq (tgt := 25) X.1 hp3 dX10_goes_18 (by decide) (fun hc => ?_) (fun hc => ?_)
            · skip
              refine sa_const X.1 dX10_goes_25 ?_
              exact J2 (3) (if_pos (c := p3 = 0) hc).symm
            · skip
              refine sa_const X.1 dX10_goes_21 ?_
              refine lv_goto (tgt := 26) X.1.1 X.1.2.1 dX10_goes_22 (by decide) ?_
              exact J2 (0) (if_neg (c := p3 = 0) hc).symm
          intro v1 hv1
          subst hv1
          exact J4 ((if p3 = 0 then (3 : Int) else 0)) (if_pos (c := ¬ p2 = 0) hc).symm
        · skip
          refine sa_const X.1 dX10_goes_13 ?_
          refine lv_goto (tgt := 26) X.1.1 X.1.2.1 dX10_goes_14 (by decide) ?_
          exact J4 (2) (if_neg (c := ¬ p2 = 0) (fun z => z hc)).symm
      intro v3 hv3
      subst hv3
      exact J7 ((if ¬ p2 = 0 then (if p3 = 0 then (3 : Int) else 0) else 2)) (if_pos (c := ¬ p1 = 0) hc).symm
    · skip
      refine sa_const X.1 dX10_goes_5 ?_
      refine lv_goto (tgt := 26) X.1.1 X.1.2.1 dX10_goes_6 (by decide) ?_
      exact J7 (1) (if_neg (c := ¬ p1 = 0) (fun z => z hc)).symm
  intro v6 hv6
  subst hv6
  refine pt_11_59 X hR hS (okf X.2.2.1 rfl) r5 kw_1588 dX10_goes_26 (fun H locs hR hS => ?_)
  obtain ⟨M8, e9⟩ : ∃ z : Mem, z = up M 11 0 59 (if ¬ p1 = 0 then (if ¬ p2 = 0 then (if p3 = 0 then (3 : Int) else 0) else 2) else 1) := ⟨_, rfl⟩
  rw [← e9] at hR
  have hw := hw M8 e9
  refine lv_aload_n X.1.1 X.1.2.1 dX10_goes_29 rfl (lv_at hl 0 rfl) ?_
  refine gt_11_59 X hR (okf X.2.2.1 rfl) kw_1588 dX10_goes_30 ?_
  have r10 := hR.r 11 0 59
  have r11 := inR_ite (c := ¬ (M8 11 0 59) = 0) (inR_c (a := 0) rfl) (inR_c (a := 1) rfl)
  refine cut_j (A := ∀ v12 : Int, v12 = (if ¬ (M8 11 0 59) = 0 then (0 : Int) else 1) → WI p l e 0 s m args below meth c G e0 α κ B Qm H locs 41 ls [.int (Int32.ofInt v12)]) (fun J13 => ?_) ?_
  · refine sa_if_ne (tgt := 40) X.1 r10 dX10_goes_33 (by decide) (fun hc => ?_) (fun hc => ?_)
    · skip
      refine sa_const X.1 dX10_goes_40 ?_
      exact J13 (0) (if_pos (c := ¬ (M8 11 0 59) = 0) hc).symm
    · skip
      refine sa_const X.1 dX10_goes_36 ?_
      refine lv_goto (tgt := 41) X.1.1 X.1.2.1 dX10_goes_37 (by decide) ?_
      exact J13 (1) (if_neg (c := ¬ (M8 11 0 59) = 0) (fun z => z hc)).symm
  intro v12 hv12
  subst hv12
  have c14 := hw.1
  have hw := hw.2
  exact sa_zret X.1 X.2.2.2.1 X.2.2.2.2 hR hS c14 hw dX10_goes_41
theorem m_X10_goes {l : Launch} {G : Gx} {e0 : Nat} {α : Ax} {κ : Nat → Int} {B : Nat} {p1 : Int} {p2 : Int} {p3 : Int} (hκ : kOK κ) (hp1 : inR p1) (hp2 : inR p2) (hp3 : inR p3) {M : Mem} {Qm : Int → Mem → Prop} (hw : wp_X10_goes p1 p2 p3 M Qm) : CI l yX10_goes (Cond.code yX10_goes cX10_goes 4 (some .boolean)) 0 G e0 α κ B [.ref (α 11 0), .int (Int32.ofInt p1), .int (Int32.ofInt p2), .int (Int32.ofInt p3)] M Qm :=
  CI.mk hκ (by decide +kernel) rfl (Nat.le_of_ble_eq_true rfl) (lv := [(0, .ref (α 11 0)), (1, .int (Int32.ofInt p1)), (2, .int (Int32.ofInt p2)), (3, .int (Int32.ofInt p3))]) rfl (fun p e s m args below meth c ls X hR hS hl => t_X10_goes X hp1 hp2 hp3 hw _ _ hR hS ls hl)
theorem cs_X10_goes {cc : ByteArray} {nL : Nat} {own : String} {ret : Option FieldType} {idx pc : Nat} {p1 : Int} {p2 : Int} {p3 : Int} (X : CX p m c cc nL s args own G B κ meth ret) (hp1 : inR p1) (hp2 : inR p2) (hp3 : inR p3) {kc : Nat} {R : Room} {cells slots : Nat} (hRr : RmOK R kc) (hcel : cells ≤ R.cells ∧ slots ≤ R.slots) (hk : 0 + 1 ≤ kc) {M : Mem} {H : Heap} {locs : List Loc} (hR : Rp G e0 α κ B M H) (hS : va_S (fun q => B ≤ q) s.heap H locs) (k1 : Cond.methodLink own idx yX10_goes ∈ gw) {ls : Array Slot} (hml : ls.size = nL) {rest : List Value} (hd : decode cc pc = .ok (.invokevirtual idx, 3)) (hrest : (rest.map fun v => v.category).sum ≤ 8) {Q : State → Prop} {Qm : Int → Mem → Prop} (hw : wp_X10_goes p1 p2 p3 M Qm) (kk : ∀ (r : Int) (M1 : Mem) (H1 : Heap) (locs1 : List Loc), Qm r M1 → inR r → Rp G e0 α κ B M1 H1 → va_S (fun q => B ≤ q) s.heap H1 locs1 → W p l e R s m args below meth c H1 locs1 cells slots Q (F0 m (pc + 3) ls (.int (Int32.ofInt r) :: rest))) : W p l e R s m args below meth c H locs cells slots Q (F0 m pc ls (.int (Int32.ofInt p3) :: .int (Int32.ofInt p2) :: .int (Int32.ofInt p1) :: .ref (α 11 0) :: rest)) :=
  sa_callVI 0 (n := 3) (As := [.int (Int32.ofInt p1), .int (Int32.ofInt p2), .int (Int32.ofInt p3)]) (rest := rest) X.1 X.2.1 hR hS (m_X10_goes X.2.2.1 hp1 hp2 hp3 hw) k1 kw_1723 kw_42 kw_104 kw_1724 ⟨rfl, by decide +kernel, by decide +kernel, by decide +kernel⟩ (rm_ok hRr hk (by decide)) (rc_11 X hR (okf X.2.2.1 rfl)) rfl rfl hrest hml hd hcel kk
def wp_X10_isColumn (p1 : Int) (M : Mem) (Qm : Int → Mem → Prop) : Prop := (inR ((M 11 0 4) - 1)) ∧ wp_X10_in p1 0 ((M 11 0 4) - 1) M fun (x4 : Int) (M3 : Mem) => (bit x4) ∧ Qm x4 M3
set_option maxHeartbeats 4000000 in
set_option maxRecDepth 100000 in
theorem t_X10_isColumn {p1 : Int} (X : CX p m c cX10_isColumn 2 s args RX10 G B κ meth (some .boolean)) (hp1 : inR p1) {M : Mem} {Qm : Int → Mem → Prop} (hw : wp_X10_isColumn p1 M Qm) (H : Heap) (locs : List Loc) (hR : Rp G e0 α κ B M H) (hS : va_S (fun q => B ≤ q) s.heap H locs) (ls : Array Slot) (hl : lv_has ls 2 [(0, .ref (α 11 0)), (1, .int (Int32.ofInt p1))]) : WI p l e 1 s m args below meth c G e0 α κ B Qm H locs 0 ls [] := by
  have hw : (inR ((M 11 0 4) - 1)) ∧ wp_X10_in p1 0 ((M 11 0 4) - 1) M fun (x4 : Int) (M3 : Mem) => (bit x4) ∧ Qm x4 M3 := hw
  refine lv_iload_n X.1.1 X.1.2.1 dX10_isColumn_0 rfl (lv_at hl 1 rfl) ?_
  refine sa_const X.1 dX10_isColumn_1 ?_
  refine lv_aload_n X.1.1 X.1.2.1 dX10_isColumn_2 rfl (lv_at hl 0 rfl) ?_
  refine gt_11_4 X hR (okf X.2.2.1 rfl) kw_1533 dX10_isColumn_3 ?_
  have r1 := hR.r 11 0 4
  refine sa_const X.1 dX10_isColumn_6 ?_
  have c2 := hw.1
  have hw := hw.2
  refine sa_isub X.1 dX10_isColumn_7 ?_
  refine cs_X10_in X hp1 (inR_c (a := 0) rfl) c2 (kc := 1) rmL_ok rm_c (by decide) hR hS kw_1718 hl.1 dX10_isColumn_8 (Nat.le_of_ble_eq_true rfl) hw (fun x4 M3 H locs hw r5 hR hS => ?_)
  have c6 := hw.1
  have hw := hw.2
  exact sa_zret X.1 X.2.2.2.1 X.2.2.2.2 hR hS c6 hw dX10_isColumn_11
theorem m_X10_isColumn {l : Launch} {G : Gx} {e0 : Nat} {α : Ax} {κ : Nat → Int} {B : Nat} {p1 : Int} (hκ : kOK κ) (hp1 : inR p1) {M : Mem} {Qm : Int → Mem → Prop} (hw : wp_X10_isColumn p1 M Qm) : CI l yX10_isColumn (Cond.code yX10_isColumn cX10_isColumn 2 (some .boolean)) 1 G e0 α κ B [.ref (α 11 0), .int (Int32.ofInt p1)] M Qm :=
  CI.mk hκ (by decide +kernel) rfl (Nat.le_of_ble_eq_true rfl) (lv := [(0, .ref (α 11 0)), (1, .int (Int32.ofInt p1))]) rfl (fun p e s m args below meth c ls X hR hS hl => t_X10_isColumn X hp1 hw _ _ hR hS ls hl)
theorem cs_X10_isColumn {cc : ByteArray} {nL : Nat} {own : String} {ret : Option FieldType} {idx pc : Nat} {p1 : Int} (X : CX p m c cc nL s args own G B κ meth ret) (hp1 : inR p1) {kc : Nat} {R : Room} {cells slots : Nat} (hRr : RmOK R kc) (hcel : cells ≤ R.cells ∧ slots ≤ R.slots) (hk : 1 + 1 ≤ kc) {M : Mem} {H : Heap} {locs : List Loc} (hR : Rp G e0 α κ B M H) (hS : va_S (fun q => B ≤ q) s.heap H locs) (k1 : Cond.methodLink own idx yX10_isColumn ∈ gw) {ls : Array Slot} (hml : ls.size = nL) {rest : List Value} (hd : decode cc pc = .ok (.invokevirtual idx, 3)) (hrest : (rest.map fun v => v.category).sum ≤ 8) {Q : State → Prop} {Qm : Int → Mem → Prop} (hw : wp_X10_isColumn p1 M Qm) (kk : ∀ (r : Int) (M1 : Mem) (H1 : Heap) (locs1 : List Loc), Qm r M1 → inR r → Rp G e0 α κ B M1 H1 → va_S (fun q => B ≤ q) s.heap H1 locs1 → W p l e R s m args below meth c H1 locs1 cells slots Q (F0 m (pc + 3) ls (.int (Int32.ofInt r) :: rest))) : W p l e R s m args below meth c H locs cells slots Q (F0 m pc ls (.int (Int32.ofInt p1) :: .ref (α 11 0) :: rest)) :=
  sa_callVI 1 (n := 1) (As := [.int (Int32.ofInt p1)]) (rest := rest) X.1 X.2.1 hR hS (m_X10_isColumn X.2.2.1 hp1 hw) k1 kw_1739 kw_44 kw_104 kw_1740 ⟨rfl, by decide +kernel, by decide +kernel, by decide +kernel⟩ (rm_ok hRr hk (by decide)) (rc_11 X hR (okf X.2.2.1 rfl)) rfl rfl hrest hml hd hcel kk
def wp_X10_isRow (p1 : Int) (M : Mem) (Qm : Int → Mem → Prop) : Prop := (inR ((M 11 0 8) - 1)) ∧ wp_X10_in p1 0 ((M 11 0 8) - 1) M fun (x4 : Int) (M3 : Mem) => (bit x4) ∧ Qm x4 M3
set_option maxHeartbeats 4000000 in
set_option maxRecDepth 100000 in
theorem t_X10_isRow {p1 : Int} (X : CX p m c cX10_isRow 2 s args RX10 G B κ meth (some .boolean)) (hp1 : inR p1) {M : Mem} {Qm : Int → Mem → Prop} (hw : wp_X10_isRow p1 M Qm) (H : Heap) (locs : List Loc) (hR : Rp G e0 α κ B M H) (hS : va_S (fun q => B ≤ q) s.heap H locs) (ls : Array Slot) (hl : lv_has ls 2 [(0, .ref (α 11 0)), (1, .int (Int32.ofInt p1))]) : WI p l e 1 s m args below meth c G e0 α κ B Qm H locs 0 ls [] := by
  have hw : (inR ((M 11 0 8) - 1)) ∧ wp_X10_in p1 0 ((M 11 0 8) - 1) M fun (x4 : Int) (M3 : Mem) => (bit x4) ∧ Qm x4 M3 := hw
  refine lv_iload_n X.1.1 X.1.2.1 dX10_isRow_0 rfl (lv_at hl 1 rfl) ?_
  refine sa_const X.1 dX10_isRow_1 ?_
  refine lv_aload_n X.1.1 X.1.2.1 dX10_isRow_2 rfl (lv_at hl 0 rfl) ?_
  refine gt_11_8 X hR (okf X.2.2.1 rfl) kw_1537 dX10_isRow_3 ?_
  have r1 := hR.r 11 0 8
  refine sa_const X.1 dX10_isRow_6 ?_
  have c2 := hw.1
  have hw := hw.2
  refine sa_isub X.1 dX10_isRow_7 ?_
  refine cs_X10_in X hp1 (inR_c (a := 0) rfl) c2 (kc := 1) rmL_ok rm_c (by decide) hR hS kw_1718 hl.1 dX10_isRow_8 (Nat.le_of_ble_eq_true rfl) hw (fun x4 M3 H locs hw r5 hR hS => ?_)
  have c6 := hw.1
  have hw := hw.2
  exact sa_zret X.1 X.2.2.2.1 X.2.2.2.2 hR hS c6 hw dX10_isRow_11
theorem m_X10_isRow {l : Launch} {G : Gx} {e0 : Nat} {α : Ax} {κ : Nat → Int} {B : Nat} {p1 : Int} (hκ : kOK κ) (hp1 : inR p1) {M : Mem} {Qm : Int → Mem → Prop} (hw : wp_X10_isRow p1 M Qm) : CI l yX10_isRow (Cond.code yX10_isRow cX10_isRow 2 (some .boolean)) 1 G e0 α κ B [.ref (α 11 0), .int (Int32.ofInt p1)] M Qm :=
  CI.mk hκ (by decide +kernel) rfl (Nat.le_of_ble_eq_true rfl) (lv := [(0, .ref (α 11 0)), (1, .int (Int32.ofInt p1))]) rfl (fun p e s m args below meth c ls X hR hS hl => t_X10_isRow X hp1 hw _ _ hR hS ls hl)
theorem cs_X10_isRow {cc : ByteArray} {nL : Nat} {own : String} {ret : Option FieldType} {idx pc : Nat} {p1 : Int} (X : CX p m c cc nL s args own G B κ meth ret) (hp1 : inR p1) {kc : Nat} {R : Room} {cells slots : Nat} (hRr : RmOK R kc) (hcel : cells ≤ R.cells ∧ slots ≤ R.slots) (hk : 1 + 1 ≤ kc) {M : Mem} {H : Heap} {locs : List Loc} (hR : Rp G e0 α κ B M H) (hS : va_S (fun q => B ≤ q) s.heap H locs) (k1 : Cond.methodLink own idx yX10_isRow ∈ gw) {ls : Array Slot} (hml : ls.size = nL) {rest : List Value} (hd : decode cc pc = .ok (.invokevirtual idx, 3)) (hrest : (rest.map fun v => v.category).sum ≤ 8) {Q : State → Prop} {Qm : Int → Mem → Prop} (hw : wp_X10_isRow p1 M Qm) (kk : ∀ (r : Int) (M1 : Mem) (H1 : Heap) (locs1 : List Loc), Qm r M1 → inR r → Rp G e0 α κ B M1 H1 → va_S (fun q => B ≤ q) s.heap H1 locs1 → W p l e R s m args below meth c H1 locs1 cells slots Q (F0 m (pc + 3) ls (.int (Int32.ofInt r) :: rest))) : W p l e R s m args below meth c H locs cells slots Q (F0 m pc ls (.int (Int32.ofInt p1) :: .ref (α 11 0) :: rest)) :=
  sa_callVI 1 (n := 1) (As := [.int (Int32.ofInt p1)]) (rest := rest) X.1 X.2.1 hR hS (m_X10_isRow X.2.2.1 hp1 hw) k1 kw_1735 kw_43 kw_104 kw_1736 ⟨rfl, by decide +kernel, by decide +kernel, by decide +kernel⟩ (rm_ok hRr hk (by decide)) (rc_11 X hR (okf X.2.2.1 rfl)) rfl rfl hrest hml hd hcel kk
def wp_X10_isCell (p1 : Int) (M : Mem) (Qm : Int → Mem → Prop) : Prop := (inR ((M 11 0 15) - 1)) ∧ wp_X10_in p1 0 ((M 11 0 15) - 1) M fun (x4 : Int) (M3 : Mem) => (bit x4) ∧ Qm x4 M3
set_option maxHeartbeats 4000000 in
set_option maxRecDepth 100000 in
theorem t_X10_isCell {p1 : Int} (X : CX p m c cX10_isCell 2 s args RX10 G B κ meth (some .boolean)) (hp1 : inR p1) {M : Mem} {Qm : Int → Mem → Prop} (hw : wp_X10_isCell p1 M Qm) (H : Heap) (locs : List Loc) (hR : Rp G e0 α κ B M H) (hS : va_S (fun q => B ≤ q) s.heap H locs) (ls : Array Slot) (hl : lv_has ls 2 [(0, .ref (α 11 0)), (1, .int (Int32.ofInt p1))]) : WI p l e 1 s m args below meth c G e0 α κ B Qm H locs 0 ls [] := by
  have hw : (inR ((M 11 0 15) - 1)) ∧ wp_X10_in p1 0 ((M 11 0 15) - 1) M fun (x4 : Int) (M3 : Mem) => (bit x4) ∧ Qm x4 M3 := hw
  refine lv_iload_n X.1.1 X.1.2.1 dX10_isCell_0 rfl (lv_at hl 1 rfl) ?_
  refine sa_const X.1 dX10_isCell_1 ?_
  refine lv_aload_n X.1.1 X.1.2.1 dX10_isCell_2 rfl (lv_at hl 0 rfl) ?_
  refine gt_11_15 X hR (okf X.2.2.1 rfl) kw_1544 dX10_isCell_3 ?_
  have r1 := hR.r 11 0 15
  refine sa_const X.1 dX10_isCell_6 ?_
  have c2 := hw.1
  have hw := hw.2
  refine sa_isub X.1 dX10_isCell_7 ?_
  refine cs_X10_in X hp1 (inR_c (a := 0) rfl) c2 (kc := 1) rmL_ok rm_c (by decide) hR hS kw_1718 hl.1 dX10_isCell_8 (Nat.le_of_ble_eq_true rfl) hw (fun x4 M3 H locs hw r5 hR hS => ?_)
  have c6 := hw.1
  have hw := hw.2
  exact sa_zret X.1 X.2.2.2.1 X.2.2.2.2 hR hS c6 hw dX10_isCell_11
theorem m_X10_isCell {l : Launch} {G : Gx} {e0 : Nat} {α : Ax} {κ : Nat → Int} {B : Nat} {p1 : Int} (hκ : kOK κ) (hp1 : inR p1) {M : Mem} {Qm : Int → Mem → Prop} (hw : wp_X10_isCell p1 M Qm) : CI l yX10_isCell (Cond.code yX10_isCell cX10_isCell 2 (some .boolean)) 1 G e0 α κ B [.ref (α 11 0), .int (Int32.ofInt p1)] M Qm :=
  CI.mk hκ (by decide +kernel) rfl (Nat.le_of_ble_eq_true rfl) (lv := [(0, .ref (α 11 0)), (1, .int (Int32.ofInt p1))]) rfl (fun p e s m args below meth c ls X hR hS hl => t_X10_isCell X hp1 hw _ _ hR hS ls hl)
theorem cs_X10_isCell {cc : ByteArray} {nL : Nat} {own : String} {ret : Option FieldType} {idx pc : Nat} {p1 : Int} (X : CX p m c cc nL s args own G B κ meth ret) (hp1 : inR p1) {kc : Nat} {R : Room} {cells slots : Nat} (hRr : RmOK R kc) (hcel : cells ≤ R.cells ∧ slots ≤ R.slots) (hk : 1 + 1 ≤ kc) {M : Mem} {H : Heap} {locs : List Loc} (hR : Rp G e0 α κ B M H) (hS : va_S (fun q => B ≤ q) s.heap H locs) (k1 : Cond.methodLink own idx yX10_isCell ∈ gw) {ls : Array Slot} (hml : ls.size = nL) {rest : List Value} (hd : decode cc pc = .ok (.invokevirtual idx, 3)) (hrest : (rest.map fun v => v.category).sum ≤ 8) {Q : State → Prop} {Qm : Int → Mem → Prop} (hw : wp_X10_isCell p1 M Qm) (kk : ∀ (r : Int) (M1 : Mem) (H1 : Heap) (locs1 : List Loc), Qm r M1 → inR r → Rp G e0 α κ B M1 H1 → va_S (fun q => B ≤ q) s.heap H1 locs1 → W p l e R s m args below meth c H1 locs1 cells slots Q (F0 m (pc + 3) ls (.int (Int32.ofInt r) :: rest))) : W p l e R s m args below meth c H locs cells slots Q (F0 m pc ls (.int (Int32.ofInt p1) :: .ref (α 11 0) :: rest)) :=
  sa_callVI 1 (n := 1) (As := [.int (Int32.ofInt p1)]) (rest := rest) X.1 X.2.1 hR hS (m_X10_isCell X.2.2.1 hp1 hw) k1 kw_1755 kw_47 kw_104 kw_1756 ⟨rfl, by decide +kernel, by decide +kernel, by decide +kernel⟩ (rm_ok hRr hk (by decide)) (rc_11 X hR (okf X.2.2.1 rfl)) rfl rfl hrest hml hd hcel kk
def wp_X10_column_24 (p1 : Int) (p2 : Int) (Qm : Int → Mem → Prop) (M : Mem) : Prop := wp_X10_goes 0 (if 6 ≤ (M 11 0 4) then (0 : Int) else (if ¬ (M 11 0 8) = 0 then (0 : Int) else 1)) 1 M fun (x11 : Int) (M10 : Mem) => ((¬ x11 = 0 → (0 ≤ (M10 11 0 4) ∧ (M10 11 0 4) < 6) ∧ ∀ M15 : Mem, M15 = up M10 56 0 (M10 11 0 4) p1 → (0 ≤ (M15 11 0 4) ∧ (M15 11 0 4) < 6) ∧ ∀ M19 : Mem, M19 = up M15 57 0 (M15 11 0 4) p2 → (inR ((M19 11 0 4) + 1)) ∧ ∀ M23 : Mem, M23 = up M19 11 0 4 ((M19 11 0 4) + 1) → (inR ((M23 11 0 4) - 1)) ∧ Qm ((M23 11 0 4) - 1) M23) ∧ (x11 = 0 → Qm 0 M10))
def wp_X10_column (p1 : Int) (p2 : Int) (M : Mem) (Qm : Int → Mem → Prop) : Prop := wp_X10_in p1 0 2 M fun (x2 : Int) (M1 : Mem) => ((x2 = 0 → wp_X10_column_24 p1 p2 Qm M1) ∧ (¬ x2 = 0 → wp_X10_in p2 1 60 M1 fun (x28 : Int) (M27 : Mem) => wp_X10_goes (if x28 = 0 then (0 : Int) else 1) (if 6 ≤ (M27 11 0 4) then (0 : Int) else (if ¬ (M27 11 0 8) = 0 then (0 : Int) else 1)) 1 M27 fun (x40 : Int) (M39 : Mem) => ((¬ x40 = 0 → (0 ≤ (M39 11 0 4) ∧ (M39 11 0 4) < 6) ∧ ∀ M44 : Mem, M44 = up M39 56 0 (M39 11 0 4) p1 → (0 ≤ (M44 11 0 4) ∧ (M44 11 0 4) < 6) ∧ ∀ M48 : Mem, M48 = up M44 57 0 (M44 11 0 4) p2 → (inR ((M48 11 0 4) + 1)) ∧ ∀ M52 : Mem, M52 = up M48 11 0 4 ((M48 11 0 4) + 1) → (inR ((M52 11 0 4) - 1)) ∧ Qm ((M52 11 0 4) - 1) M52) ∧ (x40 = 0 → Qm 0 M39))))
set_option maxHeartbeats 4000000 in
set_option maxRecDepth 100000 in
theorem t_X10_column_24 {p1 : Int} {p2 : Int} (X : CX p m c cX10_column 3 s args RX10 G B κ meth (some .int)) (hp1 : inR p1) (hp2 : inR p2) {Qm : Int → Mem → Prop} : ∀ M : Mem, wp_X10_column_24 p1 p2 Qm M → ∀ (H : Heap) (locs : List Loc), Rp G e0 α κ B M H → va_S (fun q => B ≤ q) s.heap H locs → ∀ (ls : Array Slot), lv_has ls 3 [(0, .ref (α 11 0)), (1, .int (Int32.ofInt p1)), (2, .int (Int32.ofInt p2))] → WI p l e 1 s m args below meth c G e0 α κ B Qm H locs 24 ls [.ref (α 11 0)] := by
  intro M hw H locs hR hS ls hl
  have hw : wp_X10_goes 0 (if 6 ≤ (M 11 0 4) then (0 : Int) else (if ¬ (M 11 0 8) = 0 then (0 : Int) else 1)) 1 M fun (x11 : Int) (M10 : Mem) => ((¬ x11 = 0 → (0 ≤ (M10 11 0 4) ∧ (M10 11 0 4) < 6) ∧ ∀ M15 : Mem, M15 = up M10 56 0 (M10 11 0 4) p1 → (0 ≤ (M15 11 0 4) ∧ (M15 11 0 4) < 6) ∧ ∀ M19 : Mem, M19 = up M15 57 0 (M15 11 0 4) p2 → (inR ((M19 11 0 4) + 1)) ∧ ∀ M23 : Mem, M23 = up M19 11 0 4 ((M19 11 0 4) + 1) → (inR ((M23 11 0 4) - 1)) ∧ Qm ((M23 11 0 4) - 1) M23) ∧ (x11 = 0 → Qm 0 M10)) := hw
  refine sa_const X.1 dX10_column_24 ?_
  refine lv_aload_n X.1.1 X.1.2.1 dX10_column_25 rfl (lv_at hl 0 rfl) ?_
  refine gt_11_4 X hR (okf X.2.2.1 rfl) kw_1533 dX10_column_26 ?_
  have r4 := hR.r 11 0 4
  refine sa_bipush X.1 dX10_column_29 (by decide) ?_
  have r7 := inR_ite (c := 6 ≤ (M 11 0 4)) (inR_c (a := 0) rfl) (inR_ite (c := ¬ (M 11 0 8) = 0) (inR_c (a := 0) rfl) (inR_c (a := 1) rfl))
  refine cut_j (A := ∀ v8 : Int, v8 = (if 6 ≤ (M 11 0 4) then (0 : Int) else (if ¬ (M 11 0 8) = 0 then (0 : Int) else 1)) → WI p l e 1 s m args below meth c G e0 α κ B Qm H locs 46 ls [.int (Int32.ofInt v8), .int (Int32.ofInt 0), .ref (α 11 0)]) (fun J9 => ?_) ?_
  · refine sa_icmp_ge (tgt := 45) X.1 r4 (inR_c (a := 6) rfl) dX10_column_31 (by decide) (fun hc => ?_) (fun hc => ?_)
    · skip
      refine sa_const X.1 dX10_column_45 ?_
      exact J9 (0) (if_pos (c := 6 ≤ (M 11 0 4)) hc).symm
    · skip
      refine lv_aload_n X.1.1 X.1.2.1 dX10_column_34 rfl (lv_at hl 0 rfl) ?_
      refine gt_11_8 X hR (okf X.2.2.1 rfl) kw_1537 dX10_column_35 ?_
      refine cut_j (A := ∀ v5 : Int, v5 = (if ¬ (M 11 0 8) = 0 then (0 : Int) else 1) → WI p l e 1 s m args below meth c G e0 α κ B Qm H locs 46 ls [.int (Int32.ofInt v5), .int (Int32.ofInt 0), .ref (α 11 0)]) (fun J6 => ?_) ?_
      · refine sa_if_ne (tgt := 45) X.1 (hR.r 11 0 8) dX10_column_38 (by decide) (fun hc => ?_) (fun hc => ?_)
        · skip
          refine sa_const X.1 dX10_column_45 ?_
          exact J6 (0) (if_pos (c := ¬ (M 11 0 8) = 0) hc).symm
        · skip
          refine sa_const X.1 dX10_column_41 ?_
          refine lv_goto (tgt := 46) X.1.1 X.1.2.1 dX10_column_42 (by decide) ?_
          exact J6 (1) (if_neg (c := ¬ (M 11 0 8) = 0) (fun z => z hc)).symm
      intro v5 hv5
      subst hv5
      exact J9 ((if ¬ (M 11 0 8) = 0 then (0 : Int) else 1)) (if_neg (c := 6 ≤ (M 11 0 4)) (Int.not_le.mpr hc)).symm
  intro v8 hv8
  subst hv8
  refine sa_const X.1 dX10_column_46 ?_
  refine cs_X10_goes X (inR_c (a := 0) rfl) r7 (inR_c (a := 1) rfl) (kc := 1) rmL_ok rm_c (by decide) hR hS kw_1721 hl.1 dX10_column_47 (Nat.le_of_ble_eq_true rfl) hw (fun x11 M10 H locs hw r12 hR hS => ?_)
  refine sa_if_ne (tgt := 55) X.1 r12 dX10_column_50 (by decide) (fun hc => ?_) (fun hc => ?_)
  · have hw := hw.1 hc
    refine lv_aload_n X.1.1 X.1.2.1 dX10_column_55 rfl (lv_at hl 0 rfl) ?_
    refine gt_11_0 X hR (okf X.2.2.1 rfl) kw_1529 dX10_column_56 ?_
    refine lv_aload_n X.1.1 X.1.2.1 dX10_column_59 rfl (lv_at hl 0 rfl) ?_
    refine gt_11_4 X hR (okf X.2.2.1 rfl) kw_1533 dX10_column_60 ?_
    have r13 := hR.r 11 0 4
    refine lv_iload_n X.1.1 X.1.2.1 dX10_column_63 rfl (lv_at hl 1 rfl) ?_
    have c14 := hw.1
    have hw := hw.2
    refine wa_56 X hR hS (okf X.2.2.1 rfl) c14 hp1 dX10_column_64 (fun H locs hR hS => ?_)
    obtain ⟨M15, e16⟩ : ∃ z : Mem, z = up M10 56 0 (M10 11 0 4) p1 := ⟨_, rfl⟩
    rw [← e16] at hR
    have hw := hw M15 e16
    refine lv_aload_n X.1.1 X.1.2.1 dX10_column_65 rfl (lv_at hl 0 rfl) ?_
    refine gt_11_1 X hR (okf X.2.2.1 rfl) kw_1530 dX10_column_66 ?_
    refine lv_aload_n X.1.1 X.1.2.1 dX10_column_69 rfl (lv_at hl 0 rfl) ?_
    refine gt_11_4 X hR (okf X.2.2.1 rfl) kw_1533 dX10_column_70 ?_
    have r17 := hR.r 11 0 4
    refine lv_iload_n X.1.1 X.1.2.1 dX10_column_73 rfl (lv_at hl 2 rfl) ?_
    have c18 := hw.1
    have hw := hw.2
    refine wa_57 X hR hS (okf X.2.2.1 rfl) c18 hp2 dX10_column_74 (fun H locs hR hS => ?_)
    obtain ⟨M19, e20⟩ : ∃ z : Mem, z = up M15 57 0 (M15 11 0 4) p2 := ⟨_, rfl⟩
    rw [← e20] at hR
    have hw := hw M19 e20
    refine lv_aload_n X.1.1 X.1.2.1 dX10_column_75 rfl (lv_at hl 0 rfl) ?_
    refine lv_dup X.1.1 X.1.2.1 dX10_column_76 rfl ?_
    refine gt_11_4 X hR (okf X.2.2.1 rfl) kw_1533 dX10_column_77 ?_
    have r21 := hR.r 11 0 4
    refine sa_const X.1 dX10_column_80 ?_
    have c22 := hw.1
    have hw := hw.2
    refine sa_iadd X.1 dX10_column_81 ?_
    refine pt_11_4 X hR hS (okf X.2.2.1 rfl) c22 kw_1533 dX10_column_82 (fun H locs hR hS => ?_)
    obtain ⟨M23, e24⟩ : ∃ z : Mem, z = up M19 11 0 4 ((M19 11 0 4) + 1) := ⟨_, rfl⟩
    rw [← e24] at hR
    have hw := hw M23 e24
    refine lv_aload_n X.1.1 X.1.2.1 dX10_column_85 rfl (lv_at hl 0 rfl) ?_
    refine gt_11_4 X hR (okf X.2.2.1 rfl) kw_1533 dX10_column_86 ?_
    have r25 := hR.r 11 0 4
    refine sa_const X.1 dX10_column_89 ?_
    have c26 := hw.1
    have hw := hw.2
    refine sa_isub X.1 dX10_column_90 ?_
    exact sa_iret X.1 X.2.2.2.1 X.2.2.2.2 hR hS c26 hw dX10_column_91
  · have hw := hw.2 hc
    refine sa_const X.1 dX10_column_53 ?_
    exact sa_iret X.1 X.2.2.2.1 X.2.2.2.2 hR hS (inR_c (a := 0) rfl) hw dX10_column_54
set_option maxHeartbeats 4000000 in
set_option maxRecDepth 100000 in
theorem t_X10_column {p1 : Int} {p2 : Int} (X : CX p m c cX10_column 3 s args RX10 G B κ meth (some .int)) (hp1 : inR p1) (hp2 : inR p2) {M : Mem} {Qm : Int → Mem → Prop} (hw : wp_X10_column p1 p2 M Qm) (H : Heap) (locs : List Loc) (hR : Rp G e0 α κ B M H) (hS : va_S (fun q => B ≤ q) s.heap H locs) (ls : Array Slot) (hl : lv_has ls 3 [(0, .ref (α 11 0)), (1, .int (Int32.ofInt p1)), (2, .int (Int32.ofInt p2))]) : WI p l e 1 s m args below meth c G e0 α κ B Qm H locs 0 ls [] := by
  have hw : wp_X10_in p1 0 2 M fun (x2 : Int) (M1 : Mem) => ((x2 = 0 → wp_X10_column_24 p1 p2 Qm M1) ∧ (¬ x2 = 0 → wp_X10_in p2 1 60 M1 fun (x28 : Int) (M27 : Mem) => wp_X10_goes (if x28 = 0 then (0 : Int) else 1) (if 6 ≤ (M27 11 0 4) then (0 : Int) else (if ¬ (M27 11 0 8) = 0 then (0 : Int) else 1)) 1 M27 fun (x40 : Int) (M39 : Mem) => ((¬ x40 = 0 → (0 ≤ (M39 11 0 4) ∧ (M39 11 0 4) < 6) ∧ ∀ M44 : Mem, M44 = up M39 56 0 (M39 11 0 4) p1 → (0 ≤ (M44 11 0 4) ∧ (M44 11 0 4) < 6) ∧ ∀ M48 : Mem, M48 = up M44 57 0 (M44 11 0 4) p2 → (inR ((M48 11 0 4) + 1)) ∧ ∀ M52 : Mem, M52 = up M48 11 0 4 ((M48 11 0 4) + 1) → (inR ((M52 11 0 4) - 1)) ∧ Qm ((M52 11 0 4) - 1) M52) ∧ (x40 = 0 → Qm 0 M39)))) := hw
  refine lv_aload_n X.1.1 X.1.2.1 dX10_column_0 rfl (lv_at hl 0 rfl) ?_
  refine lv_iload_n X.1.1 X.1.2.1 dX10_column_1 rfl (lv_at hl 1 rfl) ?_
  refine sa_const X.1 dX10_column_2 ?_
  refine sa_const X.1 dX10_column_3 ?_
  refine cs_X10_in X hp1 (inR_c (a := 0) rfl) (inR_c (a := 2) rfl) (kc := 1) rmL_ok rm_c (by decide) hR hS kw_1718 hl.1 dX10_column_4 (Nat.le_of_ble_eq_true rfl) hw (fun x2 M1 H locs hw r3 hR hS => ?_)
  refine sa_if_eq (tgt := 24) X.1 r3 dX10_column_7 (by decide) (fun hc => ?_) (fun hc => ?_)
  · have hw := hw.1 hc
    exact t_X10_column_24 X hp1 hp2 _ hw _ _ hR hS _ (lv_sub hl [0, 1, 2] rfl)
  · have hw := hw.2 hc
    refine lv_iload_n X.1.1 X.1.2.1 dX10_column_10 rfl (lv_at hl 2 rfl) ?_
    refine sa_const X.1 dX10_column_11 ?_
    refine sa_bipush X.1 dX10_column_12 (by decide) ?_
    refine cs_X10_in X hp2 (inR_c (a := 1) rfl) (inR_c (a := 60) rfl) (kc := 1) rmL_ok rm_c (by decide) hR hS kw_1718 hl.1 dX10_column_14 (Nat.le_of_ble_eq_true rfl) hw (fun x28 M27 H locs hw r29 hR hS => ?_)
    have r30 := inR_ite (c := x28 = 0) (inR_c (a := 0) rfl) (inR_c (a := 1) rfl)
    refine cut_j (A := ∀ v31 : Int, v31 = (if x28 = 0 then (0 : Int) else 1) → WI p l e 1 s m args below meth c G e0 α κ B Qm H locs 25 ls [.int (Int32.ofInt v31), .ref (α 11 0)]) (fun J32 => ?_) ?_
    · refine sa_if_eq (tgt := 24) X.1 r29 dX10_column_17 (by decide) (fun hc => ?_) (fun hc => ?_)
      · skip
        refine sa_const X.1 dX10_column_24 ?_
        exact J32 (0) (if_pos (c := x28 = 0) hc).symm
      · skip
        refine sa_const X.1 dX10_column_20 ?_
        refine lv_goto (tgt := 25) X.1.1 X.1.2.1 dX10_column_21 (by decide) ?_
        exact J32 (1) (if_neg (c := x28 = 0) hc).symm
    intro v31 hv31
    subst hv31
    refine lv_aload_n X.1.1 X.1.2.1 dX10_column_25 rfl (lv_at hl 0 rfl) ?_
    refine gt_11_4 X hR (okf X.2.2.1 rfl) kw_1533 dX10_column_26 ?_
    have r33 := hR.r 11 0 4
    refine sa_bipush X.1 dX10_column_29 (by decide) ?_
    have r36 := inR_ite (c := 6 ≤ (M27 11 0 4)) (inR_c (a := 0) rfl) (inR_ite (c := ¬ (M27 11 0 8) = 0) (inR_c (a := 0) rfl) (inR_c (a := 1) rfl))
    refine cut_j (A := ∀ v37 : Int, v37 = (if 6 ≤ (M27 11 0 4) then (0 : Int) else (if ¬ (M27 11 0 8) = 0 then (0 : Int) else 1)) → WI p l e 1 s m args below meth c G e0 α κ B Qm H locs 46 ls [.int (Int32.ofInt v37), .int (Int32.ofInt (if x28 = 0 then (0 : Int) else 1)), .ref (α 11 0)]) (fun J38 => ?_) ?_
    · refine sa_icmp_ge (tgt := 45) X.1 r33 (inR_c (a := 6) rfl) dX10_column_31 (by decide) (fun hc => ?_) (fun hc => ?_)
      · skip
        refine sa_const X.1 dX10_column_45 ?_
        exact J38 (0) (if_pos (c := 6 ≤ (M27 11 0 4)) hc).symm
      · skip
        refine lv_aload_n X.1.1 X.1.2.1 dX10_column_34 rfl (lv_at hl 0 rfl) ?_
        refine gt_11_8 X hR (okf X.2.2.1 rfl) kw_1537 dX10_column_35 ?_
        refine cut_j (A := ∀ v34 : Int, v34 = (if ¬ (M27 11 0 8) = 0 then (0 : Int) else 1) → WI p l e 1 s m args below meth c G e0 α κ B Qm H locs 46 ls [.int (Int32.ofInt v34), .int (Int32.ofInt (if x28 = 0 then (0 : Int) else 1)), .ref (α 11 0)]) (fun J35 => ?_) ?_
        · refine sa_if_ne (tgt := 45) X.1 (hR.r 11 0 8) dX10_column_38 (by decide) (fun hc => ?_) (fun hc => ?_)
          · skip
            refine sa_const X.1 dX10_column_45 ?_
            exact J35 (0) (if_pos (c := ¬ (M27 11 0 8) = 0) hc).symm
          · skip
            refine sa_const X.1 dX10_column_41 ?_
            refine lv_goto (tgt := 46) X.1.1 X.1.2.1 dX10_column_42 (by decide) ?_
            exact J35 (1) (if_neg (c := ¬ (M27 11 0 8) = 0) (fun z => z hc)).symm
        intro v34 hv34
        subst hv34
        exact J38 ((if ¬ (M27 11 0 8) = 0 then (0 : Int) else 1)) (if_neg (c := 6 ≤ (M27 11 0 4)) (Int.not_le.mpr hc)).symm
    intro v37 hv37
    subst hv37
    refine sa_const X.1 dX10_column_46 ?_
    refine cs_X10_goes X r30 r36 (inR_c (a := 1) rfl) (kc := 1) rmL_ok rm_c (by decide) hR hS kw_1721 hl.1 dX10_column_47 (Nat.le_of_ble_eq_true rfl) hw (fun x40 M39 H locs hw r41 hR hS => ?_)
    refine sa_if_ne (tgt := 55) X.1 r41 dX10_column_50 (by decide) (fun hc => ?_) (fun hc => ?_)
    · have hw := hw.1 hc
      refine lv_aload_n X.1.1 X.1.2.1 dX10_column_55 rfl (lv_at hl 0 rfl) ?_
      refine gt_11_0 X hR (okf X.2.2.1 rfl) kw_1529 dX10_column_56 ?_
      refine lv_aload_n X.1.1 X.1.2.1 dX10_column_59 rfl (lv_at hl 0 rfl) ?_
      refine gt_11_4 X hR (okf X.2.2.1 rfl) kw_1533 dX10_column_60 ?_
      have r42 := hR.r 11 0 4
      refine lv_iload_n X.1.1 X.1.2.1 dX10_column_63 rfl (lv_at hl 1 rfl) ?_
      have c43 := hw.1
      have hw := hw.2
      refine wa_56 X hR hS (okf X.2.2.1 rfl) c43 hp1 dX10_column_64 (fun H locs hR hS => ?_)
      obtain ⟨M44, e45⟩ : ∃ z : Mem, z = up M39 56 0 (M39 11 0 4) p1 := ⟨_, rfl⟩
      rw [← e45] at hR
      have hw := hw M44 e45
      refine lv_aload_n X.1.1 X.1.2.1 dX10_column_65 rfl (lv_at hl 0 rfl) ?_
      refine gt_11_1 X hR (okf X.2.2.1 rfl) kw_1530 dX10_column_66 ?_
      refine lv_aload_n X.1.1 X.1.2.1 dX10_column_69 rfl (lv_at hl 0 rfl) ?_
      refine gt_11_4 X hR (okf X.2.2.1 rfl) kw_1533 dX10_column_70 ?_
      have r46 := hR.r 11 0 4
      refine lv_iload_n X.1.1 X.1.2.1 dX10_column_73 rfl (lv_at hl 2 rfl) ?_
      have c47 := hw.1
      have hw := hw.2
      refine wa_57 X hR hS (okf X.2.2.1 rfl) c47 hp2 dX10_column_74 (fun H locs hR hS => ?_)
      obtain ⟨M48, e49⟩ : ∃ z : Mem, z = up M44 57 0 (M44 11 0 4) p2 := ⟨_, rfl⟩
      rw [← e49] at hR
      have hw := hw M48 e49
      refine lv_aload_n X.1.1 X.1.2.1 dX10_column_75 rfl (lv_at hl 0 rfl) ?_
      refine lv_dup X.1.1 X.1.2.1 dX10_column_76 rfl ?_
      refine gt_11_4 X hR (okf X.2.2.1 rfl) kw_1533 dX10_column_77 ?_
      have r50 := hR.r 11 0 4
      refine sa_const X.1 dX10_column_80 ?_
      have c51 := hw.1
      have hw := hw.2
      refine sa_iadd X.1 dX10_column_81 ?_
      refine pt_11_4 X hR hS (okf X.2.2.1 rfl) c51 kw_1533 dX10_column_82 (fun H locs hR hS => ?_)
      obtain ⟨M52, e53⟩ : ∃ z : Mem, z = up M48 11 0 4 ((M48 11 0 4) + 1) := ⟨_, rfl⟩
      rw [← e53] at hR
      have hw := hw M52 e53
      refine lv_aload_n X.1.1 X.1.2.1 dX10_column_85 rfl (lv_at hl 0 rfl) ?_
      refine gt_11_4 X hR (okf X.2.2.1 rfl) kw_1533 dX10_column_86 ?_
      have r54 := hR.r 11 0 4
      refine sa_const X.1 dX10_column_89 ?_
      have c55 := hw.1
      have hw := hw.2
      refine sa_isub X.1 dX10_column_90 ?_
      exact sa_iret X.1 X.2.2.2.1 X.2.2.2.2 hR hS c55 hw dX10_column_91
    · have hw := hw.2 hc
      refine sa_const X.1 dX10_column_53 ?_
      exact sa_iret X.1 X.2.2.2.1 X.2.2.2.2 hR hS (inR_c (a := 0) rfl) hw dX10_column_54
theorem m_X10_column {l : Launch} {G : Gx} {e0 : Nat} {α : Ax} {κ : Nat → Int} {B : Nat} {p1 : Int} {p2 : Int} (hκ : kOK κ) (hp1 : inR p1) (hp2 : inR p2) {M : Mem} {Qm : Int → Mem → Prop} (hw : wp_X10_column p1 p2 M Qm) : CI l yX10_column (Cond.code yX10_column cX10_column 3 (some .int)) 1 G e0 α κ B [.ref (α 11 0), .int (Int32.ofInt p1), .int (Int32.ofInt p2)] M Qm :=
  CI.mk hκ (by decide +kernel) rfl (Nat.le_of_ble_eq_true rfl) (lv := [(0, .ref (α 11 0)), (1, .int (Int32.ofInt p1)), (2, .int (Int32.ofInt p2))]) rfl (fun p e s m args below meth c ls X hR hS hl => t_X10_column X hp1 hp2 hw _ _ hR hS ls hl)
theorem cs_X10_column {cc : ByteArray} {nL : Nat} {own : String} {ret : Option FieldType} {idx pc : Nat} {p1 : Int} {p2 : Int} (X : CX p m c cc nL s args own G B κ meth ret) (hp1 : inR p1) (hp2 : inR p2) {kc : Nat} {R : Room} {cells slots : Nat} (hRr : RmOK R kc) (hcel : cells ≤ R.cells ∧ slots ≤ R.slots) (hk : 1 + 1 ≤ kc) {M : Mem} {H : Heap} {locs : List Loc} (hR : Rp G e0 α κ B M H) (hS : va_S (fun q => B ≤ q) s.heap H locs) (k1 : Cond.methodLink own idx yX10_column ∈ gw) {ls : Array Slot} (hml : ls.size = nL) {rest : List Value} (hd : decode cc pc = .ok (.invokevirtual idx, 3)) (hrest : (rest.map fun v => v.category).sum ≤ 8) {Q : State → Prop} {Qm : Int → Mem → Prop} (hw : wp_X10_column p1 p2 M Qm) (kk : ∀ (r : Int) (M1 : Mem) (H1 : Heap) (locs1 : List Loc), Qm r M1 → inR r → Rp G e0 α κ B M1 H1 → va_S (fun q => B ≤ q) s.heap H1 locs1 → W p l e R s m args below meth c H1 locs1 cells slots Q (F0 m (pc + 3) ls (.int (Int32.ofInt r) :: rest))) : W p l e R s m args below meth c H locs cells slots Q (F0 m pc ls (.int (Int32.ofInt p2) :: .int (Int32.ofInt p1) :: .ref (α 11 0) :: rest)) :=
  sa_callVI 1 (n := 2) (As := [.int (Int32.ofInt p1), .int (Int32.ofInt p2)]) (rest := rest) X.1 X.2.1 hR hS (m_X10_column X.2.2.1 hp1 hp2 hw) k1 kw_1715 kw_1716 kw_104 kw_1717 ⟨rfl, by decide +kernel, by decide +kernel, by decide +kernel⟩ (rm_ok hRr hk (by decide)) (rc_11 X hR (okf X.2.2.1 rfl)) rfl rfl hrest hml hd hcel kk
def wp_X10_row_23 (p1 : Int) (p2 : Int) (p3 : Int) (Qm : Int → Mem → Prop) (M : Mem) : Prop := wp_X10_goes 0 0 1 M fun (x10 : Int) (M9 : Mem) => ((¬ x10 = 0 → (0 ≤ (M9 11 0 8) ∧ (M9 11 0 8) < 29) ∧ ∀ M14 : Mem, M14 = up M9 60 0 (M9 11 0 8) p1 → (0 ≤ (M14 11 0 8) ∧ (M14 11 0 8) < 29) ∧ ∀ M21 : Mem, M21 = up M14 61 0 (M14 11 0 8) (if ¬ p1 = 1 then (0 : Int) else p2) → (bit (if ¬ p1 = 1 then (0 : Int) else (if p3 = 0 then (0 : Int) else 1))) ∧ (0 ≤ (M21 11 0 8) ∧ (M21 11 0 8) < 29) ∧ ∀ M31 : Mem, M31 = up M21 62 0 (M21 11 0 8) (if ¬ p1 = 1 then (0 : Int) else (if p3 = 0 then (0 : Int) else 1)) → (inR (24 * p1)) ∧ (0 ≤ p1 ∧ p1 < 3) ∧ (inR ((24 * p1) + (M31 64 0 p1))) ∧ (0 ≤ ((24 * p1) + (M31 64 0 p1)) ∧ ((24 * p1) + (M31 64 0 p1)) < 72) ∧ ∀ M39 : Mem, M39 = up M31 63 0 ((24 * p1) + (M31 64 0 p1)) (M31 11 0 8) → (0 ≤ p1 ∧ p1 < 3) ∧ (inR ((M39 64 0 p1) + 1)) ∧ (0 ≤ p1 ∧ p1 < 3) ∧ ∀ M45 : Mem, M45 = up M39 64 0 p1 ((M39 64 0 p1) + 1) → (inR ((M45 11 0 8) + 1)) ∧ ∀ M49 : Mem, M49 = up M45 11 0 8 ((M45 11 0 8) + 1) → (inR ((M49 11 0 8) - 1)) ∧ Qm ((M49 11 0 8) - 1) M49) ∧ (x10 = 0 → Qm 0 M9))
def wp_X10_row (p1 : Int) (p2 : Int) (p3 : Int) (M : Mem) (Qm : Int → Mem → Prop) : Prop := wp_X10_in p1 0 2 M fun (x2 : Int) (M1 : Mem) => ((x2 = 0 → wp_X10_row_23 p1 p2 p3 Qm M1) ∧ (¬ x2 = 0 → wp_X10_in p2 0 9 M1 fun (x54 : Int) (M53 : Mem) => (¬ (if x54 = 0 then (0 : Int) else 1) = 0 → (0 < (M53 11 0 4) → (0 ≤ p1 ∧ p1 < 3) ∧ True) ∧ True) ∧ wp_X10_goes (if x54 = 0 then (0 : Int) else 1) (if (if x54 = 0 then (0 : Int) else 1) = 0 then (0 : Int) else (if (M53 11 0 4) ≤ 0 then (0 : Int) else (if (if ¬ p1 = 0 then (if ¬ p1 = 1 then (2 : Int) else 24) else 3) ≤ (M53 64 0 p1) then (0 : Int) else 1))) 1 M53 fun (x75 : Int) (M74 : Mem) => ((¬ x75 = 0 → (0 ≤ (M74 11 0 8) ∧ (M74 11 0 8) < 29) ∧ ∀ M79 : Mem, M79 = up M74 60 0 (M74 11 0 8) p1 → (0 ≤ (M79 11 0 8) ∧ (M79 11 0 8) < 29) ∧ ∀ M86 : Mem, M86 = up M79 61 0 (M79 11 0 8) (if ¬ p1 = 1 then (0 : Int) else p2) → (bit (if ¬ p1 = 1 then (0 : Int) else (if p3 = 0 then (0 : Int) else 1))) ∧ (0 ≤ (M86 11 0 8) ∧ (M86 11 0 8) < 29) ∧ ∀ M96 : Mem, M96 = up M86 62 0 (M86 11 0 8) (if ¬ p1 = 1 then (0 : Int) else (if p3 = 0 then (0 : Int) else 1)) → (inR (24 * p1)) ∧ (0 ≤ p1 ∧ p1 < 3) ∧ (inR ((24 * p1) + (M96 64 0 p1))) ∧ (0 ≤ ((24 * p1) + (M96 64 0 p1)) ∧ ((24 * p1) + (M96 64 0 p1)) < 72) ∧ ∀ M104 : Mem, M104 = up M96 63 0 ((24 * p1) + (M96 64 0 p1)) (M96 11 0 8) → (0 ≤ p1 ∧ p1 < 3) ∧ (inR ((M104 64 0 p1) + 1)) ∧ (0 ≤ p1 ∧ p1 < 3) ∧ ∀ M110 : Mem, M110 = up M104 64 0 p1 ((M104 64 0 p1) + 1) → (inR ((M110 11 0 8) + 1)) ∧ ∀ M114 : Mem, M114 = up M110 11 0 8 ((M110 11 0 8) + 1) → (inR ((M114 11 0 8) - 1)) ∧ Qm ((M114 11 0 8) - 1) M114) ∧ (x75 = 0 → Qm 0 M74))))
set_option maxHeartbeats 4000000 in
set_option maxRecDepth 100000 in
theorem t_X10_row_23 {p1 : Int} {p2 : Int} {p3 : Int} (X : CX p m c cX10_row 6 s args RX10 G B κ meth (some .int)) (hp1 : inR p1) (hp2 : inR p2) (hp3 : inR p3) {Qm : Int → Mem → Prop} : ∀ M : Mem, wp_X10_row_23 p1 p2 p3 Qm M → ∀ (H : Heap) (locs : List Loc), Rp G e0 α κ B M H → va_S (fun q => B ≤ q) s.heap H locs → ∀ (ls : Array Slot), lv_has ls 6 [(0, .ref (α 11 0)), (1, .int (Int32.ofInt p1)), (2, .int (Int32.ofInt p2)), (3, .int (Int32.ofInt p3))] → WI p l e 1 s m args below meth c G e0 α κ B Qm H locs 23 ls [] := by
  intro M hw H locs hR hS ls hl
  have hw : wp_X10_goes 0 0 1 M fun (x10 : Int) (M9 : Mem) => ((¬ x10 = 0 → (0 ≤ (M9 11 0 8) ∧ (M9 11 0 8) < 29) ∧ ∀ M14 : Mem, M14 = up M9 60 0 (M9 11 0 8) p1 → (0 ≤ (M14 11 0 8) ∧ (M14 11 0 8) < 29) ∧ ∀ M21 : Mem, M21 = up M14 61 0 (M14 11 0 8) (if ¬ p1 = 1 then (0 : Int) else p2) → (bit (if ¬ p1 = 1 then (0 : Int) else (if p3 = 0 then (0 : Int) else 1))) ∧ (0 ≤ (M21 11 0 8) ∧ (M21 11 0 8) < 29) ∧ ∀ M31 : Mem, M31 = up M21 62 0 (M21 11 0 8) (if ¬ p1 = 1 then (0 : Int) else (if p3 = 0 then (0 : Int) else 1)) → (inR (24 * p1)) ∧ (0 ≤ p1 ∧ p1 < 3) ∧ (inR ((24 * p1) + (M31 64 0 p1))) ∧ (0 ≤ ((24 * p1) + (M31 64 0 p1)) ∧ ((24 * p1) + (M31 64 0 p1)) < 72) ∧ ∀ M39 : Mem, M39 = up M31 63 0 ((24 * p1) + (M31 64 0 p1)) (M31 11 0 8) → (0 ≤ p1 ∧ p1 < 3) ∧ (inR ((M39 64 0 p1) + 1)) ∧ (0 ≤ p1 ∧ p1 < 3) ∧ ∀ M45 : Mem, M45 = up M39 64 0 p1 ((M39 64 0 p1) + 1) → (inR ((M45 11 0 8) + 1)) ∧ ∀ M49 : Mem, M49 = up M45 11 0 8 ((M45 11 0 8) + 1) → (inR ((M49 11 0 8) - 1)) ∧ Qm ((M49 11 0 8) - 1) M49) ∧ (x10 = 0 → Qm 0 M9)) := hw
  refine sa_const X.1 dX10_row_23 ?_
  refine lv_istore (lv' := [(4, .int (Int32.ofInt 0)), (0, .ref (α 11 0)), (1, .int (Int32.ofInt p1)), (2, .int (Int32.ofInt p2)), (3, .int (Int32.ofInt p3))]) X.1.1 X.1.2.1 dX10_row_24 hl (by decide) rfl (fun ls hl => ?_)
  refine lv_iload_n X.1.1 X.1.2.1 dX10_row_26 rfl (lv_at hl 2 rfl) ?_
  have r6 := inR_ite (c := ¬ p1 = 0) (inR_ite (c := ¬ p1 = 1) (inR_c (a := 2) rfl) (inR_c (a := 24) rfl)) (inR_c (a := 3) rfl)
  refine cut_j (A := ∀ v7 : Int, v7 = (if ¬ p1 = 0 then (if ¬ p1 = 1 then (2 : Int) else 24) else 3) → WI p l e 1 s m args below meth c G e0 α κ B Qm H locs 45 ls [.int (Int32.ofInt v7)]) (fun J8 => ?_) ?_
  · refine sa_if_ne (tgt := 34) X.1 hp1 dX10_row_27 (by decide) (fun hc => ?_) (fun hc => ?_)
    · skip
      refine lv_iload_n X.1.1 X.1.2.1 dX10_row_34 rfl (lv_at hl 2 rfl) ?_
      refine sa_const X.1 dX10_row_35 ?_
      refine cut_j (A := ∀ v4 : Int, v4 = (if ¬ p1 = 1 then (2 : Int) else 24) → WI p l e 1 s m args below meth c G e0 α κ B Qm H locs 45 ls [.int (Int32.ofInt v4)]) (fun J5 => ?_) ?_
      · refine sa_icmp_ne (tgt := 44) X.1 hp1 (inR_c (a := 1) rfl) dX10_row_36 (by decide) (fun hc => ?_) (fun hc => ?_)
        · skip
          refine sa_const X.1 dX10_row_44 ?_
          exact J5 (2) (if_pos (c := ¬ p1 = 1) hc).symm
        · skip
          refine sa_bipush X.1 dX10_row_39 (by decide) ?_
          refine lv_goto (tgt := 45) X.1.1 X.1.2.1 dX10_row_41 (by decide) ?_
          exact J5 (24) (if_neg (c := ¬ p1 = 1) (fun z => z hc)).symm
      intro v4 hv4
      subst hv4
      exact J8 ((if ¬ p1 = 1 then (2 : Int) else 24)) (if_pos (c := ¬ p1 = 0) hc).symm
    · skip
      refine sa_const X.1 dX10_row_30 ?_
      refine lv_goto (tgt := 45) X.1.1 X.1.2.1 dX10_row_31 (by decide) ?_
      exact J8 (3) (if_neg (c := ¬ p1 = 0) (fun z => z hc)).symm
  intro v7 hv7
  subst hv7
  refine lv_istore (lv' := [(5, .int (Int32.ofInt (if ¬ p1 = 0 then (if ¬ p1 = 1 then (2 : Int) else 24) else 3))), (4, .int (Int32.ofInt 0)), (0, .ref (α 11 0)), (1, .int (Int32.ofInt p1)), (2, .int (Int32.ofInt p2)), (3, .int (Int32.ofInt p3))]) X.1.1 X.1.2.1 dX10_row_45 hl (by decide) rfl (fun ls hl => ?_)
  refine lv_aload_n X.1.1 X.1.2.1 dX10_row_47 rfl (lv_at hl 2 rfl) ?_
  refine lv_iload X.1.1 X.1.2.1 dX10_row_48 (lv_at hl 1 rfl) ?_
  refine lv_iload X.1.1 X.1.2.1 dX10_row_50 (lv_at hl 1 rfl) ?_
  refine sa_if_eq (tgt := 77) X.1 (inR_c (a := 0) rfl) dX10_row_52 (by decide) (fun hc => ?_) (fun hc => absurd hc (by decide))
  refine sa_const X.1 dX10_row_77 ?_
  refine sa_const X.1 dX10_row_78 ?_
  refine cs_X10_goes X (inR_c (a := 0) rfl) (inR_c (a := 0) rfl) (inR_c (a := 1) rfl) (kc := 1) rmL_ok rm_c (by decide) hR hS kw_1721 hl.1 dX10_row_79 (Nat.le_of_ble_eq_true rfl) hw (fun x10 M9 H locs hw r11 hR hS => ?_)
  refine sa_if_ne (tgt := 87) X.1 r11 dX10_row_82 (by decide) (fun hc => ?_) (fun hc => ?_)
  · have hw := hw.1 hc
    refine lv_aload_n X.1.1 X.1.2.1 dX10_row_87 rfl (lv_at hl 2 rfl) ?_
    refine gt_11_5 X hR (okf X.2.2.1 rfl) kw_1534 dX10_row_88 ?_
    refine lv_aload_n X.1.1 X.1.2.1 dX10_row_91 rfl (lv_at hl 2 rfl) ?_
    refine gt_11_8 X hR (okf X.2.2.1 rfl) kw_1537 dX10_row_92 ?_
    have r12 := hR.r 11 0 8
    refine lv_iload_n X.1.1 X.1.2.1 dX10_row_95 rfl (lv_at hl 3 rfl) ?_
    have c13 := hw.1
    have hw := hw.2
    refine wa_60 X hR hS (okf X.2.2.1 rfl) c13 hp1 dX10_row_96 (fun H locs hR hS => ?_)
    obtain ⟨M14, e15⟩ : ∃ z : Mem, z = up M9 60 0 (M9 11 0 8) p1 := ⟨_, rfl⟩
    rw [← e15] at hR
    have hw := hw M14 e15
    refine lv_aload_n X.1.1 X.1.2.1 dX10_row_97 rfl (lv_at hl 2 rfl) ?_
    refine gt_11_6 X hR (okf X.2.2.1 rfl) kw_1535 dX10_row_98 ?_
    refine lv_aload_n X.1.1 X.1.2.1 dX10_row_101 rfl (lv_at hl 2 rfl) ?_
    refine gt_11_8 X hR (okf X.2.2.1 rfl) kw_1537 dX10_row_102 ?_
    have r16 := hR.r 11 0 8
    refine lv_iload_n X.1.1 X.1.2.1 dX10_row_105 rfl (lv_at hl 3 rfl) ?_
    refine sa_const X.1 dX10_row_106 ?_
    have r17 := inR_ite (c := ¬ p1 = 1) (inR_c (a := 0) rfl) hp2
    refine cut_j (A := ∀ v18 : Int, v18 = (if ¬ p1 = 1 then (0 : Int) else p2) → WI p l e 1 s m args below meth c G e0 α κ B Qm H locs 115 ls [.int (Int32.ofInt v18), .int (Int32.ofInt (M14 11 0 8)), .ref (α 61 0)]) (fun J19 => ?_) ?_
    · refine sa_icmp_ne (tgt := 114) X.1 hp1 (inR_c (a := 1) rfl) dX10_row_107 (by decide) (fun hc => ?_) (fun hc => ?_)
      · skip
        refine sa_const X.1 dX10_row_114 ?_
        exact J19 (0) (if_pos (c := ¬ p1 = 1) hc).symm
      · skip
        refine lv_iload_n X.1.1 X.1.2.1 dX10_row_110 rfl (lv_at hl 4 rfl) ?_
        refine lv_goto (tgt := 115) X.1.1 X.1.2.1 dX10_row_111 (by decide) ?_
        exact J19 (p2) (if_neg (c := ¬ p1 = 1) (fun z => z hc)).symm
    intro v18 hv18
    subst hv18
    have c20 := hw.1
    have hw := hw.2
    refine wa_61 X hR hS (okf X.2.2.1 rfl) c20 r17 dX10_row_115 (fun H locs hR hS => ?_)
    obtain ⟨M21, e22⟩ : ∃ z : Mem, z = up M14 61 0 (M14 11 0 8) (if ¬ p1 = 1 then (0 : Int) else p2) := ⟨_, rfl⟩
    rw [← e22] at hR
    have hw := hw M21 e22
    refine lv_aload_n X.1.1 X.1.2.1 dX10_row_116 rfl (lv_at hl 2 rfl) ?_
    refine gt_11_7 X hR (okf X.2.2.1 rfl) kw_1536 dX10_row_117 ?_
    refine lv_aload_n X.1.1 X.1.2.1 dX10_row_120 rfl (lv_at hl 2 rfl) ?_
    refine gt_11_8 X hR (okf X.2.2.1 rfl) kw_1537 dX10_row_121 ?_
    have r23 := hR.r 11 0 8
    refine lv_iload_n X.1.1 X.1.2.1 dX10_row_124 rfl (lv_at hl 3 rfl) ?_
    refine sa_const X.1 dX10_row_125 ?_
    have r26 := inR_ite (c := ¬ p1 = 1) (inR_c (a := 0) rfl) (inR_ite (c := p3 = 0) (inR_c (a := 0) rfl) (inR_c (a := 1) rfl))
    refine cut_j (A := ∀ v27 : Int, v27 = (if ¬ p1 = 1 then (0 : Int) else (if p3 = 0 then (0 : Int) else 1)) → WI p l e 1 s m args below meth c G e0 α κ B Qm H locs 138 ls [.int (Int32.ofInt v27), .int (Int32.ofInt (M21 11 0 8)), .ref (α 62 0)]) (fun J28 => ?_) ?_
    · refine sa_icmp_ne (tgt := 137) X.1 hp1 (inR_c (a := 1) rfl) dX10_row_126 (by decide) (fun hc => ?_) (fun hc => ?_)
      · skip
        refine sa_const X.1 dX10_row_137 ?_
        exact J28 (0) (if_pos (c := ¬ p1 = 1) hc).symm
      · skip
        refine lv_iload_n X.1.1 X.1.2.1 dX10_row_129 rfl (lv_at hl 5 rfl) ?_
        refine cut_j (A := ∀ v24 : Int, v24 = (if p3 = 0 then (0 : Int) else 1) → WI p l e 1 s m args below meth c G e0 α κ B Qm H locs 138 ls [.int (Int32.ofInt v24), .int (Int32.ofInt (M21 11 0 8)), .ref (α 62 0)]) (fun J25 => ?_) ?_
        · refine sa_if_eq (tgt := 137) X.1 hp3 dX10_row_130 (by decide) (fun hc => ?_) (fun hc => ?_)
          · skip
            refine sa_const X.1 dX10_row_137 ?_
            exact J25 (0) (if_pos (c := p3 = 0) hc).symm
          · skip
            refine sa_const X.1 dX10_row_133 ?_
            refine lv_goto (tgt := 138) X.1.1 X.1.2.1 dX10_row_134 (by decide) ?_
            exact J25 (1) (if_neg (c := p3 = 0) hc).symm
        intro v24 hv24
        subst hv24
        exact J28 ((if p3 = 0 then (0 : Int) else 1)) (if_neg (c := ¬ p1 = 1) (fun z => z hc)).symm
    intro v27 hv27
    subst hv27
    have c29 := hw.1
    have hw := hw.2
    have c30 := hw.1
    have hw := hw.2
    refine wa_62 X hR hS (okf X.2.2.1 rfl) c30 c29 dX10_row_138 (fun H locs hR hS => ?_)
    obtain ⟨M31, e32⟩ : ∃ z : Mem, z = up M21 62 0 (M21 11 0 8) (if ¬ p1 = 1 then (0 : Int) else (if p3 = 0 then (0 : Int) else 1)) := ⟨_, rfl⟩
    rw [← e32] at hR
    have hw := hw M31 e32
    refine lv_aload_n X.1.1 X.1.2.1 dX10_row_139 rfl (lv_at hl 2 rfl) ?_
    refine gt_11_9 X hR (okf X.2.2.1 rfl) kw_1538 dX10_row_140 ?_
    refine sa_bipush X.1 dX10_row_143 (by decide) ?_
    refine lv_iload_n X.1.1 X.1.2.1 dX10_row_145 rfl (lv_at hl 3 rfl) ?_
    have c33 := hw.1
    have hw := hw.2
    refine sa_imul X.1 dX10_row_146 ?_
    refine lv_aload_n X.1.1 X.1.2.1 dX10_row_147 rfl (lv_at hl 2 rfl) ?_
    refine gt_11_10 X hR (okf X.2.2.1 rfl) kw_1539 dX10_row_148 ?_
    refine lv_iload_n X.1.1 X.1.2.1 dX10_row_151 rfl (lv_at hl 3 rfl) ?_
    have c34 := hw.1
    have hw := hw.2
    refine ra_64 X hR (okf X.2.2.1 rfl) c34 dX10_row_152 ?_
    have r35 := hR.r 64 0 p1
    have c36 := hw.1
    have hw := hw.2
    refine sa_iadd X.1 dX10_row_153 ?_
    refine lv_aload_n X.1.1 X.1.2.1 dX10_row_154 rfl (lv_at hl 2 rfl) ?_
    refine gt_11_8 X hR (okf X.2.2.1 rfl) kw_1537 dX10_row_155 ?_
    have r37 := hR.r 11 0 8
    have c38 := hw.1
    have hw := hw.2
    refine wa_63 X hR hS (okf X.2.2.1 rfl) c38 r37 dX10_row_158 (fun H locs hR hS => ?_)
    obtain ⟨M39, e40⟩ : ∃ z : Mem, z = up M31 63 0 ((24 * p1) + (M31 64 0 p1)) (M31 11 0 8) := ⟨_, rfl⟩
    rw [← e40] at hR
    have hw := hw M39 e40
    refine lv_aload_n X.1.1 X.1.2.1 dX10_row_159 rfl (lv_at hl 2 rfl) ?_
    refine gt_11_10 X hR (okf X.2.2.1 rfl) kw_1539 dX10_row_160 ?_
    refine lv_iload_n X.1.1 X.1.2.1 dX10_row_163 rfl (lv_at hl 3 rfl) ?_
    refine lv_dup2_11 X.1.1 X.1.2.1 dX10_row_164 rfl rfl ?_
    have c41 := hw.1
    have hw := hw.2
    refine ra_64 X hR (okf X.2.2.1 rfl) c41 dX10_row_165 ?_
    have r42 := hR.r 64 0 p1
    refine sa_const X.1 dX10_row_166 ?_
    have c43 := hw.1
    have hw := hw.2
    refine sa_iadd X.1 dX10_row_167 ?_
    have c44 := hw.1
    have hw := hw.2
    refine wa_64 X hR hS (okf X.2.2.1 rfl) c44 c43 dX10_row_168 (fun H locs hR hS => ?_)
    obtain ⟨M45, e46⟩ : ∃ z : Mem, z = up M39 64 0 p1 ((M39 64 0 p1) + 1) := ⟨_, rfl⟩
    rw [← e46] at hR
    have hw := hw M45 e46
    refine lv_aload_n X.1.1 X.1.2.1 dX10_row_169 rfl (lv_at hl 2 rfl) ?_
    refine lv_dup X.1.1 X.1.2.1 dX10_row_170 rfl ?_
    refine gt_11_8 X hR (okf X.2.2.1 rfl) kw_1537 dX10_row_171 ?_
    have r47 := hR.r 11 0 8
    refine sa_const X.1 dX10_row_174 ?_
    have c48 := hw.1
    have hw := hw.2
    refine sa_iadd X.1 dX10_row_175 ?_
    refine pt_11_8 X hR hS (okf X.2.2.1 rfl) c48 kw_1537 dX10_row_176 (fun H locs hR hS => ?_)
    obtain ⟨M49, e50⟩ : ∃ z : Mem, z = up M45 11 0 8 ((M45 11 0 8) + 1) := ⟨_, rfl⟩
    rw [← e50] at hR
    have hw := hw M49 e50
    refine lv_aload_n X.1.1 X.1.2.1 dX10_row_179 rfl (lv_at hl 2 rfl) ?_
    refine gt_11_8 X hR (okf X.2.2.1 rfl) kw_1537 dX10_row_180 ?_
    have r51 := hR.r 11 0 8
    refine sa_const X.1 dX10_row_183 ?_
    have c52 := hw.1
    have hw := hw.2
    refine sa_isub X.1 dX10_row_184 ?_
    exact sa_iret X.1 X.2.2.2.1 X.2.2.2.2 hR hS c52 hw dX10_row_185
  · have hw := hw.2 hc
    refine sa_const X.1 dX10_row_85 ?_
    exact sa_iret X.1 X.2.2.2.1 X.2.2.2.2 hR hS (inR_c (a := 0) rfl) hw dX10_row_86
set_option maxHeartbeats 4000000 in
set_option maxRecDepth 100000 in
theorem t_X10_row {p1 : Int} {p2 : Int} {p3 : Int} (X : CX p m c cX10_row 6 s args RX10 G B κ meth (some .int)) (hp1 : inR p1) (hp2 : inR p2) (hp3 : inR p3) {M : Mem} {Qm : Int → Mem → Prop} (hw : wp_X10_row p1 p2 p3 M Qm) (H : Heap) (locs : List Loc) (hR : Rp G e0 α κ B M H) (hS : va_S (fun q => B ≤ q) s.heap H locs) (ls : Array Slot) (hl : lv_has ls 6 [(0, .ref (α 11 0)), (1, .int (Int32.ofInt p1)), (2, .int (Int32.ofInt p2)), (3, .int (Int32.ofInt p3))]) : WI p l e 1 s m args below meth c G e0 α κ B Qm H locs 0 ls [] := by
  have hw : wp_X10_in p1 0 2 M fun (x2 : Int) (M1 : Mem) => ((x2 = 0 → wp_X10_row_23 p1 p2 p3 Qm M1) ∧ (¬ x2 = 0 → wp_X10_in p2 0 9 M1 fun (x54 : Int) (M53 : Mem) => (¬ (if x54 = 0 then (0 : Int) else 1) = 0 → (0 < (M53 11 0 4) → (0 ≤ p1 ∧ p1 < 3) ∧ True) ∧ True) ∧ wp_X10_goes (if x54 = 0 then (0 : Int) else 1) (if (if x54 = 0 then (0 : Int) else 1) = 0 then (0 : Int) else (if (M53 11 0 4) ≤ 0 then (0 : Int) else (if (if ¬ p1 = 0 then (if ¬ p1 = 1 then (2 : Int) else 24) else 3) ≤ (M53 64 0 p1) then (0 : Int) else 1))) 1 M53 fun (x75 : Int) (M74 : Mem) => ((¬ x75 = 0 → (0 ≤ (M74 11 0 8) ∧ (M74 11 0 8) < 29) ∧ ∀ M79 : Mem, M79 = up M74 60 0 (M74 11 0 8) p1 → (0 ≤ (M79 11 0 8) ∧ (M79 11 0 8) < 29) ∧ ∀ M86 : Mem, M86 = up M79 61 0 (M79 11 0 8) (if ¬ p1 = 1 then (0 : Int) else p2) → (bit (if ¬ p1 = 1 then (0 : Int) else (if p3 = 0 then (0 : Int) else 1))) ∧ (0 ≤ (M86 11 0 8) ∧ (M86 11 0 8) < 29) ∧ ∀ M96 : Mem, M96 = up M86 62 0 (M86 11 0 8) (if ¬ p1 = 1 then (0 : Int) else (if p3 = 0 then (0 : Int) else 1)) → (inR (24 * p1)) ∧ (0 ≤ p1 ∧ p1 < 3) ∧ (inR ((24 * p1) + (M96 64 0 p1))) ∧ (0 ≤ ((24 * p1) + (M96 64 0 p1)) ∧ ((24 * p1) + (M96 64 0 p1)) < 72) ∧ ∀ M104 : Mem, M104 = up M96 63 0 ((24 * p1) + (M96 64 0 p1)) (M96 11 0 8) → (0 ≤ p1 ∧ p1 < 3) ∧ (inR ((M104 64 0 p1) + 1)) ∧ (0 ≤ p1 ∧ p1 < 3) ∧ ∀ M110 : Mem, M110 = up M104 64 0 p1 ((M104 64 0 p1) + 1) → (inR ((M110 11 0 8) + 1)) ∧ ∀ M114 : Mem, M114 = up M110 11 0 8 ((M110 11 0 8) + 1) → (inR ((M114 11 0 8) - 1)) ∧ Qm ((M114 11 0 8) - 1) M114) ∧ (x75 = 0 → Qm 0 M74)))) := hw
  refine lv_iload_n X.1.1 X.1.2.1 dX10_row_0 rfl (lv_at hl 1 rfl) ?_
  refine sa_const X.1 dX10_row_1 ?_
  refine sa_const X.1 dX10_row_2 ?_
  refine cs_X10_in X hp1 (inR_c (a := 0) rfl) (inR_c (a := 2) rfl) (kc := 1) rmL_ok rm_c (by decide) hR hS kw_1718 hl.1 dX10_row_3 (Nat.le_of_ble_eq_true rfl) hw (fun x2 M1 H locs hw r3 hR hS => ?_)
  refine sa_if_eq (tgt := 23) X.1 r3 dX10_row_6 (by decide) (fun hc => ?_) (fun hc => ?_)
  · have hw := hw.1 hc
    exact t_X10_row_23 X hp1 hp2 hp3 _ hw _ _ hR hS _ (lv_sub hl [0, 1, 2, 3] rfl)
  · have hw := hw.2 hc
    refine lv_iload_n X.1.1 X.1.2.1 dX10_row_9 rfl (lv_at hl 2 rfl) ?_
    refine sa_const X.1 dX10_row_10 ?_
    refine sa_bipush X.1 dX10_row_11 (by decide) ?_
    refine cs_X10_in X hp2 (inR_c (a := 0) rfl) (inR_c (a := 9) rfl) (kc := 1) rmL_ok rm_c (by decide) hR hS kw_1718 hl.1 dX10_row_13 (Nat.le_of_ble_eq_true rfl) hw (fun x54 M53 H locs hw r55 hR hS => ?_)
    have r56 := inR_ite (c := x54 = 0) (inR_c (a := 0) rfl) (inR_c (a := 1) rfl)
    refine cut_j (A := ∀ v57 : Int, v57 = (if x54 = 0 then (0 : Int) else 1) → WI p l e 1 s m args below meth c G e0 α κ B Qm H locs 24 ls [.int (Int32.ofInt v57)]) (fun J58 => ?_) ?_
    · refine sa_if_eq (tgt := 23) X.1 r55 dX10_row_16 (by decide) (fun hc => ?_) (fun hc => ?_)
      · skip
        refine sa_const X.1 dX10_row_23 ?_
        exact J58 (0) (if_pos (c := x54 = 0) hc).symm
      · skip
        refine sa_const X.1 dX10_row_19 ?_
        refine lv_goto (tgt := 24) X.1.1 X.1.2.1 dX10_row_20 (by decide) ?_
        exact J58 (1) (if_neg (c := x54 = 0) hc).symm
    intro v57 hv57
    subst hv57
    refine lv_istore (lv' := [(4, .int (Int32.ofInt (if x54 = 0 then (0 : Int) else 1))), (0, .ref (α 11 0)), (1, .int (Int32.ofInt p1)), (2, .int (Int32.ofInt p2)), (3, .int (Int32.ofInt p3))]) X.1.1 X.1.2.1 dX10_row_24 hl (by decide) rfl (fun ls hl => ?_)
    refine lv_iload_n X.1.1 X.1.2.1 dX10_row_26 rfl (lv_at hl 2 rfl) ?_
    have r61 := inR_ite (c := ¬ p1 = 0) (inR_ite (c := ¬ p1 = 1) (inR_c (a := 2) rfl) (inR_c (a := 24) rfl)) (inR_c (a := 3) rfl)
    refine cut_j (A := ∀ v62 : Int, v62 = (if ¬ p1 = 0 then (if ¬ p1 = 1 then (2 : Int) else 24) else 3) → WI p l e 1 s m args below meth c G e0 α κ B Qm H locs 45 ls [.int (Int32.ofInt v62)]) (fun J63 => ?_) ?_
    · refine sa_if_ne (tgt := 34) X.1 hp1 dX10_row_27 (by decide) (fun hc => ?_) (fun hc => ?_)
      · skip
        refine lv_iload_n X.1.1 X.1.2.1 dX10_row_34 rfl (lv_at hl 2 rfl) ?_
        refine sa_const X.1 dX10_row_35 ?_
        refine cut_j (A := ∀ v59 : Int, v59 = (if ¬ p1 = 1 then (2 : Int) else 24) → WI p l e 1 s m args below meth c G e0 α κ B Qm H locs 45 ls [.int (Int32.ofInt v59)]) (fun J60 => ?_) ?_
        · refine sa_icmp_ne (tgt := 44) X.1 hp1 (inR_c (a := 1) rfl) dX10_row_36 (by decide) (fun hc => ?_) (fun hc => ?_)
          · skip
            refine sa_const X.1 dX10_row_44 ?_
            exact J60 (2) (if_pos (c := ¬ p1 = 1) hc).symm
          · skip
            refine sa_bipush X.1 dX10_row_39 (by decide) ?_
            refine lv_goto (tgt := 45) X.1.1 X.1.2.1 dX10_row_41 (by decide) ?_
            exact J60 (24) (if_neg (c := ¬ p1 = 1) (fun z => z hc)).symm
        intro v59 hv59
        subst hv59
        exact J63 ((if ¬ p1 = 1 then (2 : Int) else 24)) (if_pos (c := ¬ p1 = 0) hc).symm
      · skip
        refine sa_const X.1 dX10_row_30 ?_
        refine lv_goto (tgt := 45) X.1.1 X.1.2.1 dX10_row_31 (by decide) ?_
        exact J63 (3) (if_neg (c := ¬ p1 = 0) (fun z => z hc)).symm
    intro v62 hv62
    subst hv62
    refine lv_istore (lv' := [(5, .int (Int32.ofInt (if ¬ p1 = 0 then (if ¬ p1 = 1 then (2 : Int) else 24) else 3))), (4, .int (Int32.ofInt (if x54 = 0 then (0 : Int) else 1))), (0, .ref (α 11 0)), (1, .int (Int32.ofInt p1)), (2, .int (Int32.ofInt p2)), (3, .int (Int32.ofInt p3))]) X.1.1 X.1.2.1 dX10_row_45 hl (by decide) rfl (fun ls hl => ?_)
    refine lv_aload_n X.1.1 X.1.2.1 dX10_row_47 rfl (lv_at hl 2 rfl) ?_
    refine lv_iload X.1.1 X.1.2.1 dX10_row_48 (lv_at hl 1 rfl) ?_
    refine lv_iload X.1.1 X.1.2.1 dX10_row_50 (lv_at hl 1 rfl) ?_
    have s70 := hw.1
    have hw := hw.2
    have r71 := inR_ite (c := (if x54 = 0 then (0 : Int) else 1) = 0) (inR_c (a := 0) rfl) (inR_ite (c := (M53 11 0 4) ≤ 0) (inR_c (a := 0) rfl) (inR_ite (c := (if ¬ p1 = 0 then (if ¬ p1 = 1 then (2 : Int) else 24) else 3) ≤ (M53 64 0 p1)) (inR_c (a := 0) rfl) (inR_c (a := 1) rfl)))
    refine cut_j (A := ∀ v72 : Int, v72 = (if (if x54 = 0 then (0 : Int) else 1) = 0 then (0 : Int) else (if (M53 11 0 4) ≤ 0 then (0 : Int) else (if (if ¬ p1 = 0 then (if ¬ p1 = 1 then (2 : Int) else 24) else 3) ≤ (M53 64 0 p1) then (0 : Int) else 1))) → WI p l e 1 s m args below meth c G e0 α κ B Qm H locs 78 ls [.int (Int32.ofInt v72), .int (Int32.ofInt (if x54 = 0 then (0 : Int) else 1)), .ref (α 11 0)]) (fun J73 => ?_) ?_
    · refine sa_if_eq (tgt := 77) X.1 r56 dX10_row_52 (by decide) (fun hc => ?_) (fun hc => ?_)
      · skip
        refine sa_const X.1 dX10_row_77 ?_
        exact J73 (0) (if_pos (c := (if x54 = 0 then (0 : Int) else 1) = 0) hc).symm
      · have hw := s70 hc
        refine lv_aload_n X.1.1 X.1.2.1 dX10_row_55 rfl (lv_at hl 2 rfl) ?_
        refine gt_11_4 X hR (okf X.2.2.1 rfl) kw_1533 dX10_row_56 ?_
        have s67 := hw.1
        have hw := hw.2
        refine cut_j (A := ∀ v68 : Int, v68 = (if (M53 11 0 4) ≤ 0 then (0 : Int) else (if (if ¬ p1 = 0 then (if ¬ p1 = 1 then (2 : Int) else 24) else 3) ≤ (M53 64 0 p1) then (0 : Int) else 1)) → WI p l e 1 s m args below meth c G e0 α κ B Qm H locs 78 ls [.int (Int32.ofInt v68), .int (Int32.ofInt (if x54 = 0 then (0 : Int) else 1)), .ref (α 11 0)]) (fun J69 => ?_) ?_
        · refine sa_if_le (tgt := 77) X.1 (hR.r 11 0 4) dX10_row_59 (by decide) (fun hc => ?_) (fun hc => ?_)
          · skip
            refine sa_const X.1 dX10_row_77 ?_
            exact J69 (0) (if_pos (c := (M53 11 0 4) ≤ 0) hc).symm
          · have hw := s67 hc
            refine lv_aload_n X.1.1 X.1.2.1 dX10_row_62 rfl (lv_at hl 2 rfl) ?_
            refine gt_11_10 X hR (okf X.2.2.1 rfl) kw_1539 dX10_row_63 ?_
            refine lv_iload_n X.1.1 X.1.2.1 dX10_row_66 rfl (lv_at hl 3 rfl) ?_
            have c64 := hw.1
            have hw := hw.2
            refine ra_64 X hR (okf X.2.2.1 rfl) c64 dX10_row_67 ?_
            refine lv_iload X.1.1 X.1.2.1 dX10_row_68 (lv_at hl 0 rfl) ?_
            refine cut_j (A := ∀ v65 : Int, v65 = (if (if ¬ p1 = 0 then (if ¬ p1 = 1 then (2 : Int) else 24) else 3) ≤ (M53 64 0 p1) then (0 : Int) else 1) → WI p l e 1 s m args below meth c G e0 α κ B Qm H locs 78 ls [.int (Int32.ofInt v65), .int (Int32.ofInt (if x54 = 0 then (0 : Int) else 1)), .ref (α 11 0)]) (fun J66 => ?_) ?_
            · refine sa_icmp_ge (tgt := 77) X.1 (hR.r 64 0 p1) r61 dX10_row_70 (by decide) (fun hc => ?_) (fun hc => ?_)
              · skip
                refine sa_const X.1 dX10_row_77 ?_
                exact J66 (0) (if_pos (c := (if ¬ p1 = 0 then (if ¬ p1 = 1 then (2 : Int) else 24) else 3) ≤ (M53 64 0 p1)) hc).symm
              · skip
                refine sa_const X.1 dX10_row_73 ?_
                refine lv_goto (tgt := 78) X.1.1 X.1.2.1 dX10_row_74 (by decide) ?_
                exact J66 (1) (if_neg (c := (if ¬ p1 = 0 then (if ¬ p1 = 1 then (2 : Int) else 24) else 3) ≤ (M53 64 0 p1)) (Int.not_le.mpr hc)).symm
            intro v65 hv65
            subst hv65
            exact J69 ((if (if ¬ p1 = 0 then (if ¬ p1 = 1 then (2 : Int) else 24) else 3) ≤ (M53 64 0 p1) then (0 : Int) else 1)) (if_neg (c := (M53 11 0 4) ≤ 0) (Int.not_le.mpr hc)).symm
        intro v68 hv68
        subst hv68
        exact J73 ((if (M53 11 0 4) ≤ 0 then (0 : Int) else (if (if ¬ p1 = 0 then (if ¬ p1 = 1 then (2 : Int) else 24) else 3) ≤ (M53 64 0 p1) then (0 : Int) else 1))) (if_neg (c := (if x54 = 0 then (0 : Int) else 1) = 0) hc).symm
    intro v72 hv72
    subst hv72
    refine sa_const X.1 dX10_row_78 ?_
    refine cs_X10_goes X r56 r71 (inR_c (a := 1) rfl) (kc := 1) rmL_ok rm_c (by decide) hR hS kw_1721 hl.1 dX10_row_79 (Nat.le_of_ble_eq_true rfl) hw (fun x75 M74 H locs hw r76 hR hS => ?_)
    refine sa_if_ne (tgt := 87) X.1 r76 dX10_row_82 (by decide) (fun hc => ?_) (fun hc => ?_)
    · have hw := hw.1 hc
      refine lv_aload_n X.1.1 X.1.2.1 dX10_row_87 rfl (lv_at hl 2 rfl) ?_
      refine gt_11_5 X hR (okf X.2.2.1 rfl) kw_1534 dX10_row_88 ?_
      refine lv_aload_n X.1.1 X.1.2.1 dX10_row_91 rfl (lv_at hl 2 rfl) ?_
      refine gt_11_8 X hR (okf X.2.2.1 rfl) kw_1537 dX10_row_92 ?_
      have r77 := hR.r 11 0 8
      refine lv_iload_n X.1.1 X.1.2.1 dX10_row_95 rfl (lv_at hl 3 rfl) ?_
      have c78 := hw.1
      have hw := hw.2
      refine wa_60 X hR hS (okf X.2.2.1 rfl) c78 hp1 dX10_row_96 (fun H locs hR hS => ?_)
      obtain ⟨M79, e80⟩ : ∃ z : Mem, z = up M74 60 0 (M74 11 0 8) p1 := ⟨_, rfl⟩
      rw [← e80] at hR
      have hw := hw M79 e80
      refine lv_aload_n X.1.1 X.1.2.1 dX10_row_97 rfl (lv_at hl 2 rfl) ?_
      refine gt_11_6 X hR (okf X.2.2.1 rfl) kw_1535 dX10_row_98 ?_
      refine lv_aload_n X.1.1 X.1.2.1 dX10_row_101 rfl (lv_at hl 2 rfl) ?_
      refine gt_11_8 X hR (okf X.2.2.1 rfl) kw_1537 dX10_row_102 ?_
      have r81 := hR.r 11 0 8
      refine lv_iload_n X.1.1 X.1.2.1 dX10_row_105 rfl (lv_at hl 3 rfl) ?_
      refine sa_const X.1 dX10_row_106 ?_
      have r82 := inR_ite (c := ¬ p1 = 1) (inR_c (a := 0) rfl) hp2
      refine cut_j (A := ∀ v83 : Int, v83 = (if ¬ p1 = 1 then (0 : Int) else p2) → WI p l e 1 s m args below meth c G e0 α κ B Qm H locs 115 ls [.int (Int32.ofInt v83), .int (Int32.ofInt (M79 11 0 8)), .ref (α 61 0)]) (fun J84 => ?_) ?_
      · refine sa_icmp_ne (tgt := 114) X.1 hp1 (inR_c (a := 1) rfl) dX10_row_107 (by decide) (fun hc => ?_) (fun hc => ?_)
        · skip
          refine sa_const X.1 dX10_row_114 ?_
          exact J84 (0) (if_pos (c := ¬ p1 = 1) hc).symm
        · skip
          refine lv_iload_n X.1.1 X.1.2.1 dX10_row_110 rfl (lv_at hl 4 rfl) ?_
          refine lv_goto (tgt := 115) X.1.1 X.1.2.1 dX10_row_111 (by decide) ?_
          exact J84 (p2) (if_neg (c := ¬ p1 = 1) (fun z => z hc)).symm
      intro v83 hv83
      subst hv83
      have c85 := hw.1
      have hw := hw.2
      refine wa_61 X hR hS (okf X.2.2.1 rfl) c85 r82 dX10_row_115 (fun H locs hR hS => ?_)
      obtain ⟨M86, e87⟩ : ∃ z : Mem, z = up M79 61 0 (M79 11 0 8) (if ¬ p1 = 1 then (0 : Int) else p2) := ⟨_, rfl⟩
      rw [← e87] at hR
      have hw := hw M86 e87
      refine lv_aload_n X.1.1 X.1.2.1 dX10_row_116 rfl (lv_at hl 2 rfl) ?_
      refine gt_11_7 X hR (okf X.2.2.1 rfl) kw_1536 dX10_row_117 ?_
      refine lv_aload_n X.1.1 X.1.2.1 dX10_row_120 rfl (lv_at hl 2 rfl) ?_
      refine gt_11_8 X hR (okf X.2.2.1 rfl) kw_1537 dX10_row_121 ?_
      have r88 := hR.r 11 0 8
      refine lv_iload_n X.1.1 X.1.2.1 dX10_row_124 rfl (lv_at hl 3 rfl) ?_
      refine sa_const X.1 dX10_row_125 ?_
      have r91 := inR_ite (c := ¬ p1 = 1) (inR_c (a := 0) rfl) (inR_ite (c := p3 = 0) (inR_c (a := 0) rfl) (inR_c (a := 1) rfl))
      refine cut_j (A := ∀ v92 : Int, v92 = (if ¬ p1 = 1 then (0 : Int) else (if p3 = 0 then (0 : Int) else 1)) → WI p l e 1 s m args below meth c G e0 α κ B Qm H locs 138 ls [.int (Int32.ofInt v92), .int (Int32.ofInt (M86 11 0 8)), .ref (α 62 0)]) (fun J93 => ?_) ?_
      · refine sa_icmp_ne (tgt := 137) X.1 hp1 (inR_c (a := 1) rfl) dX10_row_126 (by decide) (fun hc => ?_) (fun hc => ?_)
        · skip
          refine sa_const X.1 dX10_row_137 ?_
          exact J93 (0) (if_pos (c := ¬ p1 = 1) hc).symm
        · skip
          refine lv_iload_n X.1.1 X.1.2.1 dX10_row_129 rfl (lv_at hl 5 rfl) ?_
          refine cut_j (A := ∀ v89 : Int, v89 = (if p3 = 0 then (0 : Int) else 1) → WI p l e 1 s m args below meth c G e0 α κ B Qm H locs 138 ls [.int (Int32.ofInt v89), .int (Int32.ofInt (M86 11 0 8)), .ref (α 62 0)]) (fun J90 => ?_) ?_
          · refine sa_if_eq (tgt := 137) X.1 hp3 dX10_row_130 (by decide) (fun hc => ?_) (fun hc => ?_)
            · skip
              refine sa_const X.1 dX10_row_137 ?_
              exact J90 (0) (if_pos (c := p3 = 0) hc).symm
            · skip
              refine sa_const X.1 dX10_row_133 ?_
              refine lv_goto (tgt := 138) X.1.1 X.1.2.1 dX10_row_134 (by decide) ?_
              exact J90 (1) (if_neg (c := p3 = 0) hc).symm
          intro v89 hv89
          subst hv89
          exact J93 ((if p3 = 0 then (0 : Int) else 1)) (if_neg (c := ¬ p1 = 1) (fun z => z hc)).symm
      intro v92 hv92
      subst hv92
      have c94 := hw.1
      have hw := hw.2
      have c95 := hw.1
      have hw := hw.2
      refine wa_62 X hR hS (okf X.2.2.1 rfl) c95 c94 dX10_row_138 (fun H locs hR hS => ?_)
      obtain ⟨M96, e97⟩ : ∃ z : Mem, z = up M86 62 0 (M86 11 0 8) (if ¬ p1 = 1 then (0 : Int) else (if p3 = 0 then (0 : Int) else 1)) := ⟨_, rfl⟩
      rw [← e97] at hR
      have hw := hw M96 e97
      refine lv_aload_n X.1.1 X.1.2.1 dX10_row_139 rfl (lv_at hl 2 rfl) ?_
      refine gt_11_9 X hR (okf X.2.2.1 rfl) kw_1538 dX10_row_140 ?_
      refine sa_bipush X.1 dX10_row_143 (by decide) ?_
      refine lv_iload_n X.1.1 X.1.2.1 dX10_row_145 rfl (lv_at hl 3 rfl) ?_
      have c98 := hw.1
      have hw := hw.2
      refine sa_imul X.1 dX10_row_146 ?_
      refine lv_aload_n X.1.1 X.1.2.1 dX10_row_147 rfl (lv_at hl 2 rfl) ?_
      refine gt_11_10 X hR (okf X.2.2.1 rfl) kw_1539 dX10_row_148 ?_
      refine lv_iload_n X.1.1 X.1.2.1 dX10_row_151 rfl (lv_at hl 3 rfl) ?_
      have c99 := hw.1
      have hw := hw.2
      refine ra_64 X hR (okf X.2.2.1 rfl) c99 dX10_row_152 ?_
      have r100 := hR.r 64 0 p1
      have c101 := hw.1
      have hw := hw.2
      refine sa_iadd X.1 dX10_row_153 ?_
      refine lv_aload_n X.1.1 X.1.2.1 dX10_row_154 rfl (lv_at hl 2 rfl) ?_
      refine gt_11_8 X hR (okf X.2.2.1 rfl) kw_1537 dX10_row_155 ?_
      have r102 := hR.r 11 0 8
      have c103 := hw.1
      have hw := hw.2
      refine wa_63 X hR hS (okf X.2.2.1 rfl) c103 r102 dX10_row_158 (fun H locs hR hS => ?_)
      obtain ⟨M104, e105⟩ : ∃ z : Mem, z = up M96 63 0 ((24 * p1) + (M96 64 0 p1)) (M96 11 0 8) := ⟨_, rfl⟩
      rw [← e105] at hR
      have hw := hw M104 e105
      refine lv_aload_n X.1.1 X.1.2.1 dX10_row_159 rfl (lv_at hl 2 rfl) ?_
      refine gt_11_10 X hR (okf X.2.2.1 rfl) kw_1539 dX10_row_160 ?_
      refine lv_iload_n X.1.1 X.1.2.1 dX10_row_163 rfl (lv_at hl 3 rfl) ?_
      refine lv_dup2_11 X.1.1 X.1.2.1 dX10_row_164 rfl rfl ?_
      have c106 := hw.1
      have hw := hw.2
      refine ra_64 X hR (okf X.2.2.1 rfl) c106 dX10_row_165 ?_
      have r107 := hR.r 64 0 p1
      refine sa_const X.1 dX10_row_166 ?_
      have c108 := hw.1
      have hw := hw.2
      refine sa_iadd X.1 dX10_row_167 ?_
      have c109 := hw.1
      have hw := hw.2
      refine wa_64 X hR hS (okf X.2.2.1 rfl) c109 c108 dX10_row_168 (fun H locs hR hS => ?_)
      obtain ⟨M110, e111⟩ : ∃ z : Mem, z = up M104 64 0 p1 ((M104 64 0 p1) + 1) := ⟨_, rfl⟩
      rw [← e111] at hR
      have hw := hw M110 e111
      refine lv_aload_n X.1.1 X.1.2.1 dX10_row_169 rfl (lv_at hl 2 rfl) ?_
      refine lv_dup X.1.1 X.1.2.1 dX10_row_170 rfl ?_
      refine gt_11_8 X hR (okf X.2.2.1 rfl) kw_1537 dX10_row_171 ?_
      have r112 := hR.r 11 0 8
      refine sa_const X.1 dX10_row_174 ?_
      have c113 := hw.1
      have hw := hw.2
      refine sa_iadd X.1 dX10_row_175 ?_
      refine pt_11_8 X hR hS (okf X.2.2.1 rfl) c113 kw_1537 dX10_row_176 (fun H locs hR hS => ?_)
      obtain ⟨M114, e115⟩ : ∃ z : Mem, z = up M110 11 0 8 ((M110 11 0 8) + 1) := ⟨_, rfl⟩
      rw [← e115] at hR
      have hw := hw M114 e115
      refine lv_aload_n X.1.1 X.1.2.1 dX10_row_179 rfl (lv_at hl 2 rfl) ?_
      refine gt_11_8 X hR (okf X.2.2.1 rfl) kw_1537 dX10_row_180 ?_
      have r116 := hR.r 11 0 8
      refine sa_const X.1 dX10_row_183 ?_
      have c117 := hw.1
      have hw := hw.2
      refine sa_isub X.1 dX10_row_184 ?_
      exact sa_iret X.1 X.2.2.2.1 X.2.2.2.2 hR hS c117 hw dX10_row_185
    · have hw := hw.2 hc
      refine sa_const X.1 dX10_row_85 ?_
      exact sa_iret X.1 X.2.2.2.1 X.2.2.2.2 hR hS (inR_c (a := 0) rfl) hw dX10_row_86
theorem m_X10_row {l : Launch} {G : Gx} {e0 : Nat} {α : Ax} {κ : Nat → Int} {B : Nat} {p1 : Int} {p2 : Int} {p3 : Int} (hκ : kOK κ) (hp1 : inR p1) (hp2 : inR p2) (hp3 : inR p3) {M : Mem} {Qm : Int → Mem → Prop} (hw : wp_X10_row p1 p2 p3 M Qm) : CI l yX10_row (Cond.code yX10_row cX10_row 6 (some .int)) 1 G e0 α κ B [.ref (α 11 0), .int (Int32.ofInt p1), .int (Int32.ofInt p2), .int (Int32.ofInt p3)] M Qm :=
  CI.mk hκ (by decide +kernel) rfl (Nat.le_of_ble_eq_true rfl) (lv := [(0, .ref (α 11 0)), (1, .int (Int32.ofInt p1)), (2, .int (Int32.ofInt p2)), (3, .int (Int32.ofInt p3))]) rfl (fun p e s m args below meth c ls X hR hS hl => t_X10_row X hp1 hp2 hp3 hw _ _ hR hS ls hl)
theorem cs_X10_row {cc : ByteArray} {nL : Nat} {own : String} {ret : Option FieldType} {idx pc : Nat} {p1 : Int} {p2 : Int} {p3 : Int} (X : CX p m c cc nL s args own G B κ meth ret) (hp1 : inR p1) (hp2 : inR p2) (hp3 : inR p3) {kc : Nat} {R : Room} {cells slots : Nat} (hRr : RmOK R kc) (hcel : cells ≤ R.cells ∧ slots ≤ R.slots) (hk : 1 + 1 ≤ kc) {M : Mem} {H : Heap} {locs : List Loc} (hR : Rp G e0 α κ B M H) (hS : va_S (fun q => B ≤ q) s.heap H locs) (k1 : Cond.methodLink own idx yX10_row ∈ gw) {ls : Array Slot} (hml : ls.size = nL) {rest : List Value} (hd : decode cc pc = .ok (.invokevirtual idx, 3)) (hrest : (rest.map fun v => v.category).sum ≤ 8) {Q : State → Prop} {Qm : Int → Mem → Prop} (hw : wp_X10_row p1 p2 p3 M Qm) (kk : ∀ (r : Int) (M1 : Mem) (H1 : Heap) (locs1 : List Loc), Qm r M1 → inR r → Rp G e0 α κ B M1 H1 → va_S (fun q => B ≤ q) s.heap H1 locs1 → W p l e R s m args below meth c H1 locs1 cells slots Q (F0 m (pc + 3) ls (.int (Int32.ofInt r) :: rest))) : W p l e R s m args below meth c H locs cells slots Q (F0 m pc ls (.int (Int32.ofInt p3) :: .int (Int32.ofInt p2) :: .int (Int32.ofInt p1) :: .ref (α 11 0) :: rest)) :=
  sa_callVI 1 (n := 3) (As := [.int (Int32.ofInt p1), .int (Int32.ofInt p2), .int (Int32.ofInt p3)]) (rest := rest) X.1 X.2.1 hR hS (m_X10_row X.2.2.1 hp1 hp2 hp3 hw) k1 kw_1726 kw_1727 kw_104 kw_1728 ⟨rfl, by decide +kernel, by decide +kernel, by decide +kernel⟩ (rm_ok hRr hk (by decide)) (rc_11 X hR (okf X.2.2.1 rfl)) rfl rfl hrest hml hd hcel kk
def wp_X10_placeOf_2 (p1 : Int) (Qm : Int → Mem → Prop) : Nat → Int → Mem → Prop
  | 0 => fun _ _ => False
  | n + 1 => fun y2 M => (0 ≤ p1 ∧ p1 < 29) ∧ (inR (24 * (M 60 0 p1))) ∧ (inR ((24 * (M 60 0 p1)) + y2)) ∧ (0 ≤ ((24 * (M 60 0 p1)) + y2) ∧ ((24 * (M 60 0 p1)) + y2) < 72) ∧ (((M 63 0 ((24 * (M 60 0 p1)) + y2)) = p1 → Qm y2 M) ∧ (¬ (M 63 0 ((24 * (M 60 0 p1)) + y2)) = p1 → (inR (y2 + 1)) ∧ wp_X10_placeOf_2 p1 Qm n (y2 + 1) M))
def wp_X10_placeOf (p1 : Int) (M : Mem) (Qm : Int → Mem → Prop) : Prop := (∃ n8 : Nat, wp_X10_placeOf_2 p1 Qm n8 0 M)
set_option maxHeartbeats 4000000 in
set_option maxRecDepth 100000 in
theorem t_X10_placeOf_2 {p1 : Int} (X : CX p m c cX10_placeOf 3 s args RX10 G B κ meth (some .int)) (hp1 : inR p1) {Qm : Int → Mem → Prop} : ∀ n : Nat, ∀ y2 : Int, ∀ M : Mem, wp_X10_placeOf_2 p1 Qm n y2 M → inR y2 → ∀ (H : Heap) (locs : List Loc), Rp G e0 α κ B M H → va_S (fun q => B ≤ q) s.heap H locs → ∀ (ls : Array Slot), lv_has ls 3 [(0, .ref (α 11 0)), (1, .int (Int32.ofInt p1)), (2, .int (Int32.ofInt y2))] → WI p l e 0 s m args below meth c G e0 α κ B Qm H locs 2 ls [] := by
  intro n
  induction n with
  | zero =>
    intro y2 M hw hy2 H locs hR hS ls hl
    exact hw.elim
  | succ n ih =>
    intro y2 M hw hy2 H locs hR hS ls hl
    have hw : (0 ≤ p1 ∧ p1 < 29) ∧ (inR (24 * (M 60 0 p1))) ∧ (inR ((24 * (M 60 0 p1)) + y2)) ∧ (0 ≤ ((24 * (M 60 0 p1)) + y2) ∧ ((24 * (M 60 0 p1)) + y2) < 72) ∧ (((M 63 0 ((24 * (M 60 0 p1)) + y2)) = p1 → Qm y2 M) ∧ (¬ (M 63 0 ((24 * (M 60 0 p1)) + y2)) = p1 → (inR (y2 + 1)) ∧ wp_X10_placeOf_2 p1 Qm n (y2 + 1) M)) := hw
    refine lv_aload_n X.1.1 X.1.2.1 dX10_placeOf_2 rfl (lv_at hl 0 rfl) ?_
    refine gt_11_9 X hR (okf X.2.2.1 rfl) kw_1538 dX10_placeOf_3 ?_
    refine sa_bipush X.1 dX10_placeOf_6 (by decide) ?_
    refine lv_aload_n X.1.1 X.1.2.1 dX10_placeOf_8 rfl (lv_at hl 0 rfl) ?_
    refine gt_11_5 X hR (okf X.2.2.1 rfl) kw_1534 dX10_placeOf_9 ?_
    refine lv_iload_n X.1.1 X.1.2.1 dX10_placeOf_12 rfl (lv_at hl 1 rfl) ?_
    have c1 := hw.1
    have hw := hw.2
    refine ra_60 X hR (okf X.2.2.1 rfl) c1 dX10_placeOf_13 ?_
    have r2 := hR.r 60 0 p1
    have c3 := hw.1
    have hw := hw.2
    refine sa_imul X.1 dX10_placeOf_14 ?_
    refine lv_iload_n X.1.1 X.1.2.1 dX10_placeOf_15 rfl (lv_at hl 2 rfl) ?_
    have c4 := hw.1
    have hw := hw.2
    refine sa_iadd X.1 dX10_placeOf_16 ?_
    have c5 := hw.1
    have hw := hw.2
    refine ra_63 X hR (okf X.2.2.1 rfl) c5 dX10_placeOf_17 ?_
    have r6 := hR.r 63 0 ((24 * (M 60 0 p1)) + y2)
    refine lv_iload_n X.1.1 X.1.2.1 dX10_placeOf_18 rfl (lv_at hl 1 rfl) ?_
    refine sa_icmp_eq (tgt := 28) X.1 r6 hp1 dX10_placeOf_19 (by decide) (fun hc => ?_) (fun hc => ?_)
    · have hw := hw.1 hc
      refine lv_iload_n X.1.1 X.1.2.1 dX10_placeOf_28 rfl (lv_at hl 2 rfl) ?_
      exact sa_iret X.1 X.2.2.2.1 X.2.2.2.2 hR hS hy2 hw dX10_placeOf_29
    · have hw := hw.2 hc
      have c7 := hw.1
      have hw := hw.2
      refine lv_iinc (v := Int32.ofInt (y2 + 1)) (lv' := [(2, .int (Int32.ofInt (y2 + 1))), (0, .ref (α 11 0)), (1, .int (Int32.ofInt p1))]) X.1.1 X.1.2.1 dX10_placeOf_22 hl (k := 2) rfl (Int32.ofInt_add _ _).symm (by decide) rfl (fun ls hl => ?_)
      refine lv_goto (tgt := 2) X.1.1 X.1.2.1 dX10_placeOf_25 (by decide) ?_
      exact ih _ _ hw c7 _ _ hR hS _ (lv_sub hl [1, 2, 0] rfl)
set_option maxHeartbeats 4000000 in
set_option maxRecDepth 100000 in
theorem t_X10_placeOf {p1 : Int} (X : CX p m c cX10_placeOf 3 s args RX10 G B κ meth (some .int)) (hp1 : inR p1) {M : Mem} {Qm : Int → Mem → Prop} (hw : wp_X10_placeOf p1 M Qm) (H : Heap) (locs : List Loc) (hR : Rp G e0 α κ B M H) (hS : va_S (fun q => B ≤ q) s.heap H locs) (ls : Array Slot) (hl : lv_has ls 3 [(0, .ref (α 11 0)), (1, .int (Int32.ofInt p1))]) : WI p l e 0 s m args below meth c G e0 α κ B Qm H locs 0 ls [] := by
  have hw : (∃ n8 : Nat, wp_X10_placeOf_2 p1 Qm n8 0 M) := hw
  refine sa_const X.1 dX10_placeOf_0 ?_
  refine lv_istore_n (lv' := [(2, .int (Int32.ofInt 0)), (0, .ref (α 11 0)), (1, .int (Int32.ofInt p1))]) X.1.1 X.1.2.1 dX10_placeOf_1 rfl hl (by decide) rfl (fun ls hl => ?_)
  obtain ⟨n8, hw⟩ := hw
  exact t_X10_placeOf_2 X hp1 n8 _ _ hw (inR_c (a := 0) rfl) _ _ hR hS _ (lv_sub hl [1, 2, 0] rfl)
theorem m_X10_placeOf {l : Launch} {G : Gx} {e0 : Nat} {α : Ax} {κ : Nat → Int} {B : Nat} {p1 : Int} (hκ : kOK κ) (hp1 : inR p1) {M : Mem} {Qm : Int → Mem → Prop} (hw : wp_X10_placeOf p1 M Qm) : CI l yX10_placeOf (Cond.code yX10_placeOf cX10_placeOf 3 (some .int)) 0 G e0 α κ B [.ref (α 11 0), .int (Int32.ofInt p1)] M Qm :=
  CI.mk hκ (by decide +kernel) rfl (Nat.le_of_ble_eq_true rfl) (lv := [(0, .ref (α 11 0)), (1, .int (Int32.ofInt p1))]) rfl (fun p e s m args below meth c ls X hR hS hl => t_X10_placeOf X hp1 hw _ _ hR hS ls hl)
theorem cs_X10_placeOf {cc : ByteArray} {nL : Nat} {own : String} {ret : Option FieldType} {idx pc : Nat} {p1 : Int} (X : CX p m c cc nL s args own G B κ meth ret) (hp1 : inR p1) {kc : Nat} {R : Room} {cells slots : Nat} (hRr : RmOK R kc) (hcel : cells ≤ R.cells ∧ slots ≤ R.slots) (hk : 0 + 1 ≤ kc) {M : Mem} {H : Heap} {locs : List Loc} (hR : Rp G e0 α κ B M H) (hS : va_S (fun q => B ≤ q) s.heap H locs) (k1 : Cond.methodLink own idx yX10_placeOf ∈ gw) {ls : Array Slot} (hml : ls.size = nL) {rest : List Value} (hd : decode cc pc = .ok (.invokevirtual idx, 3)) (hrest : (rest.map fun v => v.category).sum ≤ 8) {Q : State → Prop} {Qm : Int → Mem → Prop} (hw : wp_X10_placeOf p1 M Qm) (kk : ∀ (r : Int) (M1 : Mem) (H1 : Heap) (locs1 : List Loc), Qm r M1 → inR r → Rp G e0 α κ B M1 H1 → va_S (fun q => B ≤ q) s.heap H1 locs1 → W p l e R s m args below meth c H1 locs1 cells slots Q (F0 m (pc + 3) ls (.int (Int32.ofInt r) :: rest))) : W p l e R s m args below meth c H locs cells slots Q (F0 m pc ls (.int (Int32.ofInt p1) :: .ref (α 11 0) :: rest)) :=
  sa_callVI 0 (n := 1) (As := [.int (Int32.ofInt p1)]) (rest := rest) X.1 X.2.1 hR hS (m_X10_placeOf X.2.2.1 hp1 hw) k1 kw_1743 kw_45 kw_104 kw_1744 ⟨rfl, by decide +kernel, by decide +kernel, by decide +kernel⟩ (rm_ok hRr hk (by decide)) (rc_11 X hR (okf X.2.2.1 rfl)) rfl rfl hrest hml hd hcel kk
def wp_X10_below (p1 : Int) (p2 : Int) (M : Mem) (Qm : Int → Mem → Prop) : Prop := (0 ≤ p1 ∧ p1 < 29) ∧ (inR (24 * (M 60 0 p1))) ∧ wp_X10_placeOf p1 M fun (x5 : Int) (M4 : Mem) => (inR ((24 * (M 60 0 p1)) + x5)) ∧ (inR (((24 * (M 60 0 p1)) + x5) + p2)) ∧ (0 ≤ (((24 * (M 60 0 p1)) + x5) + p2) ∧ (((24 * (M 60 0 p1)) + x5) + p2) < 72) ∧ Qm (M4 63 0 (((24 * (M 60 0 p1)) + x5) + p2)) M4
set_option maxHeartbeats 4000000 in
set_option maxRecDepth 100000 in
theorem t_X10_below {p1 : Int} {p2 : Int} (X : CX p m c cX10_below 3 s args RX10 G B κ meth (some .int)) (hp1 : inR p1) (hp2 : inR p2) {M : Mem} {Qm : Int → Mem → Prop} (hw : wp_X10_below p1 p2 M Qm) (H : Heap) (locs : List Loc) (hR : Rp G e0 α κ B M H) (hS : va_S (fun q => B ≤ q) s.heap H locs) (ls : Array Slot) (hl : lv_has ls 3 [(0, .ref (α 11 0)), (1, .int (Int32.ofInt p1)), (2, .int (Int32.ofInt p2))]) : WI p l e 1 s m args below meth c G e0 α κ B Qm H locs 0 ls [] := by
  have hw : (0 ≤ p1 ∧ p1 < 29) ∧ (inR (24 * (M 60 0 p1))) ∧ wp_X10_placeOf p1 M fun (x5 : Int) (M4 : Mem) => (inR ((24 * (M 60 0 p1)) + x5)) ∧ (inR (((24 * (M 60 0 p1)) + x5) + p2)) ∧ (0 ≤ (((24 * (M 60 0 p1)) + x5) + p2) ∧ (((24 * (M 60 0 p1)) + x5) + p2) < 72) ∧ Qm (M4 63 0 (((24 * (M 60 0 p1)) + x5) + p2)) M4 := hw
  refine lv_aload_n X.1.1 X.1.2.1 dX10_below_0 rfl (lv_at hl 0 rfl) ?_
  refine gt_11_9 X hR (okf X.2.2.1 rfl) kw_1538 dX10_below_1 ?_
  refine sa_bipush X.1 dX10_below_4 (by decide) ?_
  refine lv_aload_n X.1.1 X.1.2.1 dX10_below_6 rfl (lv_at hl 0 rfl) ?_
  refine gt_11_5 X hR (okf X.2.2.1 rfl) kw_1534 dX10_below_7 ?_
  refine lv_iload_n X.1.1 X.1.2.1 dX10_below_10 rfl (lv_at hl 1 rfl) ?_
  have c1 := hw.1
  have hw := hw.2
  refine ra_60 X hR (okf X.2.2.1 rfl) c1 dX10_below_11 ?_
  have r2 := hR.r 60 0 p1
  have c3 := hw.1
  have hw := hw.2
  refine sa_imul X.1 dX10_below_12 ?_
  refine lv_aload_n X.1.1 X.1.2.1 dX10_below_13 rfl (lv_at hl 0 rfl) ?_
  refine lv_iload_n X.1.1 X.1.2.1 dX10_below_14 rfl (lv_at hl 1 rfl) ?_
  refine cs_X10_placeOf X hp1 (kc := 1) rmL_ok rm_c (by decide) hR hS kw_1741 hl.1 dX10_below_15 (Nat.le_of_ble_eq_true rfl) hw (fun x5 M4 H locs hw r6 hR hS => ?_)
  have c7 := hw.1
  have hw := hw.2
  refine sa_iadd X.1 dX10_below_18 ?_
  refine lv_iload_n X.1.1 X.1.2.1 dX10_below_19 rfl (lv_at hl 2 rfl) ?_
  have c8 := hw.1
  have hw := hw.2
  refine sa_iadd X.1 dX10_below_20 ?_
  have c9 := hw.1
  have hw := hw.2
  refine ra_63 X hR (okf X.2.2.1 rfl) c9 dX10_below_21 ?_
  have r10 := hR.r 63 0 (((24 * (M 60 0 p1)) + x5) + p2)
  exact sa_iret X.1 X.2.2.2.1 X.2.2.2.2 hR hS r10 hw dX10_below_22
theorem m_X10_below {l : Launch} {G : Gx} {e0 : Nat} {α : Ax} {κ : Nat → Int} {B : Nat} {p1 : Int} {p2 : Int} (hκ : kOK κ) (hp1 : inR p1) (hp2 : inR p2) {M : Mem} {Qm : Int → Mem → Prop} (hw : wp_X10_below p1 p2 M Qm) : CI l yX10_below (Cond.code yX10_below cX10_below 3 (some .int)) 1 G e0 α κ B [.ref (α 11 0), .int (Int32.ofInt p1), .int (Int32.ofInt p2)] M Qm :=
  CI.mk hκ (by decide +kernel) rfl (Nat.le_of_ble_eq_true rfl) (lv := [(0, .ref (α 11 0)), (1, .int (Int32.ofInt p1)), (2, .int (Int32.ofInt p2))]) rfl (fun p e s m args below meth c ls X hR hS hl => t_X10_below X hp1 hp2 hw _ _ hR hS ls hl)
theorem cs_X10_below {cc : ByteArray} {nL : Nat} {own : String} {ret : Option FieldType} {idx pc : Nat} {p1 : Int} {p2 : Int} (X : CX p m c cc nL s args own G B κ meth ret) (hp1 : inR p1) (hp2 : inR p2) {kc : Nat} {R : Room} {cells slots : Nat} (hRr : RmOK R kc) (hcel : cells ≤ R.cells ∧ slots ≤ R.slots) (hk : 1 + 1 ≤ kc) {M : Mem} {H : Heap} {locs : List Loc} (hR : Rp G e0 α κ B M H) (hS : va_S (fun q => B ≤ q) s.heap H locs) (k1 : Cond.methodLink own idx yX10_below ∈ gw) {ls : Array Slot} (hml : ls.size = nL) {rest : List Value} (hd : decode cc pc = .ok (.invokevirtual idx, 3)) (hrest : (rest.map fun v => v.category).sum ≤ 8) {Q : State → Prop} {Qm : Int → Mem → Prop} (hw : wp_X10_below p1 p2 M Qm) (kk : ∀ (r : Int) (M1 : Mem) (H1 : Heap) (locs1 : List Loc), Qm r M1 → inR r → Rp G e0 α κ B M1 H1 → va_S (fun q => B ≤ q) s.heap H1 locs1 → W p l e R s m args below meth c H1 locs1 cells slots Q (F0 m (pc + 3) ls (.int (Int32.ofInt r) :: rest))) : W p l e R s m args below meth c H locs cells slots Q (F0 m pc ls (.int (Int32.ofInt p2) :: .int (Int32.ofInt p1) :: .ref (α 11 0) :: rest)) :=
  sa_callVI 1 (n := 2) (As := [.int (Int32.ofInt p1), .int (Int32.ofInt p2)]) (rest := rest) X.1 X.2.1 hR hS (m_X10_below X.2.2.1 hp1 hp2 hw) k1 kw_1747 kw_46 kw_104 kw_1748 ⟨rfl, by decide +kernel, by decide +kernel, by decide +kernel⟩ (rm_ok hRr hk (by decide)) (rc_11 X hR (okf X.2.2.1 rfl)) rfl rfl hrest hml hd hcel kk
def wp_X10_cell_226 (p1 : Int) (p2 : Int) (p3 : Int) (p4 : Int) (Qm : Int → Mem → Prop) : Nat → Int → Mem → Prop
  | 0 => fun _ _ => False
  | n + 1 => fun y8 M => (inR (p3 * p4)) ∧ (((p3 * p4) ≤ y8 → (inR ((M 11 0 15) + 1)) ∧ ∀ M29 : Mem, M29 = up M 11 0 15 ((M 11 0 15) + 1) → (inR ((M29 11 0 15) - 1)) ∧ Qm ((M29 11 0 15) - 1) M29) ∧ (y8 < (p3 * p4) → (0 < p4) ∧ wp_X10_below p1 (Int.tdiv y8 p4) M fun (x36 : Int) (M35 : Mem) => (inR (6 * x36)) ∧ (inR ((6 * x36) + p2)) ∧ (0 < p4) ∧ (inR (((6 * x36) + p2) + (Int.tmod y8 p4))) ∧ (inR ((M35 11 0 15) + 1)) ∧ (0 ≤ (((6 * x36) + p2) + (Int.tmod y8 p4)) ∧ (((6 * x36) + p2) + (Int.tmod y8 p4)) < 174) ∧ ∀ M46 : Mem, M46 = up M35 69 0 (((6 * x36) + p2) + (Int.tmod y8 p4)) ((M35 11 0 15) + 1) → (inR (y8 + 1)) ∧ wp_X10_cell_226 p1 p2 p3 p4 Qm n (y8 + 1) M46))
def wp_X10_cell_167 (p1 : Int) (p2 : Int) (p3 : Int) (p4 : Int) (Qm : Int → Mem → Prop) (y5 : Int) (y6 : Int) (y7 : Int) (M : Mem) : Prop := wp_X10_goes y5 y6 y7 M fun (x8 : Int) (M7 : Mem) => ((¬ x8 = 0 → (0 ≤ (M7 11 0 15) ∧ (M7 11 0 15) < 100) ∧ ∀ M12 : Mem, M12 = up M7 65 0 (M7 11 0 15) p1 → (0 ≤ (M12 11 0 15) ∧ (M12 11 0 15) < 100) ∧ ∀ M16 : Mem, M16 = up M12 66 0 (M12 11 0 15) p2 → (0 ≤ (M16 11 0 15) ∧ (M16 11 0 15) < 100) ∧ ∀ M20 : Mem, M20 = up M16 67 0 (M16 11 0 15) p3 → (0 ≤ (M20 11 0 15) ∧ (M20 11 0 15) < 100) ∧ ∀ M24 : Mem, M24 = up M20 68 0 (M20 11 0 15) p4 → (∃ n49 : Nat, wp_X10_cell_226 p1 p2 p3 p4 Qm n49 0 M24)) ∧ (x8 = 0 → Qm 0 M7))
def wp_X10_cell_111 (p1 : Int) (p2 : Int) (p3 : Int) (p4 : Int) (Qm : Int → Mem → Prop) : Nat → Int → Int → Int → Int → Mem → Prop
  | 0 => fun _ _ _ _ _ => False
  | n + 1 => fun y5 y6 y7 y8 M => ((y7 = 0 → wp_X10_cell_167 p1 p2 p3 p4 Qm y5 y6 y7 M) ∧ (¬ y7 = 0 → (inR (p3 * p4)) ∧ (((p3 * p4) ≤ y8 → wp_X10_cell_167 p1 p2 p3 p4 Qm y5 y6 y7 M) ∧ (y8 < (p3 * p4) → (0 < p4) ∧ wp_X10_below p1 (Int.tdiv y8 p4) M fun (x54 : Int) (M53 : Mem) => (inR (6 * x54)) ∧ (inR ((6 * x54) + p2)) ∧ (0 < p4) ∧ (inR (((6 * x54) + p2) + (Int.tmod y8 p4))) ∧ (0 ≤ (((6 * x54) + p2) + (Int.tmod y8 p4)) ∧ (((6 * x54) + p2) + (Int.tmod y8 p4)) < 174) ∧ (inR (y8 + 1)) ∧ wp_X10_cell_111 p1 p2 p3 p4 Qm n y5 y6 (if ¬ (M53 69 0 (((6 * x54) + p2) + (Int.tmod y8 p4))) = 0 then (0 : Int) else 1) (y8 + 1) M53))))
def wp_X10_cell_105 (p1 : Int) (p2 : Int) (p3 : Int) (p4 : Int) (Qm : Int → Mem → Prop) (y5 : Int) (y6 : Int) (M : Mem) : Prop := (∃ n67 : Nat, wp_X10_cell_111 p1 p2 p3 p4 Qm n67 y5 y6 0 0 M)
def wp_X10_cell_47 (p1 : Int) (p2 : Int) (p3 : Int) (p4 : Int) (Qm : Int → Mem → Prop) (y5 : Int) (M : Mem) : Prop := ((y5 = 0 → wp_X10_cell_105 p1 p2 p3 p4 Qm y5 0 M) ∧ (¬ y5 = 0 → wp_X10_cell_105 p1 p2 p3 p4 Qm y5 0 M))
def wp_X10_cell_20 (p1 : Int) (p2 : Int) (p3 : Int) (p4 : Int) (Qm : Int → Mem → Prop) (M : Mem) : Prop := wp_X10_in p3 1 4 M fun (x5 : Int) (M4 : Mem) => ((x5 = 0 → wp_X10_cell_47 p1 p2 p3 p4 Qm 0 M4) ∧ (¬ x5 = 0 → wp_X10_in p4 1 6 M4 fun (x69 : Int) (M68 : Mem) => wp_X10_cell_105 p1 p2 p3 p4 Qm 0 (if x69 = 0 then (0 : Int) else 1) M68))
def wp_X10_cell (p1 : Int) (p2 : Int) (p3 : Int) (p4 : Int) (M : Mem) (Qm : Int → Mem → Prop) : Prop := wp_X10_isRow p1 M fun (x2 : Int) (M1 : Mem) => ((x2 = 0 → wp_X10_cell_20 p1 p2 p3 p4 Qm M1) ∧ (¬ x2 = 0 → wp_X10_isColumn p2 M1 fun (x75 : Int) (M74 : Mem) => wp_X10_in p3 1 4 M74 fun (x81 : Int) (M80 : Mem) => ((x81 = 0 → wp_X10_cell_47 p1 p2 p3 p4 Qm (if x75 = 0 then (0 : Int) else 1) M80) ∧ (¬ x81 = 0 → wp_X10_in p4 1 6 M80 fun (x84 : Int) (M83 : Mem) => (((if x75 = 0 then (0 : Int) else 1) = 0 → wp_X10_cell_105 p1 p2 p3 p4 Qm (if x75 = 0 then (0 : Int) else 1) (if x84 = 0 then (0 : Int) else 1) M83) ∧ (¬ (if x75 = 0 then (0 : Int) else 1) = 0 → (((if x84 = 0 then (0 : Int) else 1) = 0 → wp_X10_cell_105 p1 p2 p3 p4 Qm (if x75 = 0 then (0 : Int) else 1) (if x84 = 0 then (0 : Int) else 1) M83) ∧ (¬ (if x84 = 0 then (0 : Int) else 1) = 0 → ((100 ≤ (M83 11 0 15) → wp_X10_cell_105 p1 p2 p3 p4 Qm (if x75 = 0 then (0 : Int) else 1) (if x84 = 0 then (0 : Int) else 1) M83) ∧ ((M83 11 0 15) < 100 → wp_X10_placeOf p1 M83 fun (x91 : Int) (M90 : Mem) => (inR (x91 + p3)) ∧ (0 ≤ p1 ∧ p1 < 29) ∧ (0 ≤ (M90 60 0 p1) ∧ (M90 60 0 p1) < 3) ∧ ((x91 + p3) ≤ (M90 64 0 (M90 60 0 p1)) → (inR (p2 + p4)) ∧ True) ∧ (∃ n105 : Nat, wp_X10_cell_111 p1 p2 p3 p4 Qm n105 (if x75 = 0 then (0 : Int) else 1) (if x84 = 0 then (0 : Int) else 1) (if (M90 64 0 (M90 60 0 p1)) < (x91 + p3) then (0 : Int) else (if (M90 11 0 4) < (p2 + p4) then (0 : Int) else 1)) 0 M90)))))))))))
set_option maxHeartbeats 4000000 in
set_option maxRecDepth 100000 in
theorem t_X10_cell_226 {p1 : Int} {p2 : Int} {p3 : Int} {p4 : Int} (X : CX p m c cX10_cell 9 s args RX10 G B κ meth (some .int)) (hp1 : inR p1) (hp2 : inR p2) (hp3 : inR p3) (hp4 : inR p4) {Qm : Int → Mem → Prop} : ∀ n : Nat, ∀ y8 : Int, ∀ M : Mem, wp_X10_cell_226 p1 p2 p3 p4 Qm n y8 M → inR y8 → ∀ (H : Heap) (locs : List Loc), Rp G e0 α κ B M H → va_S (fun q => B ≤ q) s.heap H locs → ∀ (ls : Array Slot), lv_has ls 9 [(0, .ref (α 11 0)), (1, .int (Int32.ofInt p1)), (2, .int (Int32.ofInt p2)), (3, .int (Int32.ofInt p3)), (4, .int (Int32.ofInt p4)), (8, .int (Int32.ofInt y8))] → WI p l e 2 s m args below meth c G e0 α κ B Qm H locs 226 ls [] := by
  intro n
  induction n with
  | zero =>
    intro y8 M hw hy8 H locs hR hS ls hl
    exact hw.elim
  | succ n ih =>
    intro y8 M hw hy8 H locs hR hS ls hl
    have hw : (inR (p3 * p4)) ∧ (((p3 * p4) ≤ y8 → (inR ((M 11 0 15) + 1)) ∧ ∀ M29 : Mem, M29 = up M 11 0 15 ((M 11 0 15) + 1) → (inR ((M29 11 0 15) - 1)) ∧ Qm ((M29 11 0 15) - 1) M29) ∧ (y8 < (p3 * p4) → (0 < p4) ∧ wp_X10_below p1 (Int.tdiv y8 p4) M fun (x36 : Int) (M35 : Mem) => (inR (6 * x36)) ∧ (inR ((6 * x36) + p2)) ∧ (0 < p4) ∧ (inR (((6 * x36) + p2) + (Int.tmod y8 p4))) ∧ (inR ((M35 11 0 15) + 1)) ∧ (0 ≤ (((6 * x36) + p2) + (Int.tmod y8 p4)) ∧ (((6 * x36) + p2) + (Int.tmod y8 p4)) < 174) ∧ ∀ M46 : Mem, M46 = up M35 69 0 (((6 * x36) + p2) + (Int.tmod y8 p4)) ((M35 11 0 15) + 1) → (inR (y8 + 1)) ∧ wp_X10_cell_226 p1 p2 p3 p4 Qm n (y8 + 1) M46)) := hw
    refine lv_iload X.1.1 X.1.2.1 dX10_cell_226 (lv_at hl 5 rfl) ?_
    refine lv_iload_n X.1.1 X.1.2.1 dX10_cell_228 rfl (lv_at hl 3 rfl) ?_
    refine lv_iload X.1.1 X.1.2.1 dX10_cell_229 (lv_at hl 4 rfl) ?_
    have c26 := hw.1
    have hw := hw.2
    refine sa_imul X.1 dX10_cell_231 ?_
    refine sa_icmp_ge (tgt := 273) X.1 hy8 c26 dX10_cell_232 (by decide) (fun hc => ?_) (fun hc => ?_)
    · have hw := hw.1 hc
      refine lv_aload_n X.1.1 X.1.2.1 dX10_cell_273 rfl (lv_at hl 0 rfl) ?_
      refine lv_dup X.1.1 X.1.2.1 dX10_cell_274 rfl ?_
      refine gt_11_15 X hR (okf X.2.2.1 rfl) kw_1544 dX10_cell_275 ?_
      have r27 := hR.r 11 0 15
      refine sa_const X.1 dX10_cell_278 ?_
      have c28 := hw.1
      have hw := hw.2
      refine sa_iadd X.1 dX10_cell_279 ?_
      refine pt_11_15 X hR hS (okf X.2.2.1 rfl) c28 kw_1544 dX10_cell_280 (fun H locs hR hS => ?_)
      obtain ⟨M29, e30⟩ : ∃ z : Mem, z = up M 11 0 15 ((M 11 0 15) + 1) := ⟨_, rfl⟩
      rw [← e30] at hR
      have hw := hw M29 e30
      refine lv_aload_n X.1.1 X.1.2.1 dX10_cell_283 rfl (lv_at hl 0 rfl) ?_
      refine gt_11_15 X hR (okf X.2.2.1 rfl) kw_1544 dX10_cell_284 ?_
      have r31 := hR.r 11 0 15
      refine sa_const X.1 dX10_cell_287 ?_
      have c32 := hw.1
      have hw := hw.2
      refine sa_isub X.1 dX10_cell_288 ?_
      exact sa_iret X.1 X.2.2.2.1 X.2.2.2.2 hR hS c32 hw dX10_cell_289
    · have hw := hw.2 hc
      refine lv_aload_n X.1.1 X.1.2.1 dX10_cell_235 rfl (lv_at hl 0 rfl) ?_
      refine gt_11_16 X hR (okf X.2.2.1 rfl) kw_1545 dX10_cell_236 ?_
      refine sa_bipush X.1 dX10_cell_239 (by decide) ?_
      refine lv_aload_n X.1.1 X.1.2.1 dX10_cell_241 rfl (lv_at hl 0 rfl) ?_
      refine lv_iload_n X.1.1 X.1.2.1 dX10_cell_242 rfl (lv_at hl 1 rfl) ?_
      refine lv_iload X.1.1 X.1.2.1 dX10_cell_243 (lv_at hl 5 rfl) ?_
      refine lv_iload X.1.1 X.1.2.1 dX10_cell_245 (lv_at hl 4 rfl) ?_
      have c33 := hw.1
      have hw := hw.2
      have r34 := inR_tdiv hy8 hp4 c33
      refine sa_idiv X.1 hy8 hp4 (Int.ne_of_gt c33) dX10_cell_247 ?_
      refine cs_X10_below X hp1 r34 (kc := 2) rmL_ok rm_c (by decide) hR hS kw_1745 hl.1 dX10_cell_248 (Nat.le_of_ble_eq_true rfl) hw (fun x36 M35 H locs hw r37 hR hS => ?_)
      have c38 := hw.1
      have hw := hw.2
      refine sa_imul X.1 dX10_cell_251 ?_
      refine lv_iload_n X.1.1 X.1.2.1 dX10_cell_252 rfl (lv_at hl 2 rfl) ?_
      have c39 := hw.1
      have hw := hw.2
      refine sa_iadd X.1 dX10_cell_253 ?_
      refine lv_iload X.1.1 X.1.2.1 dX10_cell_254 (lv_at hl 5 rfl) ?_
      refine lv_iload X.1.1 X.1.2.1 dX10_cell_256 (lv_at hl 4 rfl) ?_
      have c40 := hw.1
      have hw := hw.2
      have r41 := inR_tmod hy8 hp4 c40
      refine sa_irem X.1 hy8 hp4 (Int.ne_of_gt c40) dX10_cell_258 ?_
      have c42 := hw.1
      have hw := hw.2
      refine sa_iadd X.1 dX10_cell_259 ?_
      refine lv_aload_n X.1.1 X.1.2.1 dX10_cell_260 rfl (lv_at hl 0 rfl) ?_
      refine gt_11_15 X hR (okf X.2.2.1 rfl) kw_1544 dX10_cell_261 ?_
      have r43 := hR.r 11 0 15
      refine sa_const X.1 dX10_cell_264 ?_
      have c44 := hw.1
      have hw := hw.2
      refine sa_iadd X.1 dX10_cell_265 ?_
      have c45 := hw.1
      have hw := hw.2
      refine wa_69 X hR hS (okf X.2.2.1 rfl) c45 c44 dX10_cell_266 (fun H locs hR hS => ?_)
      obtain ⟨M46, e47⟩ : ∃ z : Mem, z = up M35 69 0 (((6 * x36) + p2) + (Int.tmod y8 p4)) ((M35 11 0 15) + 1) := ⟨_, rfl⟩
      rw [← e47] at hR
      have hw := hw M46 e47
      have c48 := hw.1
      have hw := hw.2
      refine lv_iinc (v := Int32.ofInt (y8 + 1)) (lv' := [(8, .int (Int32.ofInt (y8 + 1))), (0, .ref (α 11 0)), (1, .int (Int32.ofInt p1)), (2, .int (Int32.ofInt p2)), (3, .int (Int32.ofInt p3)), (4, .int (Int32.ofInt p4))]) X.1.1 X.1.2.1 dX10_cell_267 hl (k := 5) rfl (Int32.ofInt_add _ _).symm (by decide) rfl (fun ls hl => ?_)
      refine lv_goto (tgt := 226) X.1.1 X.1.2.1 dX10_cell_270 (by decide) ?_
      exact ih _ _ hw c48 _ _ hR hS _ (lv_sub hl [1, 2, 3, 4, 5, 0] rfl)
set_option maxHeartbeats 4000000 in
set_option maxRecDepth 100000 in
theorem t_X10_cell_167 {p1 : Int} {p2 : Int} {p3 : Int} {p4 : Int} (X : CX p m c cX10_cell 9 s args RX10 G B κ meth (some .int)) (hp1 : inR p1) (hp2 : inR p2) (hp3 : inR p3) (hp4 : inR p4) {Qm : Int → Mem → Prop} : ∀ y5 : Int, ∀ y6 : Int, ∀ y7 : Int, ∀ M : Mem, wp_X10_cell_167 p1 p2 p3 p4 Qm y5 y6 y7 M → inR y5 → inR y6 → inR y7 → ∀ (H : Heap) (locs : List Loc), Rp G e0 α κ B M H → va_S (fun q => B ≤ q) s.heap H locs → ∀ (ls : Array Slot), lv_has ls 9 [(0, .ref (α 11 0)), (1, .int (Int32.ofInt p1)), (2, .int (Int32.ofInt p2)), (3, .int (Int32.ofInt p3)), (4, .int (Int32.ofInt p4)), (5, .int (Int32.ofInt y5)), (6, .int (Int32.ofInt y6)), (7, .int (Int32.ofInt y7))] → WI p l e 2 s m args below meth c G e0 α κ B Qm H locs 167 ls [] := by
  intro y5 y6 y7 M hw hy5 hy6 hy7 H locs hR hS ls hl
  have hw : wp_X10_goes y5 y6 y7 M fun (x8 : Int) (M7 : Mem) => ((¬ x8 = 0 → (0 ≤ (M7 11 0 15) ∧ (M7 11 0 15) < 100) ∧ ∀ M12 : Mem, M12 = up M7 65 0 (M7 11 0 15) p1 → (0 ≤ (M12 11 0 15) ∧ (M12 11 0 15) < 100) ∧ ∀ M16 : Mem, M16 = up M12 66 0 (M12 11 0 15) p2 → (0 ≤ (M16 11 0 15) ∧ (M16 11 0 15) < 100) ∧ ∀ M20 : Mem, M20 = up M16 67 0 (M16 11 0 15) p3 → (0 ≤ (M20 11 0 15) ∧ (M20 11 0 15) < 100) ∧ ∀ M24 : Mem, M24 = up M20 68 0 (M20 11 0 15) p4 → (∃ n49 : Nat, wp_X10_cell_226 p1 p2 p3 p4 Qm n49 0 M24)) ∧ (x8 = 0 → Qm 0 M7)) := hw
  refine lv_aload_n X.1.1 X.1.2.1 dX10_cell_167 rfl (lv_at hl 0 rfl) ?_
  refine lv_iload X.1.1 X.1.2.1 dX10_cell_168 (lv_at hl 5 rfl) ?_
  refine lv_iload X.1.1 X.1.2.1 dX10_cell_170 (lv_at hl 6 rfl) ?_
  refine lv_iload X.1.1 X.1.2.1 dX10_cell_172 (lv_at hl 7 rfl) ?_
  refine cs_X10_goes X hy5 hy6 hy7 (kc := 2) rmL_ok rm_c (by decide) hR hS kw_1721 hl.1 dX10_cell_174 (Nat.le_of_ble_eq_true rfl) hw (fun x8 M7 H locs hw r9 hR hS => ?_)
  refine sa_if_ne (tgt := 182) X.1 r9 dX10_cell_177 (by decide) (fun hc => ?_) (fun hc => ?_)
  · have hw := hw.1 hc
    refine lv_aload_n X.1.1 X.1.2.1 dX10_cell_182 rfl (lv_at hl 0 rfl) ?_
    refine gt_11_11 X hR (okf X.2.2.1 rfl) kw_1540 dX10_cell_183 ?_
    refine lv_aload_n X.1.1 X.1.2.1 dX10_cell_186 rfl (lv_at hl 0 rfl) ?_
    refine gt_11_15 X hR (okf X.2.2.1 rfl) kw_1544 dX10_cell_187 ?_
    have r10 := hR.r 11 0 15
    refine lv_iload_n X.1.1 X.1.2.1 dX10_cell_190 rfl (lv_at hl 1 rfl) ?_
    have c11 := hw.1
    have hw := hw.2
    refine wa_65 X hR hS (okf X.2.2.1 rfl) c11 hp1 dX10_cell_191 (fun H locs hR hS => ?_)
    obtain ⟨M12, e13⟩ : ∃ z : Mem, z = up M7 65 0 (M7 11 0 15) p1 := ⟨_, rfl⟩
    rw [← e13] at hR
    have hw := hw M12 e13
    refine lv_aload_n X.1.1 X.1.2.1 dX10_cell_192 rfl (lv_at hl 0 rfl) ?_
    refine gt_11_12 X hR (okf X.2.2.1 rfl) kw_1541 dX10_cell_193 ?_
    refine lv_aload_n X.1.1 X.1.2.1 dX10_cell_196 rfl (lv_at hl 0 rfl) ?_
    refine gt_11_15 X hR (okf X.2.2.1 rfl) kw_1544 dX10_cell_197 ?_
    have r14 := hR.r 11 0 15
    refine lv_iload_n X.1.1 X.1.2.1 dX10_cell_200 rfl (lv_at hl 2 rfl) ?_
    have c15 := hw.1
    have hw := hw.2
    refine wa_66 X hR hS (okf X.2.2.1 rfl) c15 hp2 dX10_cell_201 (fun H locs hR hS => ?_)
    obtain ⟨M16, e17⟩ : ∃ z : Mem, z = up M12 66 0 (M12 11 0 15) p2 := ⟨_, rfl⟩
    rw [← e17] at hR
    have hw := hw M16 e17
    refine lv_aload_n X.1.1 X.1.2.1 dX10_cell_202 rfl (lv_at hl 0 rfl) ?_
    refine gt_11_13 X hR (okf X.2.2.1 rfl) kw_1542 dX10_cell_203 ?_
    refine lv_aload_n X.1.1 X.1.2.1 dX10_cell_206 rfl (lv_at hl 0 rfl) ?_
    refine gt_11_15 X hR (okf X.2.2.1 rfl) kw_1544 dX10_cell_207 ?_
    have r18 := hR.r 11 0 15
    refine lv_iload_n X.1.1 X.1.2.1 dX10_cell_210 rfl (lv_at hl 3 rfl) ?_
    have c19 := hw.1
    have hw := hw.2
    refine wa_67 X hR hS (okf X.2.2.1 rfl) c19 hp3 dX10_cell_211 (fun H locs hR hS => ?_)
    obtain ⟨M20, e21⟩ : ∃ z : Mem, z = up M16 67 0 (M16 11 0 15) p3 := ⟨_, rfl⟩
    rw [← e21] at hR
    have hw := hw M20 e21
    refine lv_aload_n X.1.1 X.1.2.1 dX10_cell_212 rfl (lv_at hl 0 rfl) ?_
    refine gt_11_14 X hR (okf X.2.2.1 rfl) kw_1543 dX10_cell_213 ?_
    refine lv_aload_n X.1.1 X.1.2.1 dX10_cell_216 rfl (lv_at hl 0 rfl) ?_
    refine gt_11_15 X hR (okf X.2.2.1 rfl) kw_1544 dX10_cell_217 ?_
    have r22 := hR.r 11 0 15
    refine lv_iload X.1.1 X.1.2.1 dX10_cell_220 (lv_at hl 4 rfl) ?_
    have c23 := hw.1
    have hw := hw.2
    refine wa_68 X hR hS (okf X.2.2.1 rfl) c23 hp4 dX10_cell_222 (fun H locs hR hS => ?_)
    obtain ⟨M24, e25⟩ : ∃ z : Mem, z = up M20 68 0 (M20 11 0 15) p4 := ⟨_, rfl⟩
    rw [← e25] at hR
    have hw := hw M24 e25
    refine sa_const X.1 dX10_cell_223 ?_
    refine lv_istore (lv' := [(8, .int (Int32.ofInt 0)), (0, .ref (α 11 0)), (1, .int (Int32.ofInt p1)), (2, .int (Int32.ofInt p2)), (3, .int (Int32.ofInt p3)), (4, .int (Int32.ofInt p4)), (5, .int (Int32.ofInt y5)), (6, .int (Int32.ofInt y6)), (7, .int (Int32.ofInt y7))]) X.1.1 X.1.2.1 dX10_cell_224 hl (by decide) rfl (fun ls hl => ?_)
    obtain ⟨n49, hw⟩ := hw
    exact t_X10_cell_226 X hp1 hp2 hp3 hp4 n49 _ _ hw (inR_c (a := 0) rfl) _ _ hR hS _ (lv_sub hl [1, 2, 3, 4, 5, 0] rfl)
  · have hw := hw.2 hc
    refine sa_const X.1 dX10_cell_180 ?_
    exact sa_iret X.1 X.2.2.2.1 X.2.2.2.2 hR hS (inR_c (a := 0) rfl) hw dX10_cell_181
set_option maxHeartbeats 4000000 in
set_option maxRecDepth 100000 in
theorem t_X10_cell_111 {p1 : Int} {p2 : Int} {p3 : Int} {p4 : Int} (X : CX p m c cX10_cell 9 s args RX10 G B κ meth (some .int)) (hp1 : inR p1) (hp2 : inR p2) (hp3 : inR p3) (hp4 : inR p4) {Qm : Int → Mem → Prop} : ∀ n : Nat, ∀ y5 : Int, ∀ y6 : Int, ∀ y7 : Int, ∀ y8 : Int, ∀ M : Mem, wp_X10_cell_111 p1 p2 p3 p4 Qm n y5 y6 y7 y8 M → inR y5 → inR y6 → inR y7 → inR y8 → ∀ (H : Heap) (locs : List Loc), Rp G e0 α κ B M H → va_S (fun q => B ≤ q) s.heap H locs → ∀ (ls : Array Slot), lv_has ls 9 [(0, .ref (α 11 0)), (1, .int (Int32.ofInt p1)), (2, .int (Int32.ofInt p2)), (3, .int (Int32.ofInt p3)), (4, .int (Int32.ofInt p4)), (5, .int (Int32.ofInt y5)), (6, .int (Int32.ofInt y6)), (7, .int (Int32.ofInt y7)), (8, .int (Int32.ofInt y8))] → WI p l e 2 s m args below meth c G e0 α κ B Qm H locs 111 ls [] := by
  intro n
  induction n with
  | zero =>
    intro y5 y6 y7 y8 M hw hy5 hy6 hy7 hy8 H locs hR hS ls hl
    exact hw.elim
  | succ n ih =>
    intro y5 y6 y7 y8 M hw hy5 hy6 hy7 hy8 H locs hR hS ls hl
    have hw : ((y7 = 0 → wp_X10_cell_167 p1 p2 p3 p4 Qm y5 y6 y7 M) ∧ (¬ y7 = 0 → (inR (p3 * p4)) ∧ (((p3 * p4) ≤ y8 → wp_X10_cell_167 p1 p2 p3 p4 Qm y5 y6 y7 M) ∧ (y8 < (p3 * p4) → (0 < p4) ∧ wp_X10_below p1 (Int.tdiv y8 p4) M fun (x54 : Int) (M53 : Mem) => (inR (6 * x54)) ∧ (inR ((6 * x54) + p2)) ∧ (0 < p4) ∧ (inR (((6 * x54) + p2) + (Int.tmod y8 p4))) ∧ (0 ≤ (((6 * x54) + p2) + (Int.tmod y8 p4)) ∧ (((6 * x54) + p2) + (Int.tmod y8 p4)) < 174) ∧ (inR (y8 + 1)) ∧ wp_X10_cell_111 p1 p2 p3 p4 Qm n y5 y6 (if ¬ (M53 69 0 (((6 * x54) + p2) + (Int.tmod y8 p4))) = 0 then (0 : Int) else 1) (y8 + 1) M53)))) := hw
    refine lv_iload X.1.1 X.1.2.1 dX10_cell_111 (lv_at hl 7 rfl) ?_
    refine sa_if_eq (tgt := 167) X.1 hy7 dX10_cell_113 (by decide) (fun hc => ?_) (fun hc => ?_)
    · have hw := hw.1 hc
      exact t_X10_cell_167 X hp1 hp2 hp3 hp4 _ _ _ _ hw hy5 hy6 hy7 _ _ hR hS _ (lv_sub hl [0, 1, 2, 3, 4, 5, 6, 7] rfl)
    · have hw := hw.2 hc
      refine lv_iload X.1.1 X.1.2.1 dX10_cell_116 (lv_at hl 8 rfl) ?_
      refine lv_iload_n X.1.1 X.1.2.1 dX10_cell_118 rfl (lv_at hl 3 rfl) ?_
      refine lv_iload X.1.1 X.1.2.1 dX10_cell_119 (lv_at hl 4 rfl) ?_
      have c50 := hw.1
      have hw := hw.2
      refine sa_imul X.1 dX10_cell_121 ?_
      refine sa_icmp_ge (tgt := 167) X.1 hy8 c50 dX10_cell_122 (by decide) (fun hc => ?_) (fun hc => ?_)
      · have hw := hw.1 hc
        exact t_X10_cell_167 X hp1 hp2 hp3 hp4 _ _ _ _ hw hy5 hy6 hy7 _ _ hR hS _ (lv_sub hl [0, 1, 2, 3, 4, 5, 6, 7] rfl)
      · have hw := hw.2 hc
        refine lv_aload_n X.1.1 X.1.2.1 dX10_cell_125 rfl (lv_at hl 0 rfl) ?_
        refine gt_11_16 X hR (okf X.2.2.1 rfl) kw_1545 dX10_cell_126 ?_
        refine sa_bipush X.1 dX10_cell_129 (by decide) ?_
        refine lv_aload_n X.1.1 X.1.2.1 dX10_cell_131 rfl (lv_at hl 0 rfl) ?_
        refine lv_iload_n X.1.1 X.1.2.1 dX10_cell_132 rfl (lv_at hl 1 rfl) ?_
        refine lv_iload X.1.1 X.1.2.1 dX10_cell_133 (lv_at hl 8 rfl) ?_
        refine lv_iload X.1.1 X.1.2.1 dX10_cell_135 (lv_at hl 4 rfl) ?_
        have c51 := hw.1
        have hw := hw.2
        have r52 := inR_tdiv hy8 hp4 c51
        refine sa_idiv X.1 hy8 hp4 (Int.ne_of_gt c51) dX10_cell_137 ?_
        refine cs_X10_below X hp1 r52 (kc := 2) rmL_ok rm_c (by decide) hR hS kw_1745 hl.1 dX10_cell_138 (Nat.le_of_ble_eq_true rfl) hw (fun x54 M53 H locs hw r55 hR hS => ?_)
        have c56 := hw.1
        have hw := hw.2
        refine sa_imul X.1 dX10_cell_141 ?_
        refine lv_iload_n X.1.1 X.1.2.1 dX10_cell_142 rfl (lv_at hl 2 rfl) ?_
        have c57 := hw.1
        have hw := hw.2
        refine sa_iadd X.1 dX10_cell_143 ?_
        refine lv_iload X.1.1 X.1.2.1 dX10_cell_144 (lv_at hl 8 rfl) ?_
        refine lv_iload X.1.1 X.1.2.1 dX10_cell_146 (lv_at hl 4 rfl) ?_
        have c58 := hw.1
        have hw := hw.2
        have r59 := inR_tmod hy8 hp4 c58
        refine sa_irem X.1 hy8 hp4 (Int.ne_of_gt c58) dX10_cell_148 ?_
        have c60 := hw.1
        have hw := hw.2
        refine sa_iadd X.1 dX10_cell_149 ?_
        have c61 := hw.1
        have hw := hw.2
        refine ra_69 X hR (okf X.2.2.1 rfl) c61 dX10_cell_150 ?_
        have r62 := hR.r 69 0 (((6 * x54) + p2) + (Int.tmod y8 p4))
        have r63 := inR_ite (c := ¬ (M53 69 0 (((6 * x54) + p2) + (Int.tmod y8 p4))) = 0) (inR_c (a := 0) rfl) (inR_c (a := 1) rfl)
        refine cut_j (A := ∀ v64 : Int, v64 = (if ¬ (M53 69 0 (((6 * x54) + p2) + (Int.tmod y8 p4))) = 0 then (0 : Int) else 1) → WI p l e 2 s m args below meth c G e0 α κ B Qm H locs 159 ls [.int (Int32.ofInt v64)]) (fun J65 => ?_) ?_
        · refine sa_if_ne (tgt := 158) X.1 r62 dX10_cell_151 (by decide) (fun hc => ?_) (fun hc => ?_)
          · skip
            refine sa_const X.1 dX10_cell_158 ?_
            exact J65 (0) (if_pos (c := ¬ (M53 69 0 (((6 * x54) + p2) + (Int.tmod y8 p4))) = 0) hc).symm
          · skip
            refine sa_const X.1 dX10_cell_154 ?_
            refine lv_goto (tgt := 159) X.1.1 X.1.2.1 dX10_cell_155 (by decide) ?_
            exact J65 (1) (if_neg (c := ¬ (M53 69 0 (((6 * x54) + p2) + (Int.tmod y8 p4))) = 0) (fun z => z hc)).symm
        intro v64 hv64
        subst hv64
        refine lv_istore (lv' := [(7, .int (Int32.ofInt (if ¬ (M53 69 0 (((6 * x54) + p2) + (Int.tmod y8 p4))) = 0 then (0 : Int) else 1))), (0, .ref (α 11 0)), (1, .int (Int32.ofInt p1)), (2, .int (Int32.ofInt p2)), (3, .int (Int32.ofInt p3)), (4, .int (Int32.ofInt p4)), (5, .int (Int32.ofInt y5)), (6, .int (Int32.ofInt y6)), (8, .int (Int32.ofInt y8))]) X.1.1 X.1.2.1 dX10_cell_159 hl (by decide) rfl (fun ls hl => ?_)
        have c66 := hw.1
        have hw := hw.2
        refine lv_iinc (v := Int32.ofInt (y8 + 1)) (lv' := [(8, .int (Int32.ofInt (y8 + 1))), (7, .int (Int32.ofInt (if ¬ (M53 69 0 (((6 * x54) + p2) + (Int.tmod y8 p4))) = 0 then (0 : Int) else 1))), (0, .ref (α 11 0)), (1, .int (Int32.ofInt p1)), (2, .int (Int32.ofInt p2)), (3, .int (Int32.ofInt p3)), (4, .int (Int32.ofInt p4)), (5, .int (Int32.ofInt y5)), (6, .int (Int32.ofInt y6))]) X.1.1 X.1.2.1 dX10_cell_161 hl (k := 8) rfl (Int32.ofInt_add _ _).symm (by decide) rfl (fun ls hl => ?_)
        refine lv_goto (tgt := 111) X.1.1 X.1.2.1 dX10_cell_164 (by decide) ?_
        exact ih _ _ _ _ _ hw hy5 hy6 r63 c66 _ _ hR hS _ (lv_sub hl [2, 3, 4, 5, 6, 7, 8, 1, 0] rfl)
set_option maxHeartbeats 4000000 in
set_option maxRecDepth 100000 in
theorem t_X10_cell_105 {p1 : Int} {p2 : Int} {p3 : Int} {p4 : Int} (X : CX p m c cX10_cell 9 s args RX10 G B κ meth (some .int)) (hp1 : inR p1) (hp2 : inR p2) (hp3 : inR p3) (hp4 : inR p4) {Qm : Int → Mem → Prop} : ∀ y5 : Int, ∀ y6 : Int, ∀ M : Mem, wp_X10_cell_105 p1 p2 p3 p4 Qm y5 y6 M → inR y5 → inR y6 → ∀ (H : Heap) (locs : List Loc), Rp G e0 α κ B M H → va_S (fun q => B ≤ q) s.heap H locs → ∀ (ls : Array Slot), lv_has ls 9 [(0, .ref (α 11 0)), (1, .int (Int32.ofInt p1)), (2, .int (Int32.ofInt p2)), (3, .int (Int32.ofInt p3)), (4, .int (Int32.ofInt p4)), (5, .int (Int32.ofInt y5)), (6, .int (Int32.ofInt y6))] → WI p l e 2 s m args below meth c G e0 α κ B Qm H locs 105 ls [] := by
  intro y5 y6 M hw hy5 hy6 H locs hR hS ls hl
  have hw : (∃ n67 : Nat, wp_X10_cell_111 p1 p2 p3 p4 Qm n67 y5 y6 0 0 M) := hw
  refine sa_const X.1 dX10_cell_105 ?_
  refine lv_istore (lv' := [(7, .int (Int32.ofInt 0)), (0, .ref (α 11 0)), (1, .int (Int32.ofInt p1)), (2, .int (Int32.ofInt p2)), (3, .int (Int32.ofInt p3)), (4, .int (Int32.ofInt p4)), (5, .int (Int32.ofInt y5)), (6, .int (Int32.ofInt y6))]) X.1.1 X.1.2.1 dX10_cell_106 hl (by decide) rfl (fun ls hl => ?_)
  refine sa_const X.1 dX10_cell_108 ?_
  refine lv_istore (lv' := [(8, .int (Int32.ofInt 0)), (7, .int (Int32.ofInt 0)), (0, .ref (α 11 0)), (1, .int (Int32.ofInt p1)), (2, .int (Int32.ofInt p2)), (3, .int (Int32.ofInt p3)), (4, .int (Int32.ofInt p4)), (5, .int (Int32.ofInt y5)), (6, .int (Int32.ofInt y6))]) X.1.1 X.1.2.1 dX10_cell_109 hl (by decide) rfl (fun ls hl => ?_)
  obtain ⟨n67, hw⟩ := hw
  exact t_X10_cell_111 X hp1 hp2 hp3 hp4 n67 _ _ _ _ _ hw hy5 hy6 (inR_c (a := 0) rfl) (inR_c (a := 0) rfl) _ _ hR hS _ (lv_sub hl [2, 3, 4, 5, 6, 7, 8, 1, 0] rfl)
set_option maxHeartbeats 4000000 in
set_option maxRecDepth 100000 in
theorem t_X10_cell_47 {p1 : Int} {p2 : Int} {p3 : Int} {p4 : Int} (X : CX p m c cX10_cell 9 s args RX10 G B κ meth (some .int)) (hp1 : inR p1) (hp2 : inR p2) (hp3 : inR p3) (hp4 : inR p4) {Qm : Int → Mem → Prop} : ∀ y5 : Int, ∀ M : Mem, wp_X10_cell_47 p1 p2 p3 p4 Qm y5 M → inR y5 → ∀ (H : Heap) (locs : List Loc), Rp G e0 α κ B M H → va_S (fun q => B ≤ q) s.heap H locs → ∀ (ls : Array Slot), lv_has ls 9 [(0, .ref (α 11 0)), (1, .int (Int32.ofInt p1)), (2, .int (Int32.ofInt p2)), (3, .int (Int32.ofInt p3)), (4, .int (Int32.ofInt p4)), (5, .int (Int32.ofInt y5))] → WI p l e 2 s m args below meth c G e0 α κ B Qm H locs 47 ls [] := by
  intro y5 M hw hy5 H locs hR hS ls hl
  have hw : ((y5 = 0 → wp_X10_cell_105 p1 p2 p3 p4 Qm y5 0 M) ∧ (¬ y5 = 0 → wp_X10_cell_105 p1 p2 p3 p4 Qm y5 0 M)) := hw
  refine sa_const X.1 dX10_cell_47 ?_
  refine lv_istore (lv' := [(6, .int (Int32.ofInt 0)), (0, .ref (α 11 0)), (1, .int (Int32.ofInt p1)), (2, .int (Int32.ofInt p2)), (3, .int (Int32.ofInt p3)), (4, .int (Int32.ofInt p4)), (5, .int (Int32.ofInt y5))]) X.1.1 X.1.2.1 dX10_cell_48 hl (by decide) rfl (fun ls hl => ?_)
  refine lv_iload X.1.1 X.1.2.1 dX10_cell_50 (lv_at hl 6 rfl) ?_
  refine sa_if_eq (tgt := 105) X.1 hy5 dX10_cell_52 (by decide) (fun hc => ?_) (fun hc => ?_)
  · have hw := hw.1 hc
    exact t_X10_cell_105 X hp1 hp2 hp3 hp4 _ _ _ hw hy5 (inR_c (a := 0) rfl) _ _ hR hS _ (lv_sub hl [1, 2, 3, 4, 5, 6, 0] rfl)
  · have hw := hw.2 hc
    refine lv_iload X.1.1 X.1.2.1 dX10_cell_55 (lv_at hl 0 rfl) ?_
    refine sa_if_eq (tgt := 105) X.1 (inR_c (a := 0) rfl) dX10_cell_57 (by decide) (fun hc => ?_) (fun hc => absurd hc (by decide))
    exact t_X10_cell_105 X hp1 hp2 hp3 hp4 _ _ _ hw hy5 (inR_c (a := 0) rfl) _ _ hR hS _ (lv_sub hl [1, 2, 3, 4, 5, 6, 0] rfl)
set_option maxHeartbeats 4000000 in
set_option maxRecDepth 100000 in
theorem t_X10_cell_20 {p1 : Int} {p2 : Int} {p3 : Int} {p4 : Int} (X : CX p m c cX10_cell 9 s args RX10 G B κ meth (some .int)) (hp1 : inR p1) (hp2 : inR p2) (hp3 : inR p3) (hp4 : inR p4) {Qm : Int → Mem → Prop} : ∀ M : Mem, wp_X10_cell_20 p1 p2 p3 p4 Qm M → ∀ (H : Heap) (locs : List Loc), Rp G e0 α κ B M H → va_S (fun q => B ≤ q) s.heap H locs → ∀ (ls : Array Slot), lv_has ls 9 [(0, .ref (α 11 0)), (1, .int (Int32.ofInt p1)), (2, .int (Int32.ofInt p2)), (3, .int (Int32.ofInt p3)), (4, .int (Int32.ofInt p4))] → WI p l e 2 s m args below meth c G e0 α κ B Qm H locs 20 ls [] := by
  intro M hw H locs hR hS ls hl
  have hw : wp_X10_in p3 1 4 M fun (x5 : Int) (M4 : Mem) => ((x5 = 0 → wp_X10_cell_47 p1 p2 p3 p4 Qm 0 M4) ∧ (¬ x5 = 0 → wp_X10_in p4 1 6 M4 fun (x69 : Int) (M68 : Mem) => wp_X10_cell_105 p1 p2 p3 p4 Qm 0 (if x69 = 0 then (0 : Int) else 1) M68)) := hw
  refine sa_const X.1 dX10_cell_20 ?_
  refine lv_istore (lv' := [(5, .int (Int32.ofInt 0)), (0, .ref (α 11 0)), (1, .int (Int32.ofInt p1)), (2, .int (Int32.ofInt p2)), (3, .int (Int32.ofInt p3)), (4, .int (Int32.ofInt p4))]) X.1.1 X.1.2.1 dX10_cell_21 hl (by decide) rfl (fun ls hl => ?_)
  refine lv_iload_n X.1.1 X.1.2.1 dX10_cell_23 rfl (lv_at hl 4 rfl) ?_
  refine sa_const X.1 dX10_cell_24 ?_
  refine sa_const X.1 dX10_cell_25 ?_
  refine cs_X10_in X hp3 (inR_c (a := 1) rfl) (inR_c (a := 4) rfl) (kc := 2) rmL_ok rm_c (by decide) hR hS kw_1718 hl.1 dX10_cell_26 (Nat.le_of_ble_eq_true rfl) hw (fun x5 M4 H locs hw r6 hR hS => ?_)
  refine sa_if_eq (tgt := 47) X.1 r6 dX10_cell_29 (by decide) (fun hc => ?_) (fun hc => ?_)
  · have hw := hw.1 hc
    exact t_X10_cell_47 X hp1 hp2 hp3 hp4 _ _ hw (inR_c (a := 0) rfl) _ _ hR hS _ (lv_sub hl [1, 2, 3, 4, 5, 0] rfl)
  · have hw := hw.2 hc
    refine lv_iload X.1.1 X.1.2.1 dX10_cell_32 (lv_at hl 5 rfl) ?_
    refine sa_const X.1 dX10_cell_34 ?_
    refine sa_bipush X.1 dX10_cell_35 (by decide) ?_
    refine cs_X10_in X hp4 (inR_c (a := 1) rfl) (inR_c (a := 6) rfl) (kc := 2) rmL_ok rm_c (by decide) hR hS kw_1718 hl.1 dX10_cell_37 (Nat.le_of_ble_eq_true rfl) hw (fun x69 M68 H locs hw r70 hR hS => ?_)
    have r71 := inR_ite (c := x69 = 0) (inR_c (a := 0) rfl) (inR_c (a := 1) rfl)
    refine cut_j (A := ∀ v72 : Int, v72 = (if x69 = 0 then (0 : Int) else 1) → WI p l e 2 s m args below meth c G e0 α κ B Qm H locs 48 ls [.int (Int32.ofInt v72)]) (fun J73 => ?_) ?_
    · refine sa_if_eq (tgt := 47) X.1 r70 dX10_cell_40 (by decide) (fun hc => ?_) (fun hc => ?_)
      · skip
        refine sa_const X.1 dX10_cell_47 ?_
        exact J73 (0) (if_pos (c := x69 = 0) hc).symm
      · skip
        refine sa_const X.1 dX10_cell_43 ?_
        refine lv_goto (tgt := 48) X.1.1 X.1.2.1 dX10_cell_44 (by decide) ?_
        exact J73 (1) (if_neg (c := x69 = 0) hc).symm
    intro v72 hv72
    subst hv72
    refine lv_istore (lv' := [(6, .int (Int32.ofInt (if x69 = 0 then (0 : Int) else 1))), (5, .int (Int32.ofInt 0)), (0, .ref (α 11 0)), (1, .int (Int32.ofInt p1)), (2, .int (Int32.ofInt p2)), (3, .int (Int32.ofInt p3)), (4, .int (Int32.ofInt p4))]) X.1.1 X.1.2.1 dX10_cell_48 hl (by decide) rfl (fun ls hl => ?_)
    refine lv_iload X.1.1 X.1.2.1 dX10_cell_50 (lv_at hl 1 rfl) ?_
    refine sa_if_eq (tgt := 105) X.1 (inR_c (a := 0) rfl) dX10_cell_52 (by decide) (fun hc => ?_) (fun hc => absurd hc (by decide))
    exact t_X10_cell_105 X hp1 hp2 hp3 hp4 _ _ _ hw (inR_c (a := 0) rfl) r71 _ _ hR hS _ (lv_sub hl [2, 3, 4, 5, 6, 1, 0] rfl)
set_option maxHeartbeats 4000000 in
set_option maxRecDepth 100000 in
theorem t_X10_cell {p1 : Int} {p2 : Int} {p3 : Int} {p4 : Int} (X : CX p m c cX10_cell 9 s args RX10 G B κ meth (some .int)) (hp1 : inR p1) (hp2 : inR p2) (hp3 : inR p3) (hp4 : inR p4) {M : Mem} {Qm : Int → Mem → Prop} (hw : wp_X10_cell p1 p2 p3 p4 M Qm) (H : Heap) (locs : List Loc) (hR : Rp G e0 α κ B M H) (hS : va_S (fun q => B ≤ q) s.heap H locs) (ls : Array Slot) (hl : lv_has ls 9 [(0, .ref (α 11 0)), (1, .int (Int32.ofInt p1)), (2, .int (Int32.ofInt p2)), (3, .int (Int32.ofInt p3)), (4, .int (Int32.ofInt p4))]) : WI p l e 2 s m args below meth c G e0 α κ B Qm H locs 0 ls [] := by
  have hw : wp_X10_isRow p1 M fun (x2 : Int) (M1 : Mem) => ((x2 = 0 → wp_X10_cell_20 p1 p2 p3 p4 Qm M1) ∧ (¬ x2 = 0 → wp_X10_isColumn p2 M1 fun (x75 : Int) (M74 : Mem) => wp_X10_in p3 1 4 M74 fun (x81 : Int) (M80 : Mem) => ((x81 = 0 → wp_X10_cell_47 p1 p2 p3 p4 Qm (if x75 = 0 then (0 : Int) else 1) M80) ∧ (¬ x81 = 0 → wp_X10_in p4 1 6 M80 fun (x84 : Int) (M83 : Mem) => (((if x75 = 0 then (0 : Int) else 1) = 0 → wp_X10_cell_105 p1 p2 p3 p4 Qm (if x75 = 0 then (0 : Int) else 1) (if x84 = 0 then (0 : Int) else 1) M83) ∧ (¬ (if x75 = 0 then (0 : Int) else 1) = 0 → (((if x84 = 0 then (0 : Int) else 1) = 0 → wp_X10_cell_105 p1 p2 p3 p4 Qm (if x75 = 0 then (0 : Int) else 1) (if x84 = 0 then (0 : Int) else 1) M83) ∧ (¬ (if x84 = 0 then (0 : Int) else 1) = 0 → ((100 ≤ (M83 11 0 15) → wp_X10_cell_105 p1 p2 p3 p4 Qm (if x75 = 0 then (0 : Int) else 1) (if x84 = 0 then (0 : Int) else 1) M83) ∧ ((M83 11 0 15) < 100 → wp_X10_placeOf p1 M83 fun (x91 : Int) (M90 : Mem) => (inR (x91 + p3)) ∧ (0 ≤ p1 ∧ p1 < 29) ∧ (0 ≤ (M90 60 0 p1) ∧ (M90 60 0 p1) < 3) ∧ ((x91 + p3) ≤ (M90 64 0 (M90 60 0 p1)) → (inR (p2 + p4)) ∧ True) ∧ (∃ n105 : Nat, wp_X10_cell_111 p1 p2 p3 p4 Qm n105 (if x75 = 0 then (0 : Int) else 1) (if x84 = 0 then (0 : Int) else 1) (if (M90 64 0 (M90 60 0 p1)) < (x91 + p3) then (0 : Int) else (if (M90 11 0 4) < (p2 + p4) then (0 : Int) else 1)) 0 M90))))))))))) := hw
  refine lv_aload_n X.1.1 X.1.2.1 dX10_cell_0 rfl (lv_at hl 0 rfl) ?_
  refine lv_iload_n X.1.1 X.1.2.1 dX10_cell_1 rfl (lv_at hl 1 rfl) ?_
  refine cs_X10_isRow X hp1 (kc := 2) rmL_ok rm_c (by decide) hR hS kw_1733 hl.1 dX10_cell_2 (Nat.le_of_ble_eq_true rfl) hw (fun x2 M1 H locs hw r3 hR hS => ?_)
  refine sa_if_eq (tgt := 20) X.1 r3 dX10_cell_5 (by decide) (fun hc => ?_) (fun hc => ?_)
  · have hw := hw.1 hc
    exact t_X10_cell_20 X hp1 hp2 hp3 hp4 _ hw _ _ hR hS _ (lv_sub hl [0, 1, 2, 3, 4] rfl)
  · have hw := hw.2 hc
    refine lv_aload_n X.1.1 X.1.2.1 dX10_cell_8 rfl (lv_at hl 0 rfl) ?_
    refine lv_iload_n X.1.1 X.1.2.1 dX10_cell_9 rfl (lv_at hl 2 rfl) ?_
    refine cs_X10_isColumn X hp2 (kc := 2) rmL_ok rm_c (by decide) hR hS kw_1737 hl.1 dX10_cell_10 (Nat.le_of_ble_eq_true rfl) hw (fun x75 M74 H locs hw r76 hR hS => ?_)
    have r77 := inR_ite (c := x75 = 0) (inR_c (a := 0) rfl) (inR_c (a := 1) rfl)
    refine cut_j (A := ∀ v78 : Int, v78 = (if x75 = 0 then (0 : Int) else 1) → WI p l e 2 s m args below meth c G e0 α κ B Qm H locs 21 ls [.int (Int32.ofInt v78)]) (fun J79 => ?_) ?_
    · refine sa_if_eq (tgt := 20) X.1 r76 dX10_cell_13 (by decide) (fun hc => ?_) (fun hc => ?_)
      · skip
        refine sa_const X.1 dX10_cell_20 ?_
        exact J79 (0) (if_pos (c := x75 = 0) hc).symm
      · skip
        refine sa_const X.1 dX10_cell_16 ?_
        refine lv_goto (tgt := 21) X.1.1 X.1.2.1 dX10_cell_17 (by decide) ?_
        exact J79 (1) (if_neg (c := x75 = 0) hc).symm
    intro v78 hv78
    subst hv78
    refine lv_istore (lv' := [(5, .int (Int32.ofInt (if x75 = 0 then (0 : Int) else 1))), (0, .ref (α 11 0)), (1, .int (Int32.ofInt p1)), (2, .int (Int32.ofInt p2)), (3, .int (Int32.ofInt p3)), (4, .int (Int32.ofInt p4))]) X.1.1 X.1.2.1 dX10_cell_21 hl (by decide) rfl (fun ls hl => ?_)
    refine lv_iload_n X.1.1 X.1.2.1 dX10_cell_23 rfl (lv_at hl 4 rfl) ?_
    refine sa_const X.1 dX10_cell_24 ?_
    refine sa_const X.1 dX10_cell_25 ?_
    refine cs_X10_in X hp3 (inR_c (a := 1) rfl) (inR_c (a := 4) rfl) (kc := 2) rmL_ok rm_c (by decide) hR hS kw_1718 hl.1 dX10_cell_26 (Nat.le_of_ble_eq_true rfl) hw (fun x81 M80 H locs hw r82 hR hS => ?_)
    refine sa_if_eq (tgt := 47) X.1 r82 dX10_cell_29 (by decide) (fun hc => ?_) (fun hc => ?_)
    · have hw := hw.1 hc
      exact t_X10_cell_47 X hp1 hp2 hp3 hp4 _ _ hw r77 _ _ hR hS _ (lv_sub hl [1, 2, 3, 4, 5, 0] rfl)
    · have hw := hw.2 hc
      refine lv_iload X.1.1 X.1.2.1 dX10_cell_32 (lv_at hl 5 rfl) ?_
      refine sa_const X.1 dX10_cell_34 ?_
      refine sa_bipush X.1 dX10_cell_35 (by decide) ?_
      refine cs_X10_in X hp4 (inR_c (a := 1) rfl) (inR_c (a := 6) rfl) (kc := 2) rmL_ok rm_c (by decide) hR hS kw_1718 hl.1 dX10_cell_37 (Nat.le_of_ble_eq_true rfl) hw (fun x84 M83 H locs hw r85 hR hS => ?_)
      have r86 := inR_ite (c := x84 = 0) (inR_c (a := 0) rfl) (inR_c (a := 1) rfl)
      refine cut_j (A := ∀ v87 : Int, v87 = (if x84 = 0 then (0 : Int) else 1) → WI p l e 2 s m args below meth c G e0 α κ B Qm H locs 48 ls [.int (Int32.ofInt v87)]) (fun J88 => ?_) ?_
      · refine sa_if_eq (tgt := 47) X.1 r85 dX10_cell_40 (by decide) (fun hc => ?_) (fun hc => ?_)
        · skip
          refine sa_const X.1 dX10_cell_47 ?_
          exact J88 (0) (if_pos (c := x84 = 0) hc).symm
        · skip
          refine sa_const X.1 dX10_cell_43 ?_
          refine lv_goto (tgt := 48) X.1.1 X.1.2.1 dX10_cell_44 (by decide) ?_
          exact J88 (1) (if_neg (c := x84 = 0) hc).symm
      intro v87 hv87
      subst hv87
      refine lv_istore (lv' := [(6, .int (Int32.ofInt (if x84 = 0 then (0 : Int) else 1))), (5, .int (Int32.ofInt (if x75 = 0 then (0 : Int) else 1))), (0, .ref (α 11 0)), (1, .int (Int32.ofInt p1)), (2, .int (Int32.ofInt p2)), (3, .int (Int32.ofInt p3)), (4, .int (Int32.ofInt p4))]) X.1.1 X.1.2.1 dX10_cell_48 hl (by decide) rfl (fun ls hl => ?_)
      refine lv_iload X.1.1 X.1.2.1 dX10_cell_50 (lv_at hl 1 rfl) ?_
      refine sa_if_eq (tgt := 105) X.1 r77 dX10_cell_52 (by decide) (fun hc => ?_) (fun hc => ?_)
      · have hw := hw.1 hc
        exact t_X10_cell_105 X hp1 hp2 hp3 hp4 _ _ _ hw r77 r86 _ _ hR hS _ (lv_sub hl [2, 3, 4, 5, 6, 1, 0] rfl)
      · have hw := hw.2 hc
        refine lv_iload X.1.1 X.1.2.1 dX10_cell_55 (lv_at hl 0 rfl) ?_
        refine sa_if_eq (tgt := 105) X.1 r86 dX10_cell_57 (by decide) (fun hc => ?_) (fun hc => ?_)
        · have hw := hw.1 hc
          exact t_X10_cell_105 X hp1 hp2 hp3 hp4 _ _ _ hw r77 r86 _ _ hR hS _ (lv_sub hl [2, 3, 4, 5, 6, 1, 0] rfl)
        · have hw := hw.2 hc
          refine lv_aload_n X.1.1 X.1.2.1 dX10_cell_60 rfl (lv_at hl 2 rfl) ?_
          refine gt_11_15 X hR (okf X.2.2.1 rfl) kw_1544 dX10_cell_61 ?_
          have r89 := hR.r 11 0 15
          refine sa_bipush X.1 dX10_cell_64 (by decide) ?_
          refine sa_icmp_ge (tgt := 105) X.1 r89 (inR_c (a := 100) rfl) dX10_cell_66 (by decide) (fun hc => ?_) (fun hc => ?_)
          · have hw := hw.1 hc
            exact t_X10_cell_105 X hp1 hp2 hp3 hp4 _ _ _ hw r77 r86 _ _ hR hS _ (lv_sub hl [2, 3, 4, 5, 6, 1, 0] rfl)
          · have hw := hw.2 hc
            refine lv_aload_n X.1.1 X.1.2.1 dX10_cell_69 rfl (lv_at hl 2 rfl) ?_
            refine lv_iload_n X.1.1 X.1.2.1 dX10_cell_70 rfl (lv_at hl 3 rfl) ?_
            refine cs_X10_placeOf X hp1 (kc := 2) rmL_ok rm_c (by decide) hR hS kw_1741 hl.1 dX10_cell_71 (Nat.le_of_ble_eq_true rfl) hw (fun x91 M90 H locs hw r92 hR hS => ?_)
            refine lv_iload_n X.1.1 X.1.2.1 dX10_cell_74 rfl (lv_at hl 5 rfl) ?_
            have c93 := hw.1
            have hw := hw.2
            refine sa_iadd X.1 dX10_cell_75 ?_
            refine lv_aload_n X.1.1 X.1.2.1 dX10_cell_76 rfl (lv_at hl 2 rfl) ?_
            refine gt_11_10 X hR (okf X.2.2.1 rfl) kw_1539 dX10_cell_77 ?_
            refine lv_aload_n X.1.1 X.1.2.1 dX10_cell_80 rfl (lv_at hl 2 rfl) ?_
            refine gt_11_5 X hR (okf X.2.2.1 rfl) kw_1534 dX10_cell_81 ?_
            refine lv_iload_n X.1.1 X.1.2.1 dX10_cell_84 rfl (lv_at hl 3 rfl) ?_
            have c94 := hw.1
            have hw := hw.2
            refine ra_60 X hR (okf X.2.2.1 rfl) c94 dX10_cell_85 ?_
            have r95 := hR.r 60 0 p1
            have c96 := hw.1
            have hw := hw.2
            refine ra_64 X hR (okf X.2.2.1 rfl) c96 dX10_cell_86 ?_
            have r97 := hR.r 64 0 (M90 60 0 p1)
            have s101 := hw.1
            have hw := hw.2
            have r102 := inR_ite (c := (M90 64 0 (M90 60 0 p1)) < (x91 + p3)) (inR_c (a := 0) rfl) (inR_ite (c := (M90 11 0 4) < (p2 + p4)) (inR_c (a := 0) rfl) (inR_c (a := 1) rfl))
            refine cut_j (A := ∀ v103 : Int, v103 = (if (M90 64 0 (M90 60 0 p1)) < (x91 + p3) then (0 : Int) else (if (M90 11 0 4) < (p2 + p4) then (0 : Int) else 1)) → WI p l e 2 s m args below meth c G e0 α κ B Qm H locs 106 ls [.int (Int32.ofInt v103)]) (fun J104 => ?_) ?_
            · refine sa_icmp_gt (tgt := 105) X.1 c93 r97 dX10_cell_87 (by decide) (fun hc => ?_) (fun hc => ?_)
              · skip
                refine sa_const X.1 dX10_cell_105 ?_
                exact J104 (0) (if_pos (c := (M90 64 0 (M90 60 0 p1)) < (x91 + p3)) hc).symm
              · have hw := s101 hc
                refine lv_iload_n X.1.1 X.1.2.1 dX10_cell_90 rfl (lv_at hl 4 rfl) ?_
                refine lv_iload X.1.1 X.1.2.1 dX10_cell_91 (lv_at hl 6 rfl) ?_
                have c98 := hw.1
                have hw := hw.2
                refine sa_iadd X.1 dX10_cell_93 ?_
                refine lv_aload_n X.1.1 X.1.2.1 dX10_cell_94 rfl (lv_at hl 2 rfl) ?_
                refine gt_11_4 X hR (okf X.2.2.1 rfl) kw_1533 dX10_cell_95 ?_
                refine cut_j (A := ∀ v99 : Int, v99 = (if (M90 11 0 4) < (p2 + p4) then (0 : Int) else 1) → WI p l e 2 s m args below meth c G e0 α κ B Qm H locs 106 ls [.int (Int32.ofInt v99)]) (fun J100 => ?_) ?_
                · refine sa_icmp_gt (tgt := 105) X.1 c98 (hR.r 11 0 4) dX10_cell_98 (by decide) (fun hc => ?_) (fun hc => ?_)
                  · skip
                    refine sa_const X.1 dX10_cell_105 ?_
                    exact J100 (0) (if_pos (c := (M90 11 0 4) < (p2 + p4)) hc).symm
                  · skip
                    refine sa_const X.1 dX10_cell_101 ?_
                    refine lv_goto (tgt := 106) X.1.1 X.1.2.1 dX10_cell_102 (by decide) ?_
                    exact J100 (1) (if_neg (c := (M90 11 0 4) < (p2 + p4)) (Int.not_lt.mpr hc)).symm
                intro v99 hv99
                subst hv99
                exact J104 ((if (M90 11 0 4) < (p2 + p4) then (0 : Int) else 1)) (if_neg (c := (M90 64 0 (M90 60 0 p1)) < (x91 + p3)) (Int.not_lt.mpr hc)).symm
            intro v103 hv103
            subst hv103
            refine lv_istore (lv' := [(7, .int (Int32.ofInt (if (M90 64 0 (M90 60 0 p1)) < (x91 + p3) then (0 : Int) else (if (M90 11 0 4) < (p2 + p4) then (0 : Int) else 1)))), (6, .int (Int32.ofInt (if x84 = 0 then (0 : Int) else 1))), (5, .int (Int32.ofInt (if x75 = 0 then (0 : Int) else 1))), (0, .ref (α 11 0)), (1, .int (Int32.ofInt p1)), (2, .int (Int32.ofInt p2)), (3, .int (Int32.ofInt p3)), (4, .int (Int32.ofInt p4))]) X.1.1 X.1.2.1 dX10_cell_106 hl (by decide) rfl (fun ls hl => ?_)
            refine sa_const X.1 dX10_cell_108 ?_
            refine lv_istore (lv' := [(8, .int (Int32.ofInt 0)), (7, .int (Int32.ofInt (if (M90 64 0 (M90 60 0 p1)) < (x91 + p3) then (0 : Int) else (if (M90 11 0 4) < (p2 + p4) then (0 : Int) else 1)))), (6, .int (Int32.ofInt (if x84 = 0 then (0 : Int) else 1))), (5, .int (Int32.ofInt (if x75 = 0 then (0 : Int) else 1))), (0, .ref (α 11 0)), (1, .int (Int32.ofInt p1)), (2, .int (Int32.ofInt p2)), (3, .int (Int32.ofInt p3)), (4, .int (Int32.ofInt p4))]) X.1.1 X.1.2.1 dX10_cell_109 hl (by decide) rfl (fun ls hl => ?_)
            obtain ⟨n105, hw⟩ := hw
            exact t_X10_cell_111 X hp1 hp2 hp3 hp4 n105 _ _ _ _ _ hw r77 r86 r102 (inR_c (a := 0) rfl) _ _ hR hS _ (lv_sub hl [4, 5, 6, 7, 8, 3, 2, 1, 0] rfl)
theorem m_X10_cell {l : Launch} {G : Gx} {e0 : Nat} {α : Ax} {κ : Nat → Int} {B : Nat} {p1 : Int} {p2 : Int} {p3 : Int} {p4 : Int} (hκ : kOK κ) (hp1 : inR p1) (hp2 : inR p2) (hp3 : inR p3) (hp4 : inR p4) {M : Mem} {Qm : Int → Mem → Prop} (hw : wp_X10_cell p1 p2 p3 p4 M Qm) : CI l yX10_cell (Cond.code yX10_cell cX10_cell 9 (some .int)) 2 G e0 α κ B [.ref (α 11 0), .int (Int32.ofInt p1), .int (Int32.ofInt p2), .int (Int32.ofInt p3), .int (Int32.ofInt p4)] M Qm :=
  CI.mk hκ (by decide +kernel) rfl (Nat.le_of_ble_eq_true rfl) (lv := [(0, .ref (α 11 0)), (1, .int (Int32.ofInt p1)), (2, .int (Int32.ofInt p2)), (3, .int (Int32.ofInt p3)), (4, .int (Int32.ofInt p4))]) rfl (fun p e s m args below meth c ls X hR hS hl => t_X10_cell X hp1 hp2 hp3 hp4 hw _ _ hR hS ls hl)
theorem cs_X10_cell {cc : ByteArray} {nL : Nat} {own : String} {ret : Option FieldType} {idx pc : Nat} {p1 : Int} {p2 : Int} {p3 : Int} {p4 : Int} (X : CX p m c cc nL s args own G B κ meth ret) (hp1 : inR p1) (hp2 : inR p2) (hp3 : inR p3) (hp4 : inR p4) {kc : Nat} {R : Room} {cells slots : Nat} (hRr : RmOK R kc) (hcel : cells ≤ R.cells ∧ slots ≤ R.slots) (hk : 2 + 1 ≤ kc) {M : Mem} {H : Heap} {locs : List Loc} (hR : Rp G e0 α κ B M H) (hS : va_S (fun q => B ≤ q) s.heap H locs) (k1 : Cond.methodLink own idx yX10_cell ∈ gw) {ls : Array Slot} (hml : ls.size = nL) {rest : List Value} (hd : decode cc pc = .ok (.invokevirtual idx, 3)) (hrest : (rest.map fun v => v.category).sum ≤ 8) {Q : State → Prop} {Qm : Int → Mem → Prop} (hw : wp_X10_cell p1 p2 p3 p4 M Qm) (kk : ∀ (r : Int) (M1 : Mem) (H1 : Heap) (locs1 : List Loc), Qm r M1 → inR r → Rp G e0 α κ B M1 H1 → va_S (fun q => B ≤ q) s.heap H1 locs1 → W p l e R s m args below meth c H1 locs1 cells slots Q (F0 m (pc + 3) ls (.int (Int32.ofInt r) :: rest))) : W p l e R s m args below meth c H locs cells slots Q (F0 m pc ls (.int (Int32.ofInt p4) :: .int (Int32.ofInt p3) :: .int (Int32.ofInt p2) :: .int (Int32.ofInt p1) :: .ref (α 11 0) :: rest)) :=
  sa_callVI 2 (n := 4) (As := [.int (Int32.ofInt p1), .int (Int32.ofInt p2), .int (Int32.ofInt p3), .int (Int32.ofInt p4)]) (rest := rest) X.1 X.2.1 hR hS (m_X10_cell X.2.2.1 hp1 hp2 hp3 hp4 hw) k1 kw_1730 kw_1731 kw_104 kw_1732 ⟨rfl, by decide +kernel, by decide +kernel, by decide +kernel⟩ (rm_ok hRr hk (by decide)) (rc_11 X hR (okf X.2.2.1 rfl)) rfl rfl hrest hml hd hcel kk
def wp_X10_word_35 (p1 : Int) (p2 : Int) (p3 : Int) (Qm : Int → Mem → Prop) (y4 : Int) (z0 : Int) (M : Mem) : Prop := (¬ y4 = 0 → (0 ≤ p1 ∧ p1 < 100) ∧ ((M 73 0 p1) = 0 → (0 ≤ p1 ∧ p1 < 100) ∧ True) ∧ True) ∧ wp_X10_goes z0 0 (if y4 = 0 then (0 : Int) else (if ¬ (M 73 0 p1) = 0 then (0 : Int) else (if 12 ≤ (M 72 0 p1) then (0 : Int) else 1))) M fun (x19 : Int) (M18 : Mem) => ((¬ x19 = 0 → (inR (12 * p1)) ∧ (0 ≤ p1 ∧ p1 < 100) ∧ (inR ((12 * p1) + (M18 72 0 p1))) ∧ (0 ≤ ((12 * p1) + (M18 72 0 p1)) ∧ ((12 * p1) + (M18 72 0 p1)) < 1200) ∧ ∀ M26 : Mem, M26 = up M18 70 0 ((12 * p1) + (M18 72 0 p1)) p2 → (inR (12 * p1)) ∧ (0 ≤ p1 ∧ p1 < 100) ∧ (inR ((12 * p1) + (M26 72 0 p1))) ∧ (0 ≤ ((12 * p1) + (M26 72 0 p1)) ∧ ((12 * p1) + (M26 72 0 p1)) < 1200) ∧ ∀ M33 : Mem, M33 = up M26 71 0 ((12 * p1) + (M26 72 0 p1)) p3 → (0 ≤ p1 ∧ p1 < 100) ∧ (inR ((M33 72 0 p1) + 1)) ∧ (0 ≤ p1 ∧ p1 < 100) ∧ ∀ M39 : Mem, M39 = up M33 72 0 p1 ((M33 72 0 p1) + 1) → (0 ≤ p1 ∧ p1 < 100) ∧ Qm (M39 72 0 p1) M39) ∧ (x19 = 0 → Qm 0 M18))
def wp_X10_word (p1 : Int) (p2 : Int) (p3 : Int) (M : Mem) (Qm : Int → Mem → Prop) : Prop := wp_X10_isCell p1 M fun (x2 : Int) (M1 : Mem) => wp_X10_in p2 1 20 M1 fun (x5 : Int) (M4 : Mem) => ((x5 = 0 → wp_X10_word_35 p1 p2 p3 Qm x2 x2 M4) ∧ (¬ x5 = 0 → (inR (p2 - 1)) ∧ wp_X10_in p3 0 (p2 - 1) M4 fun (x45 : Int) (M44 : Mem) => (¬ x2 = 0 → (0 ≤ p1 ∧ p1 < 100) ∧ ((M44 73 0 p1) = 0 → (0 ≤ p1 ∧ p1 < 100) ∧ True) ∧ True) ∧ wp_X10_goes x2 (if x45 = 0 then (0 : Int) else 1) (if x2 = 0 then (0 : Int) else (if ¬ (M44 73 0 p1) = 0 then (0 : Int) else (if 12 ≤ (M44 72 0 p1) then (0 : Int) else 1))) M44 fun (x62 : Int) (M61 : Mem) => ((¬ x62 = 0 → (inR (12 * p1)) ∧ (0 ≤ p1 ∧ p1 < 100) ∧ (inR ((12 * p1) + (M61 72 0 p1))) ∧ (0 ≤ ((12 * p1) + (M61 72 0 p1)) ∧ ((12 * p1) + (M61 72 0 p1)) < 1200) ∧ ∀ M69 : Mem, M69 = up M61 70 0 ((12 * p1) + (M61 72 0 p1)) p2 → (inR (12 * p1)) ∧ (0 ≤ p1 ∧ p1 < 100) ∧ (inR ((12 * p1) + (M69 72 0 p1))) ∧ (0 ≤ ((12 * p1) + (M69 72 0 p1)) ∧ ((12 * p1) + (M69 72 0 p1)) < 1200) ∧ ∀ M76 : Mem, M76 = up M69 71 0 ((12 * p1) + (M69 72 0 p1)) p3 → (0 ≤ p1 ∧ p1 < 100) ∧ (inR ((M76 72 0 p1) + 1)) ∧ (0 ≤ p1 ∧ p1 < 100) ∧ ∀ M82 : Mem, M82 = up M76 72 0 p1 ((M76 72 0 p1) + 1) → (0 ≤ p1 ∧ p1 < 100) ∧ Qm (M82 72 0 p1) M82) ∧ (x62 = 0 → Qm 0 M61))))
set_option maxHeartbeats 4000000 in
set_option maxRecDepth 100000 in
theorem t_X10_word_35 {p1 : Int} {p2 : Int} {p3 : Int} (X : CX p m c cX10_word 5 s args RX10 G B κ meth (some .int)) (hp1 : inR p1) (hp2 : inR p2) (hp3 : inR p3) {Qm : Int → Mem → Prop} : ∀ y4 : Int, ∀ z0 : Int, ∀ M : Mem, wp_X10_word_35 p1 p2 p3 Qm y4 z0 M → inR y4 → inR z0 → ∀ (H : Heap) (locs : List Loc), Rp G e0 α κ B M H → va_S (fun q => B ≤ q) s.heap H locs → ∀ (ls : Array Slot), lv_has ls 5 [(0, .ref (α 11 0)), (1, .int (Int32.ofInt p1)), (2, .int (Int32.ofInt p2)), (3, .int (Int32.ofInt p3)), (4, .int (Int32.ofInt y4))] → WI p l e 2 s m args below meth c G e0 α κ B Qm H locs 35 ls [.int (Int32.ofInt z0), .ref (α 11 0)] := by
  intro y4 z0 M hw hy4 hz0 H locs hR hS ls hl
  have hw : (¬ y4 = 0 → (0 ≤ p1 ∧ p1 < 100) ∧ ((M 73 0 p1) = 0 → (0 ≤ p1 ∧ p1 < 100) ∧ True) ∧ True) ∧ wp_X10_goes z0 0 (if y4 = 0 then (0 : Int) else (if ¬ (M 73 0 p1) = 0 then (0 : Int) else (if 12 ≤ (M 72 0 p1) then (0 : Int) else 1))) M fun (x19 : Int) (M18 : Mem) => ((¬ x19 = 0 → (inR (12 * p1)) ∧ (0 ≤ p1 ∧ p1 < 100) ∧ (inR ((12 * p1) + (M18 72 0 p1))) ∧ (0 ≤ ((12 * p1) + (M18 72 0 p1)) ∧ ((12 * p1) + (M18 72 0 p1)) < 1200) ∧ ∀ M26 : Mem, M26 = up M18 70 0 ((12 * p1) + (M18 72 0 p1)) p2 → (inR (12 * p1)) ∧ (0 ≤ p1 ∧ p1 < 100) ∧ (inR ((12 * p1) + (M26 72 0 p1))) ∧ (0 ≤ ((12 * p1) + (M26 72 0 p1)) ∧ ((12 * p1) + (M26 72 0 p1)) < 1200) ∧ ∀ M33 : Mem, M33 = up M26 71 0 ((12 * p1) + (M26 72 0 p1)) p3 → (0 ≤ p1 ∧ p1 < 100) ∧ (inR ((M33 72 0 p1) + 1)) ∧ (0 ≤ p1 ∧ p1 < 100) ∧ ∀ M39 : Mem, M39 = up M33 72 0 p1 ((M33 72 0 p1) + 1) → (0 ≤ p1 ∧ p1 < 100) ∧ Qm (M39 72 0 p1) M39) ∧ (x19 = 0 → Qm 0 M18)) := hw
  refine sa_const X.1 dX10_word_35 ?_
  refine lv_iload X.1.1 X.1.2.1 dX10_word_36 (lv_at hl 4 rfl) ?_
  have s14 := hw.1
  have hw := hw.2
  have r15 := inR_ite (c := y4 = 0) (inR_c (a := 0) rfl) (inR_ite (c := ¬ (M 73 0 p1) = 0) (inR_c (a := 0) rfl) (inR_ite (c := 12 ≤ (M 72 0 p1)) (inR_c (a := 0) rfl) (inR_c (a := 1) rfl)))
  refine cut_j (A := ∀ v16 : Int, v16 = (if y4 = 0 then (0 : Int) else (if ¬ (M 73 0 p1) = 0 then (0 : Int) else (if 12 ≤ (M 72 0 p1) then (0 : Int) else 1))) → WI p l e 2 s m args below meth c G e0 α κ B Qm H locs 66 ls [.int (Int32.ofInt v16), .int (Int32.ofInt 0), .int (Int32.ofInt z0), .ref (α 11 0)]) (fun J17 => ?_) ?_
  · refine sa_if_eq (tgt := 65) X.1 hy4 dX10_word_38 (by decide) (fun hc => ?_) (fun hc => ?_)
    · skip
      refine sa_const X.1 dX10_word_65 ?_
      exact J17 (0) (if_pos (c := y4 = 0) hc).symm
    · have hw := s14 hc
      refine lv_aload_n X.1.1 X.1.2.1 dX10_word_41 rfl (lv_at hl 0 rfl) ?_
      refine gt_11_20 X hR (okf X.2.2.1 rfl) kw_1549 dX10_word_42 ?_
      refine lv_iload_n X.1.1 X.1.2.1 dX10_word_45 rfl (lv_at hl 1 rfl) ?_
      have c7 := hw.1
      have hw := hw.2
      refine ra_73 X hR (okf X.2.2.1 rfl) c7 dX10_word_46 ?_
      have s11 := hw.1
      have hw := hw.2
      refine cut_j (A := ∀ v12 : Int, v12 = (if ¬ (M 73 0 p1) = 0 then (0 : Int) else (if 12 ≤ (M 72 0 p1) then (0 : Int) else 1)) → WI p l e 2 s m args below meth c G e0 α κ B Qm H locs 66 ls [.int (Int32.ofInt v12), .int (Int32.ofInt 0), .int (Int32.ofInt z0), .ref (α 11 0)]) (fun J13 => ?_) ?_
      · refine sa_if_ne (tgt := 65) X.1 (hR.r 73 0 p1) dX10_word_47 (by decide) (fun hc => ?_) (fun hc => ?_)
        · skip
          refine sa_const X.1 dX10_word_65 ?_
          exact J13 (0) (if_pos (c := ¬ (M 73 0 p1) = 0) hc).symm
        · have hw := s11 hc
          refine lv_aload_n X.1.1 X.1.2.1 dX10_word_50 rfl (lv_at hl 0 rfl) ?_
          refine gt_11_19 X hR (okf X.2.2.1 rfl) kw_1548 dX10_word_51 ?_
          refine lv_iload_n X.1.1 X.1.2.1 dX10_word_54 rfl (lv_at hl 1 rfl) ?_
          have c8 := hw.1
          have hw := hw.2
          refine ra_72 X hR (okf X.2.2.1 rfl) c8 dX10_word_55 ?_
          refine sa_bipush X.1 dX10_word_56 (by decide) ?_
          refine cut_j (A := ∀ v9 : Int, v9 = (if 12 ≤ (M 72 0 p1) then (0 : Int) else 1) → WI p l e 2 s m args below meth c G e0 α κ B Qm H locs 66 ls [.int (Int32.ofInt v9), .int (Int32.ofInt 0), .int (Int32.ofInt z0), .ref (α 11 0)]) (fun J10 => ?_) ?_
          · refine sa_icmp_ge (tgt := 65) X.1 (hR.r 72 0 p1) (inR_c (a := 12) rfl) dX10_word_58 (by decide) (fun hc => ?_) (fun hc => ?_)
            · skip
              refine sa_const X.1 dX10_word_65 ?_
              exact J10 (0) (if_pos (c := 12 ≤ (M 72 0 p1)) hc).symm
            · skip
              refine sa_const X.1 dX10_word_61 ?_
              refine lv_goto (tgt := 66) X.1.1 X.1.2.1 dX10_word_62 (by decide) ?_
              exact J10 (1) (if_neg (c := 12 ≤ (M 72 0 p1)) (Int.not_le.mpr hc)).symm
          intro v9 hv9
          subst hv9
          exact J13 ((if 12 ≤ (M 72 0 p1) then (0 : Int) else 1)) (if_neg (c := ¬ (M 73 0 p1) = 0) (fun z => z hc)).symm
      intro v12 hv12
      subst hv12
      exact J17 ((if ¬ (M 73 0 p1) = 0 then (0 : Int) else (if 12 ≤ (M 72 0 p1) then (0 : Int) else 1))) (if_neg (c := y4 = 0) hc).symm
  intro v16 hv16
  subst hv16
  refine cs_X10_goes X hz0 (inR_c (a := 0) rfl) r15 (kc := 2) rmL_ok rm_c (by decide) hR hS kw_1721 hl.1 dX10_word_66 (Nat.le_of_ble_eq_true rfl) hw (fun x19 M18 H locs hw r20 hR hS => ?_)
  refine sa_if_ne (tgt := 74) X.1 r20 dX10_word_69 (by decide) (fun hc => ?_) (fun hc => ?_)
  · have hw := hw.1 hc
    refine lv_aload_n X.1.1 X.1.2.1 dX10_word_74 rfl (lv_at hl 0 rfl) ?_
    refine gt_11_17 X hR (okf X.2.2.1 rfl) kw_1546 dX10_word_75 ?_
    refine sa_bipush X.1 dX10_word_78 (by decide) ?_
    refine lv_iload_n X.1.1 X.1.2.1 dX10_word_80 rfl (lv_at hl 1 rfl) ?_
    have c21 := hw.1
    have hw := hw.2
    refine sa_imul X.1 dX10_word_81 ?_
    refine lv_aload_n X.1.1 X.1.2.1 dX10_word_82 rfl (lv_at hl 0 rfl) ?_
    refine gt_11_19 X hR (okf X.2.2.1 rfl) kw_1548 dX10_word_83 ?_
    refine lv_iload_n X.1.1 X.1.2.1 dX10_word_86 rfl (lv_at hl 1 rfl) ?_
    have c22 := hw.1
    have hw := hw.2
    refine ra_72 X hR (okf X.2.2.1 rfl) c22 dX10_word_87 ?_
    have r23 := hR.r 72 0 p1
    have c24 := hw.1
    have hw := hw.2
    refine sa_iadd X.1 dX10_word_88 ?_
    refine lv_iload_n X.1.1 X.1.2.1 dX10_word_89 rfl (lv_at hl 2 rfl) ?_
    have c25 := hw.1
    have hw := hw.2
    refine wa_70 X hR hS (okf X.2.2.1 rfl) c25 hp2 dX10_word_90 (fun H locs hR hS => ?_)
    obtain ⟨M26, e27⟩ : ∃ z : Mem, z = up M18 70 0 ((12 * p1) + (M18 72 0 p1)) p2 := ⟨_, rfl⟩
    rw [← e27] at hR
    have hw := hw M26 e27
    refine lv_aload_n X.1.1 X.1.2.1 dX10_word_91 rfl (lv_at hl 0 rfl) ?_
    refine gt_11_18 X hR (okf X.2.2.1 rfl) kw_1547 dX10_word_92 ?_
    refine sa_bipush X.1 dX10_word_95 (by decide) ?_
    refine lv_iload_n X.1.1 X.1.2.1 dX10_word_97 rfl (lv_at hl 1 rfl) ?_
    have c28 := hw.1
    have hw := hw.2
    refine sa_imul X.1 dX10_word_98 ?_
    refine lv_aload_n X.1.1 X.1.2.1 dX10_word_99 rfl (lv_at hl 0 rfl) ?_
    refine gt_11_19 X hR (okf X.2.2.1 rfl) kw_1548 dX10_word_100 ?_
    refine lv_iload_n X.1.1 X.1.2.1 dX10_word_103 rfl (lv_at hl 1 rfl) ?_
    have c29 := hw.1
    have hw := hw.2
    refine ra_72 X hR (okf X.2.2.1 rfl) c29 dX10_word_104 ?_
    have r30 := hR.r 72 0 p1
    have c31 := hw.1
    have hw := hw.2
    refine sa_iadd X.1 dX10_word_105 ?_
    refine lv_iload_n X.1.1 X.1.2.1 dX10_word_106 rfl (lv_at hl 3 rfl) ?_
    have c32 := hw.1
    have hw := hw.2
    refine wa_71 X hR hS (okf X.2.2.1 rfl) c32 hp3 dX10_word_107 (fun H locs hR hS => ?_)
    obtain ⟨M33, e34⟩ : ∃ z : Mem, z = up M26 71 0 ((12 * p1) + (M26 72 0 p1)) p3 := ⟨_, rfl⟩
    rw [← e34] at hR
    have hw := hw M33 e34
    refine lv_aload_n X.1.1 X.1.2.1 dX10_word_108 rfl (lv_at hl 0 rfl) ?_
    refine gt_11_19 X hR (okf X.2.2.1 rfl) kw_1548 dX10_word_109 ?_
    refine lv_iload_n X.1.1 X.1.2.1 dX10_word_112 rfl (lv_at hl 1 rfl) ?_
    refine lv_dup2_11 X.1.1 X.1.2.1 dX10_word_113 rfl rfl ?_
    have c35 := hw.1
    have hw := hw.2
    refine ra_72 X hR (okf X.2.2.1 rfl) c35 dX10_word_114 ?_
    have r36 := hR.r 72 0 p1
    refine sa_const X.1 dX10_word_115 ?_
    have c37 := hw.1
    have hw := hw.2
    refine sa_iadd X.1 dX10_word_116 ?_
    have c38 := hw.1
    have hw := hw.2
    refine wa_72 X hR hS (okf X.2.2.1 rfl) c38 c37 dX10_word_117 (fun H locs hR hS => ?_)
    obtain ⟨M39, e40⟩ : ∃ z : Mem, z = up M33 72 0 p1 ((M33 72 0 p1) + 1) := ⟨_, rfl⟩
    rw [← e40] at hR
    have hw := hw M39 e40
    refine lv_aload_n X.1.1 X.1.2.1 dX10_word_118 rfl (lv_at hl 0 rfl) ?_
    refine gt_11_19 X hR (okf X.2.2.1 rfl) kw_1548 dX10_word_119 ?_
    refine lv_iload_n X.1.1 X.1.2.1 dX10_word_122 rfl (lv_at hl 1 rfl) ?_
    have c41 := hw.1
    have hw := hw.2
    refine ra_72 X hR (okf X.2.2.1 rfl) c41 dX10_word_123 ?_
    have r42 := hR.r 72 0 p1
    exact sa_iret X.1 X.2.2.2.1 X.2.2.2.2 hR hS r42 hw dX10_word_124
  · have hw := hw.2 hc
    refine sa_const X.1 dX10_word_72 ?_
    exact sa_iret X.1 X.2.2.2.1 X.2.2.2.2 hR hS (inR_c (a := 0) rfl) hw dX10_word_73
set_option maxHeartbeats 4000000 in
set_option maxRecDepth 100000 in
theorem t_X10_word {p1 : Int} {p2 : Int} {p3 : Int} (X : CX p m c cX10_word 5 s args RX10 G B κ meth (some .int)) (hp1 : inR p1) (hp2 : inR p2) (hp3 : inR p3) {M : Mem} {Qm : Int → Mem → Prop} (hw : wp_X10_word p1 p2 p3 M Qm) (H : Heap) (locs : List Loc) (hR : Rp G e0 α κ B M H) (hS : va_S (fun q => B ≤ q) s.heap H locs) (ls : Array Slot) (hl : lv_has ls 5 [(0, .ref (α 11 0)), (1, .int (Int32.ofInt p1)), (2, .int (Int32.ofInt p2)), (3, .int (Int32.ofInt p3))]) : WI p l e 2 s m args below meth c G e0 α κ B Qm H locs 0 ls [] := by
  have hw : wp_X10_isCell p1 M fun (x2 : Int) (M1 : Mem) => wp_X10_in p2 1 20 M1 fun (x5 : Int) (M4 : Mem) => ((x5 = 0 → wp_X10_word_35 p1 p2 p3 Qm x2 x2 M4) ∧ (¬ x5 = 0 → (inR (p2 - 1)) ∧ wp_X10_in p3 0 (p2 - 1) M4 fun (x45 : Int) (M44 : Mem) => (¬ x2 = 0 → (0 ≤ p1 ∧ p1 < 100) ∧ ((M44 73 0 p1) = 0 → (0 ≤ p1 ∧ p1 < 100) ∧ True) ∧ True) ∧ wp_X10_goes x2 (if x45 = 0 then (0 : Int) else 1) (if x2 = 0 then (0 : Int) else (if ¬ (M44 73 0 p1) = 0 then (0 : Int) else (if 12 ≤ (M44 72 0 p1) then (0 : Int) else 1))) M44 fun (x62 : Int) (M61 : Mem) => ((¬ x62 = 0 → (inR (12 * p1)) ∧ (0 ≤ p1 ∧ p1 < 100) ∧ (inR ((12 * p1) + (M61 72 0 p1))) ∧ (0 ≤ ((12 * p1) + (M61 72 0 p1)) ∧ ((12 * p1) + (M61 72 0 p1)) < 1200) ∧ ∀ M69 : Mem, M69 = up M61 70 0 ((12 * p1) + (M61 72 0 p1)) p2 → (inR (12 * p1)) ∧ (0 ≤ p1 ∧ p1 < 100) ∧ (inR ((12 * p1) + (M69 72 0 p1))) ∧ (0 ≤ ((12 * p1) + (M69 72 0 p1)) ∧ ((12 * p1) + (M69 72 0 p1)) < 1200) ∧ ∀ M76 : Mem, M76 = up M69 71 0 ((12 * p1) + (M69 72 0 p1)) p3 → (0 ≤ p1 ∧ p1 < 100) ∧ (inR ((M76 72 0 p1) + 1)) ∧ (0 ≤ p1 ∧ p1 < 100) ∧ ∀ M82 : Mem, M82 = up M76 72 0 p1 ((M76 72 0 p1) + 1) → (0 ≤ p1 ∧ p1 < 100) ∧ Qm (M82 72 0 p1) M82) ∧ (x62 = 0 → Qm 0 M61)))) := hw
  refine lv_aload_n X.1.1 X.1.2.1 dX10_word_0 rfl (lv_at hl 0 rfl) ?_
  refine lv_iload_n X.1.1 X.1.2.1 dX10_word_1 rfl (lv_at hl 1 rfl) ?_
  refine cs_X10_isCell X hp1 (kc := 2) rmL_ok rm_c (by decide) hR hS kw_1753 hl.1 dX10_word_2 (Nat.le_of_ble_eq_true rfl) hw (fun x2 M1 H locs hw r3 hR hS => ?_)
  refine lv_istore (lv' := [(4, .int (Int32.ofInt x2)), (0, .ref (α 11 0)), (1, .int (Int32.ofInt p1)), (2, .int (Int32.ofInt p2)), (3, .int (Int32.ofInt p3))]) X.1.1 X.1.2.1 dX10_word_5 hl (by decide) rfl (fun ls hl => ?_)
  refine lv_aload_n X.1.1 X.1.2.1 dX10_word_7 rfl (lv_at hl 1 rfl) ?_
  refine lv_iload X.1.1 X.1.2.1 dX10_word_8 (lv_at hl 0 rfl) ?_
  refine lv_iload_n X.1.1 X.1.2.1 dX10_word_10 rfl (lv_at hl 3 rfl) ?_
  refine sa_const X.1 dX10_word_11 ?_
  refine sa_bipush X.1 dX10_word_12 (by decide) ?_
  refine cs_X10_in X hp2 (inR_c (a := 1) rfl) (inR_c (a := 20) rfl) (kc := 2) rmL_ok rm_c (by decide) hR hS kw_1718 hl.1 dX10_word_14 (Nat.le_of_ble_eq_true rfl) hw (fun x5 M4 H locs hw r6 hR hS => ?_)
  refine sa_if_eq (tgt := 35) X.1 r6 dX10_word_17 (by decide) (fun hc => ?_) (fun hc => ?_)
  · have hw := hw.1 hc
    exact t_X10_word_35 X hp1 hp2 hp3 _ _ _ hw r3 r3 _ _ hR hS _ (lv_sub hl [1, 2, 3, 4, 0] rfl)
  · have hw := hw.2 hc
    refine lv_iload_n X.1.1 X.1.2.1 dX10_word_20 rfl (lv_at hl 4 rfl) ?_
    refine sa_const X.1 dX10_word_21 ?_
    refine lv_iload_n X.1.1 X.1.2.1 dX10_word_22 rfl (lv_at hl 3 rfl) ?_
    refine sa_const X.1 dX10_word_23 ?_
    have c43 := hw.1
    have hw := hw.2
    refine sa_isub X.1 dX10_word_24 ?_
    refine cs_X10_in X hp3 (inR_c (a := 0) rfl) c43 (kc := 2) rmL_ok rm_c (by decide) hR hS kw_1718 hl.1 dX10_word_25 (Nat.le_of_ble_eq_true rfl) hw (fun x45 M44 H locs hw r46 hR hS => ?_)
    have r47 := inR_ite (c := x45 = 0) (inR_c (a := 0) rfl) (inR_c (a := 1) rfl)
    refine cut_j (A := ∀ v48 : Int, v48 = (if x45 = 0 then (0 : Int) else 1) → WI p l e 2 s m args below meth c G e0 α κ B Qm H locs 36 ls [.int (Int32.ofInt v48), .int (Int32.ofInt x2), .ref (α 11 0)]) (fun J49 => ?_) ?_
    · refine sa_if_eq (tgt := 35) X.1 r46 dX10_word_28 (by decide) (fun hc => ?_) (fun hc => ?_)
      · skip
        refine sa_const X.1 dX10_word_35 ?_
        exact J49 (0) (if_pos (c := x45 = 0) hc).symm
      · skip
        refine sa_const X.1 dX10_word_31 ?_
        refine lv_goto (tgt := 36) X.1.1 X.1.2.1 dX10_word_32 (by decide) ?_
        exact J49 (1) (if_neg (c := x45 = 0) hc).symm
    intro v48 hv48
    subst hv48
    refine lv_iload X.1.1 X.1.2.1 dX10_word_36 (lv_at hl 0 rfl) ?_
    have s57 := hw.1
    have hw := hw.2
    have r58 := inR_ite (c := x2 = 0) (inR_c (a := 0) rfl) (inR_ite (c := ¬ (M44 73 0 p1) = 0) (inR_c (a := 0) rfl) (inR_ite (c := 12 ≤ (M44 72 0 p1)) (inR_c (a := 0) rfl) (inR_c (a := 1) rfl)))
    refine cut_j (A := ∀ v59 : Int, v59 = (if x2 = 0 then (0 : Int) else (if ¬ (M44 73 0 p1) = 0 then (0 : Int) else (if 12 ≤ (M44 72 0 p1) then (0 : Int) else 1))) → WI p l e 2 s m args below meth c G e0 α κ B Qm H locs 66 ls [.int (Int32.ofInt v59), .int (Int32.ofInt (if x45 = 0 then (0 : Int) else 1)), .int (Int32.ofInt x2), .ref (α 11 0)]) (fun J60 => ?_) ?_
    · refine sa_if_eq (tgt := 65) X.1 r3 dX10_word_38 (by decide) (fun hc => ?_) (fun hc => ?_)
      · skip
        refine sa_const X.1 dX10_word_65 ?_
        exact J60 (0) (if_pos (c := x2 = 0) hc).symm
      · have hw := s57 hc
        refine lv_aload_n X.1.1 X.1.2.1 dX10_word_41 rfl (lv_at hl 1 rfl) ?_
        refine gt_11_20 X hR (okf X.2.2.1 rfl) kw_1549 dX10_word_42 ?_
        refine lv_iload_n X.1.1 X.1.2.1 dX10_word_45 rfl (lv_at hl 2 rfl) ?_
        have c50 := hw.1
        have hw := hw.2
        refine ra_73 X hR (okf X.2.2.1 rfl) c50 dX10_word_46 ?_
        have s54 := hw.1
        have hw := hw.2
        refine cut_j (A := ∀ v55 : Int, v55 = (if ¬ (M44 73 0 p1) = 0 then (0 : Int) else (if 12 ≤ (M44 72 0 p1) then (0 : Int) else 1)) → WI p l e 2 s m args below meth c G e0 α κ B Qm H locs 66 ls [.int (Int32.ofInt v55), .int (Int32.ofInt (if x45 = 0 then (0 : Int) else 1)), .int (Int32.ofInt x2), .ref (α 11 0)]) (fun J56 => ?_) ?_
        · refine sa_if_ne (tgt := 65) X.1 (hR.r 73 0 p1) dX10_word_47 (by decide) (fun hc => ?_) (fun hc => ?_)
          · skip
            refine sa_const X.1 dX10_word_65 ?_
            exact J56 (0) (if_pos (c := ¬ (M44 73 0 p1) = 0) hc).symm
          · have hw := s54 hc
            refine lv_aload_n X.1.1 X.1.2.1 dX10_word_50 rfl (lv_at hl 1 rfl) ?_
            refine gt_11_19 X hR (okf X.2.2.1 rfl) kw_1548 dX10_word_51 ?_
            refine lv_iload_n X.1.1 X.1.2.1 dX10_word_54 rfl (lv_at hl 2 rfl) ?_
            have c51 := hw.1
            have hw := hw.2
            refine ra_72 X hR (okf X.2.2.1 rfl) c51 dX10_word_55 ?_
            refine sa_bipush X.1 dX10_word_56 (by decide) ?_
            refine cut_j (A := ∀ v52 : Int, v52 = (if 12 ≤ (M44 72 0 p1) then (0 : Int) else 1) → WI p l e 2 s m args below meth c G e0 α κ B Qm H locs 66 ls [.int (Int32.ofInt v52), .int (Int32.ofInt (if x45 = 0 then (0 : Int) else 1)), .int (Int32.ofInt x2), .ref (α 11 0)]) (fun J53 => ?_) ?_
            · refine sa_icmp_ge (tgt := 65) X.1 (hR.r 72 0 p1) (inR_c (a := 12) rfl) dX10_word_58 (by decide) (fun hc => ?_) (fun hc => ?_)
              · skip
                refine sa_const X.1 dX10_word_65 ?_
                exact J53 (0) (if_pos (c := 12 ≤ (M44 72 0 p1)) hc).symm
              · skip
                refine sa_const X.1 dX10_word_61 ?_
                refine lv_goto (tgt := 66) X.1.1 X.1.2.1 dX10_word_62 (by decide) ?_
                exact J53 (1) (if_neg (c := 12 ≤ (M44 72 0 p1)) (Int.not_le.mpr hc)).symm
            intro v52 hv52
            subst hv52
            exact J56 ((if 12 ≤ (M44 72 0 p1) then (0 : Int) else 1)) (if_neg (c := ¬ (M44 73 0 p1) = 0) (fun z => z hc)).symm
        intro v55 hv55
        subst hv55
        exact J60 ((if ¬ (M44 73 0 p1) = 0 then (0 : Int) else (if 12 ≤ (M44 72 0 p1) then (0 : Int) else 1))) (if_neg (c := x2 = 0) hc).symm
    intro v59 hv59
    subst hv59
    refine cs_X10_goes X r3 r47 r58 (kc := 2) rmL_ok rm_c (by decide) hR hS kw_1721 hl.1 dX10_word_66 (Nat.le_of_ble_eq_true rfl) hw (fun x62 M61 H locs hw r63 hR hS => ?_)
    refine sa_if_ne (tgt := 74) X.1 r63 dX10_word_69 (by decide) (fun hc => ?_) (fun hc => ?_)
    · have hw := hw.1 hc
      refine lv_aload_n X.1.1 X.1.2.1 dX10_word_74 rfl (lv_at hl 1 rfl) ?_
      refine gt_11_17 X hR (okf X.2.2.1 rfl) kw_1546 dX10_word_75 ?_
      refine sa_bipush X.1 dX10_word_78 (by decide) ?_
      refine lv_iload_n X.1.1 X.1.2.1 dX10_word_80 rfl (lv_at hl 2 rfl) ?_
      have c64 := hw.1
      have hw := hw.2
      refine sa_imul X.1 dX10_word_81 ?_
      refine lv_aload_n X.1.1 X.1.2.1 dX10_word_82 rfl (lv_at hl 1 rfl) ?_
      refine gt_11_19 X hR (okf X.2.2.1 rfl) kw_1548 dX10_word_83 ?_
      refine lv_iload_n X.1.1 X.1.2.1 dX10_word_86 rfl (lv_at hl 2 rfl) ?_
      have c65 := hw.1
      have hw := hw.2
      refine ra_72 X hR (okf X.2.2.1 rfl) c65 dX10_word_87 ?_
      have r66 := hR.r 72 0 p1
      have c67 := hw.1
      have hw := hw.2
      refine sa_iadd X.1 dX10_word_88 ?_
      refine lv_iload_n X.1.1 X.1.2.1 dX10_word_89 rfl (lv_at hl 3 rfl) ?_
      have c68 := hw.1
      have hw := hw.2
      refine wa_70 X hR hS (okf X.2.2.1 rfl) c68 hp2 dX10_word_90 (fun H locs hR hS => ?_)
      obtain ⟨M69, e70⟩ : ∃ z : Mem, z = up M61 70 0 ((12 * p1) + (M61 72 0 p1)) p2 := ⟨_, rfl⟩
      rw [← e70] at hR
      have hw := hw M69 e70
      refine lv_aload_n X.1.1 X.1.2.1 dX10_word_91 rfl (lv_at hl 1 rfl) ?_
      refine gt_11_18 X hR (okf X.2.2.1 rfl) kw_1547 dX10_word_92 ?_
      refine sa_bipush X.1 dX10_word_95 (by decide) ?_
      refine lv_iload_n X.1.1 X.1.2.1 dX10_word_97 rfl (lv_at hl 2 rfl) ?_
      have c71 := hw.1
      have hw := hw.2
      refine sa_imul X.1 dX10_word_98 ?_
      refine lv_aload_n X.1.1 X.1.2.1 dX10_word_99 rfl (lv_at hl 1 rfl) ?_
      refine gt_11_19 X hR (okf X.2.2.1 rfl) kw_1548 dX10_word_100 ?_
      refine lv_iload_n X.1.1 X.1.2.1 dX10_word_103 rfl (lv_at hl 2 rfl) ?_
      have c72 := hw.1
      have hw := hw.2
      refine ra_72 X hR (okf X.2.2.1 rfl) c72 dX10_word_104 ?_
      have r73 := hR.r 72 0 p1
      have c74 := hw.1
      have hw := hw.2
      refine sa_iadd X.1 dX10_word_105 ?_
      refine lv_iload_n X.1.1 X.1.2.1 dX10_word_106 rfl (lv_at hl 4 rfl) ?_
      have c75 := hw.1
      have hw := hw.2
      refine wa_71 X hR hS (okf X.2.2.1 rfl) c75 hp3 dX10_word_107 (fun H locs hR hS => ?_)
      obtain ⟨M76, e77⟩ : ∃ z : Mem, z = up M69 71 0 ((12 * p1) + (M69 72 0 p1)) p3 := ⟨_, rfl⟩
      rw [← e77] at hR
      have hw := hw M76 e77
      refine lv_aload_n X.1.1 X.1.2.1 dX10_word_108 rfl (lv_at hl 1 rfl) ?_
      refine gt_11_19 X hR (okf X.2.2.1 rfl) kw_1548 dX10_word_109 ?_
      refine lv_iload_n X.1.1 X.1.2.1 dX10_word_112 rfl (lv_at hl 2 rfl) ?_
      refine lv_dup2_11 X.1.1 X.1.2.1 dX10_word_113 rfl rfl ?_
      have c78 := hw.1
      have hw := hw.2
      refine ra_72 X hR (okf X.2.2.1 rfl) c78 dX10_word_114 ?_
      have r79 := hR.r 72 0 p1
      refine sa_const X.1 dX10_word_115 ?_
      have c80 := hw.1
      have hw := hw.2
      refine sa_iadd X.1 dX10_word_116 ?_
      have c81 := hw.1
      have hw := hw.2
      refine wa_72 X hR hS (okf X.2.2.1 rfl) c81 c80 dX10_word_117 (fun H locs hR hS => ?_)
      obtain ⟨M82, e83⟩ : ∃ z : Mem, z = up M76 72 0 p1 ((M76 72 0 p1) + 1) := ⟨_, rfl⟩
      rw [← e83] at hR
      have hw := hw M82 e83
      refine lv_aload_n X.1.1 X.1.2.1 dX10_word_118 rfl (lv_at hl 1 rfl) ?_
      refine gt_11_19 X hR (okf X.2.2.1 rfl) kw_1548 dX10_word_119 ?_
      refine lv_iload_n X.1.1 X.1.2.1 dX10_word_122 rfl (lv_at hl 2 rfl) ?_
      have c84 := hw.1
      have hw := hw.2
      refine ra_72 X hR (okf X.2.2.1 rfl) c84 dX10_word_123 ?_
      have r85 := hR.r 72 0 p1
      exact sa_iret X.1 X.2.2.2.1 X.2.2.2.2 hR hS r85 hw dX10_word_124
    · have hw := hw.2 hc
      refine sa_const X.1 dX10_word_72 ?_
      exact sa_iret X.1 X.2.2.2.1 X.2.2.2.2 hR hS (inR_c (a := 0) rfl) hw dX10_word_73
theorem m_X10_word {l : Launch} {G : Gx} {e0 : Nat} {α : Ax} {κ : Nat → Int} {B : Nat} {p1 : Int} {p2 : Int} {p3 : Int} (hκ : kOK κ) (hp1 : inR p1) (hp2 : inR p2) (hp3 : inR p3) {M : Mem} {Qm : Int → Mem → Prop} (hw : wp_X10_word p1 p2 p3 M Qm) : CI l yX10_word (Cond.code yX10_word cX10_word 5 (some .int)) 2 G e0 α κ B [.ref (α 11 0), .int (Int32.ofInt p1), .int (Int32.ofInt p2), .int (Int32.ofInt p3)] M Qm :=
  CI.mk hκ (by decide +kernel) rfl (Nat.le_of_ble_eq_true rfl) (lv := [(0, .ref (α 11 0)), (1, .int (Int32.ofInt p1)), (2, .int (Int32.ofInt p2)), (3, .int (Int32.ofInt p3))]) rfl (fun p e s m args below meth c ls X hR hS hl => t_X10_word X hp1 hp2 hp3 hw _ _ hR hS ls hl)
theorem cs_X10_word {cc : ByteArray} {nL : Nat} {own : String} {ret : Option FieldType} {idx pc : Nat} {p1 : Int} {p2 : Int} {p3 : Int} (X : CX p m c cc nL s args own G B κ meth ret) (hp1 : inR p1) (hp2 : inR p2) (hp3 : inR p3) {kc : Nat} {R : Room} {cells slots : Nat} (hRr : RmOK R kc) (hcel : cells ≤ R.cells ∧ slots ≤ R.slots) (hk : 2 + 1 ≤ kc) {M : Mem} {H : Heap} {locs : List Loc} (hR : Rp G e0 α κ B M H) (hS : va_S (fun q => B ≤ q) s.heap H locs) (k1 : Cond.methodLink own idx yX10_word ∈ gw) {ls : Array Slot} (hml : ls.size = nL) {rest : List Value} (hd : decode cc pc = .ok (.invokevirtual idx, 3)) (hrest : (rest.map fun v => v.category).sum ≤ 8) {Q : State → Prop} {Qm : Int → Mem → Prop} (hw : wp_X10_word p1 p2 p3 M Qm) (kk : ∀ (r : Int) (M1 : Mem) (H1 : Heap) (locs1 : List Loc), Qm r M1 → inR r → Rp G e0 α κ B M1 H1 → va_S (fun q => B ≤ q) s.heap H1 locs1 → W p l e R s m args below meth c H1 locs1 cells slots Q (F0 m (pc + 3) ls (.int (Int32.ofInt r) :: rest))) : W p l e R s m args below meth c H locs cells slots Q (F0 m pc ls (.int (Int32.ofInt p3) :: .int (Int32.ofInt p2) :: .int (Int32.ofInt p1) :: .ref (α 11 0) :: rest)) :=
  sa_callVI 2 (n := 3) (As := [.int (Int32.ofInt p1), .int (Int32.ofInt p2), .int (Int32.ofInt p3)]) (rest := rest) X.1 X.2.1 hR hS (m_X10_word X.2.2.1 hp1 hp2 hp3 hw) k1 kw_1750 kw_1751 kw_104 kw_1752 ⟨rfl, by decide +kernel, by decide +kernel, by decide +kernel⟩ (rm_ok hRr hk (by decide)) (rc_11 X hR (okf X.2.2.1 rfl)) rfl rfl hrest hml hd hcel kk
def wp_X10_figure_127 (p1 : Int) (p2 : Int) (p3 : Int) (Qm : Mem → Prop) (M : Mem) : Prop := Qm M
def wp_X10_figure_53 (p1 : Int) (p2 : Int) (p3 : Int) (Qm : Mem → Prop) (y4 : Int) (M : Mem) : Prop := (¬ y4 = 0 → (0 ≤ p1 ∧ p1 < 100) ∧ ((M 72 0 p1) = 0 → (0 ≤ p1 ∧ p1 < 100) ∧ ((M 67 0 p1) = 1 → (0 ≤ p1 ∧ p1 < 100) ∧ True) ∧ True) ∧ True) ∧ wp_X10_goes y4 0 (if y4 = 0 then (0 : Int) else (if ¬ (M 72 0 p1) = 0 then (0 : Int) else (if ¬ (M 67 0 p1) = 1 then (0 : Int) else (if ¬ (M 68 0 p1) = 1 then (0 : Int) else 1)))) M fun (x23 : Int) (M22 : Mem) => ((x23 = 0 → wp_X10_figure_127 p1 p2 p3 Qm M22) ∧ (¬ x23 = 0 → (0 ≤ p1 ∧ p1 < 100) ∧ ∀ M26 : Mem, M26 = up M22 73 0 p1 1 → (0 ≤ p1 ∧ p1 < 100) ∧ ∀ M29 : Mem, M29 = up M26 74 0 p1 p2 → (0 ≤ p1 ∧ p1 < 100) ∧ ∀ M32 : Mem, M32 = up M29 75 0 p1 p3 → wp_X10_figure_127 p1 p2 p3 Qm M32))
def wp_X10_figure (p1 : Int) (p2 : Int) (p3 : Int) (M : Mem) (Qm : Mem → Prop) : Prop := wp_X10_isCell p1 M fun (x2 : Int) (M1 : Mem) => wp_X10_in p2 (-1000000) 1000000 M1 fun (x5 : Int) (M4 : Mem) => ((x5 = 0 → wp_X10_figure_53 p1 p2 p3 Qm x2 M4) ∧ (¬ x5 = 0 → wp_X10_in p3 0 2 M4 fun (x35 : Int) (M34 : Mem) => (¬ x35 = 0 → (¬ p3 = 2 → (0 < (if ¬ p3 = 1 then (100 : Int) else 10)) ∧ True) ∧ True) ∧ (¬ x2 = 0 → (0 ≤ p1 ∧ p1 < 100) ∧ ((M34 72 0 p1) = 0 → (0 ≤ p1 ∧ p1 < 100) ∧ ((M34 67 0 p1) = 1 → (0 ≤ p1 ∧ p1 < 100) ∧ True) ∧ True) ∧ True) ∧ wp_X10_goes x2 (if x35 = 0 then (0 : Int) else (if p3 = 2 then (1 : Int) else (if ¬ (Int.tmod p2 (if ¬ p3 = 1 then (100 : Int) else 10)) = 0 then (0 : Int) else 1))) (if x2 = 0 then (0 : Int) else (if ¬ (M34 72 0 p1) = 0 then (0 : Int) else (if ¬ (M34 67 0 p1) = 1 then (0 : Int) else (if ¬ (M34 68 0 p1) = 1 then (0 : Int) else 1)))) M34 fun (x65 : Int) (M64 : Mem) => ((x65 = 0 → wp_X10_figure_127 p1 p2 p3 Qm M64) ∧ (¬ x65 = 0 → (0 ≤ p1 ∧ p1 < 100) ∧ ∀ M68 : Mem, M68 = up M64 73 0 p1 1 → (0 ≤ p1 ∧ p1 < 100) ∧ ∀ M71 : Mem, M71 = up M68 74 0 p1 p2 → (0 ≤ p1 ∧ p1 < 100) ∧ ∀ M74 : Mem, M74 = up M71 75 0 p1 p3 → wp_X10_figure_127 p1 p2 p3 Qm M74))))
set_option maxHeartbeats 4000000 in
set_option maxRecDepth 100000 in
theorem t_X10_figure_127 {p1 : Int} {p2 : Int} {p3 : Int} (X : CX p m c cX10_figure 6 s args RX10 G B κ meth none) (hp1 : inR p1) (hp2 : inR p2) (hp3 : inR p3) {Qm : Mem → Prop} : ∀ M : Mem, wp_X10_figure_127 p1 p2 p3 Qm M → ∀ (H : Heap) (locs : List Loc), Rp G e0 α κ B M H → va_S (fun q => B ≤ q) s.heap H locs → ∀ (ls : Array Slot), lv_has ls 6 [] → WV p l e 2 s m args below meth c G e0 α κ B Qm H locs 127 ls [] := by
  intro M hw H locs hR hS ls hl
  have hw : Qm M := hw
  exact sa_vret X.1 X.2.2.2.1 X.2.2.2.2 hR hS hw dX10_figure_127
set_option maxHeartbeats 4000000 in
set_option maxRecDepth 100000 in
theorem t_X10_figure_53 {p1 : Int} {p2 : Int} {p3 : Int} (X : CX p m c cX10_figure 6 s args RX10 G B κ meth none) (hp1 : inR p1) (hp2 : inR p2) (hp3 : inR p3) {Qm : Mem → Prop} : ∀ y4 : Int, ∀ M : Mem, wp_X10_figure_53 p1 p2 p3 Qm y4 M → inR y4 → ∀ (H : Heap) (locs : List Loc), Rp G e0 α κ B M H → va_S (fun q => B ≤ q) s.heap H locs → ∀ (ls : Array Slot), lv_has ls 6 [(0, .ref (α 11 0)), (1, .int (Int32.ofInt p1)), (2, .int (Int32.ofInt p2)), (3, .int (Int32.ofInt p3)), (4, .int (Int32.ofInt y4))] → WV p l e 2 s m args below meth c G e0 α κ B Qm H locs 53 ls [] := by
  intro y4 M hw hy4 H locs hR hS ls hl
  have hw : (¬ y4 = 0 → (0 ≤ p1 ∧ p1 < 100) ∧ ((M 72 0 p1) = 0 → (0 ≤ p1 ∧ p1 < 100) ∧ ((M 67 0 p1) = 1 → (0 ≤ p1 ∧ p1 < 100) ∧ True) ∧ True) ∧ True) ∧ wp_X10_goes y4 0 (if y4 = 0 then (0 : Int) else (if ¬ (M 72 0 p1) = 0 then (0 : Int) else (if ¬ (M 67 0 p1) = 1 then (0 : Int) else (if ¬ (M 68 0 p1) = 1 then (0 : Int) else 1)))) M fun (x23 : Int) (M22 : Mem) => ((x23 = 0 → wp_X10_figure_127 p1 p2 p3 Qm M22) ∧ (¬ x23 = 0 → (0 ≤ p1 ∧ p1 < 100) ∧ ∀ M26 : Mem, M26 = up M22 73 0 p1 1 → (0 ≤ p1 ∧ p1 < 100) ∧ ∀ M29 : Mem, M29 = up M26 74 0 p1 p2 → (0 ≤ p1 ∧ p1 < 100) ∧ ∀ M32 : Mem, M32 = up M29 75 0 p1 p3 → wp_X10_figure_127 p1 p2 p3 Qm M32)) := hw
  refine sa_const X.1 dX10_figure_53 ?_
  refine lv_istore (lv' := [(5, .int (Int32.ofInt 0)), (0, .ref (α 11 0)), (1, .int (Int32.ofInt p1)), (2, .int (Int32.ofInt p2)), (3, .int (Int32.ofInt p3)), (4, .int (Int32.ofInt y4))]) X.1.1 X.1.2.1 dX10_figure_54 hl (by decide) rfl (fun ls hl => ?_)
  refine lv_aload_n X.1.1 X.1.2.1 dX10_figure_56 rfl (lv_at hl 1 rfl) ?_
  refine lv_iload X.1.1 X.1.2.1 dX10_figure_57 (lv_at hl 5 rfl) ?_
  refine lv_iload X.1.1 X.1.2.1 dX10_figure_59 (lv_at hl 0 rfl) ?_
  refine lv_iload X.1.1 X.1.2.1 dX10_figure_61 (lv_at hl 5 rfl) ?_
  have s18 := hw.1
  have hw := hw.2
  have r19 := inR_ite (c := y4 = 0) (inR_c (a := 0) rfl) (inR_ite (c := ¬ (M 72 0 p1) = 0) (inR_c (a := 0) rfl) (inR_ite (c := ¬ (M 67 0 p1) = 1) (inR_c (a := 0) rfl) (inR_ite (c := ¬ (M 68 0 p1) = 1) (inR_c (a := 0) rfl) (inR_c (a := 1) rfl))))
  refine cut_j (A := ∀ v20 : Int, v20 = (if y4 = 0 then (0 : Int) else (if ¬ (M 72 0 p1) = 0 then (0 : Int) else (if ¬ (M 67 0 p1) = 1 then (0 : Int) else (if ¬ (M 68 0 p1) = 1 then (0 : Int) else 1)))) → WV p l e 2 s m args below meth c G e0 α κ B Qm H locs 100 ls [.int (Int32.ofInt v20), .int (Int32.ofInt 0), .int (Int32.ofInt y4), .ref (α 11 0)]) (fun J21 => ?_) ?_
  · refine sa_if_eq (tgt := 99) X.1 hy4 dX10_figure_63 (by decide) (fun hc => ?_) (fun hc => ?_)
    · skip
      refine sa_const X.1 dX10_figure_99 ?_
      exact J21 (0) (if_pos (c := y4 = 0) hc).symm
    · have hw := s18 hc
      refine lv_aload_n X.1.1 X.1.2.1 dX10_figure_66 rfl (lv_at hl 1 rfl) ?_
      refine gt_11_19 X hR (okf X.2.2.1 rfl) kw_1548 dX10_figure_67 ?_
      refine lv_iload_n X.1.1 X.1.2.1 dX10_figure_70 rfl (lv_at hl 2 rfl) ?_
      have c7 := hw.1
      have hw := hw.2
      refine ra_72 X hR (okf X.2.2.1 rfl) c7 dX10_figure_71 ?_
      have s15 := hw.1
      have hw := hw.2
      refine cut_j (A := ∀ v16 : Int, v16 = (if ¬ (M 72 0 p1) = 0 then (0 : Int) else (if ¬ (M 67 0 p1) = 1 then (0 : Int) else (if ¬ (M 68 0 p1) = 1 then (0 : Int) else 1))) → WV p l e 2 s m args below meth c G e0 α κ B Qm H locs 100 ls [.int (Int32.ofInt v16), .int (Int32.ofInt 0), .int (Int32.ofInt y4), .ref (α 11 0)]) (fun J17 => ?_) ?_
      · refine sa_if_ne (tgt := 99) X.1 (hR.r 72 0 p1) dX10_figure_72 (by decide) (fun hc => ?_) (fun hc => ?_)
        · skip
          refine sa_const X.1 dX10_figure_99 ?_
          exact J17 (0) (if_pos (c := ¬ (M 72 0 p1) = 0) hc).symm
        · have hw := s15 hc
          refine lv_aload_n X.1.1 X.1.2.1 dX10_figure_75 rfl (lv_at hl 1 rfl) ?_
          refine gt_11_13 X hR (okf X.2.2.1 rfl) kw_1542 dX10_figure_76 ?_
          refine lv_iload_n X.1.1 X.1.2.1 dX10_figure_79 rfl (lv_at hl 2 rfl) ?_
          have c8 := hw.1
          have hw := hw.2
          refine ra_67 X hR (okf X.2.2.1 rfl) c8 dX10_figure_80 ?_
          refine sa_const X.1 dX10_figure_81 ?_
          have s12 := hw.1
          have hw := hw.2
          refine cut_j (A := ∀ v13 : Int, v13 = (if ¬ (M 67 0 p1) = 1 then (0 : Int) else (if ¬ (M 68 0 p1) = 1 then (0 : Int) else 1)) → WV p l e 2 s m args below meth c G e0 α κ B Qm H locs 100 ls [.int (Int32.ofInt v13), .int (Int32.ofInt 0), .int (Int32.ofInt y4), .ref (α 11 0)]) (fun J14 => ?_) ?_
          · refine sa_icmp_ne (tgt := 99) X.1 (hR.r 67 0 p1) (inR_c (a := 1) rfl) dX10_figure_82 (by decide) (fun hc => ?_) (fun hc => ?_)
            · skip
              refine sa_const X.1 dX10_figure_99 ?_
              exact J14 (0) (if_pos (c := ¬ (M 67 0 p1) = 1) hc).symm
            · have hw := s12 hc
              refine lv_aload_n X.1.1 X.1.2.1 dX10_figure_85 rfl (lv_at hl 1 rfl) ?_
              refine gt_11_14 X hR (okf X.2.2.1 rfl) kw_1543 dX10_figure_86 ?_
              refine lv_iload_n X.1.1 X.1.2.1 dX10_figure_89 rfl (lv_at hl 2 rfl) ?_
              have c9 := hw.1
              have hw := hw.2
              refine ra_68 X hR (okf X.2.2.1 rfl) c9 dX10_figure_90 ?_
              refine sa_const X.1 dX10_figure_91 ?_
              refine cut_j (A := ∀ v10 : Int, v10 = (if ¬ (M 68 0 p1) = 1 then (0 : Int) else 1) → WV p l e 2 s m args below meth c G e0 α κ B Qm H locs 100 ls [.int (Int32.ofInt v10), .int (Int32.ofInt 0), .int (Int32.ofInt y4), .ref (α 11 0)]) (fun J11 => ?_) ?_
              · refine sa_icmp_ne (tgt := 99) X.1 (hR.r 68 0 p1) (inR_c (a := 1) rfl) dX10_figure_92 (by decide) (fun hc => ?_) (fun hc => ?_)
                · skip
                  refine sa_const X.1 dX10_figure_99 ?_
                  exact J11 (0) (if_pos (c := ¬ (M 68 0 p1) = 1) hc).symm
                · skip
                  refine sa_const X.1 dX10_figure_95 ?_
                  refine lv_goto (tgt := 100) X.1.1 X.1.2.1 dX10_figure_96 (by decide) ?_
                  exact J11 (1) (if_neg (c := ¬ (M 68 0 p1) = 1) (fun z => z hc)).symm
              intro v10 hv10
              subst hv10
              exact J14 ((if ¬ (M 68 0 p1) = 1 then (0 : Int) else 1)) (if_neg (c := ¬ (M 67 0 p1) = 1) (fun z => z hc)).symm
          intro v13 hv13
          subst hv13
          exact J17 ((if ¬ (M 67 0 p1) = 1 then (0 : Int) else (if ¬ (M 68 0 p1) = 1 then (0 : Int) else 1))) (if_neg (c := ¬ (M 72 0 p1) = 0) (fun z => z hc)).symm
      intro v16 hv16
      subst hv16
      exact J21 ((if ¬ (M 72 0 p1) = 0 then (0 : Int) else (if ¬ (M 67 0 p1) = 1 then (0 : Int) else (if ¬ (M 68 0 p1) = 1 then (0 : Int) else 1)))) (if_neg (c := y4 = 0) hc).symm
  intro v20 hv20
  subst hv20
  refine cs_X10_goes X hy4 (inR_c (a := 0) rfl) r19 (kc := 2) rmL_ok rm_c (by decide) hR hS kw_1721 hl.1 dX10_figure_100 (Nat.le_of_ble_eq_true rfl) hw (fun x23 M22 H locs hw r24 hR hS => ?_)
  refine sa_if_eq (tgt := 127) X.1 r24 dX10_figure_103 (by decide) (fun hc => ?_) (fun hc => ?_)
  · have hw := hw.1 hc
    exact t_X10_figure_127 X hp1 hp2 hp3 _ hw _ _ hR hS _ (lv_sub hl [] rfl)
  · have hw := hw.2 hc
    refine lv_aload_n X.1.1 X.1.2.1 dX10_figure_106 rfl (lv_at hl 1 rfl) ?_
    refine gt_11_20 X hR (okf X.2.2.1 rfl) kw_1549 dX10_figure_107 ?_
    refine lv_iload_n X.1.1 X.1.2.1 dX10_figure_110 rfl (lv_at hl 2 rfl) ?_
    refine sa_const X.1 dX10_figure_111 ?_
    have c25 := hw.1
    have hw := hw.2
    refine wa_73 X hR hS (okf X.2.2.1 rfl) c25 (Or.inr rfl) dX10_figure_112 (fun H locs hR hS => ?_)
    obtain ⟨M26, e27⟩ : ∃ z : Mem, z = up M22 73 0 p1 1 := ⟨_, rfl⟩
    rw [← e27] at hR
    have hw := hw M26 e27
    refine lv_aload_n X.1.1 X.1.2.1 dX10_figure_113 rfl (lv_at hl 1 rfl) ?_
    refine gt_11_21 X hR (okf X.2.2.1 rfl) kw_1550 dX10_figure_114 ?_
    refine lv_iload_n X.1.1 X.1.2.1 dX10_figure_117 rfl (lv_at hl 2 rfl) ?_
    refine lv_iload_n X.1.1 X.1.2.1 dX10_figure_118 rfl (lv_at hl 3 rfl) ?_
    have c28 := hw.1
    have hw := hw.2
    refine wa_74 X hR hS (okf X.2.2.1 rfl) c28 hp2 dX10_figure_119 (fun H locs hR hS => ?_)
    obtain ⟨M29, e30⟩ : ∃ z : Mem, z = up M26 74 0 p1 p2 := ⟨_, rfl⟩
    rw [← e30] at hR
    have hw := hw M29 e30
    refine lv_aload_n X.1.1 X.1.2.1 dX10_figure_120 rfl (lv_at hl 1 rfl) ?_
    refine gt_11_22 X hR (okf X.2.2.1 rfl) kw_1551 dX10_figure_121 ?_
    refine lv_iload_n X.1.1 X.1.2.1 dX10_figure_124 rfl (lv_at hl 2 rfl) ?_
    refine lv_iload_n X.1.1 X.1.2.1 dX10_figure_125 rfl (lv_at hl 4 rfl) ?_
    have c31 := hw.1
    have hw := hw.2
    refine wa_75 X hR hS (okf X.2.2.1 rfl) c31 hp3 dX10_figure_126 (fun H locs hR hS => ?_)
    obtain ⟨M32, e33⟩ : ∃ z : Mem, z = up M29 75 0 p1 p3 := ⟨_, rfl⟩
    rw [← e33] at hR
    have hw := hw M32 e33
    exact t_X10_figure_127 X hp1 hp2 hp3 _ hw _ _ hR hS _ (lv_sub hl [] rfl)
set_option maxHeartbeats 4000000 in
set_option maxRecDepth 100000 in
theorem t_X10_figure {p1 : Int} {p2 : Int} {p3 : Int} (X : CX p m c cX10_figure 6 s args RX10 G B κ meth none) (hp1 : inR p1) (hp2 : inR p2) (hp3 : inR p3) {M : Mem} {Qm : Mem → Prop} (hw : wp_X10_figure p1 p2 p3 M Qm) (H : Heap) (locs : List Loc) (hR : Rp G e0 α κ B M H) (hS : va_S (fun q => B ≤ q) s.heap H locs) (ls : Array Slot) (hl : lv_has ls 6 [(0, .ref (α 11 0)), (1, .int (Int32.ofInt p1)), (2, .int (Int32.ofInt p2)), (3, .int (Int32.ofInt p3))]) : WV p l e 2 s m args below meth c G e0 α κ B Qm H locs 0 ls [] := by
  have hw : wp_X10_isCell p1 M fun (x2 : Int) (M1 : Mem) => wp_X10_in p2 (-1000000) 1000000 M1 fun (x5 : Int) (M4 : Mem) => ((x5 = 0 → wp_X10_figure_53 p1 p2 p3 Qm x2 M4) ∧ (¬ x5 = 0 → wp_X10_in p3 0 2 M4 fun (x35 : Int) (M34 : Mem) => (¬ x35 = 0 → (¬ p3 = 2 → (0 < (if ¬ p3 = 1 then (100 : Int) else 10)) ∧ True) ∧ True) ∧ (¬ x2 = 0 → (0 ≤ p1 ∧ p1 < 100) ∧ ((M34 72 0 p1) = 0 → (0 ≤ p1 ∧ p1 < 100) ∧ ((M34 67 0 p1) = 1 → (0 ≤ p1 ∧ p1 < 100) ∧ True) ∧ True) ∧ True) ∧ wp_X10_goes x2 (if x35 = 0 then (0 : Int) else (if p3 = 2 then (1 : Int) else (if ¬ (Int.tmod p2 (if ¬ p3 = 1 then (100 : Int) else 10)) = 0 then (0 : Int) else 1))) (if x2 = 0 then (0 : Int) else (if ¬ (M34 72 0 p1) = 0 then (0 : Int) else (if ¬ (M34 67 0 p1) = 1 then (0 : Int) else (if ¬ (M34 68 0 p1) = 1 then (0 : Int) else 1)))) M34 fun (x65 : Int) (M64 : Mem) => ((x65 = 0 → wp_X10_figure_127 p1 p2 p3 Qm M64) ∧ (¬ x65 = 0 → (0 ≤ p1 ∧ p1 < 100) ∧ ∀ M68 : Mem, M68 = up M64 73 0 p1 1 → (0 ≤ p1 ∧ p1 < 100) ∧ ∀ M71 : Mem, M71 = up M68 74 0 p1 p2 → (0 ≤ p1 ∧ p1 < 100) ∧ ∀ M74 : Mem, M74 = up M71 75 0 p1 p3 → wp_X10_figure_127 p1 p2 p3 Qm M74)))) := hw
  refine lv_aload_n X.1.1 X.1.2.1 dX10_figure_0 rfl (lv_at hl 0 rfl) ?_
  refine lv_iload_n X.1.1 X.1.2.1 dX10_figure_1 rfl (lv_at hl 1 rfl) ?_
  refine cs_X10_isCell X hp1 (kc := 2) rmL_ok rm_c (by decide) hR hS kw_1753 hl.1 dX10_figure_2 (Nat.le_of_ble_eq_true rfl) hw (fun x2 M1 H locs hw r3 hR hS => ?_)
  refine lv_istore (lv' := [(4, .int (Int32.ofInt x2)), (0, .ref (α 11 0)), (1, .int (Int32.ofInt p1)), (2, .int (Int32.ofInt p2)), (3, .int (Int32.ofInt p3))]) X.1.1 X.1.2.1 dX10_figure_5 hl (by decide) rfl (fun ls hl => ?_)
  refine lv_iload_n X.1.1 X.1.2.1 dX10_figure_7 rfl (lv_at hl 3 rfl) ?_
  refine sa_ldc (n := -1000000) X.1 (by decide) kw_1761 dX10_figure_8 ?_
  refine sa_ldc (n := 1000000) X.1 (by decide) kw_1762 dX10_figure_10 ?_
  refine cs_X10_in X hp2 (inR_c (a := -1000000) rfl) (inR_c (a := 1000000) rfl) (kc := 2) rmL_ok rm_c (by decide) hR hS kw_1718 hl.1 dX10_figure_12 (Nat.le_of_ble_eq_true rfl) hw (fun x5 M4 H locs hw r6 hR hS => ?_)
  refine sa_if_eq (tgt := 53) X.1 r6 dX10_figure_15 (by decide) (fun hc => ?_) (fun hc => ?_)
  · have hw := hw.1 hc
    exact t_X10_figure_53 X hp1 hp2 hp3 _ _ hw r3 _ _ hR hS _ (lv_sub hl [1, 2, 3, 4, 0] rfl)
  · have hw := hw.2 hc
    refine lv_iload_n X.1.1 X.1.2.1 dX10_figure_18 rfl (lv_at hl 4 rfl) ?_
    refine sa_const X.1 dX10_figure_19 ?_
    refine sa_const X.1 dX10_figure_20 ?_
    refine cs_X10_in X hp3 (inR_c (a := 0) rfl) (inR_c (a := 2) rfl) (kc := 2) rmL_ok rm_c (by decide) hR hS kw_1718 hl.1 dX10_figure_21 (Nat.le_of_ble_eq_true rfl) hw (fun x35 M34 H locs hw r36 hR hS => ?_)
    have s45 := hw.1
    have hw := hw.2
    have r46 := inR_ite (c := x35 = 0) (inR_c (a := 0) rfl) (inR_ite (c := p3 = 2) (inR_c (a := 1) rfl) (inR_ite (c := ¬ (Int.tmod p2 (if ¬ p3 = 1 then (100 : Int) else 10)) = 0) (inR_c (a := 0) rfl) (inR_c (a := 1) rfl)))
    refine cut_j (A := ∀ v47 : Int, v47 = (if x35 = 0 then (0 : Int) else (if p3 = 2 then (1 : Int) else (if ¬ (Int.tmod p2 (if ¬ p3 = 1 then (100 : Int) else 10)) = 0 then (0 : Int) else 1))) → WV p l e 2 s m args below meth c G e0 α κ B Qm H locs 54 ls [.int (Int32.ofInt v47)]) (fun J48 => ?_) ?_
    · refine sa_if_eq (tgt := 53) X.1 r36 dX10_figure_24 (by decide) (fun hc => ?_) (fun hc => ?_)
      · skip
        refine sa_const X.1 dX10_figure_53 ?_
        exact J48 (0) (if_pos (c := x35 = 0) hc).symm
      · have hw := s45 hc
        refine lv_iload_n X.1.1 X.1.2.1 dX10_figure_27 rfl (lv_at hl 4 rfl) ?_
        refine sa_const X.1 dX10_figure_28 ?_
        have s42 := hw.1
        have hw := hw.2
        refine cut_j (A := ∀ v43 : Int, v43 = (if p3 = 2 then (1 : Int) else (if ¬ (Int.tmod p2 (if ¬ p3 = 1 then (100 : Int) else 10)) = 0 then (0 : Int) else 1)) → WV p l e 2 s m args below meth c G e0 α κ B Qm H locs 54 ls [.int (Int32.ofInt v43)]) (fun J44 => ?_) ?_
        · refine sa_icmp_eq (tgt := 49) X.1 hp3 (inR_c (a := 2) rfl) dX10_figure_29 (by decide) (fun hc => ?_) (fun hc => ?_)
          · skip
            refine sa_const X.1 dX10_figure_49 ?_
            refine lv_goto (tgt := 54) X.1.1 X.1.2.1 dX10_figure_50 (by decide) ?_
            exact J44 (1) (if_pos (c := p3 = 2) hc).symm
          · have hw := s42 hc
            refine lv_iload_n X.1.1 X.1.2.1 dX10_figure_32 rfl (lv_at hl 3 rfl) ?_
            refine lv_iload_n X.1.1 X.1.2.1 dX10_figure_33 rfl (lv_at hl 4 rfl) ?_
            refine sa_const X.1 dX10_figure_34 ?_
            refine cut_j (A := ∀ v37 : Int, v37 = (if ¬ p3 = 1 then (100 : Int) else 10) → WV p l e 2 s m args below meth c G e0 α κ B Qm H locs 45 ls [.int (Int32.ofInt v37), .int (Int32.ofInt p2)]) (fun J38 => ?_) ?_
            · refine sa_icmp_ne (tgt := 43) X.1 hp3 (inR_c (a := 1) rfl) dX10_figure_35 (by decide) (fun hc => ?_) (fun hc => ?_)
              · skip
                refine sa_bipush X.1 dX10_figure_43 (by decide) ?_
                exact J38 (100) (if_pos (c := ¬ p3 = 1) hc).symm
              · skip
                refine sa_bipush X.1 dX10_figure_38 (by decide) ?_
                refine lv_goto (tgt := 45) X.1.1 X.1.2.1 dX10_figure_40 (by decide) ?_
                exact J38 (10) (if_neg (c := ¬ p3 = 1) (fun z => z hc)).symm
            intro v37 hv37
            subst hv37
            have c39 := hw.1
            have hw := hw.2
            refine sa_irem X.1 hp2 (inR_ite (c := ¬ p3 = 1) (inR_c (a := 100) rfl) (inR_c (a := 10) rfl)) (Int.ne_of_gt c39) dX10_figure_45 ?_
            refine cut_j (A := ∀ v40 : Int, v40 = (if ¬ (Int.tmod p2 (if ¬ p3 = 1 then (100 : Int) else 10)) = 0 then (0 : Int) else 1) → WV p l e 2 s m args below meth c G e0 α κ B Qm H locs 54 ls [.int (Int32.ofInt v40)]) (fun J41 => ?_) ?_
            · refine sa_if_ne (tgt := 53) X.1 (inR_tmod hp2 (inR_ite (c := ¬ p3 = 1) (inR_c (a := 100) rfl) (inR_c (a := 10) rfl)) c39) dX10_figure_46 (by decide) (fun hc => ?_) (fun hc => ?_)
              · skip
                refine sa_const X.1 dX10_figure_53 ?_
                exact J41 (0) (if_pos (c := ¬ (Int.tmod p2 (if ¬ p3 = 1 then (100 : Int) else 10)) = 0) hc).symm
              · skip
                refine sa_const X.1 dX10_figure_49 ?_
                refine lv_goto (tgt := 54) X.1.1 X.1.2.1 dX10_figure_50 (by decide) ?_
                exact J41 (1) (if_neg (c := ¬ (Int.tmod p2 (if ¬ p3 = 1 then (100 : Int) else 10)) = 0) (fun z => z hc)).symm
            intro v40 hv40
            subst hv40
            exact J44 ((if ¬ (Int.tmod p2 (if ¬ p3 = 1 then (100 : Int) else 10)) = 0 then (0 : Int) else 1)) (if_neg (c := p3 = 2) hc).symm
        intro v43 hv43
        subst hv43
        exact J48 ((if p3 = 2 then (1 : Int) else (if ¬ (Int.tmod p2 (if ¬ p3 = 1 then (100 : Int) else 10)) = 0 then (0 : Int) else 1))) (if_neg (c := x35 = 0) hc).symm
    intro v47 hv47
    subst hv47
    refine lv_istore (lv' := [(5, .int (Int32.ofInt (if x35 = 0 then (0 : Int) else (if p3 = 2 then (1 : Int) else (if ¬ (Int.tmod p2 (if ¬ p3 = 1 then (100 : Int) else 10)) = 0 then (0 : Int) else 1))))), (4, .int (Int32.ofInt x2)), (0, .ref (α 11 0)), (1, .int (Int32.ofInt p1)), (2, .int (Int32.ofInt p2)), (3, .int (Int32.ofInt p3))]) X.1.1 X.1.2.1 dX10_figure_54 hl (by decide) rfl (fun ls hl => ?_)
    refine lv_aload_n X.1.1 X.1.2.1 dX10_figure_56 rfl (lv_at hl 2 rfl) ?_
    refine lv_iload X.1.1 X.1.2.1 dX10_figure_57 (lv_at hl 1 rfl) ?_
    refine lv_iload X.1.1 X.1.2.1 dX10_figure_59 (lv_at hl 0 rfl) ?_
    refine lv_iload X.1.1 X.1.2.1 dX10_figure_61 (lv_at hl 1 rfl) ?_
    have s60 := hw.1
    have hw := hw.2
    have r61 := inR_ite (c := x2 = 0) (inR_c (a := 0) rfl) (inR_ite (c := ¬ (M34 72 0 p1) = 0) (inR_c (a := 0) rfl) (inR_ite (c := ¬ (M34 67 0 p1) = 1) (inR_c (a := 0) rfl) (inR_ite (c := ¬ (M34 68 0 p1) = 1) (inR_c (a := 0) rfl) (inR_c (a := 1) rfl))))
    refine cut_j (A := ∀ v62 : Int, v62 = (if x2 = 0 then (0 : Int) else (if ¬ (M34 72 0 p1) = 0 then (0 : Int) else (if ¬ (M34 67 0 p1) = 1 then (0 : Int) else (if ¬ (M34 68 0 p1) = 1 then (0 : Int) else 1)))) → WV p l e 2 s m args below meth c G e0 α κ B Qm H locs 100 ls [.int (Int32.ofInt v62), .int (Int32.ofInt (if x35 = 0 then (0 : Int) else (if p3 = 2 then (1 : Int) else (if ¬ (Int.tmod p2 (if ¬ p3 = 1 then (100 : Int) else 10)) = 0 then (0 : Int) else 1)))), .int (Int32.ofInt x2), .ref (α 11 0)]) (fun J63 => ?_) ?_
    · refine sa_if_eq (tgt := 99) X.1 r3 dX10_figure_63 (by decide) (fun hc => ?_) (fun hc => ?_)
      · skip
        refine sa_const X.1 dX10_figure_99 ?_
        exact J63 (0) (if_pos (c := x2 = 0) hc).symm
      · have hw := s60 hc
        refine lv_aload_n X.1.1 X.1.2.1 dX10_figure_66 rfl (lv_at hl 2 rfl) ?_
        refine gt_11_19 X hR (okf X.2.2.1 rfl) kw_1548 dX10_figure_67 ?_
        refine lv_iload_n X.1.1 X.1.2.1 dX10_figure_70 rfl (lv_at hl 3 rfl) ?_
        have c49 := hw.1
        have hw := hw.2
        refine ra_72 X hR (okf X.2.2.1 rfl) c49 dX10_figure_71 ?_
        have s57 := hw.1
        have hw := hw.2
        refine cut_j (A := ∀ v58 : Int, v58 = (if ¬ (M34 72 0 p1) = 0 then (0 : Int) else (if ¬ (M34 67 0 p1) = 1 then (0 : Int) else (if ¬ (M34 68 0 p1) = 1 then (0 : Int) else 1))) → WV p l e 2 s m args below meth c G e0 α κ B Qm H locs 100 ls [.int (Int32.ofInt v58), .int (Int32.ofInt (if x35 = 0 then (0 : Int) else (if p3 = 2 then (1 : Int) else (if ¬ (Int.tmod p2 (if ¬ p3 = 1 then (100 : Int) else 10)) = 0 then (0 : Int) else 1)))), .int (Int32.ofInt x2), .ref (α 11 0)]) (fun J59 => ?_) ?_
        · refine sa_if_ne (tgt := 99) X.1 (hR.r 72 0 p1) dX10_figure_72 (by decide) (fun hc => ?_) (fun hc => ?_)
          · skip
            refine sa_const X.1 dX10_figure_99 ?_
            exact J59 (0) (if_pos (c := ¬ (M34 72 0 p1) = 0) hc).symm
          · have hw := s57 hc
            refine lv_aload_n X.1.1 X.1.2.1 dX10_figure_75 rfl (lv_at hl 2 rfl) ?_
            refine gt_11_13 X hR (okf X.2.2.1 rfl) kw_1542 dX10_figure_76 ?_
            refine lv_iload_n X.1.1 X.1.2.1 dX10_figure_79 rfl (lv_at hl 3 rfl) ?_
            have c50 := hw.1
            have hw := hw.2
            refine ra_67 X hR (okf X.2.2.1 rfl) c50 dX10_figure_80 ?_
            refine sa_const X.1 dX10_figure_81 ?_
            have s54 := hw.1
            have hw := hw.2
            refine cut_j (A := ∀ v55 : Int, v55 = (if ¬ (M34 67 0 p1) = 1 then (0 : Int) else (if ¬ (M34 68 0 p1) = 1 then (0 : Int) else 1)) → WV p l e 2 s m args below meth c G e0 α κ B Qm H locs 100 ls [.int (Int32.ofInt v55), .int (Int32.ofInt (if x35 = 0 then (0 : Int) else (if p3 = 2 then (1 : Int) else (if ¬ (Int.tmod p2 (if ¬ p3 = 1 then (100 : Int) else 10)) = 0 then (0 : Int) else 1)))), .int (Int32.ofInt x2), .ref (α 11 0)]) (fun J56 => ?_) ?_
            · refine sa_icmp_ne (tgt := 99) X.1 (hR.r 67 0 p1) (inR_c (a := 1) rfl) dX10_figure_82 (by decide) (fun hc => ?_) (fun hc => ?_)
              · skip
                refine sa_const X.1 dX10_figure_99 ?_
                exact J56 (0) (if_pos (c := ¬ (M34 67 0 p1) = 1) hc).symm
              · have hw := s54 hc
                refine lv_aload_n X.1.1 X.1.2.1 dX10_figure_85 rfl (lv_at hl 2 rfl) ?_
                refine gt_11_14 X hR (okf X.2.2.1 rfl) kw_1543 dX10_figure_86 ?_
                refine lv_iload_n X.1.1 X.1.2.1 dX10_figure_89 rfl (lv_at hl 3 rfl) ?_
                have c51 := hw.1
                have hw := hw.2
                refine ra_68 X hR (okf X.2.2.1 rfl) c51 dX10_figure_90 ?_
                refine sa_const X.1 dX10_figure_91 ?_
                refine cut_j (A := ∀ v52 : Int, v52 = (if ¬ (M34 68 0 p1) = 1 then (0 : Int) else 1) → WV p l e 2 s m args below meth c G e0 α κ B Qm H locs 100 ls [.int (Int32.ofInt v52), .int (Int32.ofInt (if x35 = 0 then (0 : Int) else (if p3 = 2 then (1 : Int) else (if ¬ (Int.tmod p2 (if ¬ p3 = 1 then (100 : Int) else 10)) = 0 then (0 : Int) else 1)))), .int (Int32.ofInt x2), .ref (α 11 0)]) (fun J53 => ?_) ?_
                · refine sa_icmp_ne (tgt := 99) X.1 (hR.r 68 0 p1) (inR_c (a := 1) rfl) dX10_figure_92 (by decide) (fun hc => ?_) (fun hc => ?_)
                  · skip
                    refine sa_const X.1 dX10_figure_99 ?_
                    exact J53 (0) (if_pos (c := ¬ (M34 68 0 p1) = 1) hc).symm
                  · skip
                    refine sa_const X.1 dX10_figure_95 ?_
                    refine lv_goto (tgt := 100) X.1.1 X.1.2.1 dX10_figure_96 (by decide) ?_
                    exact J53 (1) (if_neg (c := ¬ (M34 68 0 p1) = 1) (fun z => z hc)).symm
                intro v52 hv52
                subst hv52
                exact J56 ((if ¬ (M34 68 0 p1) = 1 then (0 : Int) else 1)) (if_neg (c := ¬ (M34 67 0 p1) = 1) (fun z => z hc)).symm
            intro v55 hv55
            subst hv55
            exact J59 ((if ¬ (M34 67 0 p1) = 1 then (0 : Int) else (if ¬ (M34 68 0 p1) = 1 then (0 : Int) else 1))) (if_neg (c := ¬ (M34 72 0 p1) = 0) (fun z => z hc)).symm
        intro v58 hv58
        subst hv58
        exact J63 ((if ¬ (M34 72 0 p1) = 0 then (0 : Int) else (if ¬ (M34 67 0 p1) = 1 then (0 : Int) else (if ¬ (M34 68 0 p1) = 1 then (0 : Int) else 1)))) (if_neg (c := x2 = 0) hc).symm
    intro v62 hv62
    subst hv62
    refine cs_X10_goes X r3 r46 r61 (kc := 2) rmL_ok rm_c (by decide) hR hS kw_1721 hl.1 dX10_figure_100 (Nat.le_of_ble_eq_true rfl) hw (fun x65 M64 H locs hw r66 hR hS => ?_)
    refine sa_if_eq (tgt := 127) X.1 r66 dX10_figure_103 (by decide) (fun hc => ?_) (fun hc => ?_)
    · have hw := hw.1 hc
      exact t_X10_figure_127 X hp1 hp2 hp3 _ hw _ _ hR hS _ (lv_sub hl [] rfl)
    · have hw := hw.2 hc
      refine lv_aload_n X.1.1 X.1.2.1 dX10_figure_106 rfl (lv_at hl 2 rfl) ?_
      refine gt_11_20 X hR (okf X.2.2.1 rfl) kw_1549 dX10_figure_107 ?_
      refine lv_iload_n X.1.1 X.1.2.1 dX10_figure_110 rfl (lv_at hl 3 rfl) ?_
      refine sa_const X.1 dX10_figure_111 ?_
      have c67 := hw.1
      have hw := hw.2
      refine wa_73 X hR hS (okf X.2.2.1 rfl) c67 (Or.inr rfl) dX10_figure_112 (fun H locs hR hS => ?_)
      obtain ⟨M68, e69⟩ : ∃ z : Mem, z = up M64 73 0 p1 1 := ⟨_, rfl⟩
      rw [← e69] at hR
      have hw := hw M68 e69
      refine lv_aload_n X.1.1 X.1.2.1 dX10_figure_113 rfl (lv_at hl 2 rfl) ?_
      refine gt_11_21 X hR (okf X.2.2.1 rfl) kw_1550 dX10_figure_114 ?_
      refine lv_iload_n X.1.1 X.1.2.1 dX10_figure_117 rfl (lv_at hl 3 rfl) ?_
      refine lv_iload_n X.1.1 X.1.2.1 dX10_figure_118 rfl (lv_at hl 4 rfl) ?_
      have c70 := hw.1
      have hw := hw.2
      refine wa_74 X hR hS (okf X.2.2.1 rfl) c70 hp2 dX10_figure_119 (fun H locs hR hS => ?_)
      obtain ⟨M71, e72⟩ : ∃ z : Mem, z = up M68 74 0 p1 p2 := ⟨_, rfl⟩
      rw [← e72] at hR
      have hw := hw M71 e72
      refine lv_aload_n X.1.1 X.1.2.1 dX10_figure_120 rfl (lv_at hl 2 rfl) ?_
      refine gt_11_22 X hR (okf X.2.2.1 rfl) kw_1551 dX10_figure_121 ?_
      refine lv_iload_n X.1.1 X.1.2.1 dX10_figure_124 rfl (lv_at hl 3 rfl) ?_
      refine lv_iload_n X.1.1 X.1.2.1 dX10_figure_125 rfl (lv_at hl 5 rfl) ?_
      have c73 := hw.1
      have hw := hw.2
      refine wa_75 X hR hS (okf X.2.2.1 rfl) c73 hp3 dX10_figure_126 (fun H locs hR hS => ?_)
      obtain ⟨M74, e75⟩ : ∃ z : Mem, z = up M71 75 0 p1 p3 := ⟨_, rfl⟩
      rw [← e75] at hR
      have hw := hw M74 e75
      exact t_X10_figure_127 X hp1 hp2 hp3 _ hw _ _ hR hS _ (lv_sub hl [] rfl)
theorem m_X10_figure {l : Launch} {G : Gx} {e0 : Nat} {α : Ax} {κ : Nat → Int} {B : Nat} {p1 : Int} {p2 : Int} {p3 : Int} (hκ : kOK κ) (hp1 : inR p1) (hp2 : inR p2) (hp3 : inR p3) {M : Mem} {Qm : Mem → Prop} (hw : wp_X10_figure p1 p2 p3 M Qm) : CV l yX10_figure (Cond.code yX10_figure cX10_figure 6 none) 2 G e0 α κ B [.ref (α 11 0), .int (Int32.ofInt p1), .int (Int32.ofInt p2), .int (Int32.ofInt p3)] M Qm :=
  CV.mk hκ (by decide +kernel) rfl (Nat.le_of_ble_eq_true rfl) (lv := [(0, .ref (α 11 0)), (1, .int (Int32.ofInt p1)), (2, .int (Int32.ofInt p2)), (3, .int (Int32.ofInt p3))]) rfl (fun p e s m args below meth c ls X hR hS hl => t_X10_figure X hp1 hp2 hp3 hw _ _ hR hS ls hl)
theorem cs_X10_figure {cc : ByteArray} {nL : Nat} {own : String} {ret : Option FieldType} {idx pc : Nat} {p1 : Int} {p2 : Int} {p3 : Int} (X : CX p m c cc nL s args own G B κ meth ret) (hp1 : inR p1) (hp2 : inR p2) (hp3 : inR p3) {kc : Nat} {R : Room} {cells slots : Nat} (hRr : RmOK R kc) (hcel : cells ≤ R.cells ∧ slots ≤ R.slots) (hk : 2 + 1 ≤ kc) {M : Mem} {H : Heap} {locs : List Loc} (hR : Rp G e0 α κ B M H) (hS : va_S (fun q => B ≤ q) s.heap H locs) (k1 : Cond.methodLink own idx yX10_figure ∈ gw) {ls : Array Slot} (hml : ls.size = nL) {rest : List Value} (hd : decode cc pc = .ok (.invokevirtual idx, 3)) (hrest : (rest.map fun v => v.category).sum ≤ 8) {Q : State → Prop} {Qm : Mem → Prop} (hw : wp_X10_figure p1 p2 p3 M Qm) (kk : ∀ (M1 : Mem) (H1 : Heap) (locs1 : List Loc), Qm M1 → Rp G e0 α κ B M1 H1 → va_S (fun q => B ≤ q) s.heap H1 locs1 → W p l e R s m args below meth c H1 locs1 cells slots Q (F0 m (pc + 3) ls (rest))) : W p l e R s m args below meth c H locs cells slots Q (F0 m pc ls (.int (Int32.ofInt p3) :: .int (Int32.ofInt p2) :: .int (Int32.ofInt p1) :: .ref (α 11 0) :: rest)) :=
  sa_callVV 2 (n := 3) (As := [.int (Int32.ofInt p1), .int (Int32.ofInt p2), .int (Int32.ofInt p3)]) (rest := rest) X.1 X.2.1 hR hS (m_X10_figure X.2.2.1 hp1 hp2 hp3 hw) k1 kw_1758 kw_1759 kw_104 kw_1760 ⟨rfl, by decide +kernel, by decide +kernel, by decide +kernel⟩ (rm_ok hRr hk (by decide)) (rc_11 X hR (okf X.2.2.1 rfl)) rfl rfl hrest hml hd hcel kk
def wp_X10_empty (p1 : Int) (M : Mem) (Qm : Int → Mem → Prop) : Prop := wp_X10_isCell p1 M fun (x2 : Int) (M1 : Mem) => wp_X10_goes x2 1 1 M1 fun (x5 : Int) (M4 : Mem) => ((¬ x5 = 0 → (0 ≤ p1 ∧ p1 < 100) ∧ (0 ≤ p1 ∧ p1 < 100) ∧ ∀ M10 : Mem, M10 = up M4 72 0 p1 0 → (0 ≤ p1 ∧ p1 < 100) ∧ ∀ M13 : Mem, M13 = up M10 73 0 p1 0 → Qm (M4 72 0 p1) M13) ∧ (x5 = 0 → Qm 0 M4))
set_option maxHeartbeats 4000000 in
set_option maxRecDepth 100000 in
theorem t_X10_empty {p1 : Int} (X : CX p m c cX10_empty 3 s args RX10 G B κ meth (some .int)) (hp1 : inR p1) {M : Mem} {Qm : Int → Mem → Prop} (hw : wp_X10_empty p1 M Qm) (H : Heap) (locs : List Loc) (hR : Rp G e0 α κ B M H) (hS : va_S (fun q => B ≤ q) s.heap H locs) (ls : Array Slot) (hl : lv_has ls 3 [(0, .ref (α 11 0)), (1, .int (Int32.ofInt p1))]) : WI p l e 2 s m args below meth c G e0 α κ B Qm H locs 0 ls [] := by
  have hw : wp_X10_isCell p1 M fun (x2 : Int) (M1 : Mem) => wp_X10_goes x2 1 1 M1 fun (x5 : Int) (M4 : Mem) => ((¬ x5 = 0 → (0 ≤ p1 ∧ p1 < 100) ∧ (0 ≤ p1 ∧ p1 < 100) ∧ ∀ M10 : Mem, M10 = up M4 72 0 p1 0 → (0 ≤ p1 ∧ p1 < 100) ∧ ∀ M13 : Mem, M13 = up M10 73 0 p1 0 → Qm (M4 72 0 p1) M13) ∧ (x5 = 0 → Qm 0 M4)) := hw
  refine lv_aload_n X.1.1 X.1.2.1 dX10_empty_0 rfl (lv_at hl 0 rfl) ?_
  refine lv_aload_n X.1.1 X.1.2.1 dX10_empty_1 rfl (lv_at hl 0 rfl) ?_
  refine lv_iload_n X.1.1 X.1.2.1 dX10_empty_2 rfl (lv_at hl 1 rfl) ?_
  refine cs_X10_isCell X hp1 (kc := 2) rmL_ok rm_c (by decide) hR hS kw_1753 hl.1 dX10_empty_3 (Nat.le_of_ble_eq_true rfl) hw (fun x2 M1 H locs hw r3 hR hS => ?_)
  refine sa_const X.1 dX10_empty_6 ?_
  refine sa_const X.1 dX10_empty_7 ?_
  refine cs_X10_goes X r3 (inR_c (a := 1) rfl) (inR_c (a := 1) rfl) (kc := 2) rmL_ok rm_c (by decide) hR hS kw_1721 hl.1 dX10_empty_8 (Nat.le_of_ble_eq_true rfl) hw (fun x5 M4 H locs hw r6 hR hS => ?_)
  refine sa_if_ne (tgt := 16) X.1 r6 dX10_empty_11 (by decide) (fun hc => ?_) (fun hc => ?_)
  · have hw := hw.1 hc
    refine lv_aload_n X.1.1 X.1.2.1 dX10_empty_16 rfl (lv_at hl 0 rfl) ?_
    refine gt_11_19 X hR (okf X.2.2.1 rfl) kw_1548 dX10_empty_17 ?_
    refine lv_iload_n X.1.1 X.1.2.1 dX10_empty_20 rfl (lv_at hl 1 rfl) ?_
    have c7 := hw.1
    have hw := hw.2
    refine ra_72 X hR (okf X.2.2.1 rfl) c7 dX10_empty_21 ?_
    have r8 := hR.r 72 0 p1
    refine lv_istore_n (lv' := [(2, .int (Int32.ofInt (M4 72 0 p1))), (0, .ref (α 11 0)), (1, .int (Int32.ofInt p1))]) X.1.1 X.1.2.1 dX10_empty_22 rfl hl (by decide) rfl (fun ls hl => ?_)
    refine lv_aload_n X.1.1 X.1.2.1 dX10_empty_23 rfl (lv_at hl 1 rfl) ?_
    refine gt_11_19 X hR (okf X.2.2.1 rfl) kw_1548 dX10_empty_24 ?_
    refine lv_iload_n X.1.1 X.1.2.1 dX10_empty_27 rfl (lv_at hl 2 rfl) ?_
    refine sa_const X.1 dX10_empty_28 ?_
    have c9 := hw.1
    have hw := hw.2
    refine wa_72 X hR hS (okf X.2.2.1 rfl) c9 (inR_c (a := 0) rfl) dX10_empty_29 (fun H locs hR hS => ?_)
    obtain ⟨M10, e11⟩ : ∃ z : Mem, z = up M4 72 0 p1 0 := ⟨_, rfl⟩
    rw [← e11] at hR
    have hw := hw M10 e11
    refine lv_aload_n X.1.1 X.1.2.1 dX10_empty_30 rfl (lv_at hl 1 rfl) ?_
    refine gt_11_20 X hR (okf X.2.2.1 rfl) kw_1549 dX10_empty_31 ?_
    refine lv_iload_n X.1.1 X.1.2.1 dX10_empty_34 rfl (lv_at hl 2 rfl) ?_
    refine sa_const X.1 dX10_empty_35 ?_
    have c12 := hw.1
    have hw := hw.2
    refine wa_73 X hR hS (okf X.2.2.1 rfl) c12 (Or.inl rfl) dX10_empty_36 (fun H locs hR hS => ?_)
    obtain ⟨M13, e14⟩ : ∃ z : Mem, z = up M10 73 0 p1 0 := ⟨_, rfl⟩
    rw [← e14] at hR
    have hw := hw M13 e14
    refine lv_iload_n X.1.1 X.1.2.1 dX10_empty_37 rfl (lv_at hl 0 rfl) ?_
    exact sa_iret X.1 X.2.2.2.1 X.2.2.2.2 hR hS r8 hw dX10_empty_38
  · have hw := hw.2 hc
    refine sa_const X.1 dX10_empty_14 ?_
    exact sa_iret X.1 X.2.2.2.1 X.2.2.2.2 hR hS (inR_c (a := 0) rfl) hw dX10_empty_15
theorem m_X10_empty {l : Launch} {G : Gx} {e0 : Nat} {α : Ax} {κ : Nat → Int} {B : Nat} {p1 : Int} (hκ : kOK κ) (hp1 : inR p1) {M : Mem} {Qm : Int → Mem → Prop} (hw : wp_X10_empty p1 M Qm) : CI l yX10_empty (Cond.code yX10_empty cX10_empty 3 (some .int)) 2 G e0 α κ B [.ref (α 11 0), .int (Int32.ofInt p1)] M Qm :=
  CI.mk hκ (by decide +kernel) rfl (Nat.le_of_ble_eq_true rfl) (lv := [(0, .ref (α 11 0)), (1, .int (Int32.ofInt p1))]) rfl (fun p e s m args below meth c ls X hR hS hl => t_X10_empty X hp1 hw _ _ hR hS ls hl)
theorem cs_X10_empty {cc : ByteArray} {nL : Nat} {own : String} {ret : Option FieldType} {idx pc : Nat} {p1 : Int} (X : CX p m c cc nL s args own G B κ meth ret) (hp1 : inR p1) {kc : Nat} {R : Room} {cells slots : Nat} (hRr : RmOK R kc) (hcel : cells ≤ R.cells ∧ slots ≤ R.slots) (hk : 2 + 1 ≤ kc) {M : Mem} {H : Heap} {locs : List Loc} (hR : Rp G e0 α κ B M H) (hS : va_S (fun q => B ≤ q) s.heap H locs) (k1 : Cond.methodLink own idx yX10_empty ∈ gw) {ls : Array Slot} (hml : ls.size = nL) {rest : List Value} (hd : decode cc pc = .ok (.invokevirtual idx, 3)) (hrest : (rest.map fun v => v.category).sum ≤ 8) {Q : State → Prop} {Qm : Int → Mem → Prop} (hw : wp_X10_empty p1 M Qm) (kk : ∀ (r : Int) (M1 : Mem) (H1 : Heap) (locs1 : List Loc), Qm r M1 → inR r → Rp G e0 α κ B M1 H1 → va_S (fun q => B ≤ q) s.heap H1 locs1 → W p l e R s m args below meth c H1 locs1 cells slots Q (F0 m (pc + 3) ls (.int (Int32.ofInt r) :: rest))) : W p l e R s m args below meth c H locs cells slots Q (F0 m pc ls (.int (Int32.ofInt p1) :: .ref (α 11 0) :: rest)) :=
  sa_callVI 2 (n := 1) (As := [.int (Int32.ofInt p1)]) (rest := rest) X.1 X.2.1 hR hS (m_X10_empty X.2.2.1 hp1 hw) k1 kw_1764 kw_1765 kw_104 kw_1766 ⟨rfl, by decide +kernel, by decide +kernel, by decide +kernel⟩ (rm_ok hRr hk (by decide)) (rc_11 X hR (okf X.2.2.1 rfl)) rfl rfl hrest hml hd hcel kk
def wp_X10_note (p1 : Int) (p2 : Int) (M : Mem) (Qm : Int → Mem → Prop) : Prop := wp_X10_isCell p1 M fun (x2 : Int) (M1 : Mem) => wp_X10_in p2 0 3 M1 fun (x5 : Int) (M4 : Mem) => (¬ x2 = 0 → (0 ≤ p1 ∧ p1 < 100) ∧ (0 ≤ (M4 65 0 p1) ∧ (M4 65 0 p1) < 29) ∧ True) ∧ wp_X10_goes x2 x5 (if x2 = 0 then (0 : Int) else (if ¬ (M4 60 0 (M4 65 0 p1)) = 1 then (0 : Int) else 1)) M4 fun (x16 : Int) (M15 : Mem) => ((¬ x16 = 0 → (0 ≤ p1 ∧ p1 < 100) ∧ (0 ≤ p1 ∧ p1 < 100) ∧ ∀ M21 : Mem, M21 = up M15 76 0 p1 p2 → Qm (M15 76 0 p1) M21) ∧ (x16 = 0 → Qm 0 M15))
set_option maxHeartbeats 4000000 in
set_option maxRecDepth 100000 in
theorem t_X10_note {p1 : Int} {p2 : Int} (X : CX p m c cX10_note 5 s args RX10 G B κ meth (some .int)) (hp1 : inR p1) (hp2 : inR p2) {M : Mem} {Qm : Int → Mem → Prop} (hw : wp_X10_note p1 p2 M Qm) (H : Heap) (locs : List Loc) (hR : Rp G e0 α κ B M H) (hS : va_S (fun q => B ≤ q) s.heap H locs) (ls : Array Slot) (hl : lv_has ls 5 [(0, .ref (α 11 0)), (1, .int (Int32.ofInt p1)), (2, .int (Int32.ofInt p2))]) : WI p l e 2 s m args below meth c G e0 α κ B Qm H locs 0 ls [] := by
  have hw : wp_X10_isCell p1 M fun (x2 : Int) (M1 : Mem) => wp_X10_in p2 0 3 M1 fun (x5 : Int) (M4 : Mem) => (¬ x2 = 0 → (0 ≤ p1 ∧ p1 < 100) ∧ (0 ≤ (M4 65 0 p1) ∧ (M4 65 0 p1) < 29) ∧ True) ∧ wp_X10_goes x2 x5 (if x2 = 0 then (0 : Int) else (if ¬ (M4 60 0 (M4 65 0 p1)) = 1 then (0 : Int) else 1)) M4 fun (x16 : Int) (M15 : Mem) => ((¬ x16 = 0 → (0 ≤ p1 ∧ p1 < 100) ∧ (0 ≤ p1 ∧ p1 < 100) ∧ ∀ M21 : Mem, M21 = up M15 76 0 p1 p2 → Qm (M15 76 0 p1) M21) ∧ (x16 = 0 → Qm 0 M15)) := hw
  refine lv_aload_n X.1.1 X.1.2.1 dX10_note_0 rfl (lv_at hl 0 rfl) ?_
  refine lv_iload_n X.1.1 X.1.2.1 dX10_note_1 rfl (lv_at hl 1 rfl) ?_
  refine cs_X10_isCell X hp1 (kc := 2) rmL_ok rm_c (by decide) hR hS kw_1753 hl.1 dX10_note_2 (Nat.le_of_ble_eq_true rfl) hw (fun x2 M1 H locs hw r3 hR hS => ?_)
  refine lv_istore_n (lv' := [(3, .int (Int32.ofInt x2)), (0, .ref (α 11 0)), (1, .int (Int32.ofInt p1)), (2, .int (Int32.ofInt p2))]) X.1.1 X.1.2.1 dX10_note_5 rfl hl (by decide) rfl (fun ls hl => ?_)
  refine lv_aload_n X.1.1 X.1.2.1 dX10_note_6 rfl (lv_at hl 1 rfl) ?_
  refine lv_iload_n X.1.1 X.1.2.1 dX10_note_7 rfl (lv_at hl 0 rfl) ?_
  refine lv_iload_n X.1.1 X.1.2.1 dX10_note_8 rfl (lv_at hl 3 rfl) ?_
  refine sa_const X.1 dX10_note_9 ?_
  refine sa_const X.1 dX10_note_10 ?_
  refine cs_X10_in X hp2 (inR_c (a := 0) rfl) (inR_c (a := 3) rfl) (kc := 2) rmL_ok rm_c (by decide) hR hS kw_1718 hl.1 dX10_note_11 (Nat.le_of_ble_eq_true rfl) hw (fun x5 M4 H locs hw r6 hR hS => ?_)
  refine lv_iload_n X.1.1 X.1.2.1 dX10_note_14 rfl (lv_at hl 0 rfl) ?_
  have s11 := hw.1
  have hw := hw.2
  have r12 := inR_ite (c := x2 = 0) (inR_c (a := 0) rfl) (inR_ite (c := ¬ (M4 60 0 (M4 65 0 p1)) = 1) (inR_c (a := 0) rfl) (inR_c (a := 1) rfl))
  refine cut_j (A := ∀ v13 : Int, v13 = (if x2 = 0 then (0 : Int) else (if ¬ (M4 60 0 (M4 65 0 p1)) = 1 then (0 : Int) else 1)) → WI p l e 2 s m args below meth c G e0 α κ B Qm H locs 38 ls [.int (Int32.ofInt v13), .int (Int32.ofInt x5), .int (Int32.ofInt x2), .ref (α 11 0)]) (fun J14 => ?_) ?_
  · refine sa_if_eq (tgt := 37) X.1 r3 dX10_note_15 (by decide) (fun hc => ?_) (fun hc => ?_)
    · skip
      refine sa_const X.1 dX10_note_37 ?_
      exact J14 (0) (if_pos (c := x2 = 0) hc).symm
    · have hw := s11 hc
      refine lv_aload_n X.1.1 X.1.2.1 dX10_note_18 rfl (lv_at hl 1 rfl) ?_
      refine gt_11_5 X hR (okf X.2.2.1 rfl) kw_1534 dX10_note_19 ?_
      refine lv_aload_n X.1.1 X.1.2.1 dX10_note_22 rfl (lv_at hl 1 rfl) ?_
      refine gt_11_11 X hR (okf X.2.2.1 rfl) kw_1540 dX10_note_23 ?_
      refine lv_iload_n X.1.1 X.1.2.1 dX10_note_26 rfl (lv_at hl 2 rfl) ?_
      have c7 := hw.1
      have hw := hw.2
      refine ra_65 X hR (okf X.2.2.1 rfl) c7 dX10_note_27 ?_
      have c8 := hw.1
      have hw := hw.2
      refine ra_60 X hR (okf X.2.2.1 rfl) c8 dX10_note_28 ?_
      refine sa_const X.1 dX10_note_29 ?_
      refine cut_j (A := ∀ v9 : Int, v9 = (if ¬ (M4 60 0 (M4 65 0 p1)) = 1 then (0 : Int) else 1) → WI p l e 2 s m args below meth c G e0 α κ B Qm H locs 38 ls [.int (Int32.ofInt v9), .int (Int32.ofInt x5), .int (Int32.ofInt x2), .ref (α 11 0)]) (fun J10 => ?_) ?_
      · refine sa_icmp_ne (tgt := 37) X.1 (hR.r 60 0 (M4 65 0 p1)) (inR_c (a := 1) rfl) dX10_note_30 (by decide) (fun hc => ?_) (fun hc => ?_)
        · skip
          refine sa_const X.1 dX10_note_37 ?_
          exact J10 (0) (if_pos (c := ¬ (M4 60 0 (M4 65 0 p1)) = 1) hc).symm
        · skip
          refine sa_const X.1 dX10_note_33 ?_
          refine lv_goto (tgt := 38) X.1.1 X.1.2.1 dX10_note_34 (by decide) ?_
          exact J10 (1) (if_neg (c := ¬ (M4 60 0 (M4 65 0 p1)) = 1) (fun z => z hc)).symm
      intro v9 hv9
      subst hv9
      exact J14 ((if ¬ (M4 60 0 (M4 65 0 p1)) = 1 then (0 : Int) else 1)) (if_neg (c := x2 = 0) hc).symm
  intro v13 hv13
  subst hv13
  refine cs_X10_goes X r3 r6 r12 (kc := 2) rmL_ok rm_c (by decide) hR hS kw_1721 hl.1 dX10_note_38 (Nat.le_of_ble_eq_true rfl) hw (fun x16 M15 H locs hw r17 hR hS => ?_)
  refine sa_if_ne (tgt := 46) X.1 r17 dX10_note_41 (by decide) (fun hc => ?_) (fun hc => ?_)
  · have hw := hw.1 hc
    refine lv_aload_n X.1.1 X.1.2.1 dX10_note_46 rfl (lv_at hl 1 rfl) ?_
    refine gt_11_23 X hR (okf X.2.2.1 rfl) kw_1552 dX10_note_47 ?_
    refine lv_iload_n X.1.1 X.1.2.1 dX10_note_50 rfl (lv_at hl 2 rfl) ?_
    have c18 := hw.1
    have hw := hw.2
    refine ra_76 X hR (okf X.2.2.1 rfl) c18 dX10_note_51 ?_
    have r19 := hR.r 76 0 p1
    refine lv_istore (lv' := [(4, .int (Int32.ofInt (M15 76 0 p1))), (3, .int (Int32.ofInt x2)), (0, .ref (α 11 0)), (1, .int (Int32.ofInt p1)), (2, .int (Int32.ofInt p2))]) X.1.1 X.1.2.1 dX10_note_52 hl (by decide) rfl (fun ls hl => ?_)
    refine lv_aload_n X.1.1 X.1.2.1 dX10_note_54 rfl (lv_at hl 2 rfl) ?_
    refine gt_11_23 X hR (okf X.2.2.1 rfl) kw_1552 dX10_note_55 ?_
    refine lv_iload_n X.1.1 X.1.2.1 dX10_note_58 rfl (lv_at hl 3 rfl) ?_
    refine lv_iload_n X.1.1 X.1.2.1 dX10_note_59 rfl (lv_at hl 4 rfl) ?_
    have c20 := hw.1
    have hw := hw.2
    refine wa_76 X hR hS (okf X.2.2.1 rfl) c20 hp2 dX10_note_60 (fun H locs hR hS => ?_)
    obtain ⟨M21, e22⟩ : ∃ z : Mem, z = up M15 76 0 p1 p2 := ⟨_, rfl⟩
    rw [← e22] at hR
    have hw := hw M21 e22
    refine lv_iload X.1.1 X.1.2.1 dX10_note_61 (lv_at hl 0 rfl) ?_
    exact sa_iret X.1 X.2.2.2.1 X.2.2.2.2 hR hS r19 hw dX10_note_63
  · have hw := hw.2 hc
    refine sa_const X.1 dX10_note_44 ?_
    exact sa_iret X.1 X.2.2.2.1 X.2.2.2.2 hR hS (inR_c (a := 0) rfl) hw dX10_note_45
theorem m_X10_note {l : Launch} {G : Gx} {e0 : Nat} {α : Ax} {κ : Nat → Int} {B : Nat} {p1 : Int} {p2 : Int} (hκ : kOK κ) (hp1 : inR p1) (hp2 : inR p2) {M : Mem} {Qm : Int → Mem → Prop} (hw : wp_X10_note p1 p2 M Qm) : CI l yX10_note (Cond.code yX10_note cX10_note 5 (some .int)) 2 G e0 α κ B [.ref (α 11 0), .int (Int32.ofInt p1), .int (Int32.ofInt p2)] M Qm :=
  CI.mk hκ (by decide +kernel) rfl (Nat.le_of_ble_eq_true rfl) (lv := [(0, .ref (α 11 0)), (1, .int (Int32.ofInt p1)), (2, .int (Int32.ofInt p2))]) rfl (fun p e s m args below meth c ls X hR hS hl => t_X10_note X hp1 hp2 hw _ _ hR hS ls hl)
theorem cs_X10_note {cc : ByteArray} {nL : Nat} {own : String} {ret : Option FieldType} {idx pc : Nat} {p1 : Int} {p2 : Int} (X : CX p m c cc nL s args own G B κ meth ret) (hp1 : inR p1) (hp2 : inR p2) {kc : Nat} {R : Room} {cells slots : Nat} (hRr : RmOK R kc) (hcel : cells ≤ R.cells ∧ slots ≤ R.slots) (hk : 2 + 1 ≤ kc) {M : Mem} {H : Heap} {locs : List Loc} (hR : Rp G e0 α κ B M H) (hS : va_S (fun q => B ≤ q) s.heap H locs) (k1 : Cond.methodLink own idx yX10_note ∈ gw) {ls : Array Slot} (hml : ls.size = nL) {rest : List Value} (hd : decode cc pc = .ok (.invokevirtual idx, 3)) (hrest : (rest.map fun v => v.category).sum ≤ 8) {Q : State → Prop} {Qm : Int → Mem → Prop} (hw : wp_X10_note p1 p2 M Qm) (kk : ∀ (r : Int) (M1 : Mem) (H1 : Heap) (locs1 : List Loc), Qm r M1 → inR r → Rp G e0 α κ B M1 H1 → va_S (fun q => B ≤ q) s.heap H1 locs1 → W p l e R s m args below meth c H1 locs1 cells slots Q (F0 m (pc + 3) ls (.int (Int32.ofInt r) :: rest))) : W p l e R s m args below meth c H locs cells slots Q (F0 m pc ls (.int (Int32.ofInt p2) :: .int (Int32.ofInt p1) :: .ref (α 11 0) :: rest)) :=
  sa_callVI 2 (n := 2) (As := [.int (Int32.ofInt p1), .int (Int32.ofInt p2)]) (rest := rest) X.1 X.2.1 hR hS (m_X10_note X.2.2.1 hp1 hp2 hw) k1 kw_1768 kw_1769 kw_104 kw_1770 ⟨rfl, by decide +kernel, by decide +kernel, by decide +kernel⟩ (rm_ok hRr hk (by decide)) (rc_11 X hR (okf X.2.2.1 rfl)) rfl rfl hrest hml hd hcel kk
def wp_X10_at_21 (p1 : Int) (p2 : Int) (Qm : Int → Mem → Prop) (M : Mem) : Prop := wp_X10_goes 0 1 1 M fun (x5 : Int) (M4 : Mem) => (¬ x5 = 0 → (inR (6 * p1)) ∧ (inR ((6 * p1) + p2)) ∧ (0 ≤ ((6 * p1) + p2) ∧ ((6 * p1) + p2) < 174) ∧ (inR ((M4 69 0 ((6 * p1) + p2)) - 1)) ∧ True) ∧ (inR (if x5 = 0 then (0 : Int) else ((M4 69 0 ((6 * p1) + p2)) - 1))) ∧ Qm (if x5 = 0 then (0 : Int) else ((M4 69 0 ((6 * p1) + p2)) - 1)) M4
def wp_X10_at (p1 : Int) (p2 : Int) (M : Mem) (Qm : Int → Mem → Prop) : Prop := wp_X10_isRow p1 M fun (x2 : Int) (M1 : Mem) => ((x2 = 0 → wp_X10_at_21 p1 p2 Qm M1) ∧ (¬ x2 = 0 → wp_X10_isColumn p2 M1 fun (x16 : Int) (M15 : Mem) => wp_X10_goes (if x16 = 0 then (0 : Int) else 1) 1 1 M15 fun (x22 : Int) (M21 : Mem) => (¬ x22 = 0 → (inR (6 * p1)) ∧ (inR ((6 * p1) + p2)) ∧ (0 ≤ ((6 * p1) + p2) ∧ ((6 * p1) + p2) < 174) ∧ (inR ((M21 69 0 ((6 * p1) + p2)) - 1)) ∧ True) ∧ (inR (if x22 = 0 then (0 : Int) else ((M21 69 0 ((6 * p1) + p2)) - 1))) ∧ Qm (if x22 = 0 then (0 : Int) else ((M21 69 0 ((6 * p1) + p2)) - 1)) M21))
set_option maxHeartbeats 4000000 in
set_option maxRecDepth 100000 in
theorem t_X10_at_21 {p1 : Int} {p2 : Int} (X : CX p m c cX10_at 3 s args RX10 G B κ meth (some .int)) (hp1 : inR p1) (hp2 : inR p2) {Qm : Int → Mem → Prop} : ∀ M : Mem, wp_X10_at_21 p1 p2 Qm M → ∀ (H : Heap) (locs : List Loc), Rp G e0 α κ B M H → va_S (fun q => B ≤ q) s.heap H locs → ∀ (ls : Array Slot), lv_has ls 3 [(0, .ref (α 11 0)), (1, .int (Int32.ofInt p1)), (2, .int (Int32.ofInt p2))] → WI p l e 2 s m args below meth c G e0 α κ B Qm H locs 21 ls [.ref (α 11 0)] := by
  intro M hw H locs hR hS ls hl
  have hw : wp_X10_goes 0 1 1 M fun (x5 : Int) (M4 : Mem) => (¬ x5 = 0 → (inR (6 * p1)) ∧ (inR ((6 * p1) + p2)) ∧ (0 ≤ ((6 * p1) + p2) ∧ ((6 * p1) + p2) < 174) ∧ (inR ((M4 69 0 ((6 * p1) + p2)) - 1)) ∧ True) ∧ (inR (if x5 = 0 then (0 : Int) else ((M4 69 0 ((6 * p1) + p2)) - 1))) ∧ Qm (if x5 = 0 then (0 : Int) else ((M4 69 0 ((6 * p1) + p2)) - 1)) M4 := hw
  refine sa_const X.1 dX10_at_21 ?_
  refine sa_const X.1 dX10_at_22 ?_
  refine sa_const X.1 dX10_at_23 ?_
  refine cs_X10_goes X (inR_c (a := 0) rfl) (inR_c (a := 1) rfl) (inR_c (a := 1) rfl) (kc := 2) rmL_ok rm_c (by decide) hR hS kw_1721 hl.1 dX10_at_24 (Nat.le_of_ble_eq_true rfl) hw (fun x5 M4 H locs hw r6 hR hS => ?_)
  have s11 := hw.1
  have hw := hw.2
  have c12 := hw.1
  have hw := hw.2
  refine cut_j (A := ∀ v13 : Int, v13 = (if x5 = 0 then (0 : Int) else ((M4 69 0 ((6 * p1) + p2)) - 1)) → WI p l e 2 s m args below meth c G e0 α κ B Qm H locs 47 ls [.int (Int32.ofInt v13)]) (fun J14 => ?_) ?_
  · refine sa_if_eq (tgt := 46) X.1 r6 dX10_at_27 (by decide) (fun hc => ?_) (fun hc => ?_)
    · skip
      refine sa_const X.1 dX10_at_46 ?_
      exact J14 (0) (if_pos (c := x5 = 0) hc).symm
    · have hw := s11 hc
      refine lv_aload_n X.1.1 X.1.2.1 dX10_at_30 rfl (lv_at hl 0 rfl) ?_
      refine gt_11_16 X hR (okf X.2.2.1 rfl) kw_1545 dX10_at_31 ?_
      refine sa_bipush X.1 dX10_at_34 (by decide) ?_
      refine lv_iload_n X.1.1 X.1.2.1 dX10_at_36 rfl (lv_at hl 1 rfl) ?_
      have c7 := hw.1
      have hw := hw.2
      refine sa_imul X.1 dX10_at_37 ?_
      refine lv_iload_n X.1.1 X.1.2.1 dX10_at_38 rfl (lv_at hl 2 rfl) ?_
      have c8 := hw.1
      have hw := hw.2
      refine sa_iadd X.1 dX10_at_39 ?_
      have c9 := hw.1
      have hw := hw.2
      refine ra_69 X hR (okf X.2.2.1 rfl) c9 dX10_at_40 ?_
      refine sa_const X.1 dX10_at_41 ?_
      have c10 := hw.1
      have hw := hw.2
      refine sa_isub X.1 dX10_at_42 ?_
      refine lv_goto (tgt := 47) X.1.1 X.1.2.1 dX10_at_43 (by decide) ?_
      exact J14 (((M4 69 0 ((6 * p1) + p2)) - 1)) (if_neg (c := x5 = 0) hc).symm
  intro v13 hv13
  subst hv13
  exact sa_iret X.1 X.2.2.2.1 X.2.2.2.2 hR hS c12 hw dX10_at_47
set_option maxHeartbeats 4000000 in
set_option maxRecDepth 100000 in
theorem t_X10_at {p1 : Int} {p2 : Int} (X : CX p m c cX10_at 3 s args RX10 G B κ meth (some .int)) (hp1 : inR p1) (hp2 : inR p2) {M : Mem} {Qm : Int → Mem → Prop} (hw : wp_X10_at p1 p2 M Qm) (H : Heap) (locs : List Loc) (hR : Rp G e0 α κ B M H) (hS : va_S (fun q => B ≤ q) s.heap H locs) (ls : Array Slot) (hl : lv_has ls 3 [(0, .ref (α 11 0)), (1, .int (Int32.ofInt p1)), (2, .int (Int32.ofInt p2))]) : WI p l e 2 s m args below meth c G e0 α κ B Qm H locs 0 ls [] := by
  have hw : wp_X10_isRow p1 M fun (x2 : Int) (M1 : Mem) => ((x2 = 0 → wp_X10_at_21 p1 p2 Qm M1) ∧ (¬ x2 = 0 → wp_X10_isColumn p2 M1 fun (x16 : Int) (M15 : Mem) => wp_X10_goes (if x16 = 0 then (0 : Int) else 1) 1 1 M15 fun (x22 : Int) (M21 : Mem) => (¬ x22 = 0 → (inR (6 * p1)) ∧ (inR ((6 * p1) + p2)) ∧ (0 ≤ ((6 * p1) + p2) ∧ ((6 * p1) + p2) < 174) ∧ (inR ((M21 69 0 ((6 * p1) + p2)) - 1)) ∧ True) ∧ (inR (if x22 = 0 then (0 : Int) else ((M21 69 0 ((6 * p1) + p2)) - 1))) ∧ Qm (if x22 = 0 then (0 : Int) else ((M21 69 0 ((6 * p1) + p2)) - 1)) M21)) := hw
  refine lv_aload_n X.1.1 X.1.2.1 dX10_at_0 rfl (lv_at hl 0 rfl) ?_
  refine lv_aload_n X.1.1 X.1.2.1 dX10_at_1 rfl (lv_at hl 0 rfl) ?_
  refine lv_iload_n X.1.1 X.1.2.1 dX10_at_2 rfl (lv_at hl 1 rfl) ?_
  refine cs_X10_isRow X hp1 (kc := 2) rmL_ok rm_c (by decide) hR hS kw_1733 hl.1 dX10_at_3 (Nat.le_of_ble_eq_true rfl) hw (fun x2 M1 H locs hw r3 hR hS => ?_)
  refine sa_if_eq (tgt := 21) X.1 r3 dX10_at_6 (by decide) (fun hc => ?_) (fun hc => ?_)
  · have hw := hw.1 hc
    exact t_X10_at_21 X hp1 hp2 _ hw _ _ hR hS _ (lv_sub hl [0, 1, 2] rfl)
  · have hw := hw.2 hc
    refine lv_aload_n X.1.1 X.1.2.1 dX10_at_9 rfl (lv_at hl 0 rfl) ?_
    refine lv_iload_n X.1.1 X.1.2.1 dX10_at_10 rfl (lv_at hl 2 rfl) ?_
    refine cs_X10_isColumn X hp2 (kc := 2) rmL_ok rm_c (by decide) hR hS kw_1737 hl.1 dX10_at_11 (Nat.le_of_ble_eq_true rfl) hw (fun x16 M15 H locs hw r17 hR hS => ?_)
    have r18 := inR_ite (c := x16 = 0) (inR_c (a := 0) rfl) (inR_c (a := 1) rfl)
    refine cut_j (A := ∀ v19 : Int, v19 = (if x16 = 0 then (0 : Int) else 1) → WI p l e 2 s m args below meth c G e0 α κ B Qm H locs 22 ls [.int (Int32.ofInt v19), .ref (α 11 0)]) (fun J20 => ?_) ?_
    · refine sa_if_eq (tgt := 21) X.1 r17 dX10_at_14 (by decide) (fun hc => ?_) (fun hc => ?_)
      · skip
        refine sa_const X.1 dX10_at_21 ?_
        exact J20 (0) (if_pos (c := x16 = 0) hc).symm
      · skip
        refine sa_const X.1 dX10_at_17 ?_
        refine lv_goto (tgt := 22) X.1.1 X.1.2.1 dX10_at_18 (by decide) ?_
        exact J20 (1) (if_neg (c := x16 = 0) hc).symm
    intro v19 hv19
    subst hv19
    refine sa_const X.1 dX10_at_22 ?_
    refine sa_const X.1 dX10_at_23 ?_
    refine cs_X10_goes X r18 (inR_c (a := 1) rfl) (inR_c (a := 1) rfl) (kc := 2) rmL_ok rm_c (by decide) hR hS kw_1721 hl.1 dX10_at_24 (Nat.le_of_ble_eq_true rfl) hw (fun x22 M21 H locs hw r23 hR hS => ?_)
    have s28 := hw.1
    have hw := hw.2
    have c29 := hw.1
    have hw := hw.2
    refine cut_j (A := ∀ v30 : Int, v30 = (if x22 = 0 then (0 : Int) else ((M21 69 0 ((6 * p1) + p2)) - 1)) → WI p l e 2 s m args below meth c G e0 α κ B Qm H locs 47 ls [.int (Int32.ofInt v30)]) (fun J31 => ?_) ?_
    · refine sa_if_eq (tgt := 46) X.1 r23 dX10_at_27 (by decide) (fun hc => ?_) (fun hc => ?_)
      · skip
        refine sa_const X.1 dX10_at_46 ?_
        exact J31 (0) (if_pos (c := x22 = 0) hc).symm
      · have hw := s28 hc
        refine lv_aload_n X.1.1 X.1.2.1 dX10_at_30 rfl (lv_at hl 0 rfl) ?_
        refine gt_11_16 X hR (okf X.2.2.1 rfl) kw_1545 dX10_at_31 ?_
        refine sa_bipush X.1 dX10_at_34 (by decide) ?_
        refine lv_iload_n X.1.1 X.1.2.1 dX10_at_36 rfl (lv_at hl 1 rfl) ?_
        have c24 := hw.1
        have hw := hw.2
        refine sa_imul X.1 dX10_at_37 ?_
        refine lv_iload_n X.1.1 X.1.2.1 dX10_at_38 rfl (lv_at hl 2 rfl) ?_
        have c25 := hw.1
        have hw := hw.2
        refine sa_iadd X.1 dX10_at_39 ?_
        have c26 := hw.1
        have hw := hw.2
        refine ra_69 X hR (okf X.2.2.1 rfl) c26 dX10_at_40 ?_
        refine sa_const X.1 dX10_at_41 ?_
        have c27 := hw.1
        have hw := hw.2
        refine sa_isub X.1 dX10_at_42 ?_
        refine lv_goto (tgt := 47) X.1.1 X.1.2.1 dX10_at_43 (by decide) ?_
        exact J31 (((M21 69 0 ((6 * p1) + p2)) - 1)) (if_neg (c := x22 = 0) hc).symm
    intro v30 hv30
    subst hv30
    exact sa_iret X.1 X.2.2.2.1 X.2.2.2.2 hR hS c29 hw dX10_at_47
theorem m_X10_at {l : Launch} {G : Gx} {e0 : Nat} {α : Ax} {κ : Nat → Int} {B : Nat} {p1 : Int} {p2 : Int} (hκ : kOK κ) (hp1 : inR p1) (hp2 : inR p2) {M : Mem} {Qm : Int → Mem → Prop} (hw : wp_X10_at p1 p2 M Qm) : CI l yX10_at (Cond.code yX10_at cX10_at 3 (some .int)) 2 G e0 α κ B [.ref (α 11 0), .int (Int32.ofInt p1), .int (Int32.ofInt p2)] M Qm :=
  CI.mk hκ (by decide +kernel) rfl (Nat.le_of_ble_eq_true rfl) (lv := [(0, .ref (α 11 0)), (1, .int (Int32.ofInt p1)), (2, .int (Int32.ofInt p2))]) rfl (fun p e s m args below meth c ls X hR hS hl => t_X10_at X hp1 hp2 hw _ _ hR hS ls hl)
theorem cs_X10_at {cc : ByteArray} {nL : Nat} {own : String} {ret : Option FieldType} {idx pc : Nat} {p1 : Int} {p2 : Int} (X : CX p m c cc nL s args own G B κ meth ret) (hp1 : inR p1) (hp2 : inR p2) {kc : Nat} {R : Room} {cells slots : Nat} (hRr : RmOK R kc) (hcel : cells ≤ R.cells ∧ slots ≤ R.slots) (hk : 2 + 1 ≤ kc) {M : Mem} {H : Heap} {locs : List Loc} (hR : Rp G e0 α κ B M H) (hS : va_S (fun q => B ≤ q) s.heap H locs) (k1 : Cond.methodLink own idx yX10_at ∈ gw) {ls : Array Slot} (hml : ls.size = nL) {rest : List Value} (hd : decode cc pc = .ok (.invokevirtual idx, 3)) (hrest : (rest.map fun v => v.category).sum ≤ 8) {Q : State → Prop} {Qm : Int → Mem → Prop} (hw : wp_X10_at p1 p2 M Qm) (kk : ∀ (r : Int) (M1 : Mem) (H1 : Heap) (locs1 : List Loc), Qm r M1 → inR r → Rp G e0 α κ B M1 H1 → va_S (fun q => B ≤ q) s.heap H1 locs1 → W p l e R s m args below meth c H1 locs1 cells slots Q (F0 m (pc + 3) ls (.int (Int32.ofInt r) :: rest))) : W p l e R s m args below meth c H locs cells slots Q (F0 m pc ls (.int (Int32.ofInt p2) :: .int (Int32.ofInt p1) :: .ref (α 11 0) :: rest)) :=
  sa_callVI 2 (n := 2) (As := [.int (Int32.ofInt p1), .int (Int32.ofInt p2)]) (rest := rest) X.1 X.2.1 hR hS (m_X10_at X.2.2.1 hp1 hp2 hw) k1 kw_1772 kw_1773 kw_104 kw_1774 ⟨rfl, by decide +kernel, by decide +kernel, by decide +kernel⟩ (rm_ok hRr hk (by decide)) (rc_11 X hR (okf X.2.2.1 rfl)) rfl rfl hrest hml hd hcel kk
def wp_X10_setPaper_45 (p1 : Int) (p2 : Int) (Qm : Mem → Prop) (M : Mem) : Prop := Qm M
def wp_X10_setPaper_26 (p1 : Int) (p2 : Int) (Qm : Mem → Prop) (M : Mem) : Prop := wp_X10_goes 0 1 1 M fun (x5 : Int) (M4 : Mem) => ((x5 = 0 → wp_X10_setPaper_45 p1 p2 Qm M4) ∧ (¬ x5 = 0 → ∀ M7 : Mem, M7 = up M4 11 0 24 p1 → ∀ M9 : Mem, M9 = up M7 11 0 25 p2 → wp_X10_setPaper_45 p1 p2 Qm M9))
def wp_X10_setPaper (p1 : Int) (p2 : Int) (M : Mem) (Qm : Mem → Prop) : Prop := wp_X10_in p1 1 150 M fun (x2 : Int) (M1 : Mem) => ((x2 = 0 → wp_X10_setPaper_26 p1 p2 Qm M1) ∧ (¬ x2 = 0 → wp_X10_in p2 1 100 M1 fun (x12 : Int) (M11 : Mem) => wp_X10_goes (if x12 = 0 then (0 : Int) else 1) 1 1 M11 fun (x18 : Int) (M17 : Mem) => ((x18 = 0 → wp_X10_setPaper_45 p1 p2 Qm M17) ∧ (¬ x18 = 0 → ∀ M20 : Mem, M20 = up M17 11 0 24 p1 → ∀ M22 : Mem, M22 = up M20 11 0 25 p2 → wp_X10_setPaper_45 p1 p2 Qm M22))))
set_option maxHeartbeats 4000000 in
set_option maxRecDepth 100000 in
theorem t_X10_setPaper_45 {p1 : Int} {p2 : Int} (X : CX p m c cX10_setPaper 3 s args RX10 G B κ meth none) (hp1 : inR p1) (hp2 : inR p2) {Qm : Mem → Prop} : ∀ M : Mem, wp_X10_setPaper_45 p1 p2 Qm M → ∀ (H : Heap) (locs : List Loc), Rp G e0 α κ B M H → va_S (fun q => B ≤ q) s.heap H locs → ∀ (ls : Array Slot), lv_has ls 3 [] → WV p l e 1 s m args below meth c G e0 α κ B Qm H locs 45 ls [] := by
  intro M hw H locs hR hS ls hl
  have hw : Qm M := hw
  exact sa_vret X.1 X.2.2.2.1 X.2.2.2.2 hR hS hw dX10_setPaper_45
set_option maxHeartbeats 4000000 in
set_option maxRecDepth 100000 in
theorem t_X10_setPaper_26 {p1 : Int} {p2 : Int} (X : CX p m c cX10_setPaper 3 s args RX10 G B κ meth none) (hp1 : inR p1) (hp2 : inR p2) {Qm : Mem → Prop} : ∀ M : Mem, wp_X10_setPaper_26 p1 p2 Qm M → ∀ (H : Heap) (locs : List Loc), Rp G e0 α κ B M H → va_S (fun q => B ≤ q) s.heap H locs → ∀ (ls : Array Slot), lv_has ls 3 [(0, .ref (α 11 0)), (1, .int (Int32.ofInt p1)), (2, .int (Int32.ofInt p2))] → WV p l e 1 s m args below meth c G e0 α κ B Qm H locs 26 ls [.ref (α 11 0)] := by
  intro M hw H locs hR hS ls hl
  have hw : wp_X10_goes 0 1 1 M fun (x5 : Int) (M4 : Mem) => ((x5 = 0 → wp_X10_setPaper_45 p1 p2 Qm M4) ∧ (¬ x5 = 0 → ∀ M7 : Mem, M7 = up M4 11 0 24 p1 → ∀ M9 : Mem, M9 = up M7 11 0 25 p2 → wp_X10_setPaper_45 p1 p2 Qm M9)) := hw
  refine sa_const X.1 dX10_setPaper_26 ?_
  refine sa_const X.1 dX10_setPaper_27 ?_
  refine sa_const X.1 dX10_setPaper_28 ?_
  refine cs_X10_goes X (inR_c (a := 0) rfl) (inR_c (a := 1) rfl) (inR_c (a := 1) rfl) (kc := 1) rmL_ok rm_c (by decide) hR hS kw_1721 hl.1 dX10_setPaper_29 (Nat.le_of_ble_eq_true rfl) hw (fun x5 M4 H locs hw r6 hR hS => ?_)
  refine sa_if_eq (tgt := 45) X.1 r6 dX10_setPaper_32 (by decide) (fun hc => ?_) (fun hc => ?_)
  · have hw := hw.1 hc
    exact t_X10_setPaper_45 X hp1 hp2 _ hw _ _ hR hS _ (lv_sub hl [] rfl)
  · have hw := hw.2 hc
    refine lv_aload_n X.1.1 X.1.2.1 dX10_setPaper_35 rfl (lv_at hl 0 rfl) ?_
    refine lv_iload_n X.1.1 X.1.2.1 dX10_setPaper_36 rfl (lv_at hl 1 rfl) ?_
    refine pt_11_24 X hR hS (okf X.2.2.1 rfl) hp1 kw_1553 dX10_setPaper_37 (fun H locs hR hS => ?_)
    obtain ⟨M7, e8⟩ : ∃ z : Mem, z = up M4 11 0 24 p1 := ⟨_, rfl⟩
    rw [← e8] at hR
    have hw := hw M7 e8
    refine lv_aload_n X.1.1 X.1.2.1 dX10_setPaper_40 rfl (lv_at hl 0 rfl) ?_
    refine lv_iload_n X.1.1 X.1.2.1 dX10_setPaper_41 rfl (lv_at hl 2 rfl) ?_
    refine pt_11_25 X hR hS (okf X.2.2.1 rfl) hp2 kw_1554 dX10_setPaper_42 (fun H locs hR hS => ?_)
    obtain ⟨M9, e10⟩ : ∃ z : Mem, z = up M7 11 0 25 p2 := ⟨_, rfl⟩
    rw [← e10] at hR
    have hw := hw M9 e10
    exact t_X10_setPaper_45 X hp1 hp2 _ hw _ _ hR hS _ (lv_sub hl [] rfl)
set_option maxHeartbeats 4000000 in
set_option maxRecDepth 100000 in
theorem t_X10_setPaper {p1 : Int} {p2 : Int} (X : CX p m c cX10_setPaper 3 s args RX10 G B κ meth none) (hp1 : inR p1) (hp2 : inR p2) {M : Mem} {Qm : Mem → Prop} (hw : wp_X10_setPaper p1 p2 M Qm) (H : Heap) (locs : List Loc) (hR : Rp G e0 α κ B M H) (hS : va_S (fun q => B ≤ q) s.heap H locs) (ls : Array Slot) (hl : lv_has ls 3 [(0, .ref (α 11 0)), (1, .int (Int32.ofInt p1)), (2, .int (Int32.ofInt p2))]) : WV p l e 1 s m args below meth c G e0 α κ B Qm H locs 0 ls [] := by
  have hw : wp_X10_in p1 1 150 M fun (x2 : Int) (M1 : Mem) => ((x2 = 0 → wp_X10_setPaper_26 p1 p2 Qm M1) ∧ (¬ x2 = 0 → wp_X10_in p2 1 100 M1 fun (x12 : Int) (M11 : Mem) => wp_X10_goes (if x12 = 0 then (0 : Int) else 1) 1 1 M11 fun (x18 : Int) (M17 : Mem) => ((x18 = 0 → wp_X10_setPaper_45 p1 p2 Qm M17) ∧ (¬ x18 = 0 → ∀ M20 : Mem, M20 = up M17 11 0 24 p1 → ∀ M22 : Mem, M22 = up M20 11 0 25 p2 → wp_X10_setPaper_45 p1 p2 Qm M22)))) := hw
  refine lv_aload_n X.1.1 X.1.2.1 dX10_setPaper_0 rfl (lv_at hl 0 rfl) ?_
  refine lv_iload_n X.1.1 X.1.2.1 dX10_setPaper_1 rfl (lv_at hl 1 rfl) ?_
  refine sa_const X.1 dX10_setPaper_2 ?_
  refine sa_sipush X.1 dX10_setPaper_3 (by decide) ?_
  refine cs_X10_in X hp1 (inR_c (a := 1) rfl) (inR_c (a := 150) rfl) (kc := 1) rmL_ok rm_c (by decide) hR hS kw_1718 hl.1 dX10_setPaper_6 (Nat.le_of_ble_eq_true rfl) hw (fun x2 M1 H locs hw r3 hR hS => ?_)
  refine sa_if_eq (tgt := 26) X.1 r3 dX10_setPaper_9 (by decide) (fun hc => ?_) (fun hc => ?_)
  · have hw := hw.1 hc
    exact t_X10_setPaper_26 X hp1 hp2 _ hw _ _ hR hS _ (lv_sub hl [0, 1, 2] rfl)
  · have hw := hw.2 hc
    refine lv_iload_n X.1.1 X.1.2.1 dX10_setPaper_12 rfl (lv_at hl 2 rfl) ?_
    refine sa_const X.1 dX10_setPaper_13 ?_
    refine sa_bipush X.1 dX10_setPaper_14 (by decide) ?_
    refine cs_X10_in X hp2 (inR_c (a := 1) rfl) (inR_c (a := 100) rfl) (kc := 1) rmL_ok rm_c (by decide) hR hS kw_1718 hl.1 dX10_setPaper_16 (Nat.le_of_ble_eq_true rfl) hw (fun x12 M11 H locs hw r13 hR hS => ?_)
    have r14 := inR_ite (c := x12 = 0) (inR_c (a := 0) rfl) (inR_c (a := 1) rfl)
    refine cut_j (A := ∀ v15 : Int, v15 = (if x12 = 0 then (0 : Int) else 1) → WV p l e 1 s m args below meth c G e0 α κ B Qm H locs 27 ls [.int (Int32.ofInt v15), .ref (α 11 0)]) (fun J16 => ?_) ?_
    · refine sa_if_eq (tgt := 26) X.1 r13 dX10_setPaper_19 (by decide) (fun hc => ?_) (fun hc => ?_)
      · skip
        refine sa_const X.1 dX10_setPaper_26 ?_
        exact J16 (0) (if_pos (c := x12 = 0) hc).symm
      · skip
        refine sa_const X.1 dX10_setPaper_22 ?_
        refine lv_goto (tgt := 27) X.1.1 X.1.2.1 dX10_setPaper_23 (by decide) ?_
        exact J16 (1) (if_neg (c := x12 = 0) hc).symm
    intro v15 hv15
    subst hv15
    refine sa_const X.1 dX10_setPaper_27 ?_
    refine sa_const X.1 dX10_setPaper_28 ?_
    refine cs_X10_goes X r14 (inR_c (a := 1) rfl) (inR_c (a := 1) rfl) (kc := 1) rmL_ok rm_c (by decide) hR hS kw_1721 hl.1 dX10_setPaper_29 (Nat.le_of_ble_eq_true rfl) hw (fun x18 M17 H locs hw r19 hR hS => ?_)
    refine sa_if_eq (tgt := 45) X.1 r19 dX10_setPaper_32 (by decide) (fun hc => ?_) (fun hc => ?_)
    · have hw := hw.1 hc
      exact t_X10_setPaper_45 X hp1 hp2 _ hw _ _ hR hS _ (lv_sub hl [] rfl)
    · have hw := hw.2 hc
      refine lv_aload_n X.1.1 X.1.2.1 dX10_setPaper_35 rfl (lv_at hl 0 rfl) ?_
      refine lv_iload_n X.1.1 X.1.2.1 dX10_setPaper_36 rfl (lv_at hl 1 rfl) ?_
      refine pt_11_24 X hR hS (okf X.2.2.1 rfl) hp1 kw_1553 dX10_setPaper_37 (fun H locs hR hS => ?_)
      obtain ⟨M20, e21⟩ : ∃ z : Mem, z = up M17 11 0 24 p1 := ⟨_, rfl⟩
      rw [← e21] at hR
      have hw := hw M20 e21
      refine lv_aload_n X.1.1 X.1.2.1 dX10_setPaper_40 rfl (lv_at hl 0 rfl) ?_
      refine lv_iload_n X.1.1 X.1.2.1 dX10_setPaper_41 rfl (lv_at hl 2 rfl) ?_
      refine pt_11_25 X hR hS (okf X.2.2.1 rfl) hp2 kw_1554 dX10_setPaper_42 (fun H locs hR hS => ?_)
      obtain ⟨M22, e23⟩ : ∃ z : Mem, z = up M20 11 0 25 p2 := ⟨_, rfl⟩
      rw [← e23] at hR
      have hw := hw M22 e23
      exact t_X10_setPaper_45 X hp1 hp2 _ hw _ _ hR hS _ (lv_sub hl [] rfl)
theorem m_X10_setPaper {l : Launch} {G : Gx} {e0 : Nat} {α : Ax} {κ : Nat → Int} {B : Nat} {p1 : Int} {p2 : Int} (hκ : kOK κ) (hp1 : inR p1) (hp2 : inR p2) {M : Mem} {Qm : Mem → Prop} (hw : wp_X10_setPaper p1 p2 M Qm) : CV l yX10_setPaper (Cond.code yX10_setPaper cX10_setPaper 3 none) 1 G e0 α κ B [.ref (α 11 0), .int (Int32.ofInt p1), .int (Int32.ofInt p2)] M Qm :=
  CV.mk hκ (by decide +kernel) rfl (Nat.le_of_ble_eq_true rfl) (lv := [(0, .ref (α 11 0)), (1, .int (Int32.ofInt p1)), (2, .int (Int32.ofInt p2))]) rfl (fun p e s m args below meth c ls X hR hS hl => t_X10_setPaper X hp1 hp2 hw _ _ hR hS ls hl)
theorem cs_X10_setPaper {cc : ByteArray} {nL : Nat} {own : String} {ret : Option FieldType} {idx pc : Nat} {p1 : Int} {p2 : Int} (X : CX p m c cc nL s args own G B κ meth ret) (hp1 : inR p1) (hp2 : inR p2) {kc : Nat} {R : Room} {cells slots : Nat} (hRr : RmOK R kc) (hcel : cells ≤ R.cells ∧ slots ≤ R.slots) (hk : 1 + 1 ≤ kc) {M : Mem} {H : Heap} {locs : List Loc} (hR : Rp G e0 α κ B M H) (hS : va_S (fun q => B ≤ q) s.heap H locs) (k1 : Cond.methodLink own idx yX10_setPaper ∈ gw) {ls : Array Slot} (hml : ls.size = nL) {rest : List Value} (hd : decode cc pc = .ok (.invokevirtual idx, 3)) (hrest : (rest.map fun v => v.category).sum ≤ 8) {Q : State → Prop} {Qm : Mem → Prop} (hw : wp_X10_setPaper p1 p2 M Qm) (kk : ∀ (M1 : Mem) (H1 : Heap) (locs1 : List Loc), Qm M1 → Rp G e0 α κ B M1 H1 → va_S (fun q => B ≤ q) s.heap H1 locs1 → W p l e R s m args below meth c H1 locs1 cells slots Q (F0 m (pc + 3) ls (rest))) : W p l e R s m args below meth c H locs cells slots Q (F0 m pc ls (.int (Int32.ofInt p2) :: .int (Int32.ofInt p1) :: .ref (α 11 0) :: rest)) :=
  sa_callVV 1 (n := 2) (As := [.int (Int32.ofInt p1), .int (Int32.ofInt p2)]) (rest := rest) X.1 X.2.1 hR hS (m_X10_setPaper X.2.2.1 hp1 hp2 hw) k1 kw_1776 kw_1777 kw_104 kw_1778 ⟨rfl, by decide +kernel, by decide +kernel, by decide +kernel⟩ (rm_ok hRr hk (by decide)) (rc_11 X hR (okf X.2.2.1 rfl)) rfl rfl hrest hml hd hcel kk
def wp_X10_notesAtEnd (M : Mem) (Qm : Int → Mem → Prop) : Prop := ∀ M1 : Mem, M1 = up M 11 0 59 0 → (bit (if ¬ (M1 11 0 26) = 0 then (0 : Int) else 1)) ∧ ∀ M8 : Mem, M8 = up M1 11 0 26 (if ¬ (M1 11 0 26) = 0 then (0 : Int) else 1) → (bit (M8 11 0 26)) ∧ Qm (M8 11 0 26) M8
set_option maxHeartbeats 4000000 in
set_option maxRecDepth 100000 in
theorem t_X10_notesAtEnd (X : CX p m c cX10_notesAtEnd 1 s args RX10 G B κ meth (some .boolean)) {M : Mem} {Qm : Int → Mem → Prop} (hw : wp_X10_notesAtEnd M Qm) (H : Heap) (locs : List Loc) (hR : Rp G e0 α κ B M H) (hS : va_S (fun q => B ≤ q) s.heap H locs) (ls : Array Slot) (hl : lv_has ls 1 [(0, .ref (α 11 0))]) : WI p l e 0 s m args below meth c G e0 α κ B Qm H locs 0 ls [] := by
  have hw : ∀ M1 : Mem, M1 = up M 11 0 59 0 → (bit (if ¬ (M1 11 0 26) = 0 then (0 : Int) else 1)) ∧ ∀ M8 : Mem, M8 = up M1 11 0 26 (if ¬ (M1 11 0 26) = 0 then (0 : Int) else 1) → (bit (M8 11 0 26)) ∧ Qm (M8 11 0 26) M8 := hw
  refine lv_aload_n X.1.1 X.1.2.1 dX10_notesAtEnd_0 rfl (lv_at hl 0 rfl) ?_
  refine sa_const X.1 dX10_notesAtEnd_1 ?_
  refine pt_11_59 X hR hS (okf X.2.2.1 rfl) (inR_c (a := 0) rfl) kw_1588 dX10_notesAtEnd_2 (fun H locs hR hS => ?_)
  obtain ⟨M1, e2⟩ : ∃ z : Mem, z = up M 11 0 59 0 := ⟨_, rfl⟩
  rw [← e2] at hR
  have hw := hw M1 e2
  refine lv_aload_n X.1.1 X.1.2.1 dX10_notesAtEnd_5 rfl (lv_at hl 0 rfl) ?_
  refine lv_aload_n X.1.1 X.1.2.1 dX10_notesAtEnd_6 rfl (lv_at hl 0 rfl) ?_
  refine gt_11_26 X hR (okf X.2.2.1 rfl) kw_1555 dX10_notesAtEnd_7 ?_
  have r3 := hR.r 11 0 26
  have r4 := inR_ite (c := ¬ (M1 11 0 26) = 0) (inR_c (a := 0) rfl) (inR_c (a := 1) rfl)
  refine cut_j (A := ∀ v5 : Int, v5 = (if ¬ (M1 11 0 26) = 0 then (0 : Int) else 1) → WI p l e 0 s m args below meth c G e0 α κ B Qm H locs 18 ls [.int (Int32.ofInt v5), .ref (α 11 0)]) (fun J6 => ?_) ?_
  · refine sa_if_ne (tgt := 17) X.1 r3 dX10_notesAtEnd_10 (by decide) (fun hc => ?_) (fun hc => ?_)
    · skip
      refine sa_const X.1 dX10_notesAtEnd_17 ?_
      exact J6 (0) (if_pos (c := ¬ (M1 11 0 26) = 0) hc).symm
    · skip
      refine sa_const X.1 dX10_notesAtEnd_13 ?_
      refine lv_goto (tgt := 18) X.1.1 X.1.2.1 dX10_notesAtEnd_14 (by decide) ?_
      exact J6 (1) (if_neg (c := ¬ (M1 11 0 26) = 0) (fun z => z hc)).symm
  intro v5 hv5
  subst hv5
  have c7 := hw.1
  have hw := hw.2
  refine pt_11_26 X hR hS (okf X.2.2.1 rfl) c7 kw_1555 dX10_notesAtEnd_18 (fun H locs hR hS => ?_)
  obtain ⟨M8, e9⟩ : ∃ z : Mem, z = up M1 11 0 26 (if ¬ (M1 11 0 26) = 0 then (0 : Int) else 1) := ⟨_, rfl⟩
  rw [← e9] at hR
  have hw := hw M8 e9
  refine lv_aload_n X.1.1 X.1.2.1 dX10_notesAtEnd_21 rfl (lv_at hl 0 rfl) ?_
  refine gt_11_26 X hR (okf X.2.2.1 rfl) kw_1555 dX10_notesAtEnd_22 ?_
  have r10 := hR.r 11 0 26
  have c11 := hw.1
  have hw := hw.2
  exact sa_zret X.1 X.2.2.2.1 X.2.2.2.2 hR hS c11 hw dX10_notesAtEnd_25
theorem m_X10_notesAtEnd {l : Launch} {G : Gx} {e0 : Nat} {α : Ax} {κ : Nat → Int} {B : Nat} (hκ : kOK κ) {M : Mem} {Qm : Int → Mem → Prop} (hw : wp_X10_notesAtEnd M Qm) : CI l yX10_notesAtEnd (Cond.code yX10_notesAtEnd cX10_notesAtEnd 1 (some .boolean)) 0 G e0 α κ B [.ref (α 11 0)] M Qm :=
  CI.mk hκ (by decide +kernel) rfl (Nat.le_of_ble_eq_true rfl) (lv := [(0, .ref (α 11 0))]) rfl (fun p e s m args below meth c ls X hR hS hl => t_X10_notesAtEnd X hw _ _ hR hS ls hl)
theorem cs_X10_notesAtEnd {cc : ByteArray} {nL : Nat} {own : String} {ret : Option FieldType} {idx pc : Nat} (X : CX p m c cc nL s args own G B κ meth ret) {kc : Nat} {R : Room} {cells slots : Nat} (hRr : RmOK R kc) (hcel : cells ≤ R.cells ∧ slots ≤ R.slots) (hk : 0 + 1 ≤ kc) {M : Mem} {H : Heap} {locs : List Loc} (hR : Rp G e0 α κ B M H) (hS : va_S (fun q => B ≤ q) s.heap H locs) (k1 : Cond.methodLink own idx yX10_notesAtEnd ∈ gw) {ls : Array Slot} (hml : ls.size = nL) {rest : List Value} (hd : decode cc pc = .ok (.invokevirtual idx, 3)) (hrest : (rest.map fun v => v.category).sum ≤ 8) {Q : State → Prop} {Qm : Int → Mem → Prop} (hw : wp_X10_notesAtEnd M Qm) (kk : ∀ (r : Int) (M1 : Mem) (H1 : Heap) (locs1 : List Loc), Qm r M1 → inR r → Rp G e0 α κ B M1 H1 → va_S (fun q => B ≤ q) s.heap H1 locs1 → W p l e R s m args below meth c H1 locs1 cells slots Q (F0 m (pc + 3) ls (.int (Int32.ofInt r) :: rest))) : W p l e R s m args below meth c H locs cells slots Q (F0 m pc ls (.ref (α 11 0) :: rest)) :=
  sa_callVI 0 (n := 0) (As := []) (rest := rest) X.1 X.2.1 hR hS (m_X10_notesAtEnd X.2.2.1 hw) k1 kw_1780 kw_1781 kw_104 kw_1782 ⟨rfl, by decide +kernel, by decide +kernel, by decide +kernel⟩ (rm_ok hRr hk (by decide)) (rc_11 X hR (okf X.2.2.1 rfl)) rfl rfl hrest hml hd hcel kk
end
