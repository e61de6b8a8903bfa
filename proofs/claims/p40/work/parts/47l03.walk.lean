theorem dL_lines_0 : decode cL_lines 0 = .ok (.aload_n 0, 1) := by decide +kernel
theorem dL_lines_1 : decode cL_lines 1 = .ok (.aload_n 1, 1) := by decide +kernel
theorem dL_lines_2 : decode cL_lines 2 = .ok (.iload 4, 2) := by decide +kernel
theorem dL_lines_4 : decode cL_lines 4 = .ok (.invokestatic 33, 3) := by decide +kernel
theorem dL_lines_7 : decode cL_lines 7 = .ok (.ifCond .eq 15, 3) := by decide +kernel
theorem dL_lines_10 : decode cL_lines 10 = .ok (.aload_n 1, 1) := by decide +kernel
theorem dL_lines_11 : decode cL_lines 11 = .ok (.bipush 6, 2) := by decide +kernel
theorem dL_lines_13 : decode cL_lines 13 = .ok (.iload 4, 2) := by decide +kernel
theorem dL_lines_15 : decode cL_lines 15 = .ok (.imul, 1) := by decide +kernel
theorem dL_lines_16 : decode cL_lines 16 = .ok (.iconst 5, 1) := by decide +kernel
theorem dL_lines_17 : decode cL_lines 17 = .ok (.iadd, 1) := by decide +kernel
theorem dL_lines_18 : decode cL_lines 18 = .ok (.iaload, 1) := by decide +kernel
theorem dL_lines_19 : decode cL_lines 19 = .ok (.ifCond .lt 19, 3) := by decide +kernel
theorem dL_lines_22 : decode cL_lines 22 = .ok (.aload_n 0, 1) := by decide +kernel
theorem dL_lines_23 : decode cL_lines 23 = .ok (.aload_n 1, 1) := by decide +kernel
theorem dL_lines_24 : decode cL_lines 24 = .ok (.iload 4, 2) := by decide +kernel
theorem dL_lines_26 : decode cL_lines 26 = .ok (.invokestatic 33, 3) := by decide +kernel
theorem dL_lines_29 : decode cL_lines 29 = .ok (.ifCond .ne 7, 3) := by decide +kernel
theorem dL_lines_32 : decode cL_lines 32 = .ok (.iconst 0, 1) := by decide +kernel
theorem dL_lines_33 : decode cL_lines 33 = .ok (.goto 4, 3) := by decide +kernel
theorem dL_lines_36 : decode cL_lines 36 = .ok (.iconst 1, 1) := by decide +kernel
theorem dL_lines_37 : decode cL_lines 37 = .ok (.ireturn, 1) := by decide +kernel
theorem dL_lines_38 : decode cL_lines 38 = .ok (.aload_n 0, 1) := by decide +kernel
theorem dL_lines_39 : decode cL_lines 39 = .ok (.aload_n 1, 1) := by decide +kernel
theorem dL_lines_40 : decode cL_lines 40 = .ok (.aload_n 3, 1) := by decide +kernel
theorem dL_lines_41 : decode cL_lines 41 = .ok (.iload 4, 2) := by decide +kernel
theorem dL_lines_43 : decode cL_lines 43 = .ok (.invokestatic 53, 3) := by decide +kernel
theorem dL_lines_46 : decode cL_lines 46 = .ok (.istore 5, 2) := by decide +kernel
theorem dL_lines_48 : decode cL_lines 48 = .ok (.iconst 0, 1) := by decide +kernel
theorem dL_lines_49 : decode cL_lines 49 = .ok (.istore 6, 2) := by decide +kernel
theorem dL_lines_51 : decode cL_lines 51 = .ok (.iconst (-1), 1) := by decide +kernel
theorem dL_lines_52 : decode cL_lines 52 = .ok (.istore 7, 2) := by decide +kernel
theorem dL_lines_54 : decode cL_lines 54 = .ok (.iconst 0, 1) := by decide +kernel
theorem dL_lines_55 : decode cL_lines 55 = .ok (.istore 8, 2) := by decide +kernel
theorem dL_lines_57 : decode cL_lines 57 = .ok (.iload 8, 2) := by decide +kernel
theorem dL_lines_59 : decode cL_lines 59 = .ok (.aload_n 2, 1) := by decide +kernel
theorem dL_lines_60 : decode cL_lines 60 = .ok (.iload 4, 2) := by decide +kernel
theorem dL_lines_62 : decode cL_lines 62 = .ok (.invokestatic 17, 3) := by decide +kernel
theorem dL_lines_65 : decode cL_lines 65 = .ok (.if_icmp .ge 119, 3) := by decide +kernel
theorem dL_lines_68 : decode cL_lines 68 = .ok (.aload_n 2, 1) := by decide +kernel
theorem dL_lines_69 : decode cL_lines 69 = .ok (.iload 4, 2) := by decide +kernel
theorem dL_lines_71 : decode cL_lines 71 = .ok (.iload 8, 2) := by decide +kernel
theorem dL_lines_73 : decode cL_lines 73 = .ok (.invokestatic 21, 3) := by decide +kernel
theorem dL_lines_76 : decode cL_lines 76 = .ok (.istore 9, 2) := by decide +kernel
theorem dL_lines_78 : decode cL_lines 78 = .ok (.aload_n 2, 1) := by decide +kernel
theorem dL_lines_79 : decode cL_lines 79 = .ok (.iload 4, 2) := by decide +kernel
theorem dL_lines_81 : decode cL_lines 81 = .ok (.iload 8, 2) := by decide +kernel
theorem dL_lines_83 : decode cL_lines 83 = .ok (.invokestatic 25, 3) := by decide +kernel
theorem dL_lines_86 : decode cL_lines 86 = .ok (.istore 10, 2) := by decide +kernel
theorem dL_lines_88 : decode cL_lines 88 = .ok (.iload 7, 2) := by decide +kernel
theorem dL_lines_90 : decode cL_lines 90 = .ok (.ifCond .lt 24, 3) := by decide +kernel
theorem dL_lines_93 : decode cL_lines 93 = .ok (.iload 9, 2) := by decide +kernel
theorem dL_lines_95 : decode cL_lines 95 = .ok (.iload 7, 2) := by decide +kernel
theorem dL_lines_97 : decode cL_lines 97 = .ok (.if_icmp .le 24, 3) := by decide +kernel
theorem dL_lines_100 : decode cL_lines 100 = .ok (.iload 10, 2) := by decide +kernel
theorem dL_lines_102 : decode cL_lines 102 = .ok (.ifCond .eq 12, 3) := by decide +kernel
theorem dL_lines_105 : decode cL_lines 105 = .ok (.iload 10, 2) := by decide +kernel
theorem dL_lines_107 : decode cL_lines 107 = .ok (.iconst 1, 1) := by decide +kernel
theorem dL_lines_108 : decode cL_lines 108 = .ok (.iadd, 1) := by decide +kernel
theorem dL_lines_109 : decode cL_lines 109 = .ok (.iload 7, 2) := by decide +kernel
theorem dL_lines_111 : decode cL_lines 111 = .ok (.if_icmp .le 10, 3) := by decide +kernel
theorem dL_lines_114 : decode cL_lines 114 = .ok (.iinc 6 1, 3) := by decide +kernel
theorem dL_lines_117 : decode cL_lines 117 = .ok (.iload 5, 2) := by decide +kernel
theorem dL_lines_119 : decode cL_lines 119 = .ok (.istore 7, 2) := by decide +kernel
theorem dL_lines_121 : decode cL_lines 121 = .ok (.iload 9, 2) := by decide +kernel
theorem dL_lines_123 : decode cL_lines 123 = .ok (.iload 7, 2) := by decide +kernel
theorem dL_lines_125 : decode cL_lines 125 = .ok (.if_icmp .le 31, 3) := by decide +kernel
theorem dL_lines_128 : decode cL_lines 128 = .ok (.iload 10, 2) := by decide +kernel
theorem dL_lines_130 : decode cL_lines 130 = .ok (.ifCond .le 26, 3) := by decide +kernel
theorem dL_lines_133 : decode cL_lines 133 = .ok (.iload 10, 2) := by decide +kernel
theorem dL_lines_135 : decode cL_lines 135 = .ok (.iconst 1, 1) := by decide +kernel
theorem dL_lines_136 : decode cL_lines 136 = .ok (.iadd, 1) := by decide +kernel
theorem dL_lines_137 : decode cL_lines 137 = .ok (.iload 7, 2) := by decide +kernel
theorem dL_lines_139 : decode cL_lines 139 = .ok (.if_icmp .gt 17, 3) := by decide +kernel
theorem dL_lines_142 : decode cL_lines 142 = .ok (.iinc 6 1, 3) := by decide +kernel
theorem dL_lines_145 : decode cL_lines 145 = .ok (.iload 9, 2) := by decide +kernel
theorem dL_lines_147 : decode cL_lines 147 = .ok (.iload 10, 2) := by decide +kernel
theorem dL_lines_149 : decode cL_lines 149 = .ok (.isub, 1) := by decide +kernel
theorem dL_lines_150 : decode cL_lines 150 = .ok (.istore 9, 2) := by decide +kernel
theorem dL_lines_152 : decode cL_lines 152 = .ok (.iload 5, 2) := by decide +kernel
theorem dL_lines_154 : decode cL_lines 154 = .ok (.istore 7, 2) := by decide +kernel
theorem dL_lines_156 : decode cL_lines 156 = .ok (.iload 7, 2) := by decide +kernel
theorem dL_lines_158 : decode cL_lines 158 = .ok (.iload 9, 2) := by decide +kernel
theorem dL_lines_160 : decode cL_lines 160 = .ok (.iconst 1, 1) := by decide +kernel
theorem dL_lines_161 : decode cL_lines 161 = .ok (.iadd, 1) := by decide +kernel
theorem dL_lines_162 : decode cL_lines 162 = .ok (.isub, 1) := by decide +kernel
theorem dL_lines_163 : decode cL_lines 163 = .ok (.istore 7, 2) := by decide +kernel
theorem dL_lines_165 : decode cL_lines 165 = .ok (.iload 7, 2) := by decide +kernel
theorem dL_lines_167 : decode cL_lines 167 = .ok (.ifCond .ge 7, 3) := by decide +kernel
theorem dL_lines_170 : decode cL_lines 170 = .ok (.iconst (-1), 1) := by decide +kernel
theorem dL_lines_171 : decode cL_lines 171 = .ok (.goto 5, 3) := by decide +kernel
theorem dL_lines_174 : decode cL_lines 174 = .ok (.iload 7, 2) := by decide +kernel
theorem dL_lines_176 : decode cL_lines 176 = .ok (.istore 7, 2) := by decide +kernel
theorem dL_lines_178 : decode cL_lines 178 = .ok (.iinc 8 1, 3) := by decide +kernel
theorem dL_lines_181 : decode cL_lines 181 = .ok (.goto (-124), 3) := by decide +kernel
theorem dL_lines_184 : decode cL_lines 184 = .ok (.iload 6, 2) := by decide +kernel
theorem dL_lines_186 : decode cL_lines 186 = .ok (.ireturn, 1) := by decide +kernel
theorem dL_heights_0 : decode cL_heights 0 = .ok (.iconst 0, 1) := by decide +kernel
theorem dL_heights_1 : decode cL_heights 1 = .ok (.istore 6, 2) := by decide +kernel
theorem dL_heights_3 : decode cL_heights 3 = .ok (.iload 6, 2) := by decide +kernel
theorem dL_heights_5 : decode cL_heights 5 = .ok (.aload 4, 2) := by decide +kernel
theorem dL_heights_7 : decode cL_heights 7 = .ok (.iconst 1, 1) := by decide +kernel
theorem dL_heights_8 : decode cL_heights 8 = .ok (.iaload, 1) := by decide +kernel
theorem dL_heights_9 : decode cL_heights 9 = .ok (.if_icmp .ge 18, 3) := by decide +kernel
theorem dL_heights_12 : decode cL_heights 12 = .ok (.aload 5, 2) := by decide +kernel
theorem dL_heights_14 : decode cL_heights 14 = .ok (.bipush 20, 2) := by decide +kernel
theorem dL_heights_16 : decode cL_heights 16 = .ok (.iload 6, 2) := by decide +kernel
theorem dL_heights_18 : decode cL_heights 18 = .ok (.iadd, 1) := by decide +kernel
theorem dL_heights_19 : decode cL_heights 19 = .ok (.iconst 1, 1) := by decide +kernel
theorem dL_heights_20 : decode cL_heights 20 = .ok (.iastore, 1) := by decide +kernel
theorem dL_heights_21 : decode cL_heights 21 = .ok (.iinc 6 1, 3) := by decide +kernel
theorem dL_heights_24 : decode cL_heights 24 = .ok (.goto (-21), 3) := by decide +kernel
theorem dL_heights_27 : decode cL_heights 27 = .ok (.iconst 1, 1) := by decide +kernel
theorem dL_heights_28 : decode cL_heights 28 = .ok (.istore 6, 2) := by decide +kernel
theorem dL_heights_30 : decode cL_heights 30 = .ok (.iload 6, 2) := by decide +kernel
theorem dL_heights_32 : decode cL_heights 32 = .ok (.iconst 5, 1) := by decide +kernel
theorem dL_heights_33 : decode cL_heights 33 = .ok (.if_icmp .ge 146, 3) := by decide +kernel
theorem dL_heights_36 : decode cL_heights 36 = .ok (.iconst 0, 1) := by decide +kernel
theorem dL_heights_37 : decode cL_heights 37 = .ok (.istore 7, 2) := by decide +kernel
theorem dL_heights_39 : decode cL_heights 39 = .ok (.iload 7, 2) := by decide +kernel
theorem dL_heights_41 : decode cL_heights 41 = .ok (.aload 4, 2) := by decide +kernel
theorem dL_heights_43 : decode cL_heights 43 = .ok (.iconst 2, 1) := by decide +kernel
theorem dL_heights_44 : decode cL_heights 44 = .ok (.iaload, 1) := by decide +kernel
theorem dL_heights_45 : decode cL_heights 45 = .ok (.if_icmp .ge 128, 3) := by decide +kernel
theorem dL_heights_48 : decode cL_heights 48 = .ok (.aload_n 1, 1) := by decide +kernel
theorem dL_heights_49 : decode cL_heights 49 = .ok (.aload_n 2, 1) := by decide +kernel
theorem dL_heights_50 : decode cL_heights 50 = .ok (.bipush 6, 2) := by decide +kernel
theorem dL_heights_52 : decode cL_heights 52 = .ok (.iload 7, 2) := by decide +kernel
theorem dL_heights_54 : decode cL_heights 54 = .ok (.imul, 1) := by decide +kernel
theorem dL_heights_55 : decode cL_heights 55 = .ok (.iaload, 1) := by decide +kernel
theorem dL_heights_56 : decode cL_heights 56 = .ok (.invokestatic 9, 3) := by decide +kernel
theorem dL_heights_59 : decode cL_heights 59 = .ok (.istore 8, 2) := by decide +kernel
theorem dL_heights_61 : decode cL_heights 61 = .ok (.aload_n 2, 1) := by decide +kernel
theorem dL_heights_62 : decode cL_heights 62 = .ok (.bipush 6, 2) := by decide +kernel
theorem dL_heights_64 : decode cL_heights 64 = .ok (.iload 7, 2) := by decide +kernel
theorem dL_heights_66 : decode cL_heights 66 = .ok (.imul, 1) := by decide +kernel
theorem dL_heights_67 : decode cL_heights 67 = .ok (.iconst 2, 1) := by decide +kernel
theorem dL_heights_68 : decode cL_heights 68 = .ok (.iadd, 1) := by decide +kernel
theorem dL_heights_69 : decode cL_heights 69 = .ok (.iaload, 1) := by decide +kernel
theorem dL_heights_70 : decode cL_heights 70 = .ok (.iload 6, 2) := by decide +kernel
theorem dL_heights_72 : decode cL_heights 72 = .ok (.if_icmp .ne 16, 3) := by decide +kernel
theorem dL_heights_75 : decode cL_heights 75 = .ok (.aload_n 0, 1) := by decide +kernel
theorem dL_heights_76 : decode cL_heights 76 = .ok (.aload_n 2, 1) := by decide +kernel
theorem dL_heights_77 : decode cL_heights 77 = .ok (.aload_n 3, 1) := by decide +kernel
theorem dL_heights_78 : decode cL_heights 78 = .ok (.aload 5, 2) := by decide +kernel
theorem dL_heights_80 : decode cL_heights 80 = .ok (.iload 7, 2) := by decide +kernel
theorem dL_heights_82 : decode cL_heights 82 = .ok (.invokestatic 57, 3) := by decide +kernel
theorem dL_heights_85 : decode cL_heights 85 = .ok (.goto 4, 3) := by decide +kernel
theorem dL_heights_88 : decode cL_heights 88 = .ok (.iconst 0, 1) := by decide +kernel
theorem dL_heights_89 : decode cL_heights 89 = .ok (.istore 9, 2) := by decide +kernel
theorem dL_heights_91 : decode cL_heights 91 = .ok (.iload 8, 2) := by decide +kernel
theorem dL_heights_93 : decode cL_heights 93 = .ok (.istore 10, 2) := by decide +kernel
theorem dL_heights_95 : decode cL_heights 95 = .ok (.iload 10, 2) := by decide +kernel
theorem dL_heights_97 : decode cL_heights 97 = .ok (.iload 8, 2) := by decide +kernel
theorem dL_heights_99 : decode cL_heights 99 = .ok (.iload 6, 2) := by decide +kernel
theorem dL_heights_101 : decode cL_heights 101 = .ok (.iadd, 1) := by decide +kernel
theorem dL_heights_102 : decode cL_heights 102 = .ok (.if_icmp .ge 29, 3) := by decide +kernel
theorem dL_heights_105 : decode cL_heights 105 = .ok (.iload 9, 2) := by decide +kernel
theorem dL_heights_107 : decode cL_heights 107 = .ok (.ifCond .le 24, 3) := by decide +kernel
theorem dL_heights_110 : decode cL_heights 110 = .ok (.iload 9, 2) := by decide +kernel
theorem dL_heights_112 : decode cL_heights 112 = .ok (.aload 5, 2) := by decide +kernel
theorem dL_heights_114 : decode cL_heights 114 = .ok (.bipush 20, 2) := by decide +kernel
theorem dL_heights_116 : decode cL_heights 116 = .ok (.aload_n 1, 1) := by decide +kernel
theorem dL_heights_117 : decode cL_heights 117 = .ok (.iload 10, 2) := by decide +kernel
theorem dL_heights_119 : decode cL_heights 119 = .ok (.iaload, 1) := by decide +kernel
theorem dL_heights_120 : decode cL_heights 120 = .ok (.iadd, 1) := by decide +kernel
theorem dL_heights_121 : decode cL_heights 121 = .ok (.iaload, 1) := by decide +kernel
theorem dL_heights_122 : decode cL_heights 122 = .ok (.isub, 1) := by decide +kernel
theorem dL_heights_123 : decode cL_heights 123 = .ok (.istore 9, 2) := by decide +kernel
theorem dL_heights_125 : decode cL_heights 125 = .ok (.iinc 10 1, 3) := by decide +kernel
theorem dL_heights_128 : decode cL_heights 128 = .ok (.goto (-33), 3) := by decide +kernel
theorem dL_heights_131 : decode cL_heights 131 = .ok (.aload 5, 2) := by decide +kernel
theorem dL_heights_133 : decode cL_heights 133 = .ok (.bipush 20, 2) := by decide +kernel
theorem dL_heights_135 : decode cL_heights 135 = .ok (.aload_n 1, 1) := by decide +kernel
theorem dL_heights_136 : decode cL_heights 136 = .ok (.iload 8, 2) := by decide +kernel
theorem dL_heights_138 : decode cL_heights 138 = .ok (.aload_n 2, 1) := by decide +kernel
theorem dL_heights_139 : decode cL_heights 139 = .ok (.bipush 6, 2) := by decide +kernel
theorem dL_heights_141 : decode cL_heights 141 = .ok (.iload 7, 2) := by decide +kernel
theorem dL_heights_143 : decode cL_heights 143 = .ok (.imul, 1) := by decide +kernel
theorem dL_heights_144 : decode cL_heights 144 = .ok (.iconst 2, 1) := by decide +kernel
theorem dL_heights_145 : decode cL_heights 145 = .ok (.iadd, 1) := by decide +kernel
theorem dL_heights_146 : decode cL_heights 146 = .ok (.iaload, 1) := by decide +kernel
theorem dL_heights_147 : decode cL_heights 147 = .ok (.iadd, 1) := by decide +kernel
theorem dL_heights_148 : decode cL_heights 148 = .ok (.iconst 1, 1) := by decide +kernel
theorem dL_heights_149 : decode cL_heights 149 = .ok (.isub, 1) := by decide +kernel
theorem dL_heights_150 : decode cL_heights 150 = .ok (.iaload, 1) := by decide +kernel
theorem dL_heights_151 : decode cL_heights 151 = .ok (.iadd, 1) := by decide +kernel
theorem dL_heights_152 : decode cL_heights 152 = .ok (.dup2, 1) := by decide +kernel
theorem dL_heights_153 : decode cL_heights 153 = .ok (.iaload, 1) := by decide +kernel
theorem dL_heights_154 : decode cL_heights 154 = .ok (.iload 9, 2) := by decide +kernel
theorem dL_heights_156 : decode cL_heights 156 = .ok (.ifCond .le 8, 3) := by decide +kernel
theorem dL_heights_159 : decode cL_heights 159 = .ok (.iload 9, 2) := by decide +kernel
theorem dL_heights_161 : decode cL_heights 161 = .ok (.goto 4, 3) := by decide +kernel
theorem dL_heights_164 : decode cL_heights 164 = .ok (.iconst 0, 1) := by decide +kernel
theorem dL_heights_165 : decode cL_heights 165 = .ok (.iadd, 1) := by decide +kernel
theorem dL_heights_166 : decode cL_heights 166 = .ok (.iastore, 1) := by decide +kernel
theorem dL_heights_167 : decode cL_heights 167 = .ok (.iinc 7 1, 3) := by decide +kernel
theorem dL_heights_170 : decode cL_heights 170 = .ok (.goto (-131), 3) := by decide +kernel
theorem dL_heights_173 : decode cL_heights 173 = .ok (.iinc 6 1, 3) := by decide +kernel
theorem dL_heights_176 : decode cL_heights 176 = .ok (.goto (-146), 3) := by decide +kernel
theorem dL_heights_179 : decode cL_heights 179 = .ok (.return_, 1) := by decide +kernel
theorem dL_stronger_0 : decode cL_stronger 0 = .ok (.iload_n 1, 1) := by decide +kernel
theorem dL_stronger_1 : decode cL_stronger 1 = .ok (.iload_n 0, 1) := by decide +kernel
theorem dL_stronger_2 : decode cL_stronger 2 = .ok (.bipush 10, 2) := by decide +kernel
theorem dL_stronger_4 : decode cL_stronger 4 = .ok (.idiv, 1) := by decide +kernel
theorem dL_stronger_5 : decode cL_stronger 5 = .ok (.if_icmp .le 12, 3) := by decide +kernel
theorem dL_stronger_8 : decode cL_stronger 8 = .ok (.bipush 10, 2) := by decide +kernel
theorem dL_stronger_10 : decode cL_stronger 10 = .ok (.iload_n 1, 1) := by decide +kernel
theorem dL_stronger_11 : decode cL_stronger 11 = .ok (.imul, 1) := by decide +kernel
theorem dL_stronger_12 : decode cL_stronger 12 = .ok (.iload_n 2, 1) := by decide +kernel
theorem dL_stronger_13 : decode cL_stronger 13 = .ok (.iadd, 1) := by decide +kernel
theorem dL_stronger_14 : decode cL_stronger 14 = .ok (.goto 4, 3) := by decide +kernel
theorem dL_stronger_17 : decode cL_stronger 17 = .ok (.iload_n 0, 1) := by decide +kernel
theorem dL_stronger_18 : decode cL_stronger 18 = .ok (.ireturn, 1) := by decide +kernel
theorem dL_edge_0 : decode cL_edge 0 = .ok (.iload 8, 2) := by decide +kernel
theorem dL_edge_2 : decode cL_edge 2 = .ok (.ifCond .ne 7, 3) := by decide +kernel
theorem dL_edge_5 : decode cL_edge 5 = .ok (.iconst (-1), 1) := by decide +kernel
theorem dL_edge_6 : decode cL_edge 6 = .ok (.goto 14, 3) := by decide +kernel
theorem dL_edge_9 : decode cL_edge 9 = .ok (.iload 8, 2) := by decide +kernel
theorem dL_edge_11 : decode cL_edge 11 = .ok (.iconst 2, 1) := by decide +kernel
theorem dL_edge_12 : decode cL_edge 12 = .ok (.if_icmp .ne 7, 3) := by decide +kernel
theorem dL_edge_15 : decode cL_edge 15 = .ok (.iconst 1, 1) := by decide +kernel
theorem dL_edge_16 : decode cL_edge 16 = .ok (.goto 4, 3) := by decide +kernel
theorem dL_edge_19 : decode cL_edge 19 = .ok (.iconst 0, 1) := by decide +kernel
theorem dL_edge_20 : decode cL_edge 20 = .ok (.istore 9, 2) := by decide +kernel
theorem dL_edge_22 : decode cL_edge 22 = .ok (.iload 8, 2) := by decide +kernel
theorem dL_edge_24 : decode cL_edge 24 = .ok (.iconst 1, 1) := by decide +kernel
theorem dL_edge_25 : decode cL_edge 25 = .ok (.if_icmp .ne 7, 3) := by decide +kernel
theorem dL_edge_28 : decode cL_edge 28 = .ok (.iconst 1, 1) := by decide +kernel
theorem dL_edge_29 : decode cL_edge 29 = .ok (.goto 14, 3) := by decide +kernel
theorem dL_edge_32 : decode cL_edge 32 = .ok (.iload 8, 2) := by decide +kernel
theorem dL_edge_34 : decode cL_edge 34 = .ok (.iconst 3, 1) := by decide +kernel
theorem dL_edge_35 : decode cL_edge 35 = .ok (.if_icmp .ne 7, 3) := by decide +kernel
theorem dL_edge_38 : decode cL_edge 38 = .ok (.iconst (-1), 1) := by decide +kernel
theorem dL_edge_39 : decode cL_edge 39 = .ok (.goto 4, 3) := by decide +kernel
theorem dL_edge_42 : decode cL_edge 42 = .ok (.iconst 0, 1) := by decide +kernel
theorem dL_edge_43 : decode cL_edge 43 = .ok (.istore 10, 2) := by decide +kernel
theorem dL_edge_45 : decode cL_edge 45 = .ok (.iload 7, 2) := by decide +kernel
theorem dL_edge_47 : decode cL_edge 47 = .ok (.iload 10, 2) := by decide +kernel
theorem dL_edge_49 : decode cL_edge 49 = .ok (.iadd, 1) := by decide +kernel
theorem dL_edge_50 : decode cL_edge 50 = .ok (.istore 11, 2) := by decide +kernel
theorem dL_edge_52 : decode cL_edge 52 = .ok (.iload 10, 2) := by decide +kernel
theorem dL_edge_54 : decode cL_edge 54 = .ok (.ifCond .eq 39, 3) := by decide +kernel
theorem dL_edge_57 : decode cL_edge 57 = .ok (.iload 11, 2) := by decide +kernel
theorem dL_edge_59 : decode cL_edge 59 = .ok (.ifCond .lt 34, 3) := by decide +kernel
theorem dL_edge_62 : decode cL_edge 62 = .ok (.iload 11, 2) := by decide +kernel
theorem dL_edge_64 : decode cL_edge 64 = .ok (.aload 5, 2) := by decide +kernel
theorem dL_edge_66 : decode cL_edge 66 = .ok (.iconst 0, 1) := by decide +kernel
theorem dL_edge_67 : decode cL_edge 67 = .ok (.iaload, 1) := by decide +kernel
theorem dL_edge_68 : decode cL_edge 68 = .ok (.if_icmp .ge 25, 3) := by decide +kernel
theorem dL_edge_71 : decode cL_edge 71 = .ok (.aload_n 0, 1) := by decide +kernel
theorem dL_edge_72 : decode cL_edge 72 = .ok (.iconst 4, 1) := by decide +kernel
theorem dL_edge_73 : decode cL_edge 73 = .ok (.iload 11, 2) := by decide +kernel
theorem dL_edge_75 : decode cL_edge 75 = .ok (.imul, 1) := by decide +kernel
theorem dL_edge_76 : decode cL_edge 76 = .ok (.iconst 3, 1) := by decide +kernel
theorem dL_edge_77 : decode cL_edge 77 = .ok (.iadd, 1) := by decide +kernel
theorem dL_edge_78 : decode cL_edge 78 = .ok (.iaload, 1) := by decide +kernel
theorem dL_edge_79 : decode cL_edge 79 = .ok (.iconst 1, 1) := by decide +kernel
theorem dL_edge_80 : decode cL_edge 80 = .ok (.if_icmp .ne 13, 3) := by decide +kernel
theorem dL_edge_83 : decode cL_edge 83 = .ok (.iload 11, 2) := by decide +kernel
theorem dL_edge_85 : decode cL_edge 85 = .ok (.iload 10, 2) := by decide +kernel
theorem dL_edge_87 : decode cL_edge 87 = .ok (.iadd, 1) := by decide +kernel
theorem dL_edge_88 : decode cL_edge 88 = .ok (.istore 11, 2) := by decide +kernel
theorem dL_edge_90 : decode cL_edge 90 = .ok (.goto (-38), 3) := by decide +kernel
theorem dL_edge_93 : decode cL_edge 93 = .ok (.iload 6, 2) := by decide +kernel
theorem dL_edge_95 : decode cL_edge 95 = .ok (.iload 9, 2) := by decide +kernel
theorem dL_edge_97 : decode cL_edge 97 = .ok (.iadd, 1) := by decide +kernel
theorem dL_edge_98 : decode cL_edge 98 = .ok (.ifCond .lt 29, 3) := by decide +kernel
theorem dL_edge_101 : decode cL_edge 101 = .ok (.iload 6, 2) := by decide +kernel
theorem dL_edge_103 : decode cL_edge 103 = .ok (.iload 9, 2) := by decide +kernel
theorem dL_edge_105 : decode cL_edge 105 = .ok (.iadd, 1) := by decide +kernel
theorem dL_edge_106 : decode cL_edge 106 = .ok (.aload 5, 2) := by decide +kernel
theorem dL_edge_108 : decode cL_edge 108 = .ok (.iconst 1, 1) := by decide +kernel
theorem dL_edge_109 : decode cL_edge 109 = .ok (.iaload, 1) := by decide +kernel
theorem dL_edge_110 : decode cL_edge 110 = .ok (.if_icmp .ge 17, 3) := by decide +kernel
theorem dL_edge_113 : decode cL_edge 113 = .ok (.iload 11, 2) := by decide +kernel
theorem dL_edge_115 : decode cL_edge 115 = .ok (.ifCond .lt 12, 3) := by decide +kernel
theorem dL_edge_118 : decode cL_edge 118 = .ok (.iload 11, 2) := by decide +kernel
theorem dL_edge_120 : decode cL_edge 120 = .ok (.aload 5, 2) := by decide +kernel
theorem dL_edge_122 : decode cL_edge 122 = .ok (.iconst 0, 1) := by decide +kernel
theorem dL_edge_123 : decode cL_edge 123 = .ok (.iaload, 1) := by decide +kernel
theorem dL_edge_124 : decode cL_edge 124 = .ok (.if_icmp .lt 7, 3) := by decide +kernel
theorem dL_edge_127 : decode cL_edge 127 = .ok (.iconst 1, 1) := by decide +kernel
theorem dL_edge_128 : decode cL_edge 128 = .ok (.goto 4, 3) := by decide +kernel
theorem dL_edge_131 : decode cL_edge 131 = .ok (.iconst 0, 1) := by decide +kernel
theorem dL_edge_132 : decode cL_edge 132 = .ok (.istore 12, 2) := by decide +kernel
theorem dL_edge_134 : decode cL_edge 134 = .ok (.aload_n 1, 1) := by decide +kernel
theorem dL_edge_135 : decode cL_edge 135 = .ok (.aload_n 2, 1) := by decide +kernel
theorem dL_edge_136 : decode cL_edge 136 = .ok (.aload 5, 2) := by decide +kernel
theorem dL_edge_138 : decode cL_edge 138 = .ok (.iload 6, 2) := by decide +kernel
theorem dL_edge_140 : decode cL_edge 140 = .ok (.iload 7, 2) := by decide +kernel
theorem dL_edge_142 : decode cL_edge 142 = .ok (.invokestatic 61, 3) := by decide +kernel
theorem dL_edge_145 : decode cL_edge 145 = .ok (.istore 13, 2) := by decide +kernel
theorem dL_edge_147 : decode cL_edge 147 = .ok (.iload 12, 2) := by decide +kernel
theorem dL_edge_149 : decode cL_edge 149 = .ok (.ifCond .eq 7, 3) := by decide +kernel
theorem dL_edge_152 : decode cL_edge 152 = .ok (.iconst (-1), 1) := by decide +kernel
theorem dL_edge_153 : decode cL_edge 153 = .ok (.goto 17, 3) := by decide +kernel
theorem dL_edge_156 : decode cL_edge 156 = .ok (.aload_n 1, 1) := by decide +kernel
theorem dL_edge_157 : decode cL_edge 157 = .ok (.aload_n 2, 1) := by decide +kernel
theorem dL_edge_158 : decode cL_edge 158 = .ok (.aload 5, 2) := by decide +kernel
theorem dL_edge_160 : decode cL_edge 160 = .ok (.iload 6, 2) := by decide +kernel
theorem dL_edge_162 : decode cL_edge 162 = .ok (.iload 9, 2) := by decide +kernel
theorem dL_edge_164 : decode cL_edge 164 = .ok (.iadd, 1) := by decide +kernel
theorem dL_edge_165 : decode cL_edge 165 = .ok (.iload 11, 2) := by decide +kernel
theorem dL_edge_167 : decode cL_edge 167 = .ok (.invokestatic 61, 3) := by decide +kernel
theorem dL_edge_170 : decode cL_edge 170 = .ok (.istore 14, 2) := by decide +kernel
theorem dL_edge_172 : decode cL_edge 172 = .ok (.iload 13, 2) := by decide +kernel
theorem dL_edge_174 : decode cL_edge 174 = .ok (.ifCond .lt 12, 3) := by decide +kernel
theorem dL_edge_177 : decode cL_edge 177 = .ok (.iload 13, 2) := by decide +kernel
theorem dL_edge_179 : decode cL_edge 179 = .ok (.iload 14, 2) := by decide +kernel
theorem dL_edge_181 : decode cL_edge 181 = .ok (.if_icmp .ne 5, 3) := by decide +kernel
theorem dL_edge_184 : decode cL_edge 184 = .ok (.iconst 0, 1) := by decide +kernel
theorem dL_edge_185 : decode cL_edge 185 = .ok (.ireturn, 1) := by decide +kernel
theorem dL_edge_186 : decode cL_edge 186 = .ok (.iload 8, 2) := by decide +kernel
theorem dL_edge_188 : decode cL_edge 188 = .ok (.iconst 2, 1) := by decide +kernel
theorem dL_edge_189 : decode cL_edge 189 = .ok (.if_icmp .ge 10, 3) := by decide +kernel
theorem dL_edge_192 : decode cL_edge 192 = .ok (.iload 8, 2) := by decide +kernel
theorem dL_edge_194 : decode cL_edge 194 = .ok (.iconst 2, 1) := by decide +kernel
theorem dL_edge_195 : decode cL_edge 195 = .ok (.iadd, 1) := by decide +kernel
theorem dL_edge_196 : decode cL_edge 196 = .ok (.goto 7, 3) := by decide +kernel
theorem dL_edge_199 : decode cL_edge 199 = .ok (.iload 8, 2) := by decide +kernel
theorem dL_edge_201 : decode cL_edge 201 = .ok (.iconst 2, 1) := by decide +kernel
theorem dL_edge_202 : decode cL_edge 202 = .ok (.isub, 1) := by decide +kernel
theorem dL_edge_203 : decode cL_edge 203 = .ok (.istore 15, 2) := by decide +kernel
theorem dL_edge_205 : decode cL_edge 205 = .ok (.iconst 0, 1) := by decide +kernel
theorem dL_edge_206 : decode cL_edge 206 = .ok (.istore 16, 2) := by decide +kernel
theorem dL_edge_208 : decode cL_edge 208 = .ok (.iload 13, 2) := by decide +kernel
theorem dL_edge_210 : decode cL_edge 210 = .ok (.ifCond .lt 21, 3) := by decide +kernel
theorem dL_edge_213 : decode cL_edge 213 = .ok (.iload 16, 2) := by decide +kernel
theorem dL_edge_215 : decode cL_edge 215 = .ok (.aload_n 3, 1) := by decide +kernel
theorem dL_edge_216 : decode cL_edge 216 = .ok (.iconst 4, 1) := by decide +kernel
theorem dL_edge_217 : decode cL_edge 217 = .ok (.iload 13, 2) := by decide +kernel
theorem dL_edge_219 : decode cL_edge 219 = .ok (.imul, 1) := by decide +kernel
theorem dL_edge_220 : decode cL_edge 220 = .ok (.iload 8, 2) := by decide +kernel
theorem dL_edge_222 : decode cL_edge 222 = .ok (.iadd, 1) := by decide +kernel
theorem dL_edge_223 : decode cL_edge 223 = .ok (.iaload, 1) := by decide +kernel
theorem dL_edge_224 : decode cL_edge 224 = .ok (.iconst 1, 1) := by decide +kernel
theorem dL_edge_225 : decode cL_edge 225 = .ok (.invokestatic 65, 3) := by decide +kernel
theorem dL_edge_228 : decode cL_edge 228 = .ok (.goto 5, 3) := by decide +kernel
theorem dL_edge_231 : decode cL_edge 231 = .ok (.iload 16, 2) := by decide +kernel
theorem dL_edge_233 : decode cL_edge 233 = .ok (.istore 16, 2) := by decide +kernel
theorem dL_edge_235 : decode cL_edge 235 = .ok (.iload 14, 2) := by decide +kernel
theorem dL_edge_237 : decode cL_edge 237 = .ok (.ifCond .lt 21, 3) := by decide +kernel
theorem dL_edge_240 : decode cL_edge 240 = .ok (.iload 16, 2) := by decide +kernel
theorem dL_edge_242 : decode cL_edge 242 = .ok (.aload_n 3, 1) := by decide +kernel
theorem dL_edge_243 : decode cL_edge 243 = .ok (.iconst 4, 1) := by decide +kernel
theorem dL_edge_244 : decode cL_edge 244 = .ok (.iload 14, 2) := by decide +kernel
theorem dL_edge_246 : decode cL_edge 246 = .ok (.imul, 1) := by decide +kernel
theorem dL_edge_247 : decode cL_edge 247 = .ok (.iload 15, 2) := by decide +kernel
theorem dL_edge_249 : decode cL_edge 249 = .ok (.iadd, 1) := by decide +kernel
theorem dL_edge_250 : decode cL_edge 250 = .ok (.iaload, 1) := by decide +kernel
theorem dL_edge_251 : decode cL_edge 251 = .ok (.iconst 1, 1) := by decide +kernel
theorem dL_edge_252 : decode cL_edge 252 = .ok (.invokestatic 65, 3) := by decide +kernel
theorem dL_edge_255 : decode cL_edge 255 = .ok (.goto 5, 3) := by decide +kernel
theorem dL_edge_258 : decode cL_edge 258 = .ok (.iload 16, 2) := by decide +kernel
theorem dL_edge_260 : decode cL_edge 260 = .ok (.istore 16, 2) := by decide +kernel
theorem dL_edge_262 : decode cL_edge 262 = .ok (.iload 9, 2) := by decide +kernel
theorem dL_edge_264 : decode cL_edge 264 = .ok (.ifCond .eq 67, 3) := by decide +kernel
theorem dL_edge_267 : decode cL_edge 267 = .ok (.iload 16, 2) := by decide +kernel
theorem dL_edge_269 : decode cL_edge 269 = .ok (.aload_n 3, 1) := by decide +kernel
theorem dL_edge_270 : decode cL_edge 270 = .ok (.bipush 40, 2) := by decide +kernel
theorem dL_edge_272 : decode cL_edge 272 = .ok (.iconst 2, 1) := by decide +kernel
theorem dL_edge_273 : decode cL_edge 273 = .ok (.aload_n 1, 1) := by decide +kernel
theorem dL_edge_274 : decode cL_edge 274 = .ok (.iload 6, 2) := by decide +kernel
theorem dL_edge_276 : decode cL_edge 276 = .ok (.iaload, 1) := by decide +kernel
theorem dL_edge_277 : decode cL_edge 277 = .ok (.imul, 1) := by decide +kernel
theorem dL_edge_278 : decode cL_edge 278 = .ok (.iadd, 1) := by decide +kernel
theorem dL_edge_279 : decode cL_edge 279 = .ok (.iload 8, 2) := by decide +kernel
theorem dL_edge_281 : decode cL_edge 281 = .ok (.iconst 2, 1) := by decide +kernel
theorem dL_edge_282 : decode cL_edge 282 = .ok (.idiv, 1) := by decide +kernel
theorem dL_edge_283 : decode cL_edge 283 = .ok (.iadd, 1) := by decide +kernel
theorem dL_edge_284 : decode cL_edge 284 = .ok (.iaload, 1) := by decide +kernel
theorem dL_edge_285 : decode cL_edge 285 = .ok (.iconst 2, 1) := by decide +kernel
theorem dL_edge_286 : decode cL_edge 286 = .ok (.invokestatic 65, 3) := by decide +kernel
theorem dL_edge_289 : decode cL_edge 289 = .ok (.istore 16, 2) := by decide +kernel
theorem dL_edge_291 : decode cL_edge 291 = .ok (.iload 12, 2) := by decide +kernel
theorem dL_edge_293 : decode cL_edge 293 = .ok (.ifCond .eq 8, 3) := by decide +kernel
theorem dL_edge_296 : decode cL_edge 296 = .ok (.iload 16, 2) := by decide +kernel
theorem dL_edge_298 : decode cL_edge 298 = .ok (.goto 28, 3) := by decide +kernel
theorem dL_edge_301 : decode cL_edge 301 = .ok (.iload 16, 2) := by decide +kernel
theorem dL_edge_303 : decode cL_edge 303 = .ok (.aload_n 3, 1) := by decide +kernel
theorem dL_edge_304 : decode cL_edge 304 = .ok (.bipush 40, 2) := by decide +kernel
theorem dL_edge_306 : decode cL_edge 306 = .ok (.iconst 2, 1) := by decide +kernel
theorem dL_edge_307 : decode cL_edge 307 = .ok (.aload_n 1, 1) := by decide +kernel
theorem dL_edge_308 : decode cL_edge 308 = .ok (.iload 6, 2) := by decide +kernel
theorem dL_edge_310 : decode cL_edge 310 = .ok (.iload 9, 2) := by decide +kernel
theorem dL_edge_312 : decode cL_edge 312 = .ok (.iadd, 1) := by decide +kernel
theorem dL_edge_313 : decode cL_edge 313 = .ok (.iaload, 1) := by decide +kernel
theorem dL_edge_314 : decode cL_edge 314 = .ok (.imul, 1) := by decide +kernel
theorem dL_edge_315 : decode cL_edge 315 = .ok (.iadd, 1) := by decide +kernel
theorem dL_edge_316 : decode cL_edge 316 = .ok (.iload 15, 2) := by decide +kernel
theorem dL_edge_318 : decode cL_edge 318 = .ok (.iconst 2, 1) := by decide +kernel
theorem dL_edge_319 : decode cL_edge 319 = .ok (.idiv, 1) := by decide +kernel
theorem dL_edge_320 : decode cL_edge 320 = .ok (.iadd, 1) := by decide +kernel
theorem dL_edge_321 : decode cL_edge 321 = .ok (.iaload, 1) := by decide +kernel
theorem dL_edge_322 : decode cL_edge 322 = .ok (.iconst 2, 1) := by decide +kernel
theorem dL_edge_323 : decode cL_edge 323 = .ok (.invokestatic 65, 3) := by decide +kernel
theorem dL_edge_326 : decode cL_edge 326 = .ok (.istore 16, 2) := by decide +kernel
theorem dL_edge_328 : decode cL_edge 328 = .ok (.goto 67, 3) := by decide +kernel
theorem dL_edge_331 : decode cL_edge 331 = .ok (.iload 16, 2) := by decide +kernel
theorem dL_edge_333 : decode cL_edge 333 = .ok (.aload 4, 2) := by decide +kernel
theorem dL_edge_335 : decode cL_edge 335 = .ok (.iconst 2, 1) := by decide +kernel
theorem dL_edge_336 : decode cL_edge 336 = .ok (.iload 7, 2) := by decide +kernel
theorem dL_edge_338 : decode cL_edge 338 = .ok (.imul, 1) := by decide +kernel
theorem dL_edge_339 : decode cL_edge 339 = .ok (.iload 8, 2) := by decide +kernel
theorem dL_edge_341 : decode cL_edge 341 = .ok (.iconst 3, 1) := by decide +kernel
theorem dL_edge_342 : decode cL_edge 342 = .ok (.if_icmp .ne 7, 3) := by decide +kernel
theorem dL_edge_345 : decode cL_edge 345 = .ok (.iconst 0, 1) := by decide +kernel
theorem dL_edge_346 : decode cL_edge 346 = .ok (.goto 4, 3) := by decide +kernel
theorem dL_edge_349 : decode cL_edge 349 = .ok (.iconst 1, 1) := by decide +kernel
theorem dL_edge_350 : decode cL_edge 350 = .ok (.iadd, 1) := by decide +kernel
theorem dL_edge_351 : decode cL_edge 351 = .ok (.iaload, 1) := by decide +kernel
theorem dL_edge_352 : decode cL_edge 352 = .ok (.iconst 3, 1) := by decide +kernel
theorem dL_edge_353 : decode cL_edge 353 = .ok (.invokestatic 65, 3) := by decide +kernel
theorem dL_edge_356 : decode cL_edge 356 = .ok (.istore 16, 2) := by decide +kernel
theorem dL_edge_358 : decode cL_edge 358 = .ok (.iload 12, 2) := by decide +kernel
theorem dL_edge_360 : decode cL_edge 360 = .ok (.ifCond .eq 8, 3) := by decide +kernel
theorem dL_edge_363 : decode cL_edge 363 = .ok (.iload 16, 2) := by decide +kernel
theorem dL_edge_365 : decode cL_edge 365 = .ok (.goto 28, 3) := by decide +kernel
theorem dL_edge_368 : decode cL_edge 368 = .ok (.iload 16, 2) := by decide +kernel
theorem dL_edge_370 : decode cL_edge 370 = .ok (.aload 4, 2) := by decide +kernel
theorem dL_edge_372 : decode cL_edge 372 = .ok (.iconst 2, 1) := by decide +kernel
theorem dL_edge_373 : decode cL_edge 373 = .ok (.iload 11, 2) := by decide +kernel
theorem dL_edge_375 : decode cL_edge 375 = .ok (.imul, 1) := by decide +kernel
theorem dL_edge_376 : decode cL_edge 376 = .ok (.iload 8, 2) := by decide +kernel
theorem dL_edge_378 : decode cL_edge 378 = .ok (.iconst 3, 1) := by decide +kernel
theorem dL_edge_379 : decode cL_edge 379 = .ok (.if_icmp .ne 7, 3) := by decide +kernel
theorem dL_edge_382 : decode cL_edge 382 = .ok (.iconst 1, 1) := by decide +kernel
theorem dL_edge_383 : decode cL_edge 383 = .ok (.goto 4, 3) := by decide +kernel
theorem dL_edge_386 : decode cL_edge 386 = .ok (.iconst 0, 1) := by decide +kernel
theorem dL_edge_387 : decode cL_edge 387 = .ok (.iadd, 1) := by decide +kernel
theorem dL_edge_388 : decode cL_edge 388 = .ok (.iaload, 1) := by decide +kernel
theorem dL_edge_389 : decode cL_edge 389 = .ok (.iconst 3, 1) := by decide +kernel
theorem dL_edge_390 : decode cL_edge 390 = .ok (.invokestatic 65, 3) := by decide +kernel
theorem dL_edge_393 : decode cL_edge 393 = .ok (.istore 16, 2) := by decide +kernel
theorem dL_edge_395 : decode cL_edge 395 = .ok (.iload 12, 2) := by decide +kernel
theorem dL_edge_397 : decode cL_edge 397 = .ok (.ifCond .eq 17, 3) := by decide +kernel
theorem dL_edge_400 : decode cL_edge 400 = .ok (.iload 16, 2) := by decide +kernel
theorem dL_edge_402 : decode cL_edge 402 = .ok (.aload 4, 2) := by decide +kernel
theorem dL_edge_404 : decode cL_edge 404 = .ok (.bipush 8, 2) := by decide +kernel
theorem dL_edge_406 : decode cL_edge 406 = .ok (.iaload, 1) := by decide +kernel
theorem dL_edge_407 : decode cL_edge 407 = .ok (.iconst 4, 1) := by decide +kernel
theorem dL_edge_408 : decode cL_edge 408 = .ok (.invokestatic 65, 3) := by decide +kernel
theorem dL_edge_411 : decode cL_edge 411 = .ok (.goto 5, 3) := by decide +kernel
theorem dL_edge_414 : decode cL_edge 414 = .ok (.iload 16, 2) := by decide +kernel
theorem dL_edge_416 : decode cL_edge 416 = .ok (.ireturn, 1) := by decide +kernel
theorem dL_sums_0 : decode cL_sums 0 = .ok (.iconst 0, 1) := by decide +kernel
theorem dL_sums_1 : decode cL_sums 1 = .ok (.istore_n 2, 1) := by decide +kernel
theorem dL_sums_2 : decode cL_sums 2 = .ok (.iconst 0, 1) := by decide +kernel
theorem dL_sums_3 : decode cL_sums 3 = .ok (.istore_n 3, 1) := by decide +kernel
theorem dL_sums_4 : decode cL_sums 4 = .ok (.iload_n 3, 1) := by decide +kernel
theorem dL_sums_5 : decode cL_sums 5 = .ok (.aload_n 1, 1) := by decide +kernel
theorem dL_sums_6 : decode cL_sums 6 = .ok (.iconst 0, 1) := by decide +kernel
theorem dL_sums_7 : decode cL_sums 7 = .ok (.iaload, 1) := by decide +kernel
theorem dL_sums_8 : decode cL_sums 8 = .ok (.if_icmp .ge 40, 3) := by decide +kernel
theorem dL_sums_11 : decode cL_sums 11 = .ok (.iload_n 2, 1) := by decide +kernel
theorem dL_sums_12 : decode cL_sums 12 = .ok (.ifCond .ne 24, 3) := by decide +kernel
theorem dL_sums_15 : decode cL_sums 15 = .ok (.aload_n 0, 1) := by decide +kernel
theorem dL_sums_16 : decode cL_sums 16 = .ok (.iconst 4, 1) := by decide +kernel
theorem dL_sums_17 : decode cL_sums 17 = .ok (.iload_n 3, 1) := by decide +kernel
theorem dL_sums_18 : decode cL_sums 18 = .ok (.imul, 1) := by decide +kernel
theorem dL_sums_19 : decode cL_sums 19 = .ok (.iconst 2, 1) := by decide +kernel
theorem dL_sums_20 : decode cL_sums 20 = .ok (.iadd, 1) := by decide +kernel
theorem dL_sums_21 : decode cL_sums 21 = .ok (.iaload, 1) := by decide +kernel
theorem dL_sums_22 : decode cL_sums 22 = .ok (.iconst 1, 1) := by decide +kernel
theorem dL_sums_23 : decode cL_sums 23 = .ok (.if_icmp .ne 17, 3) := by decide +kernel
theorem dL_sums_26 : decode cL_sums 26 = .ok (.aload_n 0, 1) := by decide +kernel
theorem dL_sums_27 : decode cL_sums 27 = .ok (.iconst 4, 1) := by decide +kernel
theorem dL_sums_28 : decode cL_sums 28 = .ok (.iload_n 3, 1) := by decide +kernel
theorem dL_sums_29 : decode cL_sums 29 = .ok (.imul, 1) := by decide +kernel
theorem dL_sums_30 : decode cL_sums 30 = .ok (.iconst 3, 1) := by decide +kernel
theorem dL_sums_31 : decode cL_sums 31 = .ok (.iadd, 1) := by decide +kernel
theorem dL_sums_32 : decode cL_sums 32 = .ok (.iaload, 1) := by decide +kernel
theorem dL_sums_33 : decode cL_sums 33 = .ok (.ifCond .ne 7, 3) := by decide +kernel
theorem dL_sums_36 : decode cL_sums 36 = .ok (.iconst 1, 1) := by decide +kernel
theorem dL_sums_37 : decode cL_sums 37 = .ok (.goto 4, 3) := by decide +kernel
theorem dL_sums_40 : decode cL_sums 40 = .ok (.iconst 0, 1) := by decide +kernel
theorem dL_sums_41 : decode cL_sums 41 = .ok (.istore_n 2, 1) := by decide +kernel
theorem dL_sums_42 : decode cL_sums 42 = .ok (.iinc 3 1, 3) := by decide +kernel
theorem dL_sums_45 : decode cL_sums 45 = .ok (.goto (-41), 3) := by decide +kernel
theorem dL_sums_48 : decode cL_sums 48 = .ok (.iload_n 2, 1) := by decide +kernel
theorem dL_sums_49 : decode cL_sums 49 = .ok (.ireturn, 1) := by decide +kernel
theorem dL_noteLines_0 : decode cL_noteLines 0 = .ok (.iconst 0, 1) := by decide +kernel
theorem dL_noteLines_1 : decode cL_noteLines 1 = .ok (.istore 4, 2) := by decide +kernel
theorem dL_noteLines_3 : decode cL_noteLines 3 = .ok (.iconst 0, 1) := by decide +kernel
theorem dL_noteLines_4 : decode cL_noteLines 4 = .ok (.istore 5, 2) := by decide +kernel
theorem dL_noteLines_6 : decode cL_noteLines 6 = .ok (.iload 5, 2) := by decide +kernel
theorem dL_noteLines_8 : decode cL_noteLines 8 = .ok (.aload_n 2, 1) := by decide +kernel
theorem dL_noteLines_9 : decode cL_noteLines 9 = .ok (.iconst 2, 1) := by decide +kernel
theorem dL_noteLines_10 : decode cL_noteLines 10 = .ok (.iaload, 1) := by decide +kernel
theorem dL_noteLines_11 : decode cL_noteLines 11 = .ok (.if_icmp .ge 52, 3) := by decide +kernel
theorem dL_noteLines_14 : decode cL_noteLines 14 = .ok (.iload 4, 2) := by decide +kernel
theorem dL_noteLines_16 : decode cL_noteLines 16 = .ok (.iload_n 3, 1) := by decide +kernel
theorem dL_noteLines_17 : decode cL_noteLines 17 = .ok (.ifCond .lt 14, 3) := by decide +kernel
theorem dL_noteLines_20 : decode cL_noteLines 20 = .ok (.aload_n 1, 1) := by decide +kernel
theorem dL_noteLines_21 : decode cL_noteLines 21 = .ok (.bipush 6, 2) := by decide +kernel
theorem dL_noteLines_23 : decode cL_noteLines 23 = .ok (.iload 5, 2) := by decide +kernel
theorem dL_noteLines_25 : decode cL_noteLines 25 = .ok (.imul, 1) := by decide +kernel
theorem dL_noteLines_26 : decode cL_noteLines 26 = .ok (.iaload, 1) := by decide +kernel
theorem dL_noteLines_27 : decode cL_noteLines 27 = .ok (.iload_n 3, 1) := by decide +kernel
theorem dL_noteLines_28 : decode cL_noteLines 28 = .ok (.if_icmp .ne 25, 3) := by decide +kernel
theorem dL_noteLines_31 : decode cL_noteLines 31 = .ok (.aload_n 0, 1) := by decide +kernel
theorem dL_noteLines_32 : decode cL_noteLines 32 = .ok (.aload_n 1, 1) := by decide +kernel
theorem dL_noteLines_33 : decode cL_noteLines 33 = .ok (.iload 5, 2) := by decide +kernel
theorem dL_noteLines_35 : decode cL_noteLines 35 = .ok (.invokestatic 33, 3) := by decide +kernel
theorem dL_noteLines_38 : decode cL_noteLines 38 = .ok (.ifCond .le 15, 3) := by decide +kernel
theorem dL_noteLines_41 : decode cL_noteLines 41 = .ok (.aload_n 1, 1) := by decide +kernel
theorem dL_noteLines_42 : decode cL_noteLines 42 = .ok (.bipush 6, 2) := by decide +kernel
theorem dL_noteLines_44 : decode cL_noteLines 44 = .ok (.iload 5, 2) := by decide +kernel
theorem dL_noteLines_46 : decode cL_noteLines 46 = .ok (.imul, 1) := by decide +kernel
theorem dL_noteLines_47 : decode cL_noteLines 47 = .ok (.iconst 4, 1) := by decide +kernel
theorem dL_noteLines_48 : decode cL_noteLines 48 = .ok (.iadd, 1) := by decide +kernel
theorem dL_noteLines_49 : decode cL_noteLines 49 = .ok (.iaload, 1) := by decide +kernel
theorem dL_noteLines_50 : decode cL_noteLines 50 = .ok (.goto 4, 3) := by decide +kernel
theorem dL_noteLines_53 : decode cL_noteLines 53 = .ok (.iconst 0, 1) := by decide +kernel
theorem dL_noteLines_54 : decode cL_noteLines 54 = .ok (.iadd, 1) := by decide +kernel
theorem dL_noteLines_55 : decode cL_noteLines 55 = .ok (.istore 4, 2) := by decide +kernel
theorem dL_noteLines_57 : decode cL_noteLines 57 = .ok (.iinc 5 1, 3) := by decide +kernel
theorem dL_noteLines_60 : decode cL_noteLines 60 = .ok (.goto (-54), 3) := by decide +kernel
theorem dL_noteLines_63 : decode cL_noteLines 63 = .ok (.iload 4, 2) := by decide +kernel
theorem dL_noteLines_65 : decode cL_noteLines 65 = .ok (.ireturn, 1) := by decide +kernel
section
variable {p : Program} {l : Launch} {e : Env} {s : State} {m : MethodId} {args : Array Value} {below : List Frame} {meth : Method} {c : Code} {G : Gx} {e0 : Nat} {α : Ax} {κ : Nat → Int} {B : Nat}
def wp_L_lines_22 (p4 : Int) (Qm : Int → Mem → Prop) (M : Mem) : Prop := wp_L_shows p4 M fun (x5 : Int) (M4 : Mem) => Qm (if ¬ x5 = 0 then (1 : Int) else 0) M4
def wp_L_lines_156 (p4 : Int) (Qm : Int → Mem → Prop) (K57 : Int → Int → Int → Int → Mem → Prop) (y5 : Int) (y6 : Int) (y7 : Int) (y8 : Int) (y9 : Int) (M : Mem) : Prop := (inR (y9 + 1)) ∧ (inR (y7 - (y9 + 1))) ∧ (inR (y8 + 1)) ∧ K57 y5 y6 (if 0 ≤ (y7 - (y9 + 1)) then (y7 - (y9 + 1)) else (-1)) (y8 + 1) M
def wp_L_lines_121 (p4 : Int) (Qm : Int → Mem → Prop) (K57 : Int → Int → Int → Int → Mem → Prop) (y5 : Int) (y6 : Int) (y7 : Int) (y8 : Int) (y9 : Int) (y10 : Int) (M : Mem) : Prop := ((y9 ≤ y7 → wp_L_lines_156 p4 Qm K57 y5 y6 y7 y8 y9 M) ∧ (y7 < y9 → ((y10 ≤ 0 → wp_L_lines_156 p4 Qm K57 y5 y6 y7 y8 y9 M) ∧ (0 < y10 → (inR (y10 + 1)) ∧ ((y7 < (y10 + 1) → wp_L_lines_156 p4 Qm K57 y5 y6 y7 y8 y9 M) ∧ ((y10 + 1) ≤ y7 → (inR (y6 + 1)) ∧ (inR (y9 - y10)) ∧ wp_L_lines_156 p4 Qm K57 y5 (y6 + 1) y5 y8 (y9 - y10) M))))))
def wp_L_lines_114 (p4 : Int) (Qm : Int → Mem → Prop) (K57 : Int → Int → Int → Int → Mem → Prop) (y5 : Int) (y6 : Int) (y8 : Int) (y9 : Int) (y10 : Int) (M : Mem) : Prop := (inR (y6 + 1)) ∧ wp_L_lines_121 p4 Qm K57 y5 (y6 + 1) y5 y8 y9 y10 M
def wp_L_lines_57 (p4 : Int) (Qm : Int → Mem → Prop) : Nat → Int → Int → Int → Int → Mem → Prop
  | 0 => fun _ _ _ _ _ => False
  | n + 1 => fun y5 y6 y7 y8 M => wp_L_words p4 M fun (x18 : Int) (M17 : Mem) => ((x18 ≤ y8 → Qm y6 M17) ∧ (y8 < x18 → wp_L_length p4 y8 M17 fun (x21 : Int) (M20 : Mem) => wp_L_cut p4 y8 M20 fun (x24 : Int) (M23 : Mem) => ((y7 < 0 → wp_L_lines_114 p4 Qm (wp_L_lines_57 p4 Qm n) y5 y6 y8 x21 x24 M23) ∧ (0 ≤ y7 → ((x21 ≤ y7 → wp_L_lines_121 p4 Qm (wp_L_lines_57 p4 Qm n) y5 y6 y7 y8 x21 x24 M23) ∧ (y7 < x21 → ((x24 = 0 → wp_L_lines_114 p4 Qm (wp_L_lines_57 p4 Qm n) y5 y6 y8 x21 x24 M23) ∧ (¬ x24 = 0 → (inR (x24 + 1)) ∧ (((x24 + 1) ≤ y7 → wp_L_lines_121 p4 Qm (wp_L_lines_57 p4 Qm n) y5 y6 y7 y8 x21 x24 M23) ∧ (y7 < (x24 + 1) → wp_L_lines_114 p4 Qm (wp_L_lines_57 p4 Qm n) y5 y6 y8 x21 x24 M23))))))))))
def wp_L_lines (p4 : Int) (M : Mem) (Qm : Int → Mem → Prop) : Prop := wp_L_shows p4 M fun (x2 : Int) (M1 : Mem) => ((x2 = 0 → wp_L_lines_22 p4 Qm M1) ∧ (¬ x2 = 0 → (inR (6 * p4)) ∧ (inR ((6 * p4) + 5)) ∧ (0 ≤ ((6 * p4) + 5) ∧ ((6 * p4) + 5) < 60) ∧ (((M1 107 0 ((6 * p4) + 5)) < 0 → wp_L_across p4 M1 fun (x15 : Int) (M14 : Mem) => (∃ n37 : Nat, wp_L_lines_57 p4 Qm n37 x15 0 (-1) 0 M14)) ∧ (0 ≤ (M1 107 0 ((6 * p4) + 5)) → wp_L_lines_22 p4 Qm M1))))
set_option maxHeartbeats 4000000 in
set_option maxRecDepth 100000 in
theorem t_L_lines_22 {p4 : Int} (X : CX p m c cL_lines 11 s args RL G B κ meth (some .int)) (hp4 : inR p4) {Qm : Int → Mem → Prop} : ∀ M : Mem, wp_L_lines_22 p4 Qm M → ∀ (H : Heap) (locs : List Loc), Rp G e0 α κ B M H → va_S (fun q => B ≤ q) s.heap H locs → ∀ (ls : Array Slot), lv_has ls 11 [(0, .ref (α 104 0)), (1, .ref (α 107 0)), (4, .int (Int32.ofInt p4))] → WI p l e 2 s m args below meth c G e0 α κ B Qm H locs 22 ls [] := by
  intro M hw H locs hR hS ls hl
  have hw : wp_L_shows p4 M fun (x5 : Int) (M4 : Mem) => Qm (if ¬ x5 = 0 then (1 : Int) else 0) M4 := hw
  refine lv_aload_n X.1.1 X.1.2.1 dL_lines_22 rfl (lv_at hl 0 rfl) ?_
  refine lv_aload_n X.1.1 X.1.2.1 dL_lines_23 rfl (lv_at hl 1 rfl) ?_
  refine lv_iload X.1.1 X.1.2.1 dL_lines_24 (lv_at hl 2 rfl) ?_
  refine cs_L_shows X hp4 (kc := 2) rmL_ok rm_c (by decide) hR hS kw_1235 hl.1 dL_lines_26 (Nat.le_of_ble_eq_true rfl) hw (fun x5 M4 H locs hw r6 hR hS => ?_)
  have r7 := inR_ite (c := ¬ x5 = 0) (inR_c (a := 1) rfl) (inR_c (a := 0) rfl)
  refine cut_j (A := ∀ v8 : Int, v8 = (if ¬ x5 = 0 then (1 : Int) else 0) → WI p l e 2 s m args below meth c G e0 α κ B Qm H locs 37 ls [.int (Int32.ofInt v8)]) (fun J9 => ?_) ?_
  · refine sa_if_ne (tgt := 36) X.1 r6 dL_lines_29 (by decide) (fun hc => ?_) (fun hc => ?_)
    · skip
      refine sa_const X.1 dL_lines_36 ?_
      exact J9 (1) (if_pos (c := ¬ x5 = 0) hc).symm
    · skip
      refine sa_const X.1 dL_lines_32 ?_
      refine lv_goto (tgt := 37) X.1.1 X.1.2.1 dL_lines_33 (by decide) ?_
      exact J9 (0) (if_neg (c := ¬ x5 = 0) (fun z => z hc)).symm
  intro v8 hv8
  subst hv8
  exact sa_iret X.1 X.2.2.2.1 X.2.2.2.2 hR hS r7 hw dL_lines_37
set_option maxHeartbeats 4000000 in
set_option maxRecDepth 100000 in
theorem t_L_lines_156 {p4 : Int} (X : CX p m c cL_lines 11 s args RL G B κ meth (some .int)) (hp4 : inR p4) {Qm : Int → Mem → Prop} {K57 : Int → Int → Int → Int → Mem → Prop} (hK57 : ∀ y5 : Int, ∀ y6 : Int, ∀ y7 : Int, ∀ y8 : Int, ∀ M : Mem, K57 y5 y6 y7 y8 M → inR y5 → inR y6 → inR y7 → inR y8 → ∀ (H : Heap) (locs : List Loc), Rp G e0 α κ B M H → va_S (fun q => B ≤ q) s.heap H locs → ∀ (ls : Array Slot), lv_has ls 11 [(2, .ref (α 108 0)), (4, .int (Int32.ofInt p4)), (5, .int (Int32.ofInt y5)), (6, .int (Int32.ofInt y6)), (7, .int (Int32.ofInt y7)), (8, .int (Int32.ofInt y8))] → WI p l e 2 s m args below meth c G e0 α κ B Qm H locs 57 ls []) : ∀ y5 : Int, ∀ y6 : Int, ∀ y7 : Int, ∀ y8 : Int, ∀ y9 : Int, ∀ M : Mem, wp_L_lines_156 p4 Qm K57 y5 y6 y7 y8 y9 M → inR y5 → inR y6 → inR y7 → inR y8 → inR y9 → ∀ (H : Heap) (locs : List Loc), Rp G e0 α κ B M H → va_S (fun q => B ≤ q) s.heap H locs → ∀ (ls : Array Slot), lv_has ls 11 [(2, .ref (α 108 0)), (4, .int (Int32.ofInt p4)), (5, .int (Int32.ofInt y5)), (6, .int (Int32.ofInt y6)), (7, .int (Int32.ofInt y7)), (8, .int (Int32.ofInt y8)), (9, .int (Int32.ofInt y9))] → WI p l e 2 s m args below meth c G e0 α κ B Qm H locs 156 ls [] := by
  intro y5 y6 y7 y8 y9 M hw hy5 hy6 hy7 hy8 hy9 H locs hR hS ls hl
  have hw : (inR (y9 + 1)) ∧ (inR (y7 - (y9 + 1))) ∧ (inR (y8 + 1)) ∧ K57 y5 y6 (if 0 ≤ (y7 - (y9 + 1)) then (y7 - (y9 + 1)) else (-1)) (y8 + 1) M := hw
  refine lv_iload X.1.1 X.1.2.1 dL_lines_156 (lv_at hl 4 rfl) ?_
  refine lv_iload X.1.1 X.1.2.1 dL_lines_158 (lv_at hl 6 rfl) ?_
  refine sa_const X.1 dL_lines_160 ?_
  have c27 := hw.1
  have hw := hw.2
  refine sa_iadd X.1 dL_lines_161 ?_
  have c28 := hw.1
  have hw := hw.2
  refine sa_isub X.1 dL_lines_162 ?_
  refine lv_istore (lv' := [(7, .int (Int32.ofInt (y7 - (y9 + 1)))), (2, .ref (α 108 0)), (4, .int (Int32.ofInt p4)), (5, .int (Int32.ofInt y5)), (6, .int (Int32.ofInt y6)), (8, .int (Int32.ofInt y8)), (9, .int (Int32.ofInt y9))]) X.1.1 X.1.2.1 dL_lines_163 hl (by decide) rfl (fun ls hl => ?_)
  refine lv_iload X.1.1 X.1.2.1 dL_lines_165 (lv_at hl 0 rfl) ?_
  have r29 := inR_ite (c := 0 ≤ (y7 - (y9 + 1))) c28 (inR_c (a := -1) rfl)
  refine cut_j (A := ∀ v30 : Int, v30 = (if 0 ≤ (y7 - (y9 + 1)) then (y7 - (y9 + 1)) else (-1)) → WI p l e 2 s m args below meth c G e0 α κ B Qm H locs 176 ls [.int (Int32.ofInt v30)]) (fun J31 => ?_) ?_
  · refine sa_if_ge (tgt := 174) X.1 c28 dL_lines_167 (by decide) (fun hc => ?_) (fun hc => ?_)
    · skip
      refine lv_iload X.1.1 X.1.2.1 dL_lines_174 (lv_at hl 0 rfl) ?_
      exact J31 ((y7 - (y9 + 1))) (if_pos (c := 0 ≤ (y7 - (y9 + 1))) hc).symm
    · skip
      refine sa_const X.1 dL_lines_170 ?_
      refine lv_goto (tgt := 176) X.1.1 X.1.2.1 dL_lines_171 (by decide) ?_
      exact J31 ((-1)) (if_neg (c := 0 ≤ (y7 - (y9 + 1))) (Int.not_le.mpr hc)).symm
  intro v30 hv30
  subst hv30
  refine lv_istore (lv' := [(7, .int (Int32.ofInt (if 0 ≤ (y7 - (y9 + 1)) then (y7 - (y9 + 1)) else (-1)))), (2, .ref (α 108 0)), (4, .int (Int32.ofInt p4)), (5, .int (Int32.ofInt y5)), (6, .int (Int32.ofInt y6)), (8, .int (Int32.ofInt y8)), (9, .int (Int32.ofInt y9))]) X.1.1 X.1.2.1 dL_lines_176 hl (by decide) rfl (fun ls hl => ?_)
  have c32 := hw.1
  have hw := hw.2
  refine lv_iinc (v := Int32.ofInt (y8 + 1)) (lv' := [(8, .int (Int32.ofInt (y8 + 1))), (7, .int (Int32.ofInt (if 0 ≤ (y7 - (y9 + 1)) then (y7 - (y9 + 1)) else (-1)))), (2, .ref (α 108 0)), (4, .int (Int32.ofInt p4)), (5, .int (Int32.ofInt y5)), (6, .int (Int32.ofInt y6)), (9, .int (Int32.ofInt y9))]) X.1.1 X.1.2.1 dL_lines_178 hl (k := 5) rfl (Int32.ofInt_add _ _).symm (by decide) rfl (fun ls hl => ?_)
  refine lv_goto (tgt := 57) X.1.1 X.1.2.1 dL_lines_181 (by decide) ?_
  exact hK57 _ _ _ _ _ hw hy5 hy6 r29 c32 _ _ hR hS _ (lv_sub hl [2, 3, 4, 5, 1, 0] rfl)
set_option maxHeartbeats 4000000 in
set_option maxRecDepth 100000 in
theorem t_L_lines_121 {p4 : Int} (X : CX p m c cL_lines 11 s args RL G B κ meth (some .int)) (hp4 : inR p4) {Qm : Int → Mem → Prop} {K57 : Int → Int → Int → Int → Mem → Prop} (hK57 : ∀ y5 : Int, ∀ y6 : Int, ∀ y7 : Int, ∀ y8 : Int, ∀ M : Mem, K57 y5 y6 y7 y8 M → inR y5 → inR y6 → inR y7 → inR y8 → ∀ (H : Heap) (locs : List Loc), Rp G e0 α κ B M H → va_S (fun q => B ≤ q) s.heap H locs → ∀ (ls : Array Slot), lv_has ls 11 [(2, .ref (α 108 0)), (4, .int (Int32.ofInt p4)), (5, .int (Int32.ofInt y5)), (6, .int (Int32.ofInt y6)), (7, .int (Int32.ofInt y7)), (8, .int (Int32.ofInt y8))] → WI p l e 2 s m args below meth c G e0 α κ B Qm H locs 57 ls []) : ∀ y5 : Int, ∀ y6 : Int, ∀ y7 : Int, ∀ y8 : Int, ∀ y9 : Int, ∀ y10 : Int, ∀ M : Mem, wp_L_lines_121 p4 Qm K57 y5 y6 y7 y8 y9 y10 M → inR y5 → inR y6 → inR y7 → inR y8 → inR y9 → inR y10 → ∀ (H : Heap) (locs : List Loc), Rp G e0 α κ B M H → va_S (fun q => B ≤ q) s.heap H locs → ∀ (ls : Array Slot), lv_has ls 11 [(2, .ref (α 108 0)), (4, .int (Int32.ofInt p4)), (5, .int (Int32.ofInt y5)), (6, .int (Int32.ofInt y6)), (7, .int (Int32.ofInt y7)), (8, .int (Int32.ofInt y8)), (9, .int (Int32.ofInt y9)), (10, .int (Int32.ofInt y10))] → WI p l e 2 s m args below meth c G e0 α κ B Qm H locs 121 ls [] := by
  intro y5 y6 y7 y8 y9 y10 M hw hy5 hy6 hy7 hy8 hy9 hy10 H locs hR hS ls hl
  have hw : ((y9 ≤ y7 → wp_L_lines_156 p4 Qm K57 y5 y6 y7 y8 y9 M) ∧ (y7 < y9 → ((y10 ≤ 0 → wp_L_lines_156 p4 Qm K57 y5 y6 y7 y8 y9 M) ∧ (0 < y10 → (inR (y10 + 1)) ∧ ((y7 < (y10 + 1) → wp_L_lines_156 p4 Qm K57 y5 y6 y7 y8 y9 M) ∧ ((y10 + 1) ≤ y7 → (inR (y6 + 1)) ∧ (inR (y9 - y10)) ∧ wp_L_lines_156 p4 Qm K57 y5 (y6 + 1) y5 y8 (y9 - y10) M)))))) := hw
  refine lv_iload X.1.1 X.1.2.1 dL_lines_121 (lv_at hl 6 rfl) ?_
  refine lv_iload X.1.1 X.1.2.1 dL_lines_123 (lv_at hl 4 rfl) ?_
  refine sa_icmp_le (tgt := 156) X.1 hy9 hy7 dL_lines_125 (by decide) (fun hc => ?_) (fun hc => ?_)
  · have hw := hw.1 hc
    exact t_L_lines_156 X hp4 hK57 _ _ _ _ _ _ hw hy5 hy6 hy7 hy8 hy9 _ _ hR hS _ (lv_sub hl [0, 1, 2, 3, 4, 5, 6] rfl)
  · have hw := hw.2 hc
    refine lv_iload X.1.1 X.1.2.1 dL_lines_128 (lv_at hl 7 rfl) ?_
    refine sa_if_le (tgt := 156) X.1 hy10 dL_lines_130 (by decide) (fun hc => ?_) (fun hc => ?_)
    · have hw := hw.1 hc
      exact t_L_lines_156 X hp4 hK57 _ _ _ _ _ _ hw hy5 hy6 hy7 hy8 hy9 _ _ hR hS _ (lv_sub hl [0, 1, 2, 3, 4, 5, 6] rfl)
    · have hw := hw.2 hc
      refine lv_iload X.1.1 X.1.2.1 dL_lines_133 (lv_at hl 7 rfl) ?_
      refine sa_const X.1 dL_lines_135 ?_
      have c33 := hw.1
      have hw := hw.2
      refine sa_iadd X.1 dL_lines_136 ?_
      refine lv_iload X.1.1 X.1.2.1 dL_lines_137 (lv_at hl 4 rfl) ?_
      refine sa_icmp_gt (tgt := 156) X.1 c33 hy7 dL_lines_139 (by decide) (fun hc => ?_) (fun hc => ?_)
      · have hw := hw.1 hc
        exact t_L_lines_156 X hp4 hK57 _ _ _ _ _ _ hw hy5 hy6 hy7 hy8 hy9 _ _ hR hS _ (lv_sub hl [0, 1, 2, 3, 4, 5, 6] rfl)
      · have hw := hw.2 hc
        have c34 := hw.1
        have hw := hw.2
        refine lv_iinc (v := Int32.ofInt (y6 + 1)) (lv' := [(6, .int (Int32.ofInt (y6 + 1))), (2, .ref (α 108 0)), (4, .int (Int32.ofInt p4)), (5, .int (Int32.ofInt y5)), (7, .int (Int32.ofInt y7)), (8, .int (Int32.ofInt y8)), (9, .int (Int32.ofInt y9)), (10, .int (Int32.ofInt y10))]) X.1.1 X.1.2.1 dL_lines_142 hl (k := 3) rfl (Int32.ofInt_add _ _).symm (by decide) rfl (fun ls hl => ?_)
        refine lv_iload X.1.1 X.1.2.1 dL_lines_145 (lv_at hl 6 rfl) ?_
        refine lv_iload X.1.1 X.1.2.1 dL_lines_147 (lv_at hl 7 rfl) ?_
        have c35 := hw.1
        have hw := hw.2
        refine sa_isub X.1 dL_lines_149 ?_
        refine lv_istore (lv' := [(9, .int (Int32.ofInt (y9 - y10))), (6, .int (Int32.ofInt (y6 + 1))), (2, .ref (α 108 0)), (4, .int (Int32.ofInt p4)), (5, .int (Int32.ofInt y5)), (7, .int (Int32.ofInt y7)), (8, .int (Int32.ofInt y8)), (10, .int (Int32.ofInt y10))]) X.1.1 X.1.2.1 dL_lines_150 hl (by decide) rfl (fun ls hl => ?_)
        refine lv_iload X.1.1 X.1.2.1 dL_lines_152 (lv_at hl 4 rfl) ?_
        refine lv_istore (lv' := [(7, .int (Int32.ofInt y5)), (9, .int (Int32.ofInt (y9 - y10))), (6, .int (Int32.ofInt (y6 + 1))), (2, .ref (α 108 0)), (4, .int (Int32.ofInt p4)), (5, .int (Int32.ofInt y5)), (8, .int (Int32.ofInt y8)), (10, .int (Int32.ofInt y10))]) X.1.1 X.1.2.1 dL_lines_154 hl (by decide) rfl (fun ls hl => ?_)
        exact t_L_lines_156 X hp4 hK57 _ _ _ _ _ _ hw hy5 c34 hy5 hy8 c35 _ _ hR hS _ (lv_sub hl [3, 4, 5, 2, 0, 6, 1] rfl)
set_option maxHeartbeats 4000000 in
set_option maxRecDepth 100000 in
theorem t_L_lines_114 {p4 : Int} (X : CX p m c cL_lines 11 s args RL G B κ meth (some .int)) (hp4 : inR p4) {Qm : Int → Mem → Prop} {K57 : Int → Int → Int → Int → Mem → Prop} (hK57 : ∀ y5 : Int, ∀ y6 : Int, ∀ y7 : Int, ∀ y8 : Int, ∀ M : Mem, K57 y5 y6 y7 y8 M → inR y5 → inR y6 → inR y7 → inR y8 → ∀ (H : Heap) (locs : List Loc), Rp G e0 α κ B M H → va_S (fun q => B ≤ q) s.heap H locs → ∀ (ls : Array Slot), lv_has ls 11 [(2, .ref (α 108 0)), (4, .int (Int32.ofInt p4)), (5, .int (Int32.ofInt y5)), (6, .int (Int32.ofInt y6)), (7, .int (Int32.ofInt y7)), (8, .int (Int32.ofInt y8))] → WI p l e 2 s m args below meth c G e0 α κ B Qm H locs 57 ls []) : ∀ y5 : Int, ∀ y6 : Int, ∀ y8 : Int, ∀ y9 : Int, ∀ y10 : Int, ∀ M : Mem, wp_L_lines_114 p4 Qm K57 y5 y6 y8 y9 y10 M → inR y5 → inR y6 → inR y8 → inR y9 → inR y10 → ∀ (H : Heap) (locs : List Loc), Rp G e0 α κ B M H → va_S (fun q => B ≤ q) s.heap H locs → ∀ (ls : Array Slot), lv_has ls 11 [(2, .ref (α 108 0)), (4, .int (Int32.ofInt p4)), (5, .int (Int32.ofInt y5)), (6, .int (Int32.ofInt y6)), (8, .int (Int32.ofInt y8)), (9, .int (Int32.ofInt y9)), (10, .int (Int32.ofInt y10))] → WI p l e 2 s m args below meth c G e0 α κ B Qm H locs 114 ls [] := by
  intro y5 y6 y8 y9 y10 M hw hy5 hy6 hy8 hy9 hy10 H locs hR hS ls hl
  have hw : (inR (y6 + 1)) ∧ wp_L_lines_121 p4 Qm K57 y5 (y6 + 1) y5 y8 y9 y10 M := hw
  have c26 := hw.1
  have hw := hw.2
  refine lv_iinc (v := Int32.ofInt (y6 + 1)) (lv' := [(6, .int (Int32.ofInt (y6 + 1))), (2, .ref (α 108 0)), (4, .int (Int32.ofInt p4)), (5, .int (Int32.ofInt y5)), (8, .int (Int32.ofInt y8)), (9, .int (Int32.ofInt y9)), (10, .int (Int32.ofInt y10))]) X.1.1 X.1.2.1 dL_lines_114 hl (k := 3) rfl (Int32.ofInt_add _ _).symm (by decide) rfl (fun ls hl => ?_)
  refine lv_iload X.1.1 X.1.2.1 dL_lines_117 (lv_at hl 3 rfl) ?_
  refine lv_istore (lv' := [(7, .int (Int32.ofInt y5)), (6, .int (Int32.ofInt (y6 + 1))), (2, .ref (α 108 0)), (4, .int (Int32.ofInt p4)), (5, .int (Int32.ofInt y5)), (8, .int (Int32.ofInt y8)), (9, .int (Int32.ofInt y9)), (10, .int (Int32.ofInt y10))]) X.1.1 X.1.2.1 dL_lines_119 hl (by decide) rfl (fun ls hl => ?_)
  exact t_L_lines_121 X hp4 hK57 _ _ _ _ _ _ _ hw hy5 c26 hy5 hy8 hy9 hy10 _ _ hR hS _ (lv_sub hl [2, 3, 4, 1, 0, 5, 6, 7] rfl)
set_option maxHeartbeats 4000000 in
set_option maxRecDepth 100000 in
theorem t_L_lines_57 {p4 : Int} (X : CX p m c cL_lines 11 s args RL G B κ meth (some .int)) (hp4 : inR p4) {Qm : Int → Mem → Prop} : ∀ n : Nat, ∀ y5 : Int, ∀ y6 : Int, ∀ y7 : Int, ∀ y8 : Int, ∀ M : Mem, wp_L_lines_57 p4 Qm n y5 y6 y7 y8 M → inR y5 → inR y6 → inR y7 → inR y8 → ∀ (H : Heap) (locs : List Loc), Rp G e0 α κ B M H → va_S (fun q => B ≤ q) s.heap H locs → ∀ (ls : Array Slot), lv_has ls 11 [(2, .ref (α 108 0)), (4, .int (Int32.ofInt p4)), (5, .int (Int32.ofInt y5)), (6, .int (Int32.ofInt y6)), (7, .int (Int32.ofInt y7)), (8, .int (Int32.ofInt y8))] → WI p l e 2 s m args below meth c G e0 α κ B Qm H locs 57 ls [] := by
  intro n
  induction n with
  | zero =>
    intro y5 y6 y7 y8 M hw hy5 hy6 hy7 hy8 H locs hR hS ls hl
    exact hw.elim
  | succ n ih =>
    intro y5 y6 y7 y8 M hw hy5 hy6 hy7 hy8 H locs hR hS ls hl
    have hw : wp_L_words p4 M fun (x18 : Int) (M17 : Mem) => ((x18 ≤ y8 → Qm y6 M17) ∧ (y8 < x18 → wp_L_length p4 y8 M17 fun (x21 : Int) (M20 : Mem) => wp_L_cut p4 y8 M20 fun (x24 : Int) (M23 : Mem) => ((y7 < 0 → wp_L_lines_114 p4 Qm (wp_L_lines_57 p4 Qm n) y5 y6 y8 x21 x24 M23) ∧ (0 ≤ y7 → ((x21 ≤ y7 → wp_L_lines_121 p4 Qm (wp_L_lines_57 p4 Qm n) y5 y6 y7 y8 x21 x24 M23) ∧ (y7 < x21 → ((x24 = 0 → wp_L_lines_114 p4 Qm (wp_L_lines_57 p4 Qm n) y5 y6 y8 x21 x24 M23) ∧ (¬ x24 = 0 → (inR (x24 + 1)) ∧ (((x24 + 1) ≤ y7 → wp_L_lines_121 p4 Qm (wp_L_lines_57 p4 Qm n) y5 y6 y7 y8 x21 x24 M23) ∧ (y7 < (x24 + 1) → wp_L_lines_114 p4 Qm (wp_L_lines_57 p4 Qm n) y5 y6 y8 x21 x24 M23)))))))))) := hw
    refine lv_iload X.1.1 X.1.2.1 dL_lines_57 (lv_at hl 5 rfl) ?_
    refine lv_aload_n X.1.1 X.1.2.1 dL_lines_59 rfl (lv_at hl 0 rfl) ?_
    refine lv_iload X.1.1 X.1.2.1 dL_lines_60 (lv_at hl 1 rfl) ?_
    refine cs_L_words X hp4 (kc := 2) rmL_ok rm_c (by decide) hR hS kw_1066 hl.1 dL_lines_62 (Nat.le_of_ble_eq_true rfl) hw (fun x18 M17 H locs hw r19 hR hS => ?_)
    refine sa_icmp_ge (tgt := 184) X.1 hy8 r19 dL_lines_65 (by decide) (fun hc => ?_) (fun hc => ?_)
    · have hw := hw.1 hc
      refine lv_iload X.1.1 X.1.2.1 dL_lines_184 (lv_at hl 3 rfl) ?_
      exact sa_iret X.1 X.2.2.2.1 X.2.2.2.2 hR hS hy6 hw dL_lines_186
    · have hw := hw.2 hc
      refine lv_aload_n X.1.1 X.1.2.1 dL_lines_68 rfl (lv_at hl 0 rfl) ?_
      refine lv_iload X.1.1 X.1.2.1 dL_lines_69 (lv_at hl 1 rfl) ?_
      refine lv_iload X.1.1 X.1.2.1 dL_lines_71 (lv_at hl 5 rfl) ?_
      refine cs_L_length X hp4 hy8 (kc := 2) rmL_ok rm_c (by decide) hR hS kw_1241 hl.1 dL_lines_73 (Nat.le_of_ble_eq_true rfl) hw (fun x21 M20 H locs hw r22 hR hS => ?_)
      refine lv_istore (lv' := [(9, .int (Int32.ofInt x21)), (2, .ref (α 108 0)), (4, .int (Int32.ofInt p4)), (5, .int (Int32.ofInt y5)), (6, .int (Int32.ofInt y6)), (7, .int (Int32.ofInt y7)), (8, .int (Int32.ofInt y8))]) X.1.1 X.1.2.1 dL_lines_76 hl (by decide) rfl (fun ls hl => ?_)
      refine lv_aload_n X.1.1 X.1.2.1 dL_lines_78 rfl (lv_at hl 1 rfl) ?_
      refine lv_iload X.1.1 X.1.2.1 dL_lines_79 (lv_at hl 2 rfl) ?_
      refine lv_iload X.1.1 X.1.2.1 dL_lines_81 (lv_at hl 6 rfl) ?_
      refine cs_L_cut X hp4 hy8 (kc := 2) rmL_ok rm_c (by decide) hR hS kw_1245 hl.1 dL_lines_83 (Nat.le_of_ble_eq_true rfl) hw (fun x24 M23 H locs hw r25 hR hS => ?_)
      refine lv_istore (lv' := [(10, .int (Int32.ofInt x24)), (9, .int (Int32.ofInt x21)), (2, .ref (α 108 0)), (4, .int (Int32.ofInt p4)), (5, .int (Int32.ofInt y5)), (6, .int (Int32.ofInt y6)), (7, .int (Int32.ofInt y7)), (8, .int (Int32.ofInt y8))]) X.1.1 X.1.2.1 dL_lines_86 hl (by decide) rfl (fun ls hl => ?_)
      refine lv_iload X.1.1 X.1.2.1 dL_lines_88 (lv_at hl 6 rfl) ?_
      refine sa_if_lt (tgt := 114) X.1 hy7 dL_lines_90 (by decide) (fun hc => ?_) (fun hc => ?_)
      · have hw := hw.1 hc
        exact t_L_lines_114 X hp4 ih _ _ _ _ _ _ hw hy5 hy6 hy8 r22 r25 _ _ hR hS _ (lv_sub hl [2, 3, 4, 5, 7, 1, 0] rfl)
      · have hw := hw.2 hc
        refine lv_iload X.1.1 X.1.2.1 dL_lines_93 (lv_at hl 1 rfl) ?_
        refine lv_iload X.1.1 X.1.2.1 dL_lines_95 (lv_at hl 6 rfl) ?_
        refine sa_icmp_le (tgt := 121) X.1 r22 hy7 dL_lines_97 (by decide) (fun hc => ?_) (fun hc => ?_)
        · have hw := hw.1 hc
          exact t_L_lines_121 X hp4 ih _ _ _ _ _ _ _ hw hy5 hy6 hy7 hy8 r22 r25 _ _ hR hS _ (lv_sub hl [2, 3, 4, 5, 6, 7, 1, 0] rfl)
        · have hw := hw.2 hc
          refine lv_iload X.1.1 X.1.2.1 dL_lines_100 (lv_at hl 0 rfl) ?_
          refine sa_if_eq (tgt := 114) X.1 r25 dL_lines_102 (by decide) (fun hc => ?_) (fun hc => ?_)
          · have hw := hw.1 hc
            exact t_L_lines_114 X hp4 ih _ _ _ _ _ _ hw hy5 hy6 hy8 r22 r25 _ _ hR hS _ (lv_sub hl [2, 3, 4, 5, 7, 1, 0] rfl)
          · have hw := hw.2 hc
            refine lv_iload X.1.1 X.1.2.1 dL_lines_105 (lv_at hl 0 rfl) ?_
            refine sa_const X.1 dL_lines_107 ?_
            have c36 := hw.1
            have hw := hw.2
            refine sa_iadd X.1 dL_lines_108 ?_
            refine lv_iload X.1.1 X.1.2.1 dL_lines_109 (lv_at hl 6 rfl) ?_
            refine sa_icmp_le (tgt := 121) X.1 c36 hy7 dL_lines_111 (by decide) (fun hc => ?_) (fun hc => ?_)
            · have hw := hw.1 hc
              exact t_L_lines_121 X hp4 ih _ _ _ _ _ _ _ hw hy5 hy6 hy7 hy8 r22 r25 _ _ hR hS _ (lv_sub hl [2, 3, 4, 5, 6, 7, 1, 0] rfl)
            · have hw := hw.2 hc
              exact t_L_lines_114 X hp4 ih _ _ _ _ _ _ hw hy5 hy6 hy8 r22 r25 _ _ hR hS _ (lv_sub hl [2, 3, 4, 5, 7, 1, 0] rfl)
set_option maxHeartbeats 4000000 in
set_option maxRecDepth 100000 in
theorem t_L_lines {p4 : Int} (X : CX p m c cL_lines 11 s args RL G B κ meth (some .int)) (hp4 : inR p4) {M : Mem} {Qm : Int → Mem → Prop} (hw : wp_L_lines p4 M Qm) (H : Heap) (locs : List Loc) (hR : Rp G e0 α κ B M H) (hS : va_S (fun q => B ≤ q) s.heap H locs) (ls : Array Slot) (hl : lv_has ls 11 [(0, .ref (α 104 0)), (1, .ref (α 107 0)), (2, .ref (α 108 0)), (3, .ref (α 113 0)), (4, .int (Int32.ofInt p4))]) : WI p l e 2 s m args below meth c G e0 α κ B Qm H locs 0 ls [] := by
  have hw : wp_L_shows p4 M fun (x2 : Int) (M1 : Mem) => ((x2 = 0 → wp_L_lines_22 p4 Qm M1) ∧ (¬ x2 = 0 → (inR (6 * p4)) ∧ (inR ((6 * p4) + 5)) ∧ (0 ≤ ((6 * p4) + 5) ∧ ((6 * p4) + 5) < 60) ∧ (((M1 107 0 ((6 * p4) + 5)) < 0 → wp_L_across p4 M1 fun (x15 : Int) (M14 : Mem) => (∃ n37 : Nat, wp_L_lines_57 p4 Qm n37 x15 0 (-1) 0 M14)) ∧ (0 ≤ (M1 107 0 ((6 * p4) + 5)) → wp_L_lines_22 p4 Qm M1)))) := hw
  refine lv_aload_n X.1.1 X.1.2.1 dL_lines_0 rfl (lv_at hl 0 rfl) ?_
  refine lv_aload_n X.1.1 X.1.2.1 dL_lines_1 rfl (lv_at hl 1 rfl) ?_
  refine lv_iload X.1.1 X.1.2.1 dL_lines_2 (lv_at hl 4 rfl) ?_
  refine cs_L_shows X hp4 (kc := 2) rmL_ok rm_c (by decide) hR hS kw_1235 hl.1 dL_lines_4 (Nat.le_of_ble_eq_true rfl) hw (fun x2 M1 H locs hw r3 hR hS => ?_)
  refine sa_if_eq (tgt := 22) X.1 r3 dL_lines_7 (by decide) (fun hc => ?_) (fun hc => ?_)
  · have hw := hw.1 hc
    exact t_L_lines_22 X hp4 _ hw _ _ hR hS _ (lv_sub hl [0, 1, 4] rfl)
  · have hw := hw.2 hc
    refine lv_aload_n X.1.1 X.1.2.1 dL_lines_10 rfl (lv_at hl 1 rfl) ?_
    refine sa_bipush X.1 dL_lines_11 (by decide) ?_
    refine lv_iload X.1.1 X.1.2.1 dL_lines_13 (lv_at hl 4 rfl) ?_
    have c10 := hw.1
    have hw := hw.2
    refine sa_imul X.1 dL_lines_15 ?_
    refine sa_const X.1 dL_lines_16 ?_
    have c11 := hw.1
    have hw := hw.2
    refine sa_iadd X.1 dL_lines_17 ?_
    have c12 := hw.1
    have hw := hw.2
    refine ra_107 X hR (okf X.2.2.1 rfl) c12 dL_lines_18 ?_
    have r13 := hR.r 107 0 ((6 * p4) + 5)
    refine sa_if_lt (tgt := 38) X.1 r13 dL_lines_19 (by decide) (fun hc => ?_) (fun hc => ?_)
    · have hw := hw.1 hc
      refine lv_aload_n X.1.1 X.1.2.1 dL_lines_38 rfl (lv_at hl 0 rfl) ?_
      refine lv_aload_n X.1.1 X.1.2.1 dL_lines_39 rfl (lv_at hl 1 rfl) ?_
      refine lv_aload_n X.1.1 X.1.2.1 dL_lines_40 rfl (lv_at hl 3 rfl) ?_
      refine lv_iload X.1.1 X.1.2.1 dL_lines_41 (lv_at hl 4 rfl) ?_
      refine cs_L_across X hp4 (kc := 2) rmL_ok rm_c (by decide) hR hS kw_1257 hl.1 dL_lines_43 (Nat.le_of_ble_eq_true rfl) hw (fun x15 M14 H locs hw r16 hR hS => ?_)
      refine lv_istore (lv' := [(5, .int (Int32.ofInt x15)), (0, .ref (α 104 0)), (1, .ref (α 107 0)), (2, .ref (α 108 0)), (3, .ref (α 113 0)), (4, .int (Int32.ofInt p4))]) X.1.1 X.1.2.1 dL_lines_46 hl (by decide) rfl (fun ls hl => ?_)
      refine sa_const X.1 dL_lines_48 ?_
      refine lv_istore (lv' := [(6, .int (Int32.ofInt 0)), (5, .int (Int32.ofInt x15)), (0, .ref (α 104 0)), (1, .ref (α 107 0)), (2, .ref (α 108 0)), (3, .ref (α 113 0)), (4, .int (Int32.ofInt p4))]) X.1.1 X.1.2.1 dL_lines_49 hl (by decide) rfl (fun ls hl => ?_)
      refine sa_const X.1 dL_lines_51 ?_
      refine lv_istore (lv' := [(7, .int (Int32.ofInt (-1))), (6, .int (Int32.ofInt 0)), (5, .int (Int32.ofInt x15)), (0, .ref (α 104 0)), (1, .ref (α 107 0)), (2, .ref (α 108 0)), (3, .ref (α 113 0)), (4, .int (Int32.ofInt p4))]) X.1.1 X.1.2.1 dL_lines_52 hl (by decide) rfl (fun ls hl => ?_)
      refine sa_const X.1 dL_lines_54 ?_
      refine lv_istore (lv' := [(8, .int (Int32.ofInt 0)), (7, .int (Int32.ofInt (-1))), (6, .int (Int32.ofInt 0)), (5, .int (Int32.ofInt x15)), (0, .ref (α 104 0)), (1, .ref (α 107 0)), (2, .ref (α 108 0)), (3, .ref (α 113 0)), (4, .int (Int32.ofInt p4))]) X.1.1 X.1.2.1 dL_lines_55 hl (by decide) rfl (fun ls hl => ?_)
      obtain ⟨n37, hw⟩ := hw
      exact t_L_lines_57 X hp4 n37 _ _ _ _ _ hw r16 (inR_c (a := 0) rfl) (inR_c (a := -1) rfl) (inR_c (a := 0) rfl) _ _ hR hS _ (lv_sub hl [6, 8, 3, 2, 1, 0] rfl)
    · have hw := hw.2 hc
      exact t_L_lines_22 X hp4 _ hw _ _ hR hS _ (lv_sub hl [0, 1, 4] rfl)
theorem m_L_lines {l : Launch} {G : Gx} {e0 : Nat} {α : Ax} {κ : Nat → Int} {B : Nat} {p4 : Int} (hκ : kOK κ) (hp4 : inR p4) {M : Mem} {Qm : Int → Mem → Prop} (hw : wp_L_lines p4 M Qm) : CI l yL_lines (Cond.code yL_lines cL_lines 11 (some .int)) 2 G e0 α κ B [.ref (α 104 0), .ref (α 107 0), .ref (α 108 0), .ref (α 113 0), .int (Int32.ofInt p4)] M Qm :=
  CI.mk hκ (by decide +kernel) rfl (Nat.le_of_ble_eq_true rfl) (lv := [(0, .ref (α 104 0)), (1, .ref (α 107 0)), (2, .ref (α 108 0)), (3, .ref (α 113 0)), (4, .int (Int32.ofInt p4))]) rfl (fun p e s m args below meth c ls X hR hS hl => t_L_lines X hp4 hw _ _ hR hS ls hl)
theorem cs_L_lines {cc : ByteArray} {nL : Nat} {own : String} {ret : Option FieldType} {idx pc : Nat} {p4 : Int} (X : CX p m c cc nL s args own G B κ meth ret) (hp4 : inR p4) {kc : Nat} {R : Room} {cells slots : Nat} (hRr : RmOK R kc) (hcel : cells ≤ R.cells ∧ slots ≤ R.slots) (hk : 2 + 1 ≤ kc) {M : Mem} {H : Heap} {locs : List Loc} (hR : Rp G e0 α κ B M H) (hS : va_S (fun q => B ≤ q) s.heap H locs) (k1 : Cond.methodLink own idx yL_lines ∈ gw) {ls : Array Slot} (hml : ls.size = nL) {rest : List Value} (hd : decode cc pc = .ok (.invokestatic idx, 3)) (hrest : (rest.map fun v => v.category).sum ≤ 8) {Q : State → Prop} {Qm : Int → Mem → Prop} (hw : wp_L_lines p4 M Qm) (kk : ∀ (r : Int) (M1 : Mem) (H1 : Heap) (locs1 : List Loc), Qm r M1 → inR r → Rp G e0 α κ B M1 H1 → va_S (fun q => B ≤ q) s.heap H1 locs1 → W p l e R s m args below meth c H1 locs1 cells slots Q (F0 m (pc + 3) ls (.int (Int32.ofInt r) :: rest))) : W p l e R s m args below meth c H locs cells slots Q (F0 m pc ls (.int (Int32.ofInt p4) :: .ref (α 113 0) :: .ref (α 108 0) :: .ref (α 107 0) :: .ref (α 104 0) :: rest)) :=
  sa_callSI 2 (n := 5) (As := [.ref (α 104 0), .ref (α 107 0), .ref (α 108 0), .ref (α 113 0), .int (Int32.ofInt p4)]) (rest := rest) X.1 X.2.1 hR hS (m_L_lines X.2.2.1 hp4 hw) k1 kw_1255 kw_37 kw_1256 ⟨by decide +kernel, by decide +kernel, by decide +kernel⟩ (rm_ok hRr hk (by decide)) rfl rfl hrest hml hd hcel kk
def wp_L_heights_131 (Qm : Mem → Prop) (K30 : Int → Mem → Prop) (K39 : Int → Int → Mem → Prop) (y6 : Int) (y7 : Int) (y8 : Int) (y9 : Int) (M : Mem) : Prop := (inR (6 * y7)) ∧ (inR ((6 * y7) + 2)) ∧ (0 ≤ ((6 * y7) + 2) ∧ ((6 * y7) + 2) < 60) ∧ (inR (y8 + (M 107 0 ((6 * y7) + 2)))) ∧ (inR ((y8 + (M 107 0 ((6 * y7) + 2))) - 1)) ∧ (0 ≤ ((y8 + (M 107 0 ((6 * y7) + 2))) - 1) ∧ ((y8 + (M 107 0 ((6 * y7) + 2))) - 1) < 10) ∧ (inR (20 + (M 106 0 ((y8 + (M 107 0 ((6 * y7) + 2))) - 1)))) ∧ (0 ≤ (20 + (M 106 0 ((y8 + (M 107 0 ((6 * y7) + 2))) - 1))) ∧ (20 + (M 106 0 ((y8 + (M 107 0 ((6 * y7) + 2))) - 1))) < 30) ∧ (inR ((M 113 0 (20 + (M 106 0 ((y8 + (M 107 0 ((6 * y7) + 2))) - 1)))) + (if y9 ≤ 0 then (0 : Int) else y9))) ∧ (0 ≤ (20 + (M 106 0 ((y8 + (M 107 0 ((6 * y7) + 2))) - 1))) ∧ (20 + (M 106 0 ((y8 + (M 107 0 ((6 * y7) + 2))) - 1))) < 30) ∧ ∀ M31 : Mem, M31 = up M 113 0 (20 + (M 106 0 ((y8 + (M 107 0 ((6 * y7) + 2))) - 1))) ((M 113 0 (20 + (M 106 0 ((y8 + (M 107 0 ((6 * y7) + 2))) - 1)))) + (if y9 ≤ 0 then (0 : Int) else y9)) → (inR (y7 + 1)) ∧ K39 y6 (y7 + 1) M31
def wp_L_heights_95 (Qm : Mem → Prop) (K30 : Int → Mem → Prop) (K39 : Int → Int → Mem → Prop) : Nat → Int → Int → Int → Int → Int → Mem → Prop
  | 0 => fun _ _ _ _ _ _ => False
  | n + 1 => fun y6 y7 y8 y9 y10 M => (inR (y8 + y6)) ∧ (((y8 + y6) ≤ y10 → wp_L_heights_131 Qm K30 K39 y6 y7 y8 y9 M) ∧ (y10 < (y8 + y6) → ((y9 ≤ 0 → wp_L_heights_131 Qm K30 K39 y6 y7 y8 y9 M) ∧ (0 < y9 → (0 ≤ y10 ∧ y10 < 10) ∧ (inR (20 + (M 106 0 y10))) ∧ (0 ≤ (20 + (M 106 0 y10)) ∧ (20 + (M 106 0 y10)) < 30) ∧ (inR (y9 - (M 113 0 (20 + (M 106 0 y10))))) ∧ (inR (y10 + 1)) ∧ wp_L_heights_95 Qm K30 K39 n y6 y7 y8 (y9 - (M 113 0 (20 + (M 106 0 y10)))) (y10 + 1) M))))
def wp_L_heights_89 (Qm : Mem → Prop) (K30 : Int → Mem → Prop) (K39 : Int → Int → Mem → Prop) (y6 : Int) (y7 : Int) (y8 : Int) (z0 : Int) (M : Mem) : Prop := (∃ n41 : Nat, wp_L_heights_95 Qm K30 K39 n41 y6 y7 y8 z0 y8 M)
def wp_L_heights_39 (Qm : Mem → Prop) (K30 : Int → Mem → Prop) : Nat → Int → Int → Mem → Prop
  | 0 => fun _ _ _ => False
  | n + 1 => fun y6 y7 M => (((M 112 0 2) ≤ y7 → (inR (y6 + 1)) ∧ K30 (y6 + 1) M) ∧ (y7 < (M 112 0 2) → (inR (6 * y7)) ∧ (0 ≤ (6 * y7) ∧ (6 * y7) < 60) ∧ wp_L_placeOf (M 107 0 (6 * y7)) M fun (x8 : Int) (M7 : Mem) => (inR (6 * y7)) ∧ (inR ((6 * y7) + 2)) ∧ (0 ≤ ((6 * y7) + 2) ∧ ((6 * y7) + 2) < 60) ∧ ((¬ (M7 107 0 ((6 * y7) + 2)) = y6 → wp_L_heights_89 Qm K30 (wp_L_heights_39 Qm K30 n) y6 y7 x8 0 M7) ∧ ((M7 107 0 ((6 * y7) + 2)) = y6 → wp_L_lines y7 M7 fun (x43 : Int) (M42 : Mem) => wp_L_heights_89 Qm K30 (wp_L_heights_39 Qm K30 n) y6 y7 x8 x43 M42))))
def wp_L_heights_30 (Qm : Mem → Prop) : Nat → Int → Mem → Prop
  | 0 => fun _ _ => False
  | n + 1 => fun y6 M => ((5 ≤ y6 → Qm M) ∧ (y6 < 5 → (∃ n45 : Nat, wp_L_heights_39 Qm (wp_L_heights_30 Qm n) n45 y6 0 M)))
def wp_L_heights_3 (Qm : Mem → Prop) : Nat → Int → Mem → Prop
  | 0 => fun _ _ => False
  | n + 1 => fun y6 M => (((M 112 0 1) ≤ y6 → (∃ n46 : Nat, wp_L_heights_30 Qm n46 1 M)) ∧ (y6 < (M 112 0 1) → (inR (20 + y6)) ∧ (0 ≤ (20 + y6) ∧ (20 + y6) < 30) ∧ ∀ M49 : Mem, M49 = up M 113 0 (20 + y6) 1 → (inR (y6 + 1)) ∧ wp_L_heights_3 Qm n (y6 + 1) M49))
def wp_L_heights (M : Mem) (Qm : Mem → Prop) : Prop := (∃ n52 : Nat, wp_L_heights_3 Qm n52 0 M)
set_option maxHeartbeats 4000000 in
set_option maxRecDepth 100000 in
theorem t_L_heights_131 (X : CX p m c cL_heights 11 s args RL G B κ meth none) {Qm : Mem → Prop} {K30 : Int → Mem → Prop} {K39 : Int → Int → Mem → Prop} (hK30 : ∀ y6 : Int, ∀ M : Mem, K30 y6 M → inR y6 → ∀ (H : Heap) (locs : List Loc), Rp G e0 α κ B M H → va_S (fun q => B ≤ q) s.heap H locs → ∀ (ls : Array Slot), lv_has ls 11 [(0, .ref (α 104 0)), (1, .ref (α 106 0)), (2, .ref (α 107 0)), (3, .ref (α 108 0)), (4, .ref (α 112 0)), (5, .ref (α 113 0)), (6, .int (Int32.ofInt y6))] → WV p l e 3 s m args below meth c G e0 α κ B Qm H locs 30 ls []) (hK39 : ∀ y6 : Int, ∀ y7 : Int, ∀ M : Mem, K39 y6 y7 M → inR y6 → inR y7 → ∀ (H : Heap) (locs : List Loc), Rp G e0 α κ B M H → va_S (fun q => B ≤ q) s.heap H locs → ∀ (ls : Array Slot), lv_has ls 11 [(0, .ref (α 104 0)), (1, .ref (α 106 0)), (2, .ref (α 107 0)), (3, .ref (α 108 0)), (4, .ref (α 112 0)), (5, .ref (α 113 0)), (6, .int (Int32.ofInt y6)), (7, .int (Int32.ofInt y7))] → WV p l e 3 s m args below meth c G e0 α κ B Qm H locs 39 ls []) : ∀ y6 : Int, ∀ y7 : Int, ∀ y8 : Int, ∀ y9 : Int, ∀ M : Mem, wp_L_heights_131 Qm K30 K39 y6 y7 y8 y9 M → inR y6 → inR y7 → inR y8 → inR y9 → ∀ (H : Heap) (locs : List Loc), Rp G e0 α κ B M H → va_S (fun q => B ≤ q) s.heap H locs → ∀ (ls : Array Slot), lv_has ls 11 [(0, .ref (α 104 0)), (1, .ref (α 106 0)), (2, .ref (α 107 0)), (3, .ref (α 108 0)), (4, .ref (α 112 0)), (5, .ref (α 113 0)), (6, .int (Int32.ofInt y6)), (7, .int (Int32.ofInt y7)), (8, .int (Int32.ofInt y8)), (9, .int (Int32.ofInt y9))] → WV p l e 3 s m args below meth c G e0 α κ B Qm H locs 131 ls [] := by
  intro y6 y7 y8 y9 M hw hy6 hy7 hy8 hy9 H locs hR hS ls hl
  have hw : (inR (6 * y7)) ∧ (inR ((6 * y7) + 2)) ∧ (0 ≤ ((6 * y7) + 2) ∧ ((6 * y7) + 2) < 60) ∧ (inR (y8 + (M 107 0 ((6 * y7) + 2)))) ∧ (inR ((y8 + (M 107 0 ((6 * y7) + 2))) - 1)) ∧ (0 ≤ ((y8 + (M 107 0 ((6 * y7) + 2))) - 1) ∧ ((y8 + (M 107 0 ((6 * y7) + 2))) - 1) < 10) ∧ (inR (20 + (M 106 0 ((y8 + (M 107 0 ((6 * y7) + 2))) - 1)))) ∧ (0 ≤ (20 + (M 106 0 ((y8 + (M 107 0 ((6 * y7) + 2))) - 1))) ∧ (20 + (M 106 0 ((y8 + (M 107 0 ((6 * y7) + 2))) - 1))) < 30) ∧ (inR ((M 113 0 (20 + (M 106 0 ((y8 + (M 107 0 ((6 * y7) + 2))) - 1)))) + (if y9 ≤ 0 then (0 : Int) else y9))) ∧ (0 ≤ (20 + (M 106 0 ((y8 + (M 107 0 ((6 * y7) + 2))) - 1))) ∧ (20 + (M 106 0 ((y8 + (M 107 0 ((6 * y7) + 2))) - 1))) < 30) ∧ ∀ M31 : Mem, M31 = up M 113 0 (20 + (M 106 0 ((y8 + (M 107 0 ((6 * y7) + 2))) - 1))) ((M 113 0 (20 + (M 106 0 ((y8 + (M 107 0 ((6 * y7) + 2))) - 1)))) + (if y9 ≤ 0 then (0 : Int) else y9)) → (inR (y7 + 1)) ∧ K39 y6 (y7 + 1) M31 := hw
  refine lv_aload X.1.1 X.1.2.1 dL_heights_131 (lv_at hl 5 rfl) ?_
  refine sa_bipush X.1 dL_heights_133 (by decide) ?_
  refine lv_aload_n X.1.1 X.1.2.1 dL_heights_135 rfl (lv_at hl 1 rfl) ?_
  refine lv_iload X.1.1 X.1.2.1 dL_heights_136 (lv_at hl 8 rfl) ?_
  refine lv_aload_n X.1.1 X.1.2.1 dL_heights_138 rfl (lv_at hl 2 rfl) ?_
  refine sa_bipush X.1 dL_heights_139 (by decide) ?_
  refine lv_iload X.1.1 X.1.2.1 dL_heights_141 (lv_at hl 7 rfl) ?_
  have c15 := hw.1
  have hw := hw.2
  refine sa_imul X.1 dL_heights_143 ?_
  refine sa_const X.1 dL_heights_144 ?_
  have c16 := hw.1
  have hw := hw.2
  refine sa_iadd X.1 dL_heights_145 ?_
  have c17 := hw.1
  have hw := hw.2
  refine ra_107 X hR (okf X.2.2.1 rfl) c17 dL_heights_146 ?_
  have r18 := hR.r 107 0 ((6 * y7) + 2)
  have c19 := hw.1
  have hw := hw.2
  refine sa_iadd X.1 dL_heights_147 ?_
  refine sa_const X.1 dL_heights_148 ?_
  have c20 := hw.1
  have hw := hw.2
  refine sa_isub X.1 dL_heights_149 ?_
  have c21 := hw.1
  have hw := hw.2
  refine ra_106 X hR (okf X.2.2.1 rfl) c21 dL_heights_150 ?_
  have r22 := hR.r 106 0 ((y8 + (M 107 0 ((6 * y7) + 2))) - 1)
  have c23 := hw.1
  have hw := hw.2
  refine sa_iadd X.1 dL_heights_151 ?_
  refine lv_dup2_11 X.1.1 X.1.2.1 dL_heights_152 rfl rfl ?_
  have c24 := hw.1
  have hw := hw.2
  refine ra_113 X hR (okf X.2.2.1 rfl) c24 dL_heights_153 ?_
  have r25 := hR.r 113 0 (20 + (M 106 0 ((y8 + (M 107 0 ((6 * y7) + 2))) - 1)))
  refine lv_iload X.1.1 X.1.2.1 dL_heights_154 (lv_at hl 9 rfl) ?_
  have r26 := inR_ite (c := y9 ≤ 0) (inR_c (a := 0) rfl) hy9
  refine cut_j (A := ∀ v27 : Int, v27 = (if y9 ≤ 0 then (0 : Int) else y9) → WV p l e 3 s m args below meth c G e0 α κ B Qm H locs 165 ls [.int (Int32.ofInt v27), .int (Int32.ofInt (M 113 0 (20 + (M 106 0 ((y8 + (M 107 0 ((6 * y7) + 2))) - 1))))), .int (Int32.ofInt (20 + (M 106 0 ((y8 + (M 107 0 ((6 * y7) + 2))) - 1)))), .ref (α 113 0)]) (fun J28 => ?_) ?_
  · refine sa_if_le (tgt := 164) X.1 hy9 dL_heights_156 (by decide) (fun hc => ?_) (fun hc => ?_)
    · skip
      refine sa_const X.1 dL_heights_164 ?_
      exact J28 (0) (if_pos (c := y9 ≤ 0) hc).symm
    · skip
      refine lv_iload X.1.1 X.1.2.1 dL_heights_159 (lv_at hl 9 rfl) ?_
      refine lv_goto (tgt := 165) X.1.1 X.1.2.1 dL_heights_161 (by decide) ?_
      exact J28 (y9) (if_neg (c := y9 ≤ 0) (Int.not_le.mpr hc)).symm
  intro v27 hv27
  subst hv27
  have c29 := hw.1
  have hw := hw.2
  refine sa_iadd X.1 dL_heights_165 ?_
  have c30 := hw.1
  have hw := hw.2
  refine wa_113 X hR hS (okf X.2.2.1 rfl) c30 c29 dL_heights_166 (fun H locs hR hS => ?_)
  obtain ⟨M31, e32⟩ : ∃ z : Mem, z = up M 113 0 (20 + (M 106 0 ((y8 + (M 107 0 ((6 * y7) + 2))) - 1))) ((M 113 0 (20 + (M 106 0 ((y8 + (M 107 0 ((6 * y7) + 2))) - 1)))) + (if y9 ≤ 0 then (0 : Int) else y9)) := ⟨_, rfl⟩
  rw [← e32] at hR
  have hw := hw M31 e32
  have c33 := hw.1
  have hw := hw.2
  refine lv_iinc (v := Int32.ofInt (y7 + 1)) (lv' := [(7, .int (Int32.ofInt (y7 + 1))), (0, .ref (α 104 0)), (1, .ref (α 106 0)), (2, .ref (α 107 0)), (3, .ref (α 108 0)), (4, .ref (α 112 0)), (5, .ref (α 113 0)), (6, .int (Int32.ofInt y6)), (8, .int (Int32.ofInt y8)), (9, .int (Int32.ofInt y9))]) X.1.1 X.1.2.1 dL_heights_167 hl (k := 7) rfl (Int32.ofInt_add _ _).symm (by decide) rfl (fun ls hl => ?_)
  refine lv_goto (tgt := 39) X.1.1 X.1.2.1 dL_heights_170 (by decide) ?_
  exact hK39 _ _ _ hw hy6 c33 _ _ hR hS _ (lv_sub hl [1, 2, 3, 4, 5, 6, 7, 0] rfl)
set_option maxHeartbeats 4000000 in
set_option maxRecDepth 100000 in
theorem t_L_heights_95 (X : CX p m c cL_heights 11 s args RL G B κ meth none) {Qm : Mem → Prop} {K30 : Int → Mem → Prop} {K39 : Int → Int → Mem → Prop} (hK30 : ∀ y6 : Int, ∀ M : Mem, K30 y6 M → inR y6 → ∀ (H : Heap) (locs : List Loc), Rp G e0 α κ B M H → va_S (fun q => B ≤ q) s.heap H locs → ∀ (ls : Array Slot), lv_has ls 11 [(0, .ref (α 104 0)), (1, .ref (α 106 0)), (2, .ref (α 107 0)), (3, .ref (α 108 0)), (4, .ref (α 112 0)), (5, .ref (α 113 0)), (6, .int (Int32.ofInt y6))] → WV p l e 3 s m args below meth c G e0 α κ B Qm H locs 30 ls []) (hK39 : ∀ y6 : Int, ∀ y7 : Int, ∀ M : Mem, K39 y6 y7 M → inR y6 → inR y7 → ∀ (H : Heap) (locs : List Loc), Rp G e0 α κ B M H → va_S (fun q => B ≤ q) s.heap H locs → ∀ (ls : Array Slot), lv_has ls 11 [(0, .ref (α 104 0)), (1, .ref (α 106 0)), (2, .ref (α 107 0)), (3, .ref (α 108 0)), (4, .ref (α 112 0)), (5, .ref (α 113 0)), (6, .int (Int32.ofInt y6)), (7, .int (Int32.ofInt y7))] → WV p l e 3 s m args below meth c G e0 α κ B Qm H locs 39 ls []) : ∀ n : Nat, ∀ y6 : Int, ∀ y7 : Int, ∀ y8 : Int, ∀ y9 : Int, ∀ y10 : Int, ∀ M : Mem, wp_L_heights_95 Qm K30 K39 n y6 y7 y8 y9 y10 M → inR y6 → inR y7 → inR y8 → inR y9 → inR y10 → ∀ (H : Heap) (locs : List Loc), Rp G e0 α κ B M H → va_S (fun q => B ≤ q) s.heap H locs → ∀ (ls : Array Slot), lv_has ls 11 [(0, .ref (α 104 0)), (1, .ref (α 106 0)), (2, .ref (α 107 0)), (3, .ref (α 108 0)), (4, .ref (α 112 0)), (5, .ref (α 113 0)), (6, .int (Int32.ofInt y6)), (7, .int (Int32.ofInt y7)), (8, .int (Int32.ofInt y8)), (9, .int (Int32.ofInt y9)), (10, .int (Int32.ofInt y10))] → WV p l e 3 s m args below meth c G e0 α κ B Qm H locs 95 ls [] := by
  intro n
  induction n with
  | zero =>
    intro y6 y7 y8 y9 y10 M hw hy6 hy7 hy8 hy9 hy10 H locs hR hS ls hl
    exact hw.elim
  | succ n ih =>
    intro y6 y7 y8 y9 y10 M hw hy6 hy7 hy8 hy9 hy10 H locs hR hS ls hl
    have hw : (inR (y8 + y6)) ∧ (((y8 + y6) ≤ y10 → wp_L_heights_131 Qm K30 K39 y6 y7 y8 y9 M) ∧ (y10 < (y8 + y6) → ((y9 ≤ 0 → wp_L_heights_131 Qm K30 K39 y6 y7 y8 y9 M) ∧ (0 < y9 → (0 ≤ y10 ∧ y10 < 10) ∧ (inR (20 + (M 106 0 y10))) ∧ (0 ≤ (20 + (M 106 0 y10)) ∧ (20 + (M 106 0 y10)) < 30) ∧ (inR (y9 - (M 113 0 (20 + (M 106 0 y10))))) ∧ (inR (y10 + 1)) ∧ wp_L_heights_95 Qm K30 K39 n y6 y7 y8 (y9 - (M 113 0 (20 + (M 106 0 y10)))) (y10 + 1) M)))) := hw
    refine lv_iload X.1.1 X.1.2.1 dL_heights_95 (lv_at hl 10 rfl) ?_
    refine lv_iload X.1.1 X.1.2.1 dL_heights_97 (lv_at hl 8 rfl) ?_
    refine lv_iload X.1.1 X.1.2.1 dL_heights_99 (lv_at hl 6 rfl) ?_
    have c14 := hw.1
    have hw := hw.2
    refine sa_iadd X.1 dL_heights_101 ?_
    refine sa_icmp_ge (tgt := 131) X.1 hy10 c14 dL_heights_102 (by decide) (fun hc => ?_) (fun hc => ?_)
    · have hw := hw.1 hc
      exact t_L_heights_131 X hK30 hK39 _ _ _ _ _ hw hy6 hy7 hy8 hy9 _ _ hR hS _ (lv_sub hl [0, 1, 2, 3, 4, 5, 6, 7, 8, 9] rfl)
    · have hw := hw.2 hc
      refine lv_iload X.1.1 X.1.2.1 dL_heights_105 (lv_at hl 9 rfl) ?_
      refine sa_if_le (tgt := 131) X.1 hy9 dL_heights_107 (by decide) (fun hc => ?_) (fun hc => ?_)
      · have hw := hw.1 hc
        exact t_L_heights_131 X hK30 hK39 _ _ _ _ _ hw hy6 hy7 hy8 hy9 _ _ hR hS _ (lv_sub hl [0, 1, 2, 3, 4, 5, 6, 7, 8, 9] rfl)
      · have hw := hw.2 hc
        refine lv_iload X.1.1 X.1.2.1 dL_heights_110 (lv_at hl 9 rfl) ?_
        refine lv_aload X.1.1 X.1.2.1 dL_heights_112 (lv_at hl 5 rfl) ?_
        refine sa_bipush X.1 dL_heights_114 (by decide) ?_
        refine lv_aload_n X.1.1 X.1.2.1 dL_heights_116 rfl (lv_at hl 1 rfl) ?_
        refine lv_iload X.1.1 X.1.2.1 dL_heights_117 (lv_at hl 10 rfl) ?_
        have c34 := hw.1
        have hw := hw.2
        refine ra_106 X hR (okf X.2.2.1 rfl) c34 dL_heights_119 ?_
        have r35 := hR.r 106 0 y10
        have c36 := hw.1
        have hw := hw.2
        refine sa_iadd X.1 dL_heights_120 ?_
        have c37 := hw.1
        have hw := hw.2
        refine ra_113 X hR (okf X.2.2.1 rfl) c37 dL_heights_121 ?_
        have r38 := hR.r 113 0 (20 + (M 106 0 y10))
        have c39 := hw.1
        have hw := hw.2
        refine sa_isub X.1 dL_heights_122 ?_
        refine lv_istore (lv' := [(9, .int (Int32.ofInt (y9 - (M 113 0 (20 + (M 106 0 y10)))))), (0, .ref (α 104 0)), (1, .ref (α 106 0)), (2, .ref (α 107 0)), (3, .ref (α 108 0)), (4, .ref (α 112 0)), (5, .ref (α 113 0)), (6, .int (Int32.ofInt y6)), (7, .int (Int32.ofInt y7)), (8, .int (Int32.ofInt y8)), (10, .int (Int32.ofInt y10))]) X.1.1 X.1.2.1 dL_heights_123 hl (by decide) rfl (fun ls hl => ?_)
        have c40 := hw.1
        have hw := hw.2
        refine lv_iinc (v := Int32.ofInt (y10 + 1)) (lv' := [(10, .int (Int32.ofInt (y10 + 1))), (9, .int (Int32.ofInt (y9 - (M 113 0 (20 + (M 106 0 y10)))))), (0, .ref (α 104 0)), (1, .ref (α 106 0)), (2, .ref (α 107 0)), (3, .ref (α 108 0)), (4, .ref (α 112 0)), (5, .ref (α 113 0)), (6, .int (Int32.ofInt y6)), (7, .int (Int32.ofInt y7)), (8, .int (Int32.ofInt y8))]) X.1.1 X.1.2.1 dL_heights_125 hl (k := 10) rfl (Int32.ofInt_add _ _).symm (by decide) rfl (fun ls hl => ?_)
        refine lv_goto (tgt := 95) X.1.1 X.1.2.1 dL_heights_128 (by decide) ?_
        exact ih _ _ _ _ _ _ hw hy6 hy7 hy8 c39 c40 _ _ hR hS _ (lv_sub hl [2, 3, 4, 5, 6, 7, 8, 9, 10, 1, 0] rfl)
set_option maxHeartbeats 4000000 in
set_option maxRecDepth 100000 in
theorem t_L_heights_89 (X : CX p m c cL_heights 11 s args RL G B κ meth none) {Qm : Mem → Prop} {K30 : Int → Mem → Prop} {K39 : Int → Int → Mem → Prop} (hK30 : ∀ y6 : Int, ∀ M : Mem, K30 y6 M → inR y6 → ∀ (H : Heap) (locs : List Loc), Rp G e0 α κ B M H → va_S (fun q => B ≤ q) s.heap H locs → ∀ (ls : Array Slot), lv_has ls 11 [(0, .ref (α 104 0)), (1, .ref (α 106 0)), (2, .ref (α 107 0)), (3, .ref (α 108 0)), (4, .ref (α 112 0)), (5, .ref (α 113 0)), (6, .int (Int32.ofInt y6))] → WV p l e 3 s m args below meth c G e0 α κ B Qm H locs 30 ls []) (hK39 : ∀ y6 : Int, ∀ y7 : Int, ∀ M : Mem, K39 y6 y7 M → inR y6 → inR y7 → ∀ (H : Heap) (locs : List Loc), Rp G e0 α κ B M H → va_S (fun q => B ≤ q) s.heap H locs → ∀ (ls : Array Slot), lv_has ls 11 [(0, .ref (α 104 0)), (1, .ref (α 106 0)), (2, .ref (α 107 0)), (3, .ref (α 108 0)), (4, .ref (α 112 0)), (5, .ref (α 113 0)), (6, .int (Int32.ofInt y6)), (7, .int (Int32.ofInt y7))] → WV p l e 3 s m args below meth c G e0 α κ B Qm H locs 39 ls []) : ∀ y6 : Int, ∀ y7 : Int, ∀ y8 : Int, ∀ z0 : Int, ∀ M : Mem, wp_L_heights_89 Qm K30 K39 y6 y7 y8 z0 M → inR y6 → inR y7 → inR y8 → inR z0 → ∀ (H : Heap) (locs : List Loc), Rp G e0 α κ B M H → va_S (fun q => B ≤ q) s.heap H locs → ∀ (ls : Array Slot), lv_has ls 11 [(0, .ref (α 104 0)), (1, .ref (α 106 0)), (2, .ref (α 107 0)), (3, .ref (α 108 0)), (4, .ref (α 112 0)), (5, .ref (α 113 0)), (6, .int (Int32.ofInt y6)), (7, .int (Int32.ofInt y7)), (8, .int (Int32.ofInt y8))] → WV p l e 3 s m args below meth c G e0 α κ B Qm H locs 89 ls [.int (Int32.ofInt z0)] := by
  intro y6 y7 y8 z0 M hw hy6 hy7 hy8 hz0 H locs hR hS ls hl
  have hw : (∃ n41 : Nat, wp_L_heights_95 Qm K30 K39 n41 y6 y7 y8 z0 y8 M) := hw
  refine lv_istore (lv' := [(9, .int (Int32.ofInt z0)), (0, .ref (α 104 0)), (1, .ref (α 106 0)), (2, .ref (α 107 0)), (3, .ref (α 108 0)), (4, .ref (α 112 0)), (5, .ref (α 113 0)), (6, .int (Int32.ofInt y6)), (7, .int (Int32.ofInt y7)), (8, .int (Int32.ofInt y8))]) X.1.1 X.1.2.1 dL_heights_89 hl (by decide) rfl (fun ls hl => ?_)
  refine lv_iload X.1.1 X.1.2.1 dL_heights_91 (lv_at hl 9 rfl) ?_
  refine lv_istore (lv' := [(10, .int (Int32.ofInt y8)), (9, .int (Int32.ofInt z0)), (0, .ref (α 104 0)), (1, .ref (α 106 0)), (2, .ref (α 107 0)), (3, .ref (α 108 0)), (4, .ref (α 112 0)), (5, .ref (α 113 0)), (6, .int (Int32.ofInt y6)), (7, .int (Int32.ofInt y7)), (8, .int (Int32.ofInt y8))]) X.1.1 X.1.2.1 dL_heights_93 hl (by decide) rfl (fun ls hl => ?_)
  obtain ⟨n41, hw⟩ := hw
  exact t_L_heights_95 X hK30 hK39 n41 _ _ _ _ _ _ hw hy6 hy7 hy8 hz0 hy8 _ _ hR hS _ (lv_sub hl [2, 3, 4, 5, 6, 7, 8, 9, 10, 1, 0] rfl)
set_option maxHeartbeats 4000000 in
set_option maxRecDepth 100000 in
theorem t_L_heights_39 (X : CX p m c cL_heights 11 s args RL G B κ meth none) {Qm : Mem → Prop} {K30 : Int → Mem → Prop} (hK30 : ∀ y6 : Int, ∀ M : Mem, K30 y6 M → inR y6 → ∀ (H : Heap) (locs : List Loc), Rp G e0 α κ B M H → va_S (fun q => B ≤ q) s.heap H locs → ∀ (ls : Array Slot), lv_has ls 11 [(0, .ref (α 104 0)), (1, .ref (α 106 0)), (2, .ref (α 107 0)), (3, .ref (α 108 0)), (4, .ref (α 112 0)), (5, .ref (α 113 0)), (6, .int (Int32.ofInt y6))] → WV p l e 3 s m args below meth c G e0 α κ B Qm H locs 30 ls []) : ∀ n : Nat, ∀ y6 : Int, ∀ y7 : Int, ∀ M : Mem, wp_L_heights_39 Qm K30 n y6 y7 M → inR y6 → inR y7 → ∀ (H : Heap) (locs : List Loc), Rp G e0 α κ B M H → va_S (fun q => B ≤ q) s.heap H locs → ∀ (ls : Array Slot), lv_has ls 11 [(0, .ref (α 104 0)), (1, .ref (α 106 0)), (2, .ref (α 107 0)), (3, .ref (α 108 0)), (4, .ref (α 112 0)), (5, .ref (α 113 0)), (6, .int (Int32.ofInt y6)), (7, .int (Int32.ofInt y7))] → WV p l e 3 s m args below meth c G e0 α κ B Qm H locs 39 ls [] := by
  intro n
  induction n with
  | zero =>
    intro y6 y7 M hw hy6 hy7 H locs hR hS ls hl
    exact hw.elim
  | succ n ih =>
    intro y6 y7 M hw hy6 hy7 H locs hR hS ls hl
    have hw : (((M 112 0 2) ≤ y7 → (inR (y6 + 1)) ∧ K30 (y6 + 1) M) ∧ (y7 < (M 112 0 2) → (inR (6 * y7)) ∧ (0 ≤ (6 * y7) ∧ (6 * y7) < 60) ∧ wp_L_placeOf (M 107 0 (6 * y7)) M fun (x8 : Int) (M7 : Mem) => (inR (6 * y7)) ∧ (inR ((6 * y7) + 2)) ∧ (0 ≤ ((6 * y7) + 2) ∧ ((6 * y7) + 2) < 60) ∧ ((¬ (M7 107 0 ((6 * y7) + 2)) = y6 → wp_L_heights_89 Qm K30 (wp_L_heights_39 Qm K30 n) y6 y7 x8 0 M7) ∧ ((M7 107 0 ((6 * y7) + 2)) = y6 → wp_L_lines y7 M7 fun (x43 : Int) (M42 : Mem) => wp_L_heights_89 Qm K30 (wp_L_heights_39 Qm K30 n) y6 y7 x8 x43 M42)))) := hw
    refine lv_iload X.1.1 X.1.2.1 dL_heights_39 (lv_at hl 7 rfl) ?_
    refine lv_aload X.1.1 X.1.2.1 dL_heights_41 (lv_at hl 4 rfl) ?_
    refine sa_const X.1 dL_heights_43 ?_
    refine ra_112 X hR (okf X.2.2.1 rfl) ⟨by decide, by decide⟩ dL_heights_44 ?_
    have r2 := hR.r 112 0 2
    refine sa_icmp_ge (tgt := 173) X.1 hy7 r2 dL_heights_45 (by decide) (fun hc => ?_) (fun hc => ?_)
    · have hw := hw.1 hc
      have c3 := hw.1
      have hw := hw.2
      refine lv_iinc (v := Int32.ofInt (y6 + 1)) (lv' := [(6, .int (Int32.ofInt (y6 + 1))), (0, .ref (α 104 0)), (1, .ref (α 106 0)), (2, .ref (α 107 0)), (3, .ref (α 108 0)), (4, .ref (α 112 0)), (5, .ref (α 113 0)), (7, .int (Int32.ofInt y7))]) X.1.1 X.1.2.1 dL_heights_173 hl (k := 6) rfl (Int32.ofInt_add _ _).symm (by decide) rfl (fun ls hl => ?_)
      refine lv_goto (tgt := 30) X.1.1 X.1.2.1 dL_heights_176 (by decide) ?_
      exact hK30 _ _ hw c3 _ _ hR hS _ (lv_sub hl [1, 2, 3, 4, 5, 6, 0] rfl)
    · have hw := hw.2 hc
      refine lv_aload_n X.1.1 X.1.2.1 dL_heights_48 rfl (lv_at hl 1 rfl) ?_
      refine lv_aload_n X.1.1 X.1.2.1 dL_heights_49 rfl (lv_at hl 2 rfl) ?_
      refine sa_bipush X.1 dL_heights_50 (by decide) ?_
      refine lv_iload X.1.1 X.1.2.1 dL_heights_52 (lv_at hl 7 rfl) ?_
      have c4 := hw.1
      have hw := hw.2
      refine sa_imul X.1 dL_heights_54 ?_
      have c5 := hw.1
      have hw := hw.2
      refine ra_107 X hR (okf X.2.2.1 rfl) c5 dL_heights_55 ?_
      have r6 := hR.r 107 0 (6 * y7)
      refine cs_L_placeOf X r6 (kc := 3) rmL_ok rm_c (by decide) hR hS kw_925 hl.1 dL_heights_56 (Nat.le_of_ble_eq_true rfl) hw (fun x8 M7 H locs hw r9 hR hS => ?_)
      refine lv_istore (lv' := [(8, .int (Int32.ofInt x8)), (0, .ref (α 104 0)), (1, .ref (α 106 0)), (2, .ref (α 107 0)), (3, .ref (α 108 0)), (4, .ref (α 112 0)), (5, .ref (α 113 0)), (6, .int (Int32.ofInt y6)), (7, .int (Int32.ofInt y7))]) X.1.1 X.1.2.1 dL_heights_59 hl (by decide) rfl (fun ls hl => ?_)
      refine lv_aload_n X.1.1 X.1.2.1 dL_heights_61 rfl (lv_at hl 3 rfl) ?_
      refine sa_bipush X.1 dL_heights_62 (by decide) ?_
      refine lv_iload X.1.1 X.1.2.1 dL_heights_64 (lv_at hl 8 rfl) ?_
      have c10 := hw.1
      have hw := hw.2
      refine sa_imul X.1 dL_heights_66 ?_
      refine sa_const X.1 dL_heights_67 ?_
      have c11 := hw.1
      have hw := hw.2
      refine sa_iadd X.1 dL_heights_68 ?_
      have c12 := hw.1
      have hw := hw.2
      refine ra_107 X hR (okf X.2.2.1 rfl) c12 dL_heights_69 ?_
      have r13 := hR.r 107 0 ((6 * y7) + 2)
      refine lv_iload X.1.1 X.1.2.1 dL_heights_70 (lv_at hl 7 rfl) ?_
      refine sa_icmp_ne (tgt := 88) X.1 r13 hy6 dL_heights_72 (by decide) (fun hc => ?_) (fun hc => ?_)
      · have hw := hw.1 hc
        refine sa_const X.1 dL_heights_88 ?_
        exact t_L_heights_89 X hK30 ih _ _ _ _ _ hw hy6 hy7 r9 (inR_c (a := 0) rfl) _ _ hR hS _ (lv_sub hl [1, 2, 3, 4, 5, 6, 7, 8, 0] rfl)
      · have hw := hw.2 hc
        refine lv_aload_n X.1.1 X.1.2.1 dL_heights_75 rfl (lv_at hl 1 rfl) ?_
        refine lv_aload_n X.1.1 X.1.2.1 dL_heights_76 rfl (lv_at hl 3 rfl) ?_
        refine lv_aload_n X.1.1 X.1.2.1 dL_heights_77 rfl (lv_at hl 4 rfl) ?_
        refine lv_aload X.1.1 X.1.2.1 dL_heights_78 (lv_at hl 6 rfl) ?_
        refine lv_iload X.1.1 X.1.2.1 dL_heights_80 (lv_at hl 8 rfl) ?_
        refine cs_L_lines X hy7 (kc := 3) rmL_ok rm_c (by decide) hR hS kw_1254 hl.1 dL_heights_82 (Nat.le_of_ble_eq_true rfl) hw (fun x43 M42 H locs hw r44 hR hS => ?_)
        refine lv_goto (tgt := 89) X.1.1 X.1.2.1 dL_heights_85 (by decide) ?_
        exact t_L_heights_89 X hK30 ih _ _ _ _ _ hw hy6 hy7 r9 r44 _ _ hR hS _ (lv_sub hl [1, 2, 3, 4, 5, 6, 7, 8, 0] rfl)
set_option maxHeartbeats 4000000 in
set_option maxRecDepth 100000 in
theorem t_L_heights_30 (X : CX p m c cL_heights 11 s args RL G B κ meth none) {Qm : Mem → Prop} : ∀ n : Nat, ∀ y6 : Int, ∀ M : Mem, wp_L_heights_30 Qm n y6 M → inR y6 → ∀ (H : Heap) (locs : List Loc), Rp G e0 α κ B M H → va_S (fun q => B ≤ q) s.heap H locs → ∀ (ls : Array Slot), lv_has ls 11 [(0, .ref (α 104 0)), (1, .ref (α 106 0)), (2, .ref (α 107 0)), (3, .ref (α 108 0)), (4, .ref (α 112 0)), (5, .ref (α 113 0)), (6, .int (Int32.ofInt y6))] → WV p l e 3 s m args below meth c G e0 α κ B Qm H locs 30 ls [] := by
  intro n
  induction n with
  | zero =>
    intro y6 M hw hy6 H locs hR hS ls hl
    exact hw.elim
  | succ n ih =>
    intro y6 M hw hy6 H locs hR hS ls hl
    have hw : ((5 ≤ y6 → Qm M) ∧ (y6 < 5 → (∃ n45 : Nat, wp_L_heights_39 Qm (wp_L_heights_30 Qm n) n45 y6 0 M))) := hw
    refine lv_iload X.1.1 X.1.2.1 dL_heights_30 (lv_at hl 6 rfl) ?_
    refine sa_const X.1 dL_heights_32 ?_
    refine sa_icmp_ge (tgt := 179) X.1 hy6 (inR_c (a := 5) rfl) dL_heights_33 (by decide) (fun hc => ?_) (fun hc => ?_)
    · have hw := hw.1 hc
      exact sa_vret X.1 X.2.2.2.1 X.2.2.2.2 hR hS hw dL_heights_179
    · have hw := hw.2 hc
      refine sa_const X.1 dL_heights_36 ?_
      refine lv_istore (lv' := [(7, .int (Int32.ofInt 0)), (0, .ref (α 104 0)), (1, .ref (α 106 0)), (2, .ref (α 107 0)), (3, .ref (α 108 0)), (4, .ref (α 112 0)), (5, .ref (α 113 0)), (6, .int (Int32.ofInt y6))]) X.1.1 X.1.2.1 dL_heights_37 hl (by decide) rfl (fun ls hl => ?_)
      obtain ⟨n45, hw⟩ := hw
      exact t_L_heights_39 X ih n45 _ _ _ hw hy6 (inR_c (a := 0) rfl) _ _ hR hS _ (lv_sub hl [1, 2, 3, 4, 5, 6, 7, 0] rfl)
set_option maxHeartbeats 4000000 in
set_option maxRecDepth 100000 in
theorem t_L_heights_3 (X : CX p m c cL_heights 11 s args RL G B κ meth none) {Qm : Mem → Prop} : ∀ n : Nat, ∀ y6 : Int, ∀ M : Mem, wp_L_heights_3 Qm n y6 M → inR y6 → ∀ (H : Heap) (locs : List Loc), Rp G e0 α κ B M H → va_S (fun q => B ≤ q) s.heap H locs → ∀ (ls : Array Slot), lv_has ls 11 [(0, .ref (α 104 0)), (1, .ref (α 106 0)), (2, .ref (α 107 0)), (3, .ref (α 108 0)), (4, .ref (α 112 0)), (5, .ref (α 113 0)), (6, .int (Int32.ofInt y6))] → WV p l e 3 s m args below meth c G e0 α κ B Qm H locs 3 ls [] := by
  intro n
  induction n with
  | zero =>
    intro y6 M hw hy6 H locs hR hS ls hl
    exact hw.elim
  | succ n ih =>
    intro y6 M hw hy6 H locs hR hS ls hl
    have hw : (((M 112 0 1) ≤ y6 → (∃ n46 : Nat, wp_L_heights_30 Qm n46 1 M)) ∧ (y6 < (M 112 0 1) → (inR (20 + y6)) ∧ (0 ≤ (20 + y6) ∧ (20 + y6) < 30) ∧ ∀ M49 : Mem, M49 = up M 113 0 (20 + y6) 1 → (inR (y6 + 1)) ∧ wp_L_heights_3 Qm n (y6 + 1) M49)) := hw
    refine lv_iload X.1.1 X.1.2.1 dL_heights_3 (lv_at hl 6 rfl) ?_
    refine lv_aload X.1.1 X.1.2.1 dL_heights_5 (lv_at hl 4 rfl) ?_
    refine sa_const X.1 dL_heights_7 ?_
    refine ra_112 X hR (okf X.2.2.1 rfl) ⟨by decide, by decide⟩ dL_heights_8 ?_
    have r1 := hR.r 112 0 1
    refine sa_icmp_ge (tgt := 27) X.1 hy6 r1 dL_heights_9 (by decide) (fun hc => ?_) (fun hc => ?_)
    · have hw := hw.1 hc
      refine sa_const X.1 dL_heights_27 ?_
      refine lv_istore (lv' := [(6, .int (Int32.ofInt 1)), (0, .ref (α 104 0)), (1, .ref (α 106 0)), (2, .ref (α 107 0)), (3, .ref (α 108 0)), (4, .ref (α 112 0)), (5, .ref (α 113 0))]) X.1.1 X.1.2.1 dL_heights_28 hl (by decide) rfl (fun ls hl => ?_)
      obtain ⟨n46, hw⟩ := hw
      exact t_L_heights_30 X n46 _ _ hw (inR_c (a := 1) rfl) _ _ hR hS _ (lv_sub hl [1, 2, 3, 4, 5, 6, 0] rfl)
    · have hw := hw.2 hc
      refine lv_aload X.1.1 X.1.2.1 dL_heights_12 (lv_at hl 5 rfl) ?_
      refine sa_bipush X.1 dL_heights_14 (by decide) ?_
      refine lv_iload X.1.1 X.1.2.1 dL_heights_16 (lv_at hl 6 rfl) ?_
      have c47 := hw.1
      have hw := hw.2
      refine sa_iadd X.1 dL_heights_18 ?_
      refine sa_const X.1 dL_heights_19 ?_
      have c48 := hw.1
      have hw := hw.2
      refine wa_113 X hR hS (okf X.2.2.1 rfl) c48 (inR_c (a := 1) rfl) dL_heights_20 (fun H locs hR hS => ?_)
      obtain ⟨M49, e50⟩ : ∃ z : Mem, z = up M 113 0 (20 + y6) 1 := ⟨_, rfl⟩
      rw [← e50] at hR
      have hw := hw M49 e50
      have c51 := hw.1
      have hw := hw.2
      refine lv_iinc (v := Int32.ofInt (y6 + 1)) (lv' := [(6, .int (Int32.ofInt (y6 + 1))), (0, .ref (α 104 0)), (1, .ref (α 106 0)), (2, .ref (α 107 0)), (3, .ref (α 108 0)), (4, .ref (α 112 0)), (5, .ref (α 113 0))]) X.1.1 X.1.2.1 dL_heights_21 hl (k := 6) rfl (Int32.ofInt_add _ _).symm (by decide) rfl (fun ls hl => ?_)
      refine lv_goto (tgt := 3) X.1.1 X.1.2.1 dL_heights_24 (by decide) ?_
      exact ih _ _ hw c51 _ _ hR hS _ (lv_sub hl [1, 2, 3, 4, 5, 6, 0] rfl)
set_option maxHeartbeats 4000000 in
set_option maxRecDepth 100000 in
theorem t_L_heights (X : CX p m c cL_heights 11 s args RL G B κ meth none) {M : Mem} {Qm : Mem → Prop} (hw : wp_L_heights M Qm) (H : Heap) (locs : List Loc) (hR : Rp G e0 α κ B M H) (hS : va_S (fun q => B ≤ q) s.heap H locs) (ls : Array Slot) (hl : lv_has ls 11 [(0, .ref (α 104 0)), (1, .ref (α 106 0)), (2, .ref (α 107 0)), (3, .ref (α 108 0)), (4, .ref (α 112 0)), (5, .ref (α 113 0))]) : WV p l e 3 s m args below meth c G e0 α κ B Qm H locs 0 ls [] := by
  have hw : (∃ n52 : Nat, wp_L_heights_3 Qm n52 0 M) := hw
  refine sa_const X.1 dL_heights_0 ?_
  refine lv_istore (lv' := [(6, .int (Int32.ofInt 0)), (0, .ref (α 104 0)), (1, .ref (α 106 0)), (2, .ref (α 107 0)), (3, .ref (α 108 0)), (4, .ref (α 112 0)), (5, .ref (α 113 0))]) X.1.1 X.1.2.1 dL_heights_1 hl (by decide) rfl (fun ls hl => ?_)
  obtain ⟨n52, hw⟩ := hw
  exact t_L_heights_3 X n52 _ _ hw (inR_c (a := 0) rfl) _ _ hR hS _ (lv_sub hl [1, 2, 3, 4, 5, 6, 0] rfl)
theorem m_L_heights {l : Launch} {G : Gx} {e0 : Nat} {α : Ax} {κ : Nat → Int} {B : Nat} (hκ : kOK κ) {M : Mem} {Qm : Mem → Prop} (hw : wp_L_heights M Qm) : CV l yL_heights (Cond.code yL_heights cL_heights 11 none) 3 G e0 α κ B [.ref (α 104 0), .ref (α 106 0), .ref (α 107 0), .ref (α 108 0), .ref (α 112 0), .ref (α 113 0)] M Qm :=
  CV.mk hκ (by decide +kernel) rfl (Nat.le_of_ble_eq_true rfl) (lv := [(0, .ref (α 104 0)), (1, .ref (α 106 0)), (2, .ref (α 107 0)), (3, .ref (α 108 0)), (4, .ref (α 112 0)), (5, .ref (α 113 0))]) rfl (fun p e s m args below meth c ls X hR hS hl => t_L_heights X hw _ _ hR hS ls hl)
theorem cs_L_heights {cc : ByteArray} {nL : Nat} {own : String} {ret : Option FieldType} {idx pc : Nat} (X : CX p m c cc nL s args own G B κ meth ret) {kc : Nat} {R : Room} {cells slots : Nat} (hRr : RmOK R kc) (hcel : cells ≤ R.cells ∧ slots ≤ R.slots) (hk : 3 + 1 ≤ kc) {M : Mem} {H : Heap} {locs : List Loc} (hR : Rp G e0 α κ B M H) (hS : va_S (fun q => B ≤ q) s.heap H locs) (k1 : Cond.methodLink own idx yL_heights ∈ gw) {ls : Array Slot} (hml : ls.size = nL) {rest : List Value} (hd : decode cc pc = .ok (.invokestatic idx, 3)) (hrest : (rest.map fun v => v.category).sum ≤ 8) {Q : State → Prop} {Qm : Mem → Prop} (hw : wp_L_heights M Qm) (kk : ∀ (M1 : Mem) (H1 : Heap) (locs1 : List Loc), Qm M1 → Rp G e0 α κ B M1 H1 → va_S (fun q => B ≤ q) s.heap H1 locs1 → W p l e R s m args below meth c H1 locs1 cells slots Q (F0 m (pc + 3) ls (rest))) : W p l e R s m args below meth c H locs cells slots Q (F0 m pc ls (.ref (α 113 0) :: .ref (α 112 0) :: .ref (α 108 0) :: .ref (α 107 0) :: .ref (α 106 0) :: .ref (α 104 0) :: rest)) :=
  sa_callSV 3 (n := 6) (As := [.ref (α 104 0), .ref (α 106 0), .ref (α 107 0), .ref (α 108 0), .ref (α 112 0), .ref (α 113 0)]) (rest := rest) X.1 X.2.1 hR hS (m_L_heights X.2.2.1 hw) k1 kw_1252 kw_37 kw_1253 ⟨by decide +kernel, by decide +kernel, by decide +kernel⟩ (rm_ok hRr hk (by decide)) rfl rfl hrest hml hd hcel kk
def wp_L_stronger (p0 : Int) (p1 : Int) (p2 : Int) (M : Mem) (Qm : Int → Mem → Prop) : Prop := ((Int.tdiv p0 10) < p1 → (inR (10 * p1)) ∧ (inR ((10 * p1) + p2)) ∧ True) ∧ (inR (if p1 ≤ (Int.tdiv p0 10) then p0 else ((10 * p1) + p2))) ∧ Qm (if p1 ≤ (Int.tdiv p0 10) then p0 else ((10 * p1) + p2)) M
set_option maxHeartbeats 4000000 in
set_option maxRecDepth 100000 in
theorem t_L_stronger {p0 : Int} {p1 : Int} {p2 : Int} (X : CX p m c cL_stronger 3 s args RL G B κ meth (some .int)) (hp0 : inR p0) (hp1 : inR p1) (hp2 : inR p2) {M : Mem} {Qm : Int → Mem → Prop} (hw : wp_L_stronger p0 p1 p2 M Qm) (H : Heap) (locs : List Loc) (hR : Rp G e0 α κ B M H) (hS : va_S (fun q => B ≤ q) s.heap H locs) (ls : Array Slot) (hl : lv_has ls 3 [(0, .int (Int32.ofInt p0)), (1, .int (Int32.ofInt p1)), (2, .int (Int32.ofInt p2))]) : WI p l e 0 s m args below meth c G e0 α κ B Qm H locs 0 ls [] := by
  have hw : ((Int.tdiv p0 10) < p1 → (inR (10 * p1)) ∧ (inR ((10 * p1) + p2)) ∧ True) ∧ (inR (if p1 ≤ (Int.tdiv p0 10) then p0 else ((10 * p1) + p2))) ∧ Qm (if p1 ≤ (Int.tdiv p0 10) then p0 else ((10 * p1) + p2)) M := hw
  refine lv_iload_n X.1.1 X.1.2.1 dL_stronger_0 rfl (lv_at hl 1 rfl) ?_
  refine lv_iload_n X.1.1 X.1.2.1 dL_stronger_1 rfl (lv_at hl 0 rfl) ?_
  refine sa_bipush X.1 dL_stronger_2 (by decide) ?_
  have r1 := inR_tdiv hp0 (inR_c (a := 10) rfl) (by decide)
  refine sa_idiv X.1 hp0 (inR_c (a := 10) rfl) (Int.ne_of_gt (by decide)) dL_stronger_4 ?_
  have s4 := hw.1
  have hw := hw.2
  have c5 := hw.1
  have hw := hw.2
  refine cut_j (A := ∀ v6 : Int, v6 = (if p1 ≤ (Int.tdiv p0 10) then p0 else ((10 * p1) + p2)) → WI p l e 0 s m args below meth c G e0 α κ B Qm H locs 18 ls [.int (Int32.ofInt v6)]) (fun J7 => ?_) ?_
  · refine sa_icmp_le (tgt := 17) X.1 hp1 r1 dL_stronger_5 (by decide) (fun hc => ?_) (fun hc => ?_)
    · skip
      refine lv_iload_n X.1.1 X.1.2.1 dL_stronger_17 rfl (lv_at hl 0 rfl) ?_
      exact J7 (p0) (if_pos (c := p1 ≤ (Int.tdiv p0 10)) hc).symm
    · have hw := s4 hc
      refine sa_bipush X.1 dL_stronger_8 (by decide) ?_
      refine lv_iload_n X.1.1 X.1.2.1 dL_stronger_10 rfl (lv_at hl 1 rfl) ?_
      have c2 := hw.1
      have hw := hw.2
      refine sa_imul X.1 dL_stronger_11 ?_
      refine lv_iload_n X.1.1 X.1.2.1 dL_stronger_12 rfl (lv_at hl 2 rfl) ?_
      have c3 := hw.1
      have hw := hw.2
      refine sa_iadd X.1 dL_stronger_13 ?_
      refine lv_goto (tgt := 18) X.1.1 X.1.2.1 dL_stronger_14 (by decide) ?_
      exact J7 (((10 * p1) + p2)) (if_neg (c := p1 ≤ (Int.tdiv p0 10)) (Int.not_le.mpr hc)).symm
  intro v6 hv6
  subst hv6
  exact sa_iret X.1 X.2.2.2.1 X.2.2.2.2 hR hS c5 hw dL_stronger_18
theorem m_L_stronger {l : Launch} {G : Gx} {e0 : Nat} {α : Ax} {κ : Nat → Int} {B : Nat} {p0 : Int} {p1 : Int} {p2 : Int} (hκ : kOK κ) (hp0 : inR p0) (hp1 : inR p1) (hp2 : inR p2) {M : Mem} {Qm : Int → Mem → Prop} (hw : wp_L_stronger p0 p1 p2 M Qm) : CI l yL_stronger (Cond.code yL_stronger cL_stronger 3 (some .int)) 0 G e0 α κ B [.int (Int32.ofInt p0), .int (Int32.ofInt p1), .int (Int32.ofInt p2)] M Qm :=
  CI.mk hκ (by decide +kernel) rfl (Nat.le_of_ble_eq_true rfl) (lv := [(0, .int (Int32.ofInt p0)), (1, .int (Int32.ofInt p1)), (2, .int (Int32.ofInt p2))]) rfl (fun p e s m args below meth c ls X hR hS hl => t_L_stronger X hp0 hp1 hp2 hw _ _ hR hS ls hl)
theorem cs_L_stronger {cc : ByteArray} {nL : Nat} {own : String} {ret : Option FieldType} {idx pc : Nat} {p0 : Int} {p1 : Int} {p2 : Int} (X : CX p m c cc nL s args own G B κ meth ret) (hp0 : inR p0) (hp1 : inR p1) (hp2 : inR p2) {kc : Nat} {R : Room} {cells slots : Nat} (hRr : RmOK R kc) (hcel : cells ≤ R.cells ∧ slots ≤ R.slots) (hk : 0 + 1 ≤ kc) {M : Mem} {H : Heap} {locs : List Loc} (hR : Rp G e0 α κ B M H) (hS : va_S (fun q => B ≤ q) s.heap H locs) (k1 : Cond.methodLink own idx yL_stronger ∈ gw) {ls : Array Slot} (hml : ls.size = nL) {rest : List Value} (hd : decode cc pc = .ok (.invokestatic idx, 3)) (hrest : (rest.map fun v => v.category).sum ≤ 8) {Q : State → Prop} {Qm : Int → Mem → Prop} (hw : wp_L_stronger p0 p1 p2 M Qm) (kk : ∀ (r : Int) (M1 : Mem) (H1 : Heap) (locs1 : List Loc), Qm r M1 → inR r → Rp G e0 α κ B M1 H1 → va_S (fun q => B ≤ q) s.heap H1 locs1 → W p l e R s m args below meth c H1 locs1 cells slots Q (F0 m (pc + 3) ls (.int (Int32.ofInt r) :: rest))) : W p l e R s m args below meth c H locs cells slots Q (F0 m pc ls (.int (Int32.ofInt p2) :: .int (Int32.ofInt p1) :: .int (Int32.ofInt p0) :: rest)) :=
  sa_callSI 0 (n := 3) (As := [.int (Int32.ofInt p0), .int (Int32.ofInt p1), .int (Int32.ofInt p2)]) (rest := rest) X.1 X.2.1 hR hS (m_L_stronger X.2.2.1 hp0 hp1 hp2 hw) k1 kw_1438 kw_37 kw_1439 ⟨by decide +kernel, by decide +kernel, by decide +kernel⟩ (rm_ok hRr hk (by decide)) rfl rfl hrest hml hd hcel kk
def wp_L_edge_416 (p6 : Int) (p7 : Int) (p8 : Int) (Qm : Int → Mem → Prop) (z0 : Int) (M : Mem) : Prop := Qm z0 M
def wp_L_edge_395 (p6 : Int) (p7 : Int) (p8 : Int) (Qm : Int → Mem → Prop) (y12 : Int) (y16 : Int) (M : Mem) : Prop := ((y12 = 0 → wp_L_edge_416 p6 p7 p8 Qm y16 M) ∧ (¬ y12 = 0 → wp_L_stronger y16 (M 111 0 8) 4 M fun (x60 : Int) (M59 : Mem) => wp_L_edge_416 p6 p7 p8 Qm x60 M59))
def wp_L_edge_393 (p6 : Int) (p7 : Int) (p8 : Int) (Qm : Int → Mem → Prop) (y12 : Int) (z0 : Int) (M : Mem) : Prop := wp_L_edge_395 p6 p7 p8 Qm y12 z0 M
def wp_L_edge_326 (p6 : Int) (p7 : Int) (p8 : Int) (Qm : Int → Mem → Prop) (y12 : Int) (z0 : Int) (M : Mem) : Prop := wp_L_edge_395 p6 p7 p8 Qm y12 z0 M
def wp_L_edge_260 (p6 : Int) (p7 : Int) (p8 : Int) (Qm : Int → Mem → Prop) (y9 : Int) (y11 : Int) (y12 : Int) (y15 : Int) (z0 : Int) (M : Mem) : Prop := ((y9 = 0 → (inR (2 * p7)) ∧ (inR ((2 * p7) + (if ¬ p8 = 3 then (1 : Int) else 0))) ∧ (0 ≤ ((2 * p7) + (if ¬ p8 = 3 then (1 : Int) else 0)) ∧ ((2 * p7) + (if ¬ p8 = 3 then (1 : Int) else 0)) < 9) ∧ wp_L_stronger z0 (M 111 0 ((2 * p7) + (if ¬ p8 = 3 then (1 : Int) else 0))) 3 M fun (x46 : Int) (M45 : Mem) => ((y12 = 0 → (inR (2 * y11)) ∧ (inR ((2 * y11) + (if ¬ p8 = 3 then (0 : Int) else 1))) ∧ (0 ≤ ((2 * y11) + (if ¬ p8 = 3 then (0 : Int) else 1)) ∧ ((2 * y11) + (if ¬ p8 = 3 then (0 : Int) else 1)) < 9) ∧ wp_L_stronger x46 (M45 111 0 ((2 * y11) + (if ¬ p8 = 3 then (0 : Int) else 1))) 3 M45 fun (x56 : Int) (M55 : Mem) => wp_L_edge_393 p6 p7 p8 Qm y12 x56 M55) ∧ (¬ y12 = 0 → wp_L_edge_393 p6 p7 p8 Qm y12 x46 M45))) ∧ (¬ y9 = 0 → (0 ≤ p6 ∧ p6 < 10) ∧ (inR (2 * (M 106 0 p6))) ∧ (inR (40 + (2 * (M 106 0 p6)))) ∧ (inR ((40 + (2 * (M 106 0 p6))) + (Int.tdiv p8 2))) ∧ (0 ≤ ((40 + (2 * (M 106 0 p6))) + (Int.tdiv p8 2)) ∧ ((40 + (2 * (M 106 0 p6))) + (Int.tdiv p8 2)) < 60) ∧ wp_L_stronger z0 (M 110 0 ((40 + (2 * (M 106 0 p6))) + (Int.tdiv p8 2))) 2 M fun (x71 : Int) (M70 : Mem) => ((y12 = 0 → (inR (p6 + y9)) ∧ (0 ≤ (p6 + y9) ∧ (p6 + y9) < 10) ∧ (inR (2 * (M70 106 0 (p6 + y9)))) ∧ (inR (40 + (2 * (M70 106 0 (p6 + y9))))) ∧ (inR ((40 + (2 * (M70 106 0 (p6 + y9)))) + (Int.tdiv y15 2))) ∧ (0 ≤ ((40 + (2 * (M70 106 0 (p6 + y9)))) + (Int.tdiv y15 2)) ∧ ((40 + (2 * (M70 106 0 (p6 + y9)))) + (Int.tdiv y15 2)) < 60) ∧ wp_L_stronger x71 (M70 110 0 ((40 + (2 * (M70 106 0 (p6 + y9)))) + (Int.tdiv y15 2))) 2 M70 fun (x83 : Int) (M82 : Mem) => wp_L_edge_326 p6 p7 p8 Qm y12 x83 M82) ∧ (¬ y12 = 0 → wp_L_edge_326 p6 p7 p8 Qm y12 x71 M70))))
def wp_L_edge_233 (p6 : Int) (p7 : Int) (p8 : Int) (Qm : Int → Mem → Prop) (y9 : Int) (y11 : Int) (y12 : Int) (y14 : Int) (y15 : Int) (z0 : Int) (M : Mem) : Prop := ((y14 < 0 → wp_L_edge_260 p6 p7 p8 Qm y9 y11 y12 y15 z0 M) ∧ (0 ≤ y14 → (inR (4 * y14)) ∧ (inR ((4 * y14) + y15)) ∧ (0 ≤ ((4 * y14) + y15) ∧ ((4 * y14) + y15) < 60) ∧ wp_L_stronger z0 (M 110 0 ((4 * y14) + y15)) 1 M fun (x90 : Int) (M89 : Mem) => wp_L_edge_260 p6 p7 p8 Qm y9 y11 y12 y15 x90 M89))
def wp_L_edge_186 (p6 : Int) (p7 : Int) (p8 : Int) (Qm : Int → Mem → Prop) (y9 : Int) (y11 : Int) (y12 : Int) (y13 : Int) (y14 : Int) (M : Mem) : Prop := (2 ≤ p8 → (inR (p8 - 2)) ∧ True) ∧ (p8 < 2 → (inR (p8 + 2)) ∧ True) ∧ (inR (if 2 ≤ p8 then (p8 - 2) else (p8 + 2))) ∧ ((y13 < 0 → wp_L_edge_233 p6 p7 p8 Qm y9 y11 y12 y14 (if 2 ≤ p8 then (p8 - 2) else (p8 + 2)) 0 M) ∧ (0 ≤ y13 → (inR (4 * y13)) ∧ (inR ((4 * y13) + p8)) ∧ (0 ≤ ((4 * y13) + p8) ∧ ((4 * y13) + p8) < 60) ∧ wp_L_stronger 0 (M 110 0 ((4 * y13) + p8)) 1 M fun (x97 : Int) (M96 : Mem) => wp_L_edge_233 p6 p7 p8 Qm y9 y11 y12 y14 (if 2 ≤ p8 then (p8 - 2) else (p8 + 2)) x97 M96))
def wp_L_edge_170 (p6 : Int) (p7 : Int) (p8 : Int) (Qm : Int → Mem → Prop) (y9 : Int) (y11 : Int) (y12 : Int) (y13 : Int) (z0 : Int) (M : Mem) : Prop := ((y13 < 0 → wp_L_edge_186 p6 p7 p8 Qm y9 y11 y12 y13 z0 M) ∧ (0 ≤ y13 → ((¬ y13 = z0 → wp_L_edge_186 p6 p7 p8 Qm y9 y11 y12 y13 z0 M) ∧ (y13 = z0 → Qm 0 M))))
def wp_L_edge_93 (p6 : Int) (p7 : Int) (p8 : Int) (Qm : Int → Mem → Prop) (y9 : Int) (y11 : Int) (M : Mem) : Prop := (inR (p6 + y9)) ∧ (0 ≤ (p6 + y9) → (inR (p6 + y9)) ∧ True) ∧ wp_L_at p6 p7 M fun (x25 : Int) (M24 : Mem) => (((if (p6 + y9) < 0 then (1 : Int) else (if (M 112 0 1) ≤ (p6 + y9) then (1 : Int) else (if y11 < 0 then (1 : Int) else (if y11 < (M 112 0 0) then (0 : Int) else 1)))) = 0 → (inR (p6 + y9)) ∧ wp_L_at (p6 + y9) y11 M24 fun (x29 : Int) (M28 : Mem) => wp_L_edge_170 p6 p7 p8 Qm y9 y11 (if (p6 + y9) < 0 then (1 : Int) else (if (M 112 0 1) ≤ (p6 + y9) then (1 : Int) else (if y11 < 0 then (1 : Int) else (if y11 < (M 112 0 0) then (0 : Int) else 1)))) x25 x29 M28) ∧ (¬ (if (p6 + y9) < 0 then (1 : Int) else (if (M 112 0 1) ≤ (p6 + y9) then (1 : Int) else (if y11 < 0 then (1 : Int) else (if y11 < (M 112 0 0) then (0 : Int) else 1)))) = 0 → wp_L_edge_170 p6 p7 p8 Qm y9 y11 (if (p6 + y9) < 0 then (1 : Int) else (if (M 112 0 1) ≤ (p6 + y9) then (1 : Int) else (if y11 < 0 then (1 : Int) else (if y11 < (M 112 0 0) then (0 : Int) else 1)))) x25 (-1) M24))
def wp_L_edge_52 (p6 : Int) (p7 : Int) (p8 : Int) (Qm : Int → Mem → Prop) : Nat → Int → Int → Int → Mem → Prop
  | 0 => fun _ _ _ _ => False
  | n + 1 => fun y9 y10 y11 M => ((y10 = 0 → wp_L_edge_93 p6 p7 p8 Qm y9 y11 M) ∧ (¬ y10 = 0 → ((y11 < 0 → wp_L_edge_93 p6 p7 p8 Qm y9 y11 M) ∧ (0 ≤ y11 → (((M 112 0 0) ≤ y11 → wp_L_edge_93 p6 p7 p8 Qm y9 y11 M) ∧ (y11 < (M 112 0 0) → (inR (4 * y11)) ∧ (inR ((4 * y11) + 3)) ∧ (0 ≤ ((4 * y11) + 3) ∧ ((4 * y11) + 3) < 16) ∧ ((¬ (M 104 0 ((4 * y11) + 3)) = 1 → wp_L_edge_93 p6 p7 p8 Qm y9 y11 M) ∧ ((M 104 0 ((4 * y11) + 3)) = 1 → (inR (y11 + y10)) ∧ wp_L_edge_52 p6 p7 p8 Qm n y9 y10 (y11 + y10) M))))))))
def wp_L_edge (p6 : Int) (p7 : Int) (p8 : Int) (M : Mem) (Qm : Int → Mem → Prop) : Prop := (inR (p7 + (if ¬ p8 = 1 then (if ¬ p8 = 3 then (0 : Int) else (-1)) else 1))) ∧ (∃ n105 : Nat, wp_L_edge_52 p6 p7 p8 Qm n105 (if ¬ p8 = 0 then (if ¬ p8 = 2 then (0 : Int) else 1) else (-1)) (if ¬ p8 = 1 then (if ¬ p8 = 3 then (0 : Int) else (-1)) else 1) (p7 + (if ¬ p8 = 1 then (if ¬ p8 = 3 then (0 : Int) else (-1)) else 1)) M)
set_option maxHeartbeats 4000000 in
set_option maxRecDepth 100000 in
theorem t_L_edge_416 {p6 : Int} {p7 : Int} {p8 : Int} (X : CX p m c cL_edge 17 s args RL G B κ meth (some .int)) (hp6 : inR p6) (hp7 : inR p7) (hp8 : inR p8) {Qm : Int → Mem → Prop} : ∀ z0 : Int, ∀ M : Mem, wp_L_edge_416 p6 p7 p8 Qm z0 M → inR z0 → ∀ (H : Heap) (locs : List Loc), Rp G e0 α κ B M H → va_S (fun q => B ≤ q) s.heap H locs → ∀ (ls : Array Slot), lv_has ls 17 [] → WI p l e 2 s m args below meth c G e0 α κ B Qm H locs 416 ls [.int (Int32.ofInt z0)] := by
  intro z0 M hw hz0 H locs hR hS ls hl
  have hw : Qm z0 M := hw
  exact sa_iret X.1 X.2.2.2.1 X.2.2.2.2 hR hS hz0 hw dL_edge_416
set_option maxHeartbeats 4000000 in
set_option maxRecDepth 100000 in
theorem t_L_edge_395 {p6 : Int} {p7 : Int} {p8 : Int} (X : CX p m c cL_edge 17 s args RL G B κ meth (some .int)) (hp6 : inR p6) (hp7 : inR p7) (hp8 : inR p8) {Qm : Int → Mem → Prop} : ∀ y12 : Int, ∀ y16 : Int, ∀ M : Mem, wp_L_edge_395 p6 p7 p8 Qm y12 y16 M → inR y12 → inR y16 → ∀ (H : Heap) (locs : List Loc), Rp G e0 α κ B M H → va_S (fun q => B ≤ q) s.heap H locs → ∀ (ls : Array Slot), lv_has ls 17 [(4, .ref (α 111 0)), (12, .int (Int32.ofInt y12)), (16, .int (Int32.ofInt y16))] → WI p l e 2 s m args below meth c G e0 α κ B Qm H locs 395 ls [] := by
  intro y12 y16 M hw hy12 hy16 H locs hR hS ls hl
  have hw : ((y12 = 0 → wp_L_edge_416 p6 p7 p8 Qm y16 M) ∧ (¬ y12 = 0 → wp_L_stronger y16 (M 111 0 8) 4 M fun (x60 : Int) (M59 : Mem) => wp_L_edge_416 p6 p7 p8 Qm x60 M59)) := hw
  refine lv_iload X.1.1 X.1.2.1 dL_edge_395 (lv_at hl 1 rfl) ?_
  refine sa_if_eq (tgt := 414) X.1 hy12 dL_edge_397 (by decide) (fun hc => ?_) (fun hc => ?_)
  · have hw := hw.1 hc
    refine lv_iload X.1.1 X.1.2.1 dL_edge_414 (lv_at hl 2 rfl) ?_
    exact t_L_edge_416 X hp6 hp7 hp8 _ _ hw hy16 _ _ hR hS _ (lv_sub hl [] rfl)
  · have hw := hw.2 hc
    refine lv_iload X.1.1 X.1.2.1 dL_edge_400 (lv_at hl 2 rfl) ?_
    refine lv_aload X.1.1 X.1.2.1 dL_edge_402 (lv_at hl 0 rfl) ?_
    refine sa_bipush X.1 dL_edge_404 (by decide) ?_
    refine ra_111 X hR (okf X.2.2.1 rfl) ⟨by decide, by decide⟩ dL_edge_406 ?_
    have r58 := hR.r 111 0 8
    refine sa_const X.1 dL_edge_407 ?_
    refine cs_L_stronger X hy16 r58 (inR_c (a := 4) rfl) (kc := 2) rmL_ok rm_c (by decide) hR hS kw_1437 hl.1 dL_edge_408 (Nat.le_of_ble_eq_true rfl) hw (fun x60 M59 H locs hw r61 hR hS => ?_)
    refine lv_goto (tgt := 416) X.1.1 X.1.2.1 dL_edge_411 (by decide) ?_
    exact t_L_edge_416 X hp6 hp7 hp8 _ _ hw r61 _ _ hR hS _ (lv_sub hl [] rfl)
set_option maxHeartbeats 4000000 in
set_option maxRecDepth 100000 in
theorem t_L_edge_393 {p6 : Int} {p7 : Int} {p8 : Int} (X : CX p m c cL_edge 17 s args RL G B κ meth (some .int)) (hp6 : inR p6) (hp7 : inR p7) (hp8 : inR p8) {Qm : Int → Mem → Prop} : ∀ y12 : Int, ∀ z0 : Int, ∀ M : Mem, wp_L_edge_393 p6 p7 p8 Qm y12 z0 M → inR y12 → inR z0 → ∀ (H : Heap) (locs : List Loc), Rp G e0 α κ B M H → va_S (fun q => B ≤ q) s.heap H locs → ∀ (ls : Array Slot), lv_has ls 17 [(4, .ref (α 111 0)), (12, .int (Int32.ofInt y12))] → WI p l e 2 s m args below meth c G e0 α κ B Qm H locs 393 ls [.int (Int32.ofInt z0)] := by
  intro y12 z0 M hw hy12 hz0 H locs hR hS ls hl
  have hw : wp_L_edge_395 p6 p7 p8 Qm y12 z0 M := hw
  refine lv_istore (lv' := [(16, .int (Int32.ofInt z0)), (4, .ref (α 111 0)), (12, .int (Int32.ofInt y12))]) X.1.1 X.1.2.1 dL_edge_393 hl (by decide) rfl (fun ls hl => ?_)
  exact t_L_edge_395 X hp6 hp7 hp8 _ _ _ hw hy12 hz0 _ _ hR hS _ (lv_sub hl [1, 2, 0] rfl)
set_option maxHeartbeats 4000000 in
set_option maxRecDepth 100000 in
theorem t_L_edge_326 {p6 : Int} {p7 : Int} {p8 : Int} (X : CX p m c cL_edge 17 s args RL G B κ meth (some .int)) (hp6 : inR p6) (hp7 : inR p7) (hp8 : inR p8) {Qm : Int → Mem → Prop} : ∀ y12 : Int, ∀ z0 : Int, ∀ M : Mem, wp_L_edge_326 p6 p7 p8 Qm y12 z0 M → inR y12 → inR z0 → ∀ (H : Heap) (locs : List Loc), Rp G e0 α κ B M H → va_S (fun q => B ≤ q) s.heap H locs → ∀ (ls : Array Slot), lv_has ls 17 [(4, .ref (α 111 0)), (12, .int (Int32.ofInt y12))] → WI p l e 2 s m args below meth c G e0 α κ B Qm H locs 326 ls [.int (Int32.ofInt z0)] := by
  intro y12 z0 M hw hy12 hz0 H locs hR hS ls hl
  have hw : wp_L_edge_395 p6 p7 p8 Qm y12 z0 M := hw
  refine lv_istore (lv' := [(16, .int (Int32.ofInt z0)), (4, .ref (α 111 0)), (12, .int (Int32.ofInt y12))]) X.1.1 X.1.2.1 dL_edge_326 hl (by decide) rfl (fun ls hl => ?_)
  refine lv_goto (tgt := 395) X.1.1 X.1.2.1 dL_edge_328 (by decide) ?_
  exact t_L_edge_395 X hp6 hp7 hp8 _ _ _ hw hy12 hz0 _ _ hR hS _ (lv_sub hl [1, 2, 0] rfl)
set_option maxHeartbeats 4000000 in
set_option maxRecDepth 100000 in
theorem t_L_edge_260 {p6 : Int} {p7 : Int} {p8 : Int} (X : CX p m c cL_edge 17 s args RL G B κ meth (some .int)) (hp6 : inR p6) (hp7 : inR p7) (hp8 : inR p8) {Qm : Int → Mem → Prop} : ∀ y9 : Int, ∀ y11 : Int, ∀ y12 : Int, ∀ y15 : Int, ∀ z0 : Int, ∀ M : Mem, wp_L_edge_260 p6 p7 p8 Qm y9 y11 y12 y15 z0 M → inR y9 → inR y11 → inR y12 → inR y15 → inR z0 → ∀ (H : Heap) (locs : List Loc), Rp G e0 α κ B M H → va_S (fun q => B ≤ q) s.heap H locs → ∀ (ls : Array Slot), lv_has ls 17 [(1, .ref (α 106 0)), (3, .ref (α 110 0)), (4, .ref (α 111 0)), (6, .int (Int32.ofInt p6)), (7, .int (Int32.ofInt p7)), (8, .int (Int32.ofInt p8)), (9, .int (Int32.ofInt y9)), (11, .int (Int32.ofInt y11)), (12, .int (Int32.ofInt y12)), (15, .int (Int32.ofInt y15))] → WI p l e 2 s m args below meth c G e0 α κ B Qm H locs 260 ls [.int (Int32.ofInt z0)] := by
  intro y9 y11 y12 y15 z0 M hw hy9 hy11 hy12 hy15 hz0 H locs hR hS ls hl
  have hw : ((y9 = 0 → (inR (2 * p7)) ∧ (inR ((2 * p7) + (if ¬ p8 = 3 then (1 : Int) else 0))) ∧ (0 ≤ ((2 * p7) + (if ¬ p8 = 3 then (1 : Int) else 0)) ∧ ((2 * p7) + (if ¬ p8 = 3 then (1 : Int) else 0)) < 9) ∧ wp_L_stronger z0 (M 111 0 ((2 * p7) + (if ¬ p8 = 3 then (1 : Int) else 0))) 3 M fun (x46 : Int) (M45 : Mem) => ((y12 = 0 → (inR (2 * y11)) ∧ (inR ((2 * y11) + (if ¬ p8 = 3 then (0 : Int) else 1))) ∧ (0 ≤ ((2 * y11) + (if ¬ p8 = 3 then (0 : Int) else 1)) ∧ ((2 * y11) + (if ¬ p8 = 3 then (0 : Int) else 1)) < 9) ∧ wp_L_stronger x46 (M45 111 0 ((2 * y11) + (if ¬ p8 = 3 then (0 : Int) else 1))) 3 M45 fun (x56 : Int) (M55 : Mem) => wp_L_edge_393 p6 p7 p8 Qm y12 x56 M55) ∧ (¬ y12 = 0 → wp_L_edge_393 p6 p7 p8 Qm y12 x46 M45))) ∧ (¬ y9 = 0 → (0 ≤ p6 ∧ p6 < 10) ∧ (inR (2 * (M 106 0 p6))) ∧ (inR (40 + (2 * (M 106 0 p6)))) ∧ (inR ((40 + (2 * (M 106 0 p6))) + (Int.tdiv p8 2))) ∧ (0 ≤ ((40 + (2 * (M 106 0 p6))) + (Int.tdiv p8 2)) ∧ ((40 + (2 * (M 106 0 p6))) + (Int.tdiv p8 2)) < 60) ∧ wp_L_stronger z0 (M 110 0 ((40 + (2 * (M 106 0 p6))) + (Int.tdiv p8 2))) 2 M fun (x71 : Int) (M70 : Mem) => ((y12 = 0 → (inR (p6 + y9)) ∧ (0 ≤ (p6 + y9) ∧ (p6 + y9) < 10) ∧ (inR (2 * (M70 106 0 (p6 + y9)))) ∧ (inR (40 + (2 * (M70 106 0 (p6 + y9))))) ∧ (inR ((40 + (2 * (M70 106 0 (p6 + y9)))) + (Int.tdiv y15 2))) ∧ (0 ≤ ((40 + (2 * (M70 106 0 (p6 + y9)))) + (Int.tdiv y15 2)) ∧ ((40 + (2 * (M70 106 0 (p6 + y9)))) + (Int.tdiv y15 2)) < 60) ∧ wp_L_stronger x71 (M70 110 0 ((40 + (2 * (M70 106 0 (p6 + y9)))) + (Int.tdiv y15 2))) 2 M70 fun (x83 : Int) (M82 : Mem) => wp_L_edge_326 p6 p7 p8 Qm y12 x83 M82) ∧ (¬ y12 = 0 → wp_L_edge_326 p6 p7 p8 Qm y12 x71 M70)))) := hw
  refine lv_istore (lv' := [(16, .int (Int32.ofInt z0)), (1, .ref (α 106 0)), (3, .ref (α 110 0)), (4, .ref (α 111 0)), (6, .int (Int32.ofInt p6)), (7, .int (Int32.ofInt p7)), (8, .int (Int32.ofInt p8)), (9, .int (Int32.ofInt y9)), (11, .int (Int32.ofInt y11)), (12, .int (Int32.ofInt y12)), (15, .int (Int32.ofInt y15))]) X.1.1 X.1.2.1 dL_edge_260 hl (by decide) rfl (fun ls hl => ?_)
  refine lv_iload X.1.1 X.1.2.1 dL_edge_262 (lv_at hl 7 rfl) ?_
  refine sa_if_eq (tgt := 331) X.1 hy9 dL_edge_264 (by decide) (fun hc => ?_) (fun hc => ?_)
  · have hw := hw.1 hc
    refine lv_iload X.1.1 X.1.2.1 dL_edge_331 (lv_at hl 0 rfl) ?_
    refine lv_aload X.1.1 X.1.2.1 dL_edge_333 (lv_at hl 3 rfl) ?_
    refine sa_const X.1 dL_edge_335 ?_
    refine lv_iload X.1.1 X.1.2.1 dL_edge_336 (lv_at hl 5 rfl) ?_
    have c38 := hw.1
    have hw := hw.2
    refine sa_imul X.1 dL_edge_338 ?_
    refine lv_iload X.1.1 X.1.2.1 dL_edge_339 (lv_at hl 6 rfl) ?_
    refine sa_const X.1 dL_edge_341 ?_
    have r39 := inR_ite (c := ¬ p8 = 3) (inR_c (a := 1) rfl) (inR_c (a := 0) rfl)
    refine cut_j (A := ∀ v40 : Int, v40 = (if ¬ p8 = 3 then (1 : Int) else 0) → WI p l e 2 s m args below meth c G e0 α κ B Qm H locs 350 ls [.int (Int32.ofInt v40), .int (Int32.ofInt (2 * p7)), .ref (α 111 0), .int (Int32.ofInt z0)]) (fun J41 => ?_) ?_
    · refine sa_icmp_ne (tgt := 349) X.1 hp8 (inR_c (a := 3) rfl) dL_edge_342 (by decide) (fun hc => ?_) (fun hc => ?_)
      · skip
        refine sa_const X.1 dL_edge_349 ?_
        exact J41 (1) (if_pos (c := ¬ p8 = 3) hc).symm
      · skip
        refine sa_const X.1 dL_edge_345 ?_
        refine lv_goto (tgt := 350) X.1.1 X.1.2.1 dL_edge_346 (by decide) ?_
        exact J41 (0) (if_neg (c := ¬ p8 = 3) (fun z => z hc)).symm
    intro v40 hv40
    subst hv40
    have c42 := hw.1
    have hw := hw.2
    refine sa_iadd X.1 dL_edge_350 ?_
    have c43 := hw.1
    have hw := hw.2
    refine ra_111 X hR (okf X.2.2.1 rfl) c43 dL_edge_351 ?_
    have r44 := hR.r 111 0 ((2 * p7) + (if ¬ p8 = 3 then (1 : Int) else 0))
    refine sa_const X.1 dL_edge_352 ?_
    refine cs_L_stronger X hz0 r44 (inR_c (a := 3) rfl) (kc := 2) rmL_ok rm_c (by decide) hR hS kw_1437 hl.1 dL_edge_353 (Nat.le_of_ble_eq_true rfl) hw (fun x46 M45 H locs hw r47 hR hS => ?_)
    refine lv_istore (lv' := [(16, .int (Int32.ofInt x46)), (1, .ref (α 106 0)), (3, .ref (α 110 0)), (4, .ref (α 111 0)), (6, .int (Int32.ofInt p6)), (7, .int (Int32.ofInt p7)), (8, .int (Int32.ofInt p8)), (9, .int (Int32.ofInt y9)), (11, .int (Int32.ofInt y11)), (12, .int (Int32.ofInt y12)), (15, .int (Int32.ofInt y15))]) X.1.1 X.1.2.1 dL_edge_356 hl (by decide) rfl (fun ls hl => ?_)
    refine lv_iload X.1.1 X.1.2.1 dL_edge_358 (lv_at hl 9 rfl) ?_
    refine sa_if_eq (tgt := 368) X.1 hy12 dL_edge_360 (by decide) (fun hc => ?_) (fun hc => ?_)
    · have hw := hw.1 hc
      refine lv_iload X.1.1 X.1.2.1 dL_edge_368 (lv_at hl 0 rfl) ?_
      refine lv_aload X.1.1 X.1.2.1 dL_edge_370 (lv_at hl 3 rfl) ?_
      refine sa_const X.1 dL_edge_372 ?_
      refine lv_iload X.1.1 X.1.2.1 dL_edge_373 (lv_at hl 8 rfl) ?_
      have c48 := hw.1
      have hw := hw.2
      refine sa_imul X.1 dL_edge_375 ?_
      refine lv_iload X.1.1 X.1.2.1 dL_edge_376 (lv_at hl 6 rfl) ?_
      refine sa_const X.1 dL_edge_378 ?_
      have r49 := inR_ite (c := ¬ p8 = 3) (inR_c (a := 0) rfl) (inR_c (a := 1) rfl)
      refine cut_j (A := ∀ v50 : Int, v50 = (if ¬ p8 = 3 then (0 : Int) else 1) → WI p l e 2 s m args below meth c G e0 α κ B Qm H locs 387 ls [.int (Int32.ofInt v50), .int (Int32.ofInt (2 * y11)), .ref (α 111 0), .int (Int32.ofInt x46)]) (fun J51 => ?_) ?_
      · refine sa_icmp_ne (tgt := 386) X.1 hp8 (inR_c (a := 3) rfl) dL_edge_379 (by decide) (fun hc => ?_) (fun hc => ?_)
        · skip
          refine sa_const X.1 dL_edge_386 ?_
          exact J51 (0) (if_pos (c := ¬ p8 = 3) hc).symm
        · skip
          refine sa_const X.1 dL_edge_382 ?_
          refine lv_goto (tgt := 387) X.1.1 X.1.2.1 dL_edge_383 (by decide) ?_
          exact J51 (1) (if_neg (c := ¬ p8 = 3) (fun z => z hc)).symm
      intro v50 hv50
      subst hv50
      have c52 := hw.1
      have hw := hw.2
      refine sa_iadd X.1 dL_edge_387 ?_
      have c53 := hw.1
      have hw := hw.2
      refine ra_111 X hR (okf X.2.2.1 rfl) c53 dL_edge_388 ?_
      have r54 := hR.r 111 0 ((2 * y11) + (if ¬ p8 = 3 then (0 : Int) else 1))
      refine sa_const X.1 dL_edge_389 ?_
      refine cs_L_stronger X r47 r54 (inR_c (a := 3) rfl) (kc := 2) rmL_ok rm_c (by decide) hR hS kw_1437 hl.1 dL_edge_390 (Nat.le_of_ble_eq_true rfl) hw (fun x56 M55 H locs hw r57 hR hS => ?_)
      exact t_L_edge_393 X hp6 hp7 hp8 _ _ _ hw hy12 r57 _ _ hR hS _ (lv_sub hl [3, 9] rfl)
    · have hw := hw.2 hc
      refine lv_iload X.1.1 X.1.2.1 dL_edge_363 (lv_at hl 0 rfl) ?_
      refine lv_goto (tgt := 393) X.1.1 X.1.2.1 dL_edge_365 (by decide) ?_
      exact t_L_edge_393 X hp6 hp7 hp8 _ _ _ hw hy12 r47 _ _ hR hS _ (lv_sub hl [3, 9] rfl)
  · have hw := hw.2 hc
    refine lv_iload X.1.1 X.1.2.1 dL_edge_267 (lv_at hl 0 rfl) ?_
    refine lv_aload_n X.1.1 X.1.2.1 dL_edge_269 rfl (lv_at hl 2 rfl) ?_
    refine sa_bipush X.1 dL_edge_270 (by decide) ?_
    refine sa_const X.1 dL_edge_272 ?_
    refine lv_aload_n X.1.1 X.1.2.1 dL_edge_273 rfl (lv_at hl 1 rfl) ?_
    refine lv_iload X.1.1 X.1.2.1 dL_edge_274 (lv_at hl 4 rfl) ?_
    have c62 := hw.1
    have hw := hw.2
    refine ra_106 X hR (okf X.2.2.1 rfl) c62 dL_edge_276 ?_
    have r63 := hR.r 106 0 p6
    have c64 := hw.1
    have hw := hw.2
    refine sa_imul X.1 dL_edge_277 ?_
    have c65 := hw.1
    have hw := hw.2
    refine sa_iadd X.1 dL_edge_278 ?_
    refine lv_iload X.1.1 X.1.2.1 dL_edge_279 (lv_at hl 6 rfl) ?_
    refine sa_const X.1 dL_edge_281 ?_
    have r66 := inR_tdiv hp8 (inR_c (a := 2) rfl) (by decide)
    refine sa_idiv X.1 hp8 (inR_c (a := 2) rfl) (Int.ne_of_gt (by decide)) dL_edge_282 ?_
    have c67 := hw.1
    have hw := hw.2
    refine sa_iadd X.1 dL_edge_283 ?_
    have c68 := hw.1
    have hw := hw.2
    refine ra_110 X hR (okf X.2.2.1 rfl) c68 dL_edge_284 ?_
    have r69 := hR.r 110 0 ((40 + (2 * (M 106 0 p6))) + (Int.tdiv p8 2))
    refine sa_const X.1 dL_edge_285 ?_
    refine cs_L_stronger X hz0 r69 (inR_c (a := 2) rfl) (kc := 2) rmL_ok rm_c (by decide) hR hS kw_1437 hl.1 dL_edge_286 (Nat.le_of_ble_eq_true rfl) hw (fun x71 M70 H locs hw r72 hR hS => ?_)
    refine lv_istore (lv' := [(16, .int (Int32.ofInt x71)), (1, .ref (α 106 0)), (3, .ref (α 110 0)), (4, .ref (α 111 0)), (6, .int (Int32.ofInt p6)), (7, .int (Int32.ofInt p7)), (8, .int (Int32.ofInt p8)), (9, .int (Int32.ofInt y9)), (11, .int (Int32.ofInt y11)), (12, .int (Int32.ofInt y12)), (15, .int (Int32.ofInt y15))]) X.1.1 X.1.2.1 dL_edge_289 hl (by decide) rfl (fun ls hl => ?_)
    refine lv_iload X.1.1 X.1.2.1 dL_edge_291 (lv_at hl 9 rfl) ?_
    refine sa_if_eq (tgt := 301) X.1 hy12 dL_edge_293 (by decide) (fun hc => ?_) (fun hc => ?_)
    · have hw := hw.1 hc
      refine lv_iload X.1.1 X.1.2.1 dL_edge_301 (lv_at hl 0 rfl) ?_
      refine lv_aload_n X.1.1 X.1.2.1 dL_edge_303 rfl (lv_at hl 2 rfl) ?_
      refine sa_bipush X.1 dL_edge_304 (by decide) ?_
      refine sa_const X.1 dL_edge_306 ?_
      refine lv_aload_n X.1.1 X.1.2.1 dL_edge_307 rfl (lv_at hl 1 rfl) ?_
      refine lv_iload X.1.1 X.1.2.1 dL_edge_308 (lv_at hl 4 rfl) ?_
      refine lv_iload X.1.1 X.1.2.1 dL_edge_310 (lv_at hl 7 rfl) ?_
      have c73 := hw.1
      have hw := hw.2
      refine sa_iadd X.1 dL_edge_312 ?_
      have c74 := hw.1
      have hw := hw.2
      refine ra_106 X hR (okf X.2.2.1 rfl) c74 dL_edge_313 ?_
      have r75 := hR.r 106 0 (p6 + y9)
      have c76 := hw.1
      have hw := hw.2
      refine sa_imul X.1 dL_edge_314 ?_
      have c77 := hw.1
      have hw := hw.2
      refine sa_iadd X.1 dL_edge_315 ?_
      refine lv_iload X.1.1 X.1.2.1 dL_edge_316 (lv_at hl 10 rfl) ?_
      refine sa_const X.1 dL_edge_318 ?_
      have r78 := inR_tdiv hy15 (inR_c (a := 2) rfl) (by decide)
      refine sa_idiv X.1 hy15 (inR_c (a := 2) rfl) (Int.ne_of_gt (by decide)) dL_edge_319 ?_
      have c79 := hw.1
      have hw := hw.2
      refine sa_iadd X.1 dL_edge_320 ?_
      have c80 := hw.1
      have hw := hw.2
      refine ra_110 X hR (okf X.2.2.1 rfl) c80 dL_edge_321 ?_
      have r81 := hR.r 110 0 ((40 + (2 * (M70 106 0 (p6 + y9)))) + (Int.tdiv y15 2))
      refine sa_const X.1 dL_edge_322 ?_
      refine cs_L_stronger X r72 r81 (inR_c (a := 2) rfl) (kc := 2) rmL_ok rm_c (by decide) hR hS kw_1437 hl.1 dL_edge_323 (Nat.le_of_ble_eq_true rfl) hw (fun x83 M82 H locs hw r84 hR hS => ?_)
      exact t_L_edge_326 X hp6 hp7 hp8 _ _ _ hw hy12 r84 _ _ hR hS _ (lv_sub hl [3, 9] rfl)
    · have hw := hw.2 hc
      refine lv_iload X.1.1 X.1.2.1 dL_edge_296 (lv_at hl 0 rfl) ?_
      refine lv_goto (tgt := 326) X.1.1 X.1.2.1 dL_edge_298 (by decide) ?_
      exact t_L_edge_326 X hp6 hp7 hp8 _ _ _ hw hy12 r72 _ _ hR hS _ (lv_sub hl [3, 9] rfl)
set_option maxHeartbeats 4000000 in
set_option maxRecDepth 100000 in
theorem t_L_edge_233 {p6 : Int} {p7 : Int} {p8 : Int} (X : CX p m c cL_edge 17 s args RL G B κ meth (some .int)) (hp6 : inR p6) (hp7 : inR p7) (hp8 : inR p8) {Qm : Int → Mem → Prop} : ∀ y9 : Int, ∀ y11 : Int, ∀ y12 : Int, ∀ y14 : Int, ∀ y15 : Int, ∀ z0 : Int, ∀ M : Mem, wp_L_edge_233 p6 p7 p8 Qm y9 y11 y12 y14 y15 z0 M → inR y9 → inR y11 → inR y12 → inR y14 → inR y15 → inR z0 → ∀ (H : Heap) (locs : List Loc), Rp G e0 α κ B M H → va_S (fun q => B ≤ q) s.heap H locs → ∀ (ls : Array Slot), lv_has ls 17 [(1, .ref (α 106 0)), (3, .ref (α 110 0)), (4, .ref (α 111 0)), (6, .int (Int32.ofInt p6)), (7, .int (Int32.ofInt p7)), (8, .int (Int32.ofInt p8)), (9, .int (Int32.ofInt y9)), (11, .int (Int32.ofInt y11)), (12, .int (Int32.ofInt y12)), (14, .int (Int32.ofInt y14)), (15, .int (Int32.ofInt y15))] → WI p l e 2 s m args below meth c G e0 α κ B Qm H locs 233 ls [.int (Int32.ofInt z0)] := by
  intro y9 y11 y12 y14 y15 z0 M hw hy9 hy11 hy12 hy14 hy15 hz0 H locs hR hS ls hl
  have hw : ((y14 < 0 → wp_L_edge_260 p6 p7 p8 Qm y9 y11 y12 y15 z0 M) ∧ (0 ≤ y14 → (inR (4 * y14)) ∧ (inR ((4 * y14) + y15)) ∧ (0 ≤ ((4 * y14) + y15) ∧ ((4 * y14) + y15) < 60) ∧ wp_L_stronger z0 (M 110 0 ((4 * y14) + y15)) 1 M fun (x90 : Int) (M89 : Mem) => wp_L_edge_260 p6 p7 p8 Qm y9 y11 y12 y15 x90 M89)) := hw
  refine lv_istore (lv' := [(16, .int (Int32.ofInt z0)), (1, .ref (α 106 0)), (3, .ref (α 110 0)), (4, .ref (α 111 0)), (6, .int (Int32.ofInt p6)), (7, .int (Int32.ofInt p7)), (8, .int (Int32.ofInt p8)), (9, .int (Int32.ofInt y9)), (11, .int (Int32.ofInt y11)), (12, .int (Int32.ofInt y12)), (14, .int (Int32.ofInt y14)), (15, .int (Int32.ofInt y15))]) X.1.1 X.1.2.1 dL_edge_233 hl (by decide) rfl (fun ls hl => ?_)
  refine lv_iload X.1.1 X.1.2.1 dL_edge_235 (lv_at hl 10 rfl) ?_
  refine sa_if_lt (tgt := 258) X.1 hy14 dL_edge_237 (by decide) (fun hc => ?_) (fun hc => ?_)
  · have hw := hw.1 hc
    refine lv_iload X.1.1 X.1.2.1 dL_edge_258 (lv_at hl 0 rfl) ?_
    exact t_L_edge_260 X hp6 hp7 hp8 _ _ _ _ _ _ hw hy9 hy11 hy12 hy15 hz0 _ _ hR hS _ (lv_sub hl [1, 2, 3, 4, 5, 6, 7, 8, 9, 11] rfl)
  · have hw := hw.2 hc
    refine lv_iload X.1.1 X.1.2.1 dL_edge_240 (lv_at hl 0 rfl) ?_
    refine lv_aload_n X.1.1 X.1.2.1 dL_edge_242 rfl (lv_at hl 2 rfl) ?_
    refine sa_const X.1 dL_edge_243 ?_
    refine lv_iload X.1.1 X.1.2.1 dL_edge_244 (lv_at hl 10 rfl) ?_
    have c85 := hw.1
    have hw := hw.2
    refine sa_imul X.1 dL_edge_246 ?_
    refine lv_iload X.1.1 X.1.2.1 dL_edge_247 (lv_at hl 11 rfl) ?_
    have c86 := hw.1
    have hw := hw.2
    refine sa_iadd X.1 dL_edge_249 ?_
    have c87 := hw.1
    have hw := hw.2
    refine ra_110 X hR (okf X.2.2.1 rfl) c87 dL_edge_250 ?_
    have r88 := hR.r 110 0 ((4 * y14) + y15)
    refine sa_const X.1 dL_edge_251 ?_
    refine cs_L_stronger X hz0 r88 (inR_c (a := 1) rfl) (kc := 2) rmL_ok rm_c (by decide) hR hS kw_1437 hl.1 dL_edge_252 (Nat.le_of_ble_eq_true rfl) hw (fun x90 M89 H locs hw r91 hR hS => ?_)
    refine lv_goto (tgt := 260) X.1.1 X.1.2.1 dL_edge_255 (by decide) ?_
    exact t_L_edge_260 X hp6 hp7 hp8 _ _ _ _ _ _ hw hy9 hy11 hy12 hy15 r91 _ _ hR hS _ (lv_sub hl [1, 2, 3, 4, 5, 6, 7, 8, 9, 11] rfl)
set_option maxHeartbeats 4000000 in
set_option maxRecDepth 100000 in
theorem t_L_edge_186 {p6 : Int} {p7 : Int} {p8 : Int} (X : CX p m c cL_edge 17 s args RL G B κ meth (some .int)) (hp6 : inR p6) (hp7 : inR p7) (hp8 : inR p8) {Qm : Int → Mem → Prop} : ∀ y9 : Int, ∀ y11 : Int, ∀ y12 : Int, ∀ y13 : Int, ∀ y14 : Int, ∀ M : Mem, wp_L_edge_186 p6 p7 p8 Qm y9 y11 y12 y13 y14 M → inR y9 → inR y11 → inR y12 → inR y13 → inR y14 → ∀ (H : Heap) (locs : List Loc), Rp G e0 α κ B M H → va_S (fun q => B ≤ q) s.heap H locs → ∀ (ls : Array Slot), lv_has ls 17 [(1, .ref (α 106 0)), (3, .ref (α 110 0)), (4, .ref (α 111 0)), (6, .int (Int32.ofInt p6)), (7, .int (Int32.ofInt p7)), (8, .int (Int32.ofInt p8)), (9, .int (Int32.ofInt y9)), (11, .int (Int32.ofInt y11)), (12, .int (Int32.ofInt y12)), (13, .int (Int32.ofInt y13)), (14, .int (Int32.ofInt y14))] → WI p l e 2 s m args below meth c G e0 α κ B Qm H locs 186 ls [] := by
  intro y9 y11 y12 y13 y14 M hw hy9 hy11 hy12 hy13 hy14 H locs hR hS ls hl
  have hw : (2 ≤ p8 → (inR (p8 - 2)) ∧ True) ∧ (p8 < 2 → (inR (p8 + 2)) ∧ True) ∧ (inR (if 2 ≤ p8 then (p8 - 2) else (p8 + 2))) ∧ ((y13 < 0 → wp_L_edge_233 p6 p7 p8 Qm y9 y11 y12 y14 (if 2 ≤ p8 then (p8 - 2) else (p8 + 2)) 0 M) ∧ (0 ≤ y13 → (inR (4 * y13)) ∧ (inR ((4 * y13) + p8)) ∧ (0 ≤ ((4 * y13) + p8) ∧ ((4 * y13) + p8) < 60) ∧ wp_L_stronger 0 (M 110 0 ((4 * y13) + p8)) 1 M fun (x97 : Int) (M96 : Mem) => wp_L_edge_233 p6 p7 p8 Qm y9 y11 y12 y14 (if 2 ≤ p8 then (p8 - 2) else (p8 + 2)) x97 M96)) := hw
  refine lv_iload X.1.1 X.1.2.1 dL_edge_186 (lv_at hl 5 rfl) ?_
  refine sa_const X.1 dL_edge_188 ?_
  have s33 := hw.1
  have hw := hw.2
  have s34 := hw.1
  have hw := hw.2
  have c35 := hw.1
  have hw := hw.2
  refine cut_j (A := ∀ v36 : Int, v36 = (if 2 ≤ p8 then (p8 - 2) else (p8 + 2)) → WI p l e 2 s m args below meth c G e0 α κ B Qm H locs 203 ls [.int (Int32.ofInt v36)]) (fun J37 => ?_) ?_
  · refine sa_icmp_ge (tgt := 199) X.1 hp8 (inR_c (a := 2) rfl) dL_edge_189 (by decide) (fun hc => ?_) (fun hc => ?_)
    · have hw := s33 hc
      refine lv_iload X.1.1 X.1.2.1 dL_edge_199 (lv_at hl 5 rfl) ?_
      refine sa_const X.1 dL_edge_201 ?_
      have c31 := hw.1
      have hw := hw.2
      refine sa_isub X.1 dL_edge_202 ?_
      exact J37 ((p8 - 2)) (if_pos (c := 2 ≤ p8) hc).symm
    · have hw := s34 hc
      refine lv_iload X.1.1 X.1.2.1 dL_edge_192 (lv_at hl 5 rfl) ?_
      refine sa_const X.1 dL_edge_194 ?_
      have c32 := hw.1
      have hw := hw.2
      refine sa_iadd X.1 dL_edge_195 ?_
      refine lv_goto (tgt := 203) X.1.1 X.1.2.1 dL_edge_196 (by decide) ?_
      exact J37 ((p8 + 2)) (if_neg (c := 2 ≤ p8) (Int.not_le.mpr hc)).symm
  intro v36 hv36
  subst hv36
  refine lv_istore (lv' := [(15, .int (Int32.ofInt (if 2 ≤ p8 then (p8 - 2) else (p8 + 2)))), (1, .ref (α 106 0)), (3, .ref (α 110 0)), (4, .ref (α 111 0)), (6, .int (Int32.ofInt p6)), (7, .int (Int32.ofInt p7)), (8, .int (Int32.ofInt p8)), (9, .int (Int32.ofInt y9)), (11, .int (Int32.ofInt y11)), (12, .int (Int32.ofInt y12)), (13, .int (Int32.ofInt y13)), (14, .int (Int32.ofInt y14))]) X.1.1 X.1.2.1 dL_edge_203 hl (by decide) rfl (fun ls hl => ?_)
  refine sa_const X.1 dL_edge_205 ?_
  refine lv_istore (lv' := [(16, .int (Int32.ofInt 0)), (15, .int (Int32.ofInt (if 2 ≤ p8 then (p8 - 2) else (p8 + 2)))), (1, .ref (α 106 0)), (3, .ref (α 110 0)), (4, .ref (α 111 0)), (6, .int (Int32.ofInt p6)), (7, .int (Int32.ofInt p7)), (8, .int (Int32.ofInt p8)), (9, .int (Int32.ofInt y9)), (11, .int (Int32.ofInt y11)), (12, .int (Int32.ofInt y12)), (13, .int (Int32.ofInt y13)), (14, .int (Int32.ofInt y14))]) X.1.1 X.1.2.1 dL_edge_206 hl (by decide) rfl (fun ls hl => ?_)
  refine lv_iload X.1.1 X.1.2.1 dL_edge_208 (lv_at hl 11 rfl) ?_
  refine sa_if_lt (tgt := 231) X.1 hy13 dL_edge_210 (by decide) (fun hc => ?_) (fun hc => ?_)
  · have hw := hw.1 hc
    refine lv_iload X.1.1 X.1.2.1 dL_edge_231 (lv_at hl 0 rfl) ?_
    exact t_L_edge_233 X hp6 hp7 hp8 _ _ _ _ _ _ _ hw hy9 hy11 hy12 hy14 c35 (inR_c (a := 0) rfl) _ _ hR hS _ (lv_sub hl [2, 3, 4, 5, 6, 7, 8, 9, 10, 12, 1] rfl)
  · have hw := hw.2 hc
    refine lv_iload X.1.1 X.1.2.1 dL_edge_213 (lv_at hl 0 rfl) ?_
    refine lv_aload_n X.1.1 X.1.2.1 dL_edge_215 rfl (lv_at hl 3 rfl) ?_
    refine sa_const X.1 dL_edge_216 ?_
    refine lv_iload X.1.1 X.1.2.1 dL_edge_217 (lv_at hl 11 rfl) ?_
    have c92 := hw.1
    have hw := hw.2
    refine sa_imul X.1 dL_edge_219 ?_
    refine lv_iload X.1.1 X.1.2.1 dL_edge_220 (lv_at hl 7 rfl) ?_
    have c93 := hw.1
    have hw := hw.2
    refine sa_iadd X.1 dL_edge_222 ?_
    have c94 := hw.1
    have hw := hw.2
    refine ra_110 X hR (okf X.2.2.1 rfl) c94 dL_edge_223 ?_
    have r95 := hR.r 110 0 ((4 * y13) + p8)
    refine sa_const X.1 dL_edge_224 ?_
    refine cs_L_stronger X (inR_c (a := 0) rfl) r95 (inR_c (a := 1) rfl) (kc := 2) rmL_ok rm_c (by decide) hR hS kw_1437 hl.1 dL_edge_225 (Nat.le_of_ble_eq_true rfl) hw (fun x97 M96 H locs hw r98 hR hS => ?_)
    refine lv_goto (tgt := 233) X.1.1 X.1.2.1 dL_edge_228 (by decide) ?_
    exact t_L_edge_233 X hp6 hp7 hp8 _ _ _ _ _ _ _ hw hy9 hy11 hy12 hy14 c35 r98 _ _ hR hS _ (lv_sub hl [2, 3, 4, 5, 6, 7, 8, 9, 10, 12, 1] rfl)
set_option maxHeartbeats 4000000 in
set_option maxRecDepth 100000 in
theorem t_L_edge_170 {p6 : Int} {p7 : Int} {p8 : Int} (X : CX p m c cL_edge 17 s args RL G B κ meth (some .int)) (hp6 : inR p6) (hp7 : inR p7) (hp8 : inR p8) {Qm : Int → Mem → Prop} : ∀ y9 : Int, ∀ y11 : Int, ∀ y12 : Int, ∀ y13 : Int, ∀ z0 : Int, ∀ M : Mem, wp_L_edge_170 p6 p7 p8 Qm y9 y11 y12 y13 z0 M → inR y9 → inR y11 → inR y12 → inR y13 → inR z0 → ∀ (H : Heap) (locs : List Loc), Rp G e0 α κ B M H → va_S (fun q => B ≤ q) s.heap H locs → ∀ (ls : Array Slot), lv_has ls 17 [(1, .ref (α 106 0)), (3, .ref (α 110 0)), (4, .ref (α 111 0)), (6, .int (Int32.ofInt p6)), (7, .int (Int32.ofInt p7)), (8, .int (Int32.ofInt p8)), (9, .int (Int32.ofInt y9)), (11, .int (Int32.ofInt y11)), (12, .int (Int32.ofInt y12)), (13, .int (Int32.ofInt y13))] → WI p l e 2 s m args below meth c G e0 α κ B Qm H locs 170 ls [.int (Int32.ofInt z0)] := by
  intro y9 y11 y12 y13 z0 M hw hy9 hy11 hy12 hy13 hz0 H locs hR hS ls hl
  have hw : ((y13 < 0 → wp_L_edge_186 p6 p7 p8 Qm y9 y11 y12 y13 z0 M) ∧ (0 ≤ y13 → ((¬ y13 = z0 → wp_L_edge_186 p6 p7 p8 Qm y9 y11 y12 y13 z0 M) ∧ (y13 = z0 → Qm 0 M)))) := hw
  refine lv_istore (lv' := [(14, .int (Int32.ofInt z0)), (1, .ref (α 106 0)), (3, .ref (α 110 0)), (4, .ref (α 111 0)), (6, .int (Int32.ofInt p6)), (7, .int (Int32.ofInt p7)), (8, .int (Int32.ofInt p8)), (9, .int (Int32.ofInt y9)), (11, .int (Int32.ofInt y11)), (12, .int (Int32.ofInt y12)), (13, .int (Int32.ofInt y13))]) X.1.1 X.1.2.1 dL_edge_170 hl (by decide) rfl (fun ls hl => ?_)
  refine lv_iload X.1.1 X.1.2.1 dL_edge_172 (lv_at hl 10 rfl) ?_
  refine sa_if_lt (tgt := 186) X.1 hy13 dL_edge_174 (by decide) (fun hc => ?_) (fun hc => ?_)
  · have hw := hw.1 hc
    exact t_L_edge_186 X hp6 hp7 hp8 _ _ _ _ _ _ hw hy9 hy11 hy12 hy13 hz0 _ _ hR hS _ (lv_sub hl [1, 2, 3, 4, 5, 6, 7, 8, 9, 10, 0] rfl)
  · have hw := hw.2 hc
    refine lv_iload X.1.1 X.1.2.1 dL_edge_177 (lv_at hl 10 rfl) ?_
    refine lv_iload X.1.1 X.1.2.1 dL_edge_179 (lv_at hl 0 rfl) ?_
    refine sa_icmp_ne (tgt := 186) X.1 hy13 hz0 dL_edge_181 (by decide) (fun hc => ?_) (fun hc => ?_)
    · have hw := hw.1 hc
      exact t_L_edge_186 X hp6 hp7 hp8 _ _ _ _ _ _ hw hy9 hy11 hy12 hy13 hz0 _ _ hR hS _ (lv_sub hl [1, 2, 3, 4, 5, 6, 7, 8, 9, 10, 0] rfl)
    · have hw := hw.2 hc
      refine sa_const X.1 dL_edge_184 ?_
      exact sa_iret X.1 X.2.2.2.1 X.2.2.2.2 hR hS (inR_c (a := 0) rfl) hw dL_edge_185
set_option maxHeartbeats 4000000 in
set_option maxRecDepth 100000 in
theorem t_L_edge_93 {p6 : Int} {p7 : Int} {p8 : Int} (X : CX p m c cL_edge 17 s args RL G B κ meth (some .int)) (hp6 : inR p6) (hp7 : inR p7) (hp8 : inR p8) {Qm : Int → Mem → Prop} : ∀ y9 : Int, ∀ y11 : Int, ∀ M : Mem, wp_L_edge_93 p6 p7 p8 Qm y9 y11 M → inR y9 → inR y11 → ∀ (H : Heap) (locs : List Loc), Rp G e0 α κ B M H → va_S (fun q => B ≤ q) s.heap H locs → ∀ (ls : Array Slot), lv_has ls 17 [(1, .ref (α 106 0)), (2, .ref (α 107 0)), (3, .ref (α 110 0)), (4, .ref (α 111 0)), (5, .ref (α 112 0)), (6, .int (Int32.ofInt p6)), (7, .int (Int32.ofInt p7)), (8, .int (Int32.ofInt p8)), (9, .int (Int32.ofInt y9)), (11, .int (Int32.ofInt y11))] → WI p l e 2 s m args below meth c G e0 α κ B Qm H locs 93 ls [] := by
  intro y9 y11 M hw hy9 hy11 H locs hR hS ls hl
  have hw : (inR (p6 + y9)) ∧ (0 ≤ (p6 + y9) → (inR (p6 + y9)) ∧ True) ∧ wp_L_at p6 p7 M fun (x25 : Int) (M24 : Mem) => (((if (p6 + y9) < 0 then (1 : Int) else (if (M 112 0 1) ≤ (p6 + y9) then (1 : Int) else (if y11 < 0 then (1 : Int) else (if y11 < (M 112 0 0) then (0 : Int) else 1)))) = 0 → (inR (p6 + y9)) ∧ wp_L_at (p6 + y9) y11 M24 fun (x29 : Int) (M28 : Mem) => wp_L_edge_170 p6 p7 p8 Qm y9 y11 (if (p6 + y9) < 0 then (1 : Int) else (if (M 112 0 1) ≤ (p6 + y9) then (1 : Int) else (if y11 < 0 then (1 : Int) else (if y11 < (M 112 0 0) then (0 : Int) else 1)))) x25 x29 M28) ∧ (¬ (if (p6 + y9) < 0 then (1 : Int) else (if (M 112 0 1) ≤ (p6 + y9) then (1 : Int) else (if y11 < 0 then (1 : Int) else (if y11 < (M 112 0 0) then (0 : Int) else 1)))) = 0 → wp_L_edge_170 p6 p7 p8 Qm y9 y11 (if (p6 + y9) < 0 then (1 : Int) else (if (M 112 0 1) ≤ (p6 + y9) then (1 : Int) else (if y11 < 0 then (1 : Int) else (if y11 < (M 112 0 0) then (0 : Int) else 1)))) x25 (-1) M24)) := hw
  refine lv_iload X.1.1 X.1.2.1 dL_edge_93 (lv_at hl 5 rfl) ?_
  refine lv_iload X.1.1 X.1.2.1 dL_edge_95 (lv_at hl 8 rfl) ?_
  have c12 := hw.1
  have hw := hw.2
  refine sa_iadd X.1 dL_edge_97 ?_
  have s20 := hw.1
  have hw := hw.2
  have r21 := inR_ite (c := (p6 + y9) < 0) (inR_c (a := 1) rfl) (inR_ite (c := (M 112 0 1) ≤ (p6 + y9)) (inR_c (a := 1) rfl) (inR_ite (c := y11 < 0) (inR_c (a := 1) rfl) (inR_ite (c := y11 < (M 112 0 0)) (inR_c (a := 0) rfl) (inR_c (a := 1) rfl))))
  refine cut_j (A := ∀ v22 : Int, v22 = (if (p6 + y9) < 0 then (1 : Int) else (if (M 112 0 1) ≤ (p6 + y9) then (1 : Int) else (if y11 < 0 then (1 : Int) else (if y11 < (M 112 0 0) then (0 : Int) else 1)))) → WI p l e 2 s m args below meth c G e0 α κ B Qm H locs 132 ls [.int (Int32.ofInt v22)]) (fun J23 => ?_) ?_
  · refine sa_if_lt (tgt := 127) X.1 c12 dL_edge_98 (by decide) (fun hc => ?_) (fun hc => ?_)
    · skip
      refine sa_const X.1 dL_edge_127 ?_
      refine lv_goto (tgt := 132) X.1.1 X.1.2.1 dL_edge_128 (by decide) ?_
      exact J23 (1) (if_pos (c := (p6 + y9) < 0) hc).symm
    · have hw := s20 hc
      refine lv_iload X.1.1 X.1.2.1 dL_edge_101 (lv_at hl 5 rfl) ?_
      refine lv_iload X.1.1 X.1.2.1 dL_edge_103 (lv_at hl 8 rfl) ?_
      have c13 := hw.1
      have hw := hw.2
      refine sa_iadd X.1 dL_edge_105 ?_
      refine lv_aload X.1.1 X.1.2.1 dL_edge_106 (lv_at hl 4 rfl) ?_
      refine sa_const X.1 dL_edge_108 ?_
      refine ra_112 X hR (okf X.2.2.1 rfl) ⟨by decide, by decide⟩ dL_edge_109 ?_
      refine cut_j (A := ∀ v18 : Int, v18 = (if (M 112 0 1) ≤ (p6 + y9) then (1 : Int) else (if y11 < 0 then (1 : Int) else (if y11 < (M 112 0 0) then (0 : Int) else 1))) → WI p l e 2 s m args below meth c G e0 α κ B Qm H locs 132 ls [.int (Int32.ofInt v18)]) (fun J19 => ?_) ?_
      · refine sa_icmp_ge (tgt := 127) X.1 c13 (hR.r 112 0 1) dL_edge_110 (by decide) (fun hc => ?_) (fun hc => ?_)
        · skip
          refine sa_const X.1 dL_edge_127 ?_
          refine lv_goto (tgt := 132) X.1.1 X.1.2.1 dL_edge_128 (by decide) ?_
          exact J19 (1) (if_pos (c := (M 112 0 1) ≤ (p6 + y9)) hc).symm
        · skip
          refine lv_iload X.1.1 X.1.2.1 dL_edge_113 (lv_at hl 9 rfl) ?_
          refine cut_j (A := ∀ v16 : Int, v16 = (if y11 < 0 then (1 : Int) else (if y11 < (M 112 0 0) then (0 : Int) else 1)) → WI p l e 2 s m args below meth c G e0 α κ B Qm H locs 132 ls [.int (Int32.ofInt v16)]) (fun J17 => ?_) ?_
          · refine sa_if_lt (tgt := 127) X.1 hy11 dL_edge_115 (by decide) (fun hc => ?_) (fun hc => ?_)
            · skip
              refine sa_const X.1 dL_edge_127 ?_
              refine lv_goto (tgt := 132) X.1.1 X.1.2.1 dL_edge_128 (by decide) ?_
              exact J17 (1) (if_pos (c := y11 < 0) hc).symm
            · skip
              refine lv_iload X.1.1 X.1.2.1 dL_edge_118 (lv_at hl 9 rfl) ?_
              refine lv_aload X.1.1 X.1.2.1 dL_edge_120 (lv_at hl 4 rfl) ?_
              refine sa_const X.1 dL_edge_122 ?_
              refine ra_112 X hR (okf X.2.2.1 rfl) ⟨by decide, by decide⟩ dL_edge_123 ?_
              refine cut_j (A := ∀ v14 : Int, v14 = (if y11 < (M 112 0 0) then (0 : Int) else 1) → WI p l e 2 s m args below meth c G e0 α κ B Qm H locs 132 ls [.int (Int32.ofInt v14)]) (fun J15 => ?_) ?_
              · refine sa_icmp_lt (tgt := 131) X.1 hy11 (hR.r 112 0 0) dL_edge_124 (by decide) (fun hc => ?_) (fun hc => ?_)
                · skip
                  refine sa_const X.1 dL_edge_131 ?_
                  exact J15 (0) (if_pos (c := y11 < (M 112 0 0)) hc).symm
                · skip
                  refine sa_const X.1 dL_edge_127 ?_
                  refine lv_goto (tgt := 132) X.1.1 X.1.2.1 dL_edge_128 (by decide) ?_
                  exact J15 (1) (if_neg (c := y11 < (M 112 0 0)) (Int.not_lt.mpr hc)).symm
              intro v14 hv14
              subst hv14
              exact J17 ((if y11 < (M 112 0 0) then (0 : Int) else 1)) (if_neg (c := y11 < 0) (Int.not_lt.mpr hc)).symm
          intro v16 hv16
          subst hv16
          exact J19 ((if y11 < 0 then (1 : Int) else (if y11 < (M 112 0 0) then (0 : Int) else 1))) (if_neg (c := (M 112 0 1) ≤ (p6 + y9)) (Int.not_le.mpr hc)).symm
      intro v18 hv18
      subst hv18
      exact J23 ((if (M 112 0 1) ≤ (p6 + y9) then (1 : Int) else (if y11 < 0 then (1 : Int) else (if y11 < (M 112 0 0) then (0 : Int) else 1)))) (if_neg (c := (p6 + y9) < 0) (Int.not_lt.mpr hc)).symm
  intro v22 hv22
  subst hv22
  refine lv_istore (lv' := [(12, .int (Int32.ofInt (if (p6 + y9) < 0 then (1 : Int) else (if (M 112 0 1) ≤ (p6 + y9) then (1 : Int) else (if y11 < 0 then (1 : Int) else (if y11 < (M 112 0 0) then (0 : Int) else 1)))))), (1, .ref (α 106 0)), (2, .ref (α 107 0)), (3, .ref (α 110 0)), (4, .ref (α 111 0)), (5, .ref (α 112 0)), (6, .int (Int32.ofInt p6)), (7, .int (Int32.ofInt p7)), (8, .int (Int32.ofInt p8)), (9, .int (Int32.ofInt y9)), (11, .int (Int32.ofInt y11))]) X.1.1 X.1.2.1 dL_edge_132 hl (by decide) rfl (fun ls hl => ?_)
  refine lv_aload_n X.1.1 X.1.2.1 dL_edge_134 rfl (lv_at hl 1 rfl) ?_
  refine lv_aload_n X.1.1 X.1.2.1 dL_edge_135 rfl (lv_at hl 2 rfl) ?_
  refine lv_aload X.1.1 X.1.2.1 dL_edge_136 (lv_at hl 5 rfl) ?_
  refine lv_iload X.1.1 X.1.2.1 dL_edge_138 (lv_at hl 6 rfl) ?_
  refine lv_iload X.1.1 X.1.2.1 dL_edge_140 (lv_at hl 7 rfl) ?_
  refine cs_L_at X hp6 hp7 (kc := 2) rmL_ok rm_c (by decide) hR hS kw_928 hl.1 dL_edge_142 (Nat.le_of_ble_eq_true rfl) hw (fun x25 M24 H locs hw r26 hR hS => ?_)
  refine lv_istore (lv' := [(13, .int (Int32.ofInt x25)), (12, .int (Int32.ofInt (if (p6 + y9) < 0 then (1 : Int) else (if (M 112 0 1) ≤ (p6 + y9) then (1 : Int) else (if y11 < 0 then (1 : Int) else (if y11 < (M 112 0 0) then (0 : Int) else 1)))))), (1, .ref (α 106 0)), (2, .ref (α 107 0)), (3, .ref (α 110 0)), (4, .ref (α 111 0)), (5, .ref (α 112 0)), (6, .int (Int32.ofInt p6)), (7, .int (Int32.ofInt p7)), (8, .int (Int32.ofInt p8)), (9, .int (Int32.ofInt y9)), (11, .int (Int32.ofInt y11))]) X.1.1 X.1.2.1 dL_edge_145 hl (by decide) rfl (fun ls hl => ?_)
  refine lv_iload X.1.1 X.1.2.1 dL_edge_147 (lv_at hl 1 rfl) ?_
  refine sa_if_eq (tgt := 156) X.1 r21 dL_edge_149 (by decide) (fun hc => ?_) (fun hc => ?_)
  · have hw := hw.1 hc
    refine lv_aload_n X.1.1 X.1.2.1 dL_edge_156 rfl (lv_at hl 2 rfl) ?_
    refine lv_aload_n X.1.1 X.1.2.1 dL_edge_157 rfl (lv_at hl 3 rfl) ?_
    refine lv_aload X.1.1 X.1.2.1 dL_edge_158 (lv_at hl 6 rfl) ?_
    refine lv_iload X.1.1 X.1.2.1 dL_edge_160 (lv_at hl 7 rfl) ?_
    refine lv_iload X.1.1 X.1.2.1 dL_edge_162 (lv_at hl 10 rfl) ?_
    have c27 := hw.1
    have hw := hw.2
    refine sa_iadd X.1 dL_edge_164 ?_
    refine lv_iload X.1.1 X.1.2.1 dL_edge_165 (lv_at hl 11 rfl) ?_
    refine cs_L_at X c27 hy11 (kc := 2) rmL_ok rm_c (by decide) hR hS kw_928 hl.1 dL_edge_167 (Nat.le_of_ble_eq_true rfl) hw (fun x29 M28 H locs hw r30 hR hS => ?_)
    exact t_L_edge_170 X hp6 hp7 hp8 _ _ _ _ _ _ hw hy9 hy11 r21 r26 r30 _ _ hR hS _ (lv_sub hl [2, 4, 5, 7, 8, 9, 10, 11, 1, 0] rfl)
  · have hw := hw.2 hc
    refine sa_const X.1 dL_edge_152 ?_
    refine lv_goto (tgt := 170) X.1.1 X.1.2.1 dL_edge_153 (by decide) ?_
    exact t_L_edge_170 X hp6 hp7 hp8 _ _ _ _ _ _ hw hy9 hy11 r21 r26 (inR_c (a := -1) rfl) _ _ hR hS _ (lv_sub hl [2, 4, 5, 7, 8, 9, 10, 11, 1, 0] rfl)
set_option maxHeartbeats 4000000 in
set_option maxRecDepth 100000 in
theorem t_L_edge_52 {p6 : Int} {p7 : Int} {p8 : Int} (X : CX p m c cL_edge 17 s args RL G B κ meth (some .int)) (hp6 : inR p6) (hp7 : inR p7) (hp8 : inR p8) {Qm : Int → Mem → Prop} : ∀ n : Nat, ∀ y9 : Int, ∀ y10 : Int, ∀ y11 : Int, ∀ M : Mem, wp_L_edge_52 p6 p7 p8 Qm n y9 y10 y11 M → inR y9 → inR y10 → inR y11 → ∀ (H : Heap) (locs : List Loc), Rp G e0 α κ B M H → va_S (fun q => B ≤ q) s.heap H locs → ∀ (ls : Array Slot), lv_has ls 17 [(0, .ref (α 104 0)), (1, .ref (α 106 0)), (2, .ref (α 107 0)), (3, .ref (α 110 0)), (4, .ref (α 111 0)), (5, .ref (α 112 0)), (6, .int (Int32.ofInt p6)), (7, .int (Int32.ofInt p7)), (8, .int (Int32.ofInt p8)), (9, .int (Int32.ofInt y9)), (10, .int (Int32.ofInt y10)), (11, .int (Int32.ofInt y11))] → WI p l e 2 s m args below meth c G e0 α κ B Qm H locs 52 ls [] := by
  intro n
  induction n with
  | zero =>
    intro y9 y10 y11 M hw hy9 hy10 hy11 H locs hR hS ls hl
    exact hw.elim
  | succ n ih =>
    intro y9 y10 y11 M hw hy9 hy10 hy11 H locs hR hS ls hl
    have hw : ((y10 = 0 → wp_L_edge_93 p6 p7 p8 Qm y9 y11 M) ∧ (¬ y10 = 0 → ((y11 < 0 → wp_L_edge_93 p6 p7 p8 Qm y9 y11 M) ∧ (0 ≤ y11 → (((M 112 0 0) ≤ y11 → wp_L_edge_93 p6 p7 p8 Qm y9 y11 M) ∧ (y11 < (M 112 0 0) → (inR (4 * y11)) ∧ (inR ((4 * y11) + 3)) ∧ (0 ≤ ((4 * y11) + 3) ∧ ((4 * y11) + 3) < 16) ∧ ((¬ (M 104 0 ((4 * y11) + 3)) = 1 → wp_L_edge_93 p6 p7 p8 Qm y9 y11 M) ∧ ((M 104 0 ((4 * y11) + 3)) = 1 → (inR (y11 + y10)) ∧ wp_L_edge_52 p6 p7 p8 Qm n y9 y10 (y11 + y10) M)))))))) := hw
    refine lv_iload X.1.1 X.1.2.1 dL_edge_52 (lv_at hl 10 rfl) ?_
    refine sa_if_eq (tgt := 93) X.1 hy10 dL_edge_54 (by decide) (fun hc => ?_) (fun hc => ?_)
    · have hw := hw.1 hc
      exact t_L_edge_93 X hp6 hp7 hp8 _ _ _ hw hy9 hy11 _ _ hR hS _ (lv_sub hl [1, 2, 3, 4, 5, 6, 7, 8, 9, 11] rfl)
    · have hw := hw.2 hc
      refine lv_iload X.1.1 X.1.2.1 dL_edge_57 (lv_at hl 11 rfl) ?_
      refine sa_if_lt (tgt := 93) X.1 hy11 dL_edge_59 (by decide) (fun hc => ?_) (fun hc => ?_)
      · have hw := hw.1 hc
        exact t_L_edge_93 X hp6 hp7 hp8 _ _ _ hw hy9 hy11 _ _ hR hS _ (lv_sub hl [1, 2, 3, 4, 5, 6, 7, 8, 9, 11] rfl)
      · have hw := hw.2 hc
        refine lv_iload X.1.1 X.1.2.1 dL_edge_62 (lv_at hl 11 rfl) ?_
        refine lv_aload X.1.1 X.1.2.1 dL_edge_64 (lv_at hl 5 rfl) ?_
        refine sa_const X.1 dL_edge_66 ?_
        refine ra_112 X hR (okf X.2.2.1 rfl) ⟨by decide, by decide⟩ dL_edge_67 ?_
        have r99 := hR.r 112 0 0
        refine sa_icmp_ge (tgt := 93) X.1 hy11 r99 dL_edge_68 (by decide) (fun hc => ?_) (fun hc => ?_)
        · have hw := hw.1 hc
          exact t_L_edge_93 X hp6 hp7 hp8 _ _ _ hw hy9 hy11 _ _ hR hS _ (lv_sub hl [1, 2, 3, 4, 5, 6, 7, 8, 9, 11] rfl)
        · have hw := hw.2 hc
          refine lv_aload_n X.1.1 X.1.2.1 dL_edge_71 rfl (lv_at hl 0 rfl) ?_
          refine sa_const X.1 dL_edge_72 ?_
          refine lv_iload X.1.1 X.1.2.1 dL_edge_73 (lv_at hl 11 rfl) ?_
          have c100 := hw.1
          have hw := hw.2
          refine sa_imul X.1 dL_edge_75 ?_
          refine sa_const X.1 dL_edge_76 ?_
          have c101 := hw.1
          have hw := hw.2
          refine sa_iadd X.1 dL_edge_77 ?_
          have c102 := hw.1
          have hw := hw.2
          refine ra_104 X hR (okf X.2.2.1 rfl) c102 dL_edge_78 ?_
          have r103 := hR.r 104 0 ((4 * y11) + 3)
          refine sa_const X.1 dL_edge_79 ?_
          refine sa_icmp_ne (tgt := 93) X.1 r103 (inR_c (a := 1) rfl) dL_edge_80 (by decide) (fun hc => ?_) (fun hc => ?_)
          · have hw := hw.1 hc
            exact t_L_edge_93 X hp6 hp7 hp8 _ _ _ hw hy9 hy11 _ _ hR hS _ (lv_sub hl [1, 2, 3, 4, 5, 6, 7, 8, 9, 11] rfl)
          · have hw := hw.2 hc
            refine lv_iload X.1.1 X.1.2.1 dL_edge_83 (lv_at hl 11 rfl) ?_
            refine lv_iload X.1.1 X.1.2.1 dL_edge_85 (lv_at hl 10 rfl) ?_
            have c104 := hw.1
            have hw := hw.2
            refine sa_iadd X.1 dL_edge_87 ?_
            refine lv_istore (lv' := [(11, .int (Int32.ofInt (y11 + y10))), (0, .ref (α 104 0)), (1, .ref (α 106 0)), (2, .ref (α 107 0)), (3, .ref (α 110 0)), (4, .ref (α 111 0)), (5, .ref (α 112 0)), (6, .int (Int32.ofInt p6)), (7, .int (Int32.ofInt p7)), (8, .int (Int32.ofInt p8)), (9, .int (Int32.ofInt y9)), (10, .int (Int32.ofInt y10))]) X.1.1 X.1.2.1 dL_edge_88 hl (by decide) rfl (fun ls hl => ?_)
            refine lv_goto (tgt := 52) X.1.1 X.1.2.1 dL_edge_90 (by decide) ?_
            exact ih _ _ _ _ hw hy9 hy10 c104 _ _ hR hS _ (lv_sub hl [1, 2, 3, 4, 5, 6, 7, 8, 9, 10, 11, 0] rfl)
set_option maxHeartbeats 4000000 in
set_option maxRecDepth 100000 in
theorem t_L_edge {p6 : Int} {p7 : Int} {p8 : Int} (X : CX p m c cL_edge 17 s args RL G B κ meth (some .int)) (hp6 : inR p6) (hp7 : inR p7) (hp8 : inR p8) {M : Mem} {Qm : Int → Mem → Prop} (hw : wp_L_edge p6 p7 p8 M Qm) (H : Heap) (locs : List Loc) (hR : Rp G e0 α κ B M H) (hS : va_S (fun q => B ≤ q) s.heap H locs) (ls : Array Slot) (hl : lv_has ls 17 [(0, .ref (α 104 0)), (1, .ref (α 106 0)), (2, .ref (α 107 0)), (3, .ref (α 110 0)), (4, .ref (α 111 0)), (5, .ref (α 112 0)), (6, .int (Int32.ofInt p6)), (7, .int (Int32.ofInt p7)), (8, .int (Int32.ofInt p8))]) : WI p l e 2 s m args below meth c G e0 α κ B Qm H locs 0 ls [] := by
  have hw : (inR (p7 + (if ¬ p8 = 1 then (if ¬ p8 = 3 then (0 : Int) else (-1)) else 1))) ∧ (∃ n105 : Nat, wp_L_edge_52 p6 p7 p8 Qm n105 (if ¬ p8 = 0 then (if ¬ p8 = 2 then (0 : Int) else 1) else (-1)) (if ¬ p8 = 1 then (if ¬ p8 = 3 then (0 : Int) else (-1)) else 1) (p7 + (if ¬ p8 = 1 then (if ¬ p8 = 3 then (0 : Int) else (-1)) else 1)) M) := hw
  refine lv_iload X.1.1 X.1.2.1 dL_edge_0 (lv_at hl 8 rfl) ?_
  have r3 := inR_ite (c := ¬ p8 = 0) (inR_ite (c := ¬ p8 = 2) (inR_c (a := 0) rfl) (inR_c (a := 1) rfl)) (inR_c (a := -1) rfl)
  refine cut_j (A := ∀ v4 : Int, v4 = (if ¬ p8 = 0 then (if ¬ p8 = 2 then (0 : Int) else 1) else (-1)) → WI p l e 2 s m args below meth c G e0 α κ B Qm H locs 20 ls [.int (Int32.ofInt v4)]) (fun J5 => ?_) ?_
  · refine sa_if_ne (tgt := 9) X.1 hp8 dL_edge_2 (by decide) (fun hc => ?_) (fun hc => ?_)
    · skip
      refine lv_iload X.1.1 X.1.2.1 dL_edge_9 (lv_at hl 8 rfl) ?_
      refine sa_const X.1 dL_edge_11 ?_
      refine cut_j (A := ∀ v1 : Int, v1 = (if ¬ p8 = 2 then (0 : Int) else 1) → WI p l e 2 s m args below meth c G e0 α κ B Qm H locs 20 ls [.int (Int32.ofInt v1)]) (fun J2 => ?_) ?_
      · refine sa_icmp_ne (tgt := 19) X.1 hp8 (inR_c (a := 2) rfl) dL_edge_12 (by decide) (fun hc => ?_) (fun hc => ?_)
        · skip
          refine sa_const X.1 dL_edge_19 ?_
          exact J2 (0) (if_pos (c := ¬ p8 = 2) hc).symm
        · skip
          refine sa_const X.1 dL_edge_15 ?_
          refine lv_goto (tgt := 20) X.1.1 X.1.2.1 dL_edge_16 (by decide) ?_
          exact J2 (1) (if_neg (c := ¬ p8 = 2) (fun z => z hc)).symm
      intro v1 hv1
      subst hv1
      exact J5 ((if ¬ p8 = 2 then (0 : Int) else 1)) (if_pos (c := ¬ p8 = 0) hc).symm
    · skip
      refine sa_const X.1 dL_edge_5 ?_
      refine lv_goto (tgt := 20) X.1.1 X.1.2.1 dL_edge_6 (by decide) ?_
      exact J5 ((-1)) (if_neg (c := ¬ p8 = 0) (fun z => z hc)).symm
  intro v4 hv4
  subst hv4
  refine lv_istore (lv' := [(9, .int (Int32.ofInt (if ¬ p8 = 0 then (if ¬ p8 = 2 then (0 : Int) else 1) else (-1)))), (0, .ref (α 104 0)), (1, .ref (α 106 0)), (2, .ref (α 107 0)), (3, .ref (α 110 0)), (4, .ref (α 111 0)), (5, .ref (α 112 0)), (6, .int (Int32.ofInt p6)), (7, .int (Int32.ofInt p7)), (8, .int (Int32.ofInt p8))]) X.1.1 X.1.2.1 dL_edge_20 hl (by decide) rfl (fun ls hl => ?_)
  refine lv_iload X.1.1 X.1.2.1 dL_edge_22 (lv_at hl 9 rfl) ?_
  refine sa_const X.1 dL_edge_24 ?_
  have r8 := inR_ite (c := ¬ p8 = 1) (inR_ite (c := ¬ p8 = 3) (inR_c (a := 0) rfl) (inR_c (a := -1) rfl)) (inR_c (a := 1) rfl)
  refine cut_j (A := ∀ v9 : Int, v9 = (if ¬ p8 = 1 then (if ¬ p8 = 3 then (0 : Int) else (-1)) else 1) → WI p l e 2 s m args below meth c G e0 α κ B Qm H locs 43 ls [.int (Int32.ofInt v9)]) (fun J10 => ?_) ?_
  · refine sa_icmp_ne (tgt := 32) X.1 hp8 (inR_c (a := 1) rfl) dL_edge_25 (by decide) (fun hc => ?_) (fun hc => ?_)
    · skip
      refine lv_iload X.1.1 X.1.2.1 dL_edge_32 (lv_at hl 9 rfl) ?_
      refine sa_const X.1 dL_edge_34 ?_
      refine cut_j (A := ∀ v6 : Int, v6 = (if ¬ p8 = 3 then (0 : Int) else (-1)) → WI p l e 2 s m args below meth c G e0 α κ B Qm H locs 43 ls [.int (Int32.ofInt v6)]) (fun J7 => ?_) ?_
      · refine sa_icmp_ne (tgt := 42) X.1 hp8 (inR_c (a := 3) rfl) dL_edge_35 (by decide) (fun hc => ?_) (fun hc => ?_)
        · skip
          refine sa_const X.1 dL_edge_42 ?_
          exact J7 (0) (if_pos (c := ¬ p8 = 3) hc).symm
        · skip
          refine sa_const X.1 dL_edge_38 ?_
          refine lv_goto (tgt := 43) X.1.1 X.1.2.1 dL_edge_39 (by decide) ?_
          exact J7 ((-1)) (if_neg (c := ¬ p8 = 3) (fun z => z hc)).symm
      intro v6 hv6
      subst hv6
      exact J10 ((if ¬ p8 = 3 then (0 : Int) else (-1))) (if_pos (c := ¬ p8 = 1) hc).symm
    · skip
      refine sa_const X.1 dL_edge_28 ?_
      refine lv_goto (tgt := 43) X.1.1 X.1.2.1 dL_edge_29 (by decide) ?_
      exact J10 (1) (if_neg (c := ¬ p8 = 1) (fun z => z hc)).symm
  intro v9 hv9
  subst hv9
  refine lv_istore (lv' := [(10, .int (Int32.ofInt (if ¬ p8 = 1 then (if ¬ p8 = 3 then (0 : Int) else (-1)) else 1))), (9, .int (Int32.ofInt (if ¬ p8 = 0 then (if ¬ p8 = 2 then (0 : Int) else 1) else (-1)))), (0, .ref (α 104 0)), (1, .ref (α 106 0)), (2, .ref (α 107 0)), (3, .ref (α 110 0)), (4, .ref (α 111 0)), (5, .ref (α 112 0)), (6, .int (Int32.ofInt p6)), (7, .int (Int32.ofInt p7)), (8, .int (Int32.ofInt p8))]) X.1.1 X.1.2.1 dL_edge_43 hl (by decide) rfl (fun ls hl => ?_)
  refine lv_iload X.1.1 X.1.2.1 dL_edge_45 (lv_at hl 9 rfl) ?_
  refine lv_iload X.1.1 X.1.2.1 dL_edge_47 (lv_at hl 0 rfl) ?_
  have c11 := hw.1
  have hw := hw.2
  refine sa_iadd X.1 dL_edge_49 ?_
  refine lv_istore (lv' := [(11, .int (Int32.ofInt (p7 + (if ¬ p8 = 1 then (if ¬ p8 = 3 then (0 : Int) else (-1)) else 1)))), (10, .int (Int32.ofInt (if ¬ p8 = 1 then (if ¬ p8 = 3 then (0 : Int) else (-1)) else 1))), (9, .int (Int32.ofInt (if ¬ p8 = 0 then (if ¬ p8 = 2 then (0 : Int) else 1) else (-1)))), (0, .ref (α 104 0)), (1, .ref (α 106 0)), (2, .ref (α 107 0)), (3, .ref (α 110 0)), (4, .ref (α 111 0)), (5, .ref (α 112 0)), (6, .int (Int32.ofInt p6)), (7, .int (Int32.ofInt p7)), (8, .int (Int32.ofInt p8))]) X.1.1 X.1.2.1 dL_edge_50 hl (by decide) rfl (fun ls hl => ?_)
  obtain ⟨n105, hw⟩ := hw
  exact t_L_edge_52 X hp6 hp7 hp8 n105 _ _ _ _ hw r3 r8 c11 _ _ hR hS _ (lv_sub hl [3, 4, 5, 6, 7, 8, 9, 10, 11, 2, 1, 0] rfl)
theorem m_L_edge {l : Launch} {G : Gx} {e0 : Nat} {α : Ax} {κ : Nat → Int} {B : Nat} {p6 : Int} {p7 : Int} {p8 : Int} (hκ : kOK κ) (hp6 : inR p6) (hp7 : inR p7) (hp8 : inR p8) {M : Mem} {Qm : Int → Mem → Prop} (hw : wp_L_edge p6 p7 p8 M Qm) : CI l yL_edge (Cond.code yL_edge cL_edge 17 (some .int)) 2 G e0 α κ B [.ref (α 104 0), .ref (α 106 0), .ref (α 107 0), .ref (α 110 0), .ref (α 111 0), .ref (α 112 0), .int (Int32.ofInt p6), .int (Int32.ofInt p7), .int (Int32.ofInt p8)] M Qm :=
  CI.mk hκ (by decide +kernel) rfl (Nat.le_of_ble_eq_true rfl) (lv := [(0, .ref (α 104 0)), (1, .ref (α 106 0)), (2, .ref (α 107 0)), (3, .ref (α 110 0)), (4, .ref (α 111 0)), (5, .ref (α 112 0)), (6, .int (Int32.ofInt p6)), (7, .int (Int32.ofInt p7)), (8, .int (Int32.ofInt p8))]) rfl (fun p e s m args below meth c ls X hR hS hl => t_L_edge X hp6 hp7 hp8 hw _ _ hR hS ls hl)
theorem cs_L_edge {cc : ByteArray} {nL : Nat} {own : String} {ret : Option FieldType} {idx pc : Nat} {p6 : Int} {p7 : Int} {p8 : Int} (X : CX p m c cc nL s args own G B κ meth ret) (hp6 : inR p6) (hp7 : inR p7) (hp8 : inR p8) {kc : Nat} {R : Room} {cells slots : Nat} (hRr : RmOK R kc) (hcel : cells ≤ R.cells ∧ slots ≤ R.slots) (hk : 2 + 1 ≤ kc) {M : Mem} {H : Heap} {locs : List Loc} (hR : Rp G e0 α κ B M H) (hS : va_S (fun q => B ≤ q) s.heap H locs) (k1 : Cond.methodLink own idx yL_edge ∈ gw) {ls : Array Slot} (hml : ls.size = nL) {rest : List Value} (hd : decode cc pc = .ok (.invokestatic idx, 3)) (hrest : (rest.map fun v => v.category).sum ≤ 8) {Q : State → Prop} {Qm : Int → Mem → Prop} (hw : wp_L_edge p6 p7 p8 M Qm) (kk : ∀ (r : Int) (M1 : Mem) (H1 : Heap) (locs1 : List Loc), Qm r M1 → inR r → Rp G e0 α κ B M1 H1 → va_S (fun q => B ≤ q) s.heap H1 locs1 → W p l e R s m args below meth c H1 locs1 cells slots Q (F0 m (pc + 3) ls (.int (Int32.ofInt r) :: rest))) : W p l e R s m args below meth c H locs cells slots Q (F0 m pc ls (.int (Int32.ofInt p8) :: .int (Int32.ofInt p7) :: .int (Int32.ofInt p6) :: .ref (α 112 0) :: .ref (α 111 0) :: .ref (α 110 0) :: .ref (α 107 0) :: .ref (α 106 0) :: .ref (α 104 0) :: rest)) :=
  sa_callSI 2 (n := 9) (As := [.ref (α 104 0), .ref (α 106 0), .ref (α 107 0), .ref (α 110 0), .ref (α 111 0), .ref (α 112 0), .int (Int32.ofInt p6), .int (Int32.ofInt p7), .int (Int32.ofInt p8)]) (rest := rest) X.1 X.2.1 hR hS (m_L_edge X.2.2.1 hp6 hp7 hp8 hw) k1 kw_1435 kw_37 kw_1436 ⟨by decide +kernel, by decide +kernel, by decide +kernel⟩ (rm_ok hRr hk (by decide)) rfl rfl hrest hml hd hcel kk
def wp_L_sums_4 (Qm : Int → Mem → Prop) : Nat → Int → Int → Mem → Prop
  | 0 => fun _ _ _ => False
  | n + 1 => fun y2 y3 M => (((M 112 0 0) ≤ y3 → (bit y2) ∧ Qm y2 M) ∧ (y3 < (M 112 0 0) → (y2 = 0 → (inR (4 * y3)) ∧ (inR ((4 * y3) + 2)) ∧ (0 ≤ ((4 * y3) + 2) ∧ ((4 * y3) + 2) < 16) ∧ ((M 104 0 ((4 * y3) + 2)) = 1 → (inR (4 * y3)) ∧ (inR ((4 * y3) + 3)) ∧ (0 ≤ ((4 * y3) + 3) ∧ ((4 * y3) + 3) < 16) ∧ True) ∧ True) ∧ (inR (y3 + 1)) ∧ wp_L_sums_4 Qm n (if ¬ y2 = 0 then (1 : Int) else (if ¬ (M 104 0 ((4 * y3) + 2)) = 1 then (0 : Int) else (if ¬ (M 104 0 ((4 * y3) + 3)) = 0 then (0 : Int) else 1))) (y3 + 1) M))
def wp_L_sums (M : Mem) (Qm : Int → Mem → Prop) : Prop := (∃ n19 : Nat, wp_L_sums_4 Qm n19 0 0 M)
set_option maxHeartbeats 4000000 in
set_option maxRecDepth 100000 in
theorem t_L_sums_4 (X : CX p m c cL_sums 4 s args RL G B κ meth (some .boolean)) {Qm : Int → Mem → Prop} : ∀ n : Nat, ∀ y2 : Int, ∀ y3 : Int, ∀ M : Mem, wp_L_sums_4 Qm n y2 y3 M → inR y2 → inR y3 → ∀ (H : Heap) (locs : List Loc), Rp G e0 α κ B M H → va_S (fun q => B ≤ q) s.heap H locs → ∀ (ls : Array Slot), lv_has ls 4 [(0, .ref (α 104 0)), (1, .ref (α 112 0)), (2, .int (Int32.ofInt y2)), (3, .int (Int32.ofInt y3))] → WI p l e 0 s m args below meth c G e0 α κ B Qm H locs 4 ls [] := by
  intro n
  induction n with
  | zero =>
    intro y2 y3 M hw hy2 hy3 H locs hR hS ls hl
    exact hw.elim
  | succ n ih =>
    intro y2 y3 M hw hy2 hy3 H locs hR hS ls hl
    have hw : (((M 112 0 0) ≤ y3 → (bit y2) ∧ Qm y2 M) ∧ (y3 < (M 112 0 0) → (y2 = 0 → (inR (4 * y3)) ∧ (inR ((4 * y3) + 2)) ∧ (0 ≤ ((4 * y3) + 2) ∧ ((4 * y3) + 2) < 16) ∧ ((M 104 0 ((4 * y3) + 2)) = 1 → (inR (4 * y3)) ∧ (inR ((4 * y3) + 3)) ∧ (0 ≤ ((4 * y3) + 3) ∧ ((4 * y3) + 3) < 16) ∧ True) ∧ True) ∧ (inR (y3 + 1)) ∧ wp_L_sums_4 Qm n (if ¬ y2 = 0 then (1 : Int) else (if ¬ (M 104 0 ((4 * y3) + 2)) = 1 then (0 : Int) else (if ¬ (M 104 0 ((4 * y3) + 3)) = 0 then (0 : Int) else 1))) (y3 + 1) M)) := hw
    refine lv_iload_n X.1.1 X.1.2.1 dL_sums_4 rfl (lv_at hl 3 rfl) ?_
    refine lv_aload_n X.1.1 X.1.2.1 dL_sums_5 rfl (lv_at hl 1 rfl) ?_
    refine sa_const X.1 dL_sums_6 ?_
    refine ra_112 X hR (okf X.2.2.1 rfl) ⟨by decide, by decide⟩ dL_sums_7 ?_
    have r1 := hR.r 112 0 0
    refine sa_icmp_ge (tgt := 48) X.1 hy3 r1 dL_sums_8 (by decide) (fun hc => ?_) (fun hc => ?_)
    · have hw := hw.1 hc
      refine lv_iload_n X.1.1 X.1.2.1 dL_sums_48 rfl (lv_at hl 2 rfl) ?_
      have c2 := hw.1
      have hw := hw.2
      exact sa_zret X.1 X.2.2.2.1 X.2.2.2.2 hR hS c2 hw dL_sums_49
    · have hw := hw.2 hc
      refine lv_iload_n X.1.1 X.1.2.1 dL_sums_11 rfl (lv_at hl 2 rfl) ?_
      have s14 := hw.1
      have hw := hw.2
      have r15 := inR_ite (c := ¬ y2 = 0) (inR_c (a := 1) rfl) (inR_ite (c := ¬ (M 104 0 ((4 * y3) + 2)) = 1) (inR_c (a := 0) rfl) (inR_ite (c := ¬ (M 104 0 ((4 * y3) + 3)) = 0) (inR_c (a := 0) rfl) (inR_c (a := 1) rfl)))
      refine cut_j (A := ∀ v16 : Int, v16 = (if ¬ y2 = 0 then (1 : Int) else (if ¬ (M 104 0 ((4 * y3) + 2)) = 1 then (0 : Int) else (if ¬ (M 104 0 ((4 * y3) + 3)) = 0 then (0 : Int) else 1))) → WI p l e 0 s m args below meth c G e0 α κ B Qm H locs 41 ls [.int (Int32.ofInt v16)]) (fun J17 => ?_) ?_
      · refine sa_if_ne (tgt := 36) X.1 hy2 dL_sums_12 (by decide) (fun hc => ?_) (fun hc => ?_)
        · skip
          refine sa_const X.1 dL_sums_36 ?_
          refine lv_goto (tgt := 41) X.1.1 X.1.2.1 dL_sums_37 (by decide) ?_
          exact J17 (1) (if_pos (c := ¬ y2 = 0) hc).symm
        · have hw := s14 hc
          refine lv_aload_n X.1.1 X.1.2.1 dL_sums_15 rfl (lv_at hl 0 rfl) ?_
          refine sa_const X.1 dL_sums_16 ?_
          refine lv_iload_n X.1.1 X.1.2.1 dL_sums_17 rfl (lv_at hl 3 rfl) ?_
          have c3 := hw.1
          have hw := hw.2
          refine sa_imul X.1 dL_sums_18 ?_
          refine sa_const X.1 dL_sums_19 ?_
          have c4 := hw.1
          have hw := hw.2
          refine sa_iadd X.1 dL_sums_20 ?_
          have c5 := hw.1
          have hw := hw.2
          refine ra_104 X hR (okf X.2.2.1 rfl) c5 dL_sums_21 ?_
          refine sa_const X.1 dL_sums_22 ?_
          have s11 := hw.1
          have hw := hw.2
          refine cut_j (A := ∀ v12 : Int, v12 = (if ¬ (M 104 0 ((4 * y3) + 2)) = 1 then (0 : Int) else (if ¬ (M 104 0 ((4 * y3) + 3)) = 0 then (0 : Int) else 1)) → WI p l e 0 s m args below meth c G e0 α κ B Qm H locs 41 ls [.int (Int32.ofInt v12)]) (fun J13 => ?_) ?_
          · refine sa_icmp_ne (tgt := 40) X.1 (hR.r 104 0 ((4 * y3) + 2)) (inR_c (a := 1) rfl) dL_sums_23 (by decide) (fun hc => ?_) (fun hc => ?_)
            · skip
              refine sa_const X.1 dL_sums_40 ?_
              exact J13 (0) (if_pos (c := ¬ (M 104 0 ((4 * y3) + 2)) = 1) hc).symm
            · have hw := s11 hc
              refine lv_aload_n X.1.1 X.1.2.1 dL_sums_26 rfl (lv_at hl 0 rfl) ?_
              refine sa_const X.1 dL_sums_27 ?_
              refine lv_iload_n X.1.1 X.1.2.1 dL_sums_28 rfl (lv_at hl 3 rfl) ?_
              have c6 := hw.1
              have hw := hw.2
              refine sa_imul X.1 dL_sums_29 ?_
              refine sa_const X.1 dL_sums_30 ?_
              have c7 := hw.1
              have hw := hw.2
              refine sa_iadd X.1 dL_sums_31 ?_
              have c8 := hw.1
              have hw := hw.2
              refine ra_104 X hR (okf X.2.2.1 rfl) c8 dL_sums_32 ?_
              refine cut_j (A := ∀ v9 : Int, v9 = (if ¬ (M 104 0 ((4 * y3) + 3)) = 0 then (0 : Int) else 1) → WI p l e 0 s m args below meth c G e0 α κ B Qm H locs 41 ls [.int (Int32.ofInt v9)]) (fun J10 => ?_) ?_
              · refine sa_if_ne (tgt := 40) X.1 (hR.r 104 0 ((4 * y3) + 3)) dL_sums_33 (by decide) (fun hc => ?_) (fun hc => ?_)
                · skip
                  refine sa_const X.1 dL_sums_40 ?_
                  exact J10 (0) (if_pos (c := ¬ (M 104 0 ((4 * y3) + 3)) = 0) hc).symm
                · skip
                  refine sa_const X.1 dL_sums_36 ?_
                  refine lv_goto (tgt := 41) X.1.1 X.1.2.1 dL_sums_37 (by decide) ?_
                  exact J10 (1) (if_neg (c := ¬ (M 104 0 ((4 * y3) + 3)) = 0) (fun z => z hc)).symm
              intro v9 hv9
              subst hv9
              exact J13 ((if ¬ (M 104 0 ((4 * y3) + 3)) = 0 then (0 : Int) else 1)) (if_neg (c := ¬ (M 104 0 ((4 * y3) + 2)) = 1) (fun z => z hc)).symm
          intro v12 hv12
          subst hv12
          exact J17 ((if ¬ (M 104 0 ((4 * y3) + 2)) = 1 then (0 : Int) else (if ¬ (M 104 0 ((4 * y3) + 3)) = 0 then (0 : Int) else 1))) (if_neg (c := ¬ y2 = 0) (fun z => z hc)).symm
      intro v16 hv16
      subst hv16
      refine lv_istore_n (lv' := [(2, .int (Int32.ofInt (if ¬ y2 = 0 then (1 : Int) else (if ¬ (M 104 0 ((4 * y3) + 2)) = 1 then (0 : Int) else (if ¬ (M 104 0 ((4 * y3) + 3)) = 0 then (0 : Int) else 1))))), (0, .ref (α 104 0)), (1, .ref (α 112 0)), (3, .int (Int32.ofInt y3))]) X.1.1 X.1.2.1 dL_sums_41 rfl hl (by decide) rfl (fun ls hl => ?_)
      have c18 := hw.1
      have hw := hw.2
      refine lv_iinc (v := Int32.ofInt (y3 + 1)) (lv' := [(3, .int (Int32.ofInt (y3 + 1))), (2, .int (Int32.ofInt (if ¬ y2 = 0 then (1 : Int) else (if ¬ (M 104 0 ((4 * y3) + 2)) = 1 then (0 : Int) else (if ¬ (M 104 0 ((4 * y3) + 3)) = 0 then (0 : Int) else 1))))), (0, .ref (α 104 0)), (1, .ref (α 112 0))]) X.1.1 X.1.2.1 dL_sums_42 hl (k := 3) rfl (Int32.ofInt_add _ _).symm (by decide) rfl (fun ls hl => ?_)
      refine lv_goto (tgt := 4) X.1.1 X.1.2.1 dL_sums_45 (by decide) ?_
      exact ih _ _ _ hw r15 c18 _ _ hR hS _ (lv_sub hl [2, 3, 1, 0] rfl)
set_option maxHeartbeats 4000000 in
set_option maxRecDepth 100000 in
theorem t_L_sums (X : CX p m c cL_sums 4 s args RL G B κ meth (some .boolean)) {M : Mem} {Qm : Int → Mem → Prop} (hw : wp_L_sums M Qm) (H : Heap) (locs : List Loc) (hR : Rp G e0 α κ B M H) (hS : va_S (fun q => B ≤ q) s.heap H locs) (ls : Array Slot) (hl : lv_has ls 4 [(0, .ref (α 104 0)), (1, .ref (α 112 0))]) : WI p l e 0 s m args below meth c G e0 α κ B Qm H locs 0 ls [] := by
  have hw : (∃ n19 : Nat, wp_L_sums_4 Qm n19 0 0 M) := hw
  refine sa_const X.1 dL_sums_0 ?_
  refine lv_istore_n (lv' := [(2, .int (Int32.ofInt 0)), (0, .ref (α 104 0)), (1, .ref (α 112 0))]) X.1.1 X.1.2.1 dL_sums_1 rfl hl (by decide) rfl (fun ls hl => ?_)
  refine sa_const X.1 dL_sums_2 ?_
  refine lv_istore_n (lv' := [(3, .int (Int32.ofInt 0)), (2, .int (Int32.ofInt 0)), (0, .ref (α 104 0)), (1, .ref (α 112 0))]) X.1.1 X.1.2.1 dL_sums_3 rfl hl (by decide) rfl (fun ls hl => ?_)
  obtain ⟨n19, hw⟩ := hw
  exact t_L_sums_4 X n19 _ _ _ hw (inR_c (a := 0) rfl) (inR_c (a := 0) rfl) _ _ hR hS _ (lv_sub hl [2, 3, 1, 0] rfl)
theorem m_L_sums {l : Launch} {G : Gx} {e0 : Nat} {α : Ax} {κ : Nat → Int} {B : Nat} (hκ : kOK κ) {M : Mem} {Qm : Int → Mem → Prop} (hw : wp_L_sums M Qm) : CI l yL_sums (Cond.code yL_sums cL_sums 4 (some .boolean)) 0 G e0 α κ B [.ref (α 104 0), .ref (α 112 0)] M Qm :=
  CI.mk hκ (by decide +kernel) rfl (Nat.le_of_ble_eq_true rfl) (lv := [(0, .ref (α 104 0)), (1, .ref (α 112 0))]) rfl (fun p e s m args below meth c ls X hR hS hl => t_L_sums X hw _ _ hR hS ls hl)
theorem cs_L_sums {cc : ByteArray} {nL : Nat} {own : String} {ret : Option FieldType} {idx pc : Nat} (X : CX p m c cc nL s args own G B κ meth ret) {kc : Nat} {R : Room} {cells slots : Nat} (hRr : RmOK R kc) (hcel : cells ≤ R.cells ∧ slots ≤ R.slots) (hk : 0 + 1 ≤ kc) {M : Mem} {H : Heap} {locs : List Loc} (hR : Rp G e0 α κ B M H) (hS : va_S (fun q => B ≤ q) s.heap H locs) (k1 : Cond.methodLink own idx yL_sums ∈ gw) {ls : Array Slot} (hml : ls.size = nL) {rest : List Value} (hd : decode cc pc = .ok (.invokestatic idx, 3)) (hrest : (rest.map fun v => v.category).sum ≤ 8) {Q : State → Prop} {Qm : Int → Mem → Prop} (hw : wp_L_sums M Qm) (kk : ∀ (r : Int) (M1 : Mem) (H1 : Heap) (locs1 : List Loc), Qm r M1 → inR r → Rp G e0 α κ B M1 H1 → va_S (fun q => B ≤ q) s.heap H1 locs1 → W p l e R s m args below meth c H1 locs1 cells slots Q (F0 m (pc + 3) ls (.int (Int32.ofInt r) :: rest))) : W p l e R s m args below meth c H locs cells slots Q (F0 m pc ls (.ref (α 112 0) :: .ref (α 104 0) :: rest)) :=
  sa_callSI 0 (n := 2) (As := [.ref (α 104 0), .ref (α 112 0)]) (rest := rest) X.1 X.2.1 hR hS (m_L_sums X.2.2.1 hw) k1 kw_1331 kw_37 kw_1332 ⟨by decide +kernel, by decide +kernel, by decide +kernel⟩ (rm_ok hRr hk (by decide)) rfl rfl hrest hml hd hcel kk
def wp_L_noteLines_31 (p3 : Int) (Qm : Int → Mem → Prop) (K6 : Int → Int → Mem → Prop) (y5 : Int) (z0 : Int) (M : Mem) : Prop := wp_L_shows y5 M fun (x3 : Int) (M2 : Mem) => (0 < x3 → (inR (6 * y5)) ∧ (inR ((6 * y5) + 4)) ∧ (0 ≤ ((6 * y5) + 4) ∧ ((6 * y5) + 4) < 60) ∧ True) ∧ (inR (z0 + (if x3 ≤ 0 then (0 : Int) else (M2 107 0 ((6 * y5) + 4))))) ∧ (inR (y5 + 1)) ∧ K6 (z0 + (if x3 ≤ 0 then (0 : Int) else (M2 107 0 ((6 * y5) + 4)))) (y5 + 1) M2
def wp_L_noteLines_53 (p3 : Int) (Qm : Int → Mem → Prop) (K6 : Int → Int → Mem → Prop) (y5 : Int) (z0 : Int) (M : Mem) : Prop := (inR (z0 + 0)) ∧ (inR (y5 + 1)) ∧ K6 (z0 + 0) (y5 + 1) M
def wp_L_noteLines_6 (p3 : Int) (Qm : Int → Mem → Prop) : Nat → Int → Int → Mem → Prop
  | 0 => fun _ _ _ => False
  | n + 1 => fun y4 y5 M => (((M 112 0 2) ≤ y5 → Qm y4 M) ∧ (y5 < (M 112 0 2) → ((p3 < 0 → wp_L_noteLines_31 p3 Qm (wp_L_noteLines_6 p3 Qm n) y5 y4 M) ∧ (0 ≤ p3 → (inR (6 * y5)) ∧ (0 ≤ (6 * y5) ∧ (6 * y5) < 60) ∧ ((¬ (M 107 0 (6 * y5)) = p3 → wp_L_noteLines_53 p3 Qm (wp_L_noteLines_6 p3 Qm n) y5 y4 M) ∧ ((M 107 0 (6 * y5)) = p3 → wp_L_noteLines_31 p3 Qm (wp_L_noteLines_6 p3 Qm n) y5 y4 M))))))
def wp_L_noteLines (p3 : Int) (M : Mem) (Qm : Int → Mem → Prop) : Prop := (∃ n19 : Nat, wp_L_noteLines_6 p3 Qm n19 0 0 M)
set_option maxHeartbeats 4000000 in
set_option maxRecDepth 100000 in
theorem t_L_noteLines_31 {p3 : Int} (X : CX p m c cL_noteLines 6 s args RL G B κ meth (some .int)) (hp3 : inR p3) {Qm : Int → Mem → Prop} {K6 : Int → Int → Mem → Prop} (hK6 : ∀ y4 : Int, ∀ y5 : Int, ∀ M : Mem, K6 y4 y5 M → inR y4 → inR y5 → ∀ (H : Heap) (locs : List Loc), Rp G e0 α κ B M H → va_S (fun q => B ≤ q) s.heap H locs → ∀ (ls : Array Slot), lv_has ls 6 [(0, .ref (α 104 0)), (1, .ref (α 107 0)), (2, .ref (α 112 0)), (3, .int (Int32.ofInt p3)), (4, .int (Int32.ofInt y4)), (5, .int (Int32.ofInt y5))] → WI p l e 1 s m args below meth c G e0 α κ B Qm H locs 6 ls []) : ∀ y5 : Int, ∀ z0 : Int, ∀ M : Mem, wp_L_noteLines_31 p3 Qm K6 y5 z0 M → inR y5 → inR z0 → ∀ (H : Heap) (locs : List Loc), Rp G e0 α κ B M H → va_S (fun q => B ≤ q) s.heap H locs → ∀ (ls : Array Slot), lv_has ls 6 [(0, .ref (α 104 0)), (1, .ref (α 107 0)), (2, .ref (α 112 0)), (3, .int (Int32.ofInt p3)), (5, .int (Int32.ofInt y5))] → WI p l e 1 s m args below meth c G e0 α κ B Qm H locs 31 ls [.int (Int32.ofInt z0)] := by
  intro y5 z0 M hw hy5 hz0 H locs hR hS ls hl
  have hw : wp_L_shows y5 M fun (x3 : Int) (M2 : Mem) => (0 < x3 → (inR (6 * y5)) ∧ (inR ((6 * y5) + 4)) ∧ (0 ≤ ((6 * y5) + 4) ∧ ((6 * y5) + 4) < 60) ∧ True) ∧ (inR (z0 + (if x3 ≤ 0 then (0 : Int) else (M2 107 0 ((6 * y5) + 4))))) ∧ (inR (y5 + 1)) ∧ K6 (z0 + (if x3 ≤ 0 then (0 : Int) else (M2 107 0 ((6 * y5) + 4)))) (y5 + 1) M2 := hw
  refine lv_aload_n X.1.1 X.1.2.1 dL_noteLines_31 rfl (lv_at hl 0 rfl) ?_
  refine lv_aload_n X.1.1 X.1.2.1 dL_noteLines_32 rfl (lv_at hl 1 rfl) ?_
  refine lv_iload X.1.1 X.1.2.1 dL_noteLines_33 (lv_at hl 4 rfl) ?_
  refine cs_L_shows X hy5 (kc := 1) rmL_ok rm_c (by decide) hR hS kw_1235 hl.1 dL_noteLines_35 (Nat.le_of_ble_eq_true rfl) hw (fun x3 M2 H locs hw r4 hR hS => ?_)
  have s8 := hw.1
  have hw := hw.2
  have r9 := inR_ite (c := x3 ≤ 0) (inR_c (a := 0) rfl) (hR.r 107 0 ((6 * y5) + 4))
  refine cut_j (A := ∀ v10 : Int, v10 = (if x3 ≤ 0 then (0 : Int) else (M2 107 0 ((6 * y5) + 4))) → WI p l e 1 s m args below meth c G e0 α κ B Qm H locs 54 ls [.int (Int32.ofInt v10), .int (Int32.ofInt z0)]) (fun J11 => ?_) ?_
  · refine sa_if_le (tgt := 53) X.1 r4 dL_noteLines_38 (by decide) (fun hc => ?_) (fun hc => ?_)
    · skip
      refine sa_const X.1 dL_noteLines_53 ?_
      exact J11 (0) (if_pos (c := x3 ≤ 0) hc).symm
    · have hw := s8 hc
      refine lv_aload_n X.1.1 X.1.2.1 dL_noteLines_41 rfl (lv_at hl 1 rfl) ?_
      refine sa_bipush X.1 dL_noteLines_42 (by decide) ?_
      refine lv_iload X.1.1 X.1.2.1 dL_noteLines_44 (lv_at hl 4 rfl) ?_
      have c5 := hw.1
      have hw := hw.2
      refine sa_imul X.1 dL_noteLines_46 ?_
      refine sa_const X.1 dL_noteLines_47 ?_
      have c6 := hw.1
      have hw := hw.2
      refine sa_iadd X.1 dL_noteLines_48 ?_
      have c7 := hw.1
      have hw := hw.2
      refine ra_107 X hR (okf X.2.2.1 rfl) c7 dL_noteLines_49 ?_
      refine lv_goto (tgt := 54) X.1.1 X.1.2.1 dL_noteLines_50 (by decide) ?_
      exact J11 ((M2 107 0 ((6 * y5) + 4))) (if_neg (c := x3 ≤ 0) (Int.not_le.mpr hc)).symm
  intro v10 hv10
  subst hv10
  have c12 := hw.1
  have hw := hw.2
  refine sa_iadd X.1 dL_noteLines_54 ?_
  refine lv_istore (lv' := [(4, .int (Int32.ofInt (z0 + (if x3 ≤ 0 then (0 : Int) else (M2 107 0 ((6 * y5) + 4)))))), (0, .ref (α 104 0)), (1, .ref (α 107 0)), (2, .ref (α 112 0)), (3, .int (Int32.ofInt p3)), (5, .int (Int32.ofInt y5))]) X.1.1 X.1.2.1 dL_noteLines_55 hl (by decide) rfl (fun ls hl => ?_)
  have c13 := hw.1
  have hw := hw.2
  refine lv_iinc (v := Int32.ofInt (y5 + 1)) (lv' := [(5, .int (Int32.ofInt (y5 + 1))), (4, .int (Int32.ofInt (z0 + (if x3 ≤ 0 then (0 : Int) else (M2 107 0 ((6 * y5) + 4)))))), (0, .ref (α 104 0)), (1, .ref (α 107 0)), (2, .ref (α 112 0)), (3, .int (Int32.ofInt p3))]) X.1.1 X.1.2.1 dL_noteLines_57 hl (k := 5) rfl (Int32.ofInt_add _ _).symm (by decide) rfl (fun ls hl => ?_)
  refine lv_goto (tgt := 6) X.1.1 X.1.2.1 dL_noteLines_60 (by decide) ?_
  exact hK6 _ _ _ hw c12 c13 _ _ hR hS _ (lv_sub hl [2, 3, 4, 5, 1, 0] rfl)
set_option maxHeartbeats 4000000 in
set_option maxRecDepth 100000 in
theorem t_L_noteLines_53 {p3 : Int} (X : CX p m c cL_noteLines 6 s args RL G B κ meth (some .int)) (hp3 : inR p3) {Qm : Int → Mem → Prop} {K6 : Int → Int → Mem → Prop} (hK6 : ∀ y4 : Int, ∀ y5 : Int, ∀ M : Mem, K6 y4 y5 M → inR y4 → inR y5 → ∀ (H : Heap) (locs : List Loc), Rp G e0 α κ B M H → va_S (fun q => B ≤ q) s.heap H locs → ∀ (ls : Array Slot), lv_has ls 6 [(0, .ref (α 104 0)), (1, .ref (α 107 0)), (2, .ref (α 112 0)), (3, .int (Int32.ofInt p3)), (4, .int (Int32.ofInt y4)), (5, .int (Int32.ofInt y5))] → WI p l e 1 s m args below meth c G e0 α κ B Qm H locs 6 ls []) : ∀ y5 : Int, ∀ z0 : Int, ∀ M : Mem, wp_L_noteLines_53 p3 Qm K6 y5 z0 M → inR y5 → inR z0 → ∀ (H : Heap) (locs : List Loc), Rp G e0 α κ B M H → va_S (fun q => B ≤ q) s.heap H locs → ∀ (ls : Array Slot), lv_has ls 6 [(0, .ref (α 104 0)), (1, .ref (α 107 0)), (2, .ref (α 112 0)), (3, .int (Int32.ofInt p3)), (5, .int (Int32.ofInt y5))] → WI p l e 1 s m args below meth c G e0 α κ B Qm H locs 53 ls [.int (Int32.ofInt z0)] := by
  intro y5 z0 M hw hy5 hz0 H locs hR hS ls hl
  have hw : (inR (z0 + 0)) ∧ (inR (y5 + 1)) ∧ K6 (z0 + 0) (y5 + 1) M := hw
  refine sa_const X.1 dL_noteLines_53 ?_
  have c17 := hw.1
  have hw := hw.2
  refine sa_iadd X.1 dL_noteLines_54 ?_
  refine lv_istore (lv' := [(4, .int (Int32.ofInt (z0 + 0))), (0, .ref (α 104 0)), (1, .ref (α 107 0)), (2, .ref (α 112 0)), (3, .int (Int32.ofInt p3)), (5, .int (Int32.ofInt y5))]) X.1.1 X.1.2.1 dL_noteLines_55 hl (by decide) rfl (fun ls hl => ?_)
  have c18 := hw.1
  have hw := hw.2
  refine lv_iinc (v := Int32.ofInt (y5 + 1)) (lv' := [(5, .int (Int32.ofInt (y5 + 1))), (4, .int (Int32.ofInt (z0 + 0))), (0, .ref (α 104 0)), (1, .ref (α 107 0)), (2, .ref (α 112 0)), (3, .int (Int32.ofInt p3))]) X.1.1 X.1.2.1 dL_noteLines_57 hl (k := 5) rfl (Int32.ofInt_add _ _).symm (by decide) rfl (fun ls hl => ?_)
  refine lv_goto (tgt := 6) X.1.1 X.1.2.1 dL_noteLines_60 (by decide) ?_
  exact hK6 _ _ _ hw c17 c18 _ _ hR hS _ (lv_sub hl [2, 3, 4, 5, 1, 0] rfl)
set_option maxHeartbeats 4000000 in
set_option maxRecDepth 100000 in
theorem t_L_noteLines_6 {p3 : Int} (X : CX p m c cL_noteLines 6 s args RL G B κ meth (some .int)) (hp3 : inR p3) {Qm : Int → Mem → Prop} : ∀ n : Nat, ∀ y4 : Int, ∀ y5 : Int, ∀ M : Mem, wp_L_noteLines_6 p3 Qm n y4 y5 M → inR y4 → inR y5 → ∀ (H : Heap) (locs : List Loc), Rp G e0 α κ B M H → va_S (fun q => B ≤ q) s.heap H locs → ∀ (ls : Array Slot), lv_has ls 6 [(0, .ref (α 104 0)), (1, .ref (α 107 0)), (2, .ref (α 112 0)), (3, .int (Int32.ofInt p3)), (4, .int (Int32.ofInt y4)), (5, .int (Int32.ofInt y5))] → WI p l e 1 s m args below meth c G e0 α κ B Qm H locs 6 ls [] := by
  intro n
  induction n with
  | zero =>
    intro y4 y5 M hw hy4 hy5 H locs hR hS ls hl
    exact hw.elim
  | succ n ih =>
    intro y4 y5 M hw hy4 hy5 H locs hR hS ls hl
    have hw : (((M 112 0 2) ≤ y5 → Qm y4 M) ∧ (y5 < (M 112 0 2) → ((p3 < 0 → wp_L_noteLines_31 p3 Qm (wp_L_noteLines_6 p3 Qm n) y5 y4 M) ∧ (0 ≤ p3 → (inR (6 * y5)) ∧ (0 ≤ (6 * y5) ∧ (6 * y5) < 60) ∧ ((¬ (M 107 0 (6 * y5)) = p3 → wp_L_noteLines_53 p3 Qm (wp_L_noteLines_6 p3 Qm n) y5 y4 M) ∧ ((M 107 0 (6 * y5)) = p3 → wp_L_noteLines_31 p3 Qm (wp_L_noteLines_6 p3 Qm n) y5 y4 M)))))) := hw
    refine lv_iload X.1.1 X.1.2.1 dL_noteLines_6 (lv_at hl 5 rfl) ?_
    refine lv_aload_n X.1.1 X.1.2.1 dL_noteLines_8 rfl (lv_at hl 2 rfl) ?_
    refine sa_const X.1 dL_noteLines_9 ?_
    refine ra_112 X hR (okf X.2.2.1 rfl) ⟨by decide, by decide⟩ dL_noteLines_10 ?_
    have r1 := hR.r 112 0 2
    refine sa_icmp_ge (tgt := 63) X.1 hy5 r1 dL_noteLines_11 (by decide) (fun hc => ?_) (fun hc => ?_)
    · have hw := hw.1 hc
      refine lv_iload X.1.1 X.1.2.1 dL_noteLines_63 (lv_at hl 4 rfl) ?_
      exact sa_iret X.1 X.2.2.2.1 X.2.2.2.2 hR hS hy4 hw dL_noteLines_65
    · have hw := hw.2 hc
      refine lv_iload X.1.1 X.1.2.1 dL_noteLines_14 (lv_at hl 4 rfl) ?_
      refine lv_iload_n X.1.1 X.1.2.1 dL_noteLines_16 rfl (lv_at hl 3 rfl) ?_
      refine sa_if_lt (tgt := 31) X.1 hp3 dL_noteLines_17 (by decide) (fun hc => ?_) (fun hc => ?_)
      · have hw := hw.1 hc
        exact t_L_noteLines_31 X hp3 ih _ _ _ hw hy5 hy4 _ _ hR hS _ (lv_sub hl [0, 1, 2, 3, 5] rfl)
      · have hw := hw.2 hc
        refine lv_aload_n X.1.1 X.1.2.1 dL_noteLines_20 rfl (lv_at hl 1 rfl) ?_
        refine sa_bipush X.1 dL_noteLines_21 (by decide) ?_
        refine lv_iload X.1.1 X.1.2.1 dL_noteLines_23 (lv_at hl 5 rfl) ?_
        have c14 := hw.1
        have hw := hw.2
        refine sa_imul X.1 dL_noteLines_25 ?_
        have c15 := hw.1
        have hw := hw.2
        refine ra_107 X hR (okf X.2.2.1 rfl) c15 dL_noteLines_26 ?_
        have r16 := hR.r 107 0 (6 * y5)
        refine lv_iload_n X.1.1 X.1.2.1 dL_noteLines_27 rfl (lv_at hl 3 rfl) ?_
        refine sa_icmp_ne (tgt := 53) X.1 r16 hp3 dL_noteLines_28 (by decide) (fun hc => ?_) (fun hc => ?_)
        · have hw := hw.1 hc
          exact t_L_noteLines_53 X hp3 ih _ _ _ hw hy5 hy4 _ _ hR hS _ (lv_sub hl [0, 1, 2, 3, 5] rfl)
        · have hw := hw.2 hc
          exact t_L_noteLines_31 X hp3 ih _ _ _ hw hy5 hy4 _ _ hR hS _ (lv_sub hl [0, 1, 2, 3, 5] rfl)
set_option maxHeartbeats 4000000 in
set_option maxRecDepth 100000 in
theorem t_L_noteLines {p3 : Int} (X : CX p m c cL_noteLines 6 s args RL G B κ meth (some .int)) (hp3 : inR p3) {M : Mem} {Qm : Int → Mem → Prop} (hw : wp_L_noteLines p3 M Qm) (H : Heap) (locs : List Loc) (hR : Rp G e0 α κ B M H) (hS : va_S (fun q => B ≤ q) s.heap H locs) (ls : Array Slot) (hl : lv_has ls 6 [(0, .ref (α 104 0)), (1, .ref (α 107 0)), (2, .ref (α 112 0)), (3, .int (Int32.ofInt p3))]) : WI p l e 1 s m args below meth c G e0 α κ B Qm H locs 0 ls [] := by
  have hw : (∃ n19 : Nat, wp_L_noteLines_6 p3 Qm n19 0 0 M) := hw
  refine sa_const X.1 dL_noteLines_0 ?_
  refine lv_istore (lv' := [(4, .int (Int32.ofInt 0)), (0, .ref (α 104 0)), (1, .ref (α 107 0)), (2, .ref (α 112 0)), (3, .int (Int32.ofInt p3))]) X.1.1 X.1.2.1 dL_noteLines_1 hl (by decide) rfl (fun ls hl => ?_)
  refine sa_const X.1 dL_noteLines_3 ?_
  refine lv_istore (lv' := [(5, .int (Int32.ofInt 0)), (4, .int (Int32.ofInt 0)), (0, .ref (α 104 0)), (1, .ref (α 107 0)), (2, .ref (α 112 0)), (3, .int (Int32.ofInt p3))]) X.1.1 X.1.2.1 dL_noteLines_4 hl (by decide) rfl (fun ls hl => ?_)
  obtain ⟨n19, hw⟩ := hw
  exact t_L_noteLines_6 X hp3 n19 _ _ _ hw (inR_c (a := 0) rfl) (inR_c (a := 0) rfl) _ _ hR hS _ (lv_sub hl [2, 3, 4, 5, 1, 0] rfl)
theorem m_L_noteLines {l : Launch} {G : Gx} {e0 : Nat} {α : Ax} {κ : Nat → Int} {B : Nat} {p3 : Int} (hκ : kOK κ) (hp3 : inR p3) {M : Mem} {Qm : Int → Mem → Prop} (hw : wp_L_noteLines p3 M Qm) : CI l yL_noteLines (Cond.code yL_noteLines cL_noteLines 6 (some .int)) 1 G e0 α κ B [.ref (α 104 0), .ref (α 107 0), .ref (α 112 0), .int (Int32.ofInt p3)] M Qm :=
  CI.mk hκ (by decide +kernel) rfl (Nat.le_of_ble_eq_true rfl) (lv := [(0, .ref (α 104 0)), (1, .ref (α 107 0)), (2, .ref (α 112 0)), (3, .int (Int32.ofInt p3))]) rfl (fun p e s m args below meth c ls X hR hS hl => t_L_noteLines X hp3 hw _ _ hR hS ls hl)
theorem cs_L_noteLines {cc : ByteArray} {nL : Nat} {own : String} {ret : Option FieldType} {idx pc : Nat} {p3 : Int} (X : CX p m c cc nL s args own G B κ meth ret) (hp3 : inR p3) {kc : Nat} {R : Room} {cells slots : Nat} (hRr : RmOK R kc) (hcel : cells ≤ R.cells ∧ slots ≤ R.slots) (hk : 1 + 1 ≤ kc) {M : Mem} {H : Heap} {locs : List Loc} (hR : Rp G e0 α κ B M H) (hS : va_S (fun q => B ≤ q) s.heap H locs) (k1 : Cond.methodLink own idx yL_noteLines ∈ gw) {ls : Array Slot} (hml : ls.size = nL) {rest : List Value} (hd : decode cc pc = .ok (.invokestatic idx, 3)) (hrest : (rest.map fun v => v.category).sum ≤ 8) {Q : State → Prop} {Qm : Int → Mem → Prop} (hw : wp_L_noteLines p3 M Qm) (kk : ∀ (r : Int) (M1 : Mem) (H1 : Heap) (locs1 : List Loc), Qm r M1 → inR r → Rp G e0 α κ B M1 H1 → va_S (fun q => B ≤ q) s.heap H1 locs1 → W p l e R s m args below meth c H1 locs1 cells slots Q (F0 m (pc + 3) ls (.int (Int32.ofInt r) :: rest))) : W p l e R s m args below meth c H locs cells slots Q (F0 m pc ls (.int (Int32.ofInt p3) :: .ref (α 112 0) :: .ref (α 107 0) :: .ref (α 104 0) :: rest)) :=
  sa_callSI 1 (n := 4) (As := [.ref (α 104 0), .ref (α 107 0), .ref (α 112 0), .int (Int32.ofInt p3)]) (rest := rest) X.1 X.2.1 hR hS (m_L_noteLines X.2.2.1 hp3 hw) k1 kw_1334 kw_37 kw_1335 ⟨by decide +kernel, by decide +kernel, by decide +kernel⟩ (rm_ok hRr hk (by decide)) rfl rfl hrest hml hd hcel kk
end
