theorem dX10_noteOf_0 : decode cX10_noteOf 0 = .ok (.aload_n 0, 1) := by decide +kernel
theorem dX10_noteOf_1 : decode cX10_noteOf 1 = .ok (.iload_n 1, 1) := by decide +kernel
theorem dX10_noteOf_2 : decode cX10_noteOf 2 = .ok (.invokevirtual 223, 3) := by decide +kernel
theorem dX10_noteOf_5 : decode cX10_noteOf 5 = .ok (.ifCond .ne 7, 3) := by decide +kernel
theorem dX10_noteOf_8 : decode cX10_noteOf 8 = .ok (.iconst 0, 1) := by decide +kernel
theorem dX10_noteOf_9 : decode cX10_noteOf 9 = .ok (.goto 9, 3) := by decide +kernel
theorem dX10_noteOf_12 : decode cX10_noteOf 12 = .ok (.aload_n 0, 1) := by decide +kernel
theorem dX10_noteOf_13 : decode cX10_noteOf 13 = .ok (.getfield 71, 3) := by decide +kernel
theorem dX10_noteOf_16 : decode cX10_noteOf 16 = .ok (.iload_n 1, 1) := by decide +kernel
theorem dX10_noteOf_17 : decode cX10_noteOf 17 = .ok (.iaload, 1) := by decide +kernel
theorem dX10_noteOf_18 : decode cX10_noteOf 18 = .ok (.ireturn, 1) := by decide +kernel
theorem dX10_flows_0 : decode cX10_flows 0 = .ok (.aload_n 0, 1) := by decide +kernel
theorem dX10_flows_1 : decode cX10_flows 1 = .ok (.getfield 108, 3) := by decide +kernel
theorem dX10_flows_4 : decode cX10_flows 4 = .ok (.aload_n 0, 1) := by decide +kernel
theorem dX10_flows_5 : decode cX10_flows 5 = .ok (.getfield 312, 3) := by decide +kernel
theorem dX10_flows_8 : decode cX10_flows 8 = .ok (.iload_n 1, 1) := by decide +kernel
theorem dX10_flows_9 : decode cX10_flows 9 = .ok (.iastore, 1) := by decide +kernel
theorem dX10_flows_10 : decode cX10_flows 10 = .ok (.aload_n 0, 1) := by decide +kernel
theorem dX10_flows_11 : decode cX10_flows 11 = .ok (.getfield 111, 3) := by decide +kernel
theorem dX10_flows_14 : decode cX10_flows 14 = .ok (.aload_n 0, 1) := by decide +kernel
theorem dX10_flows_15 : decode cX10_flows 15 = .ok (.getfield 312, 3) := by decide +kernel
theorem dX10_flows_18 : decode cX10_flows 18 = .ok (.iload_n 2, 1) := by decide +kernel
theorem dX10_flows_19 : decode cX10_flows 19 = .ok (.iastore, 1) := by decide +kernel
theorem dX10_flows_20 : decode cX10_flows 20 = .ok (.aload_n 0, 1) := by decide +kernel
theorem dX10_flows_21 : decode cX10_flows 21 = .ok (.getfield 114, 3) := by decide +kernel
theorem dX10_flows_24 : decode cX10_flows 24 = .ok (.aload_n 0, 1) := by decide +kernel
theorem dX10_flows_25 : decode cX10_flows 25 = .ok (.getfield 312, 3) := by decide +kernel
theorem dX10_flows_28 : decode cX10_flows 28 = .ok (.iload_n 3, 1) := by decide +kernel
theorem dX10_flows_29 : decode cX10_flows 29 = .ok (.iastore, 1) := by decide +kernel
theorem dX10_flows_30 : decode cX10_flows 30 = .ok (.aload_n 0, 1) := by decide +kernel
theorem dX10_flows_31 : decode cX10_flows 31 = .ok (.getfield 117, 3) := by decide +kernel
theorem dX10_flows_34 : decode cX10_flows 34 = .ok (.aload_n 0, 1) := by decide +kernel
theorem dX10_flows_35 : decode cX10_flows 35 = .ok (.getfield 312, 3) := by decide +kernel
theorem dX10_flows_38 : decode cX10_flows 38 = .ok (.iload 4, 2) := by decide +kernel
theorem dX10_flows_40 : decode cX10_flows 40 = .ok (.bastore, 1) := by decide +kernel
theorem dX10_flows_41 : decode cX10_flows 41 = .ok (.aload_n 0, 1) := by decide +kernel
theorem dX10_flows_42 : decode cX10_flows 42 = .ok (.dup, 1) := by decide +kernel
theorem dX10_flows_43 : decode cX10_flows 43 = .ok (.getfield 312, 3) := by decide +kernel
theorem dX10_flows_46 : decode cX10_flows 46 = .ok (.iconst 1, 1) := by decide +kernel
theorem dX10_flows_47 : decode cX10_flows 47 = .ok (.iadd, 1) := by decide +kernel
theorem dX10_flows_48 : decode cX10_flows 48 = .ok (.putfield 312, 3) := by decide +kernel
theorem dX10_flows_51 : decode cX10_flows 51 = .ok (.return_, 1) := by decide +kernel
theorem dX10_laysItems_0 : decode cX10_laysItems 0 = .ok (.aload_n 0, 1) := by decide +kernel
theorem dX10_laysItems_1 : decode cX10_laysItems 1 = .ok (.invokevirtual 315, 3) := by decide +kernel
theorem dX10_laysItems_4 : decode cX10_laysItems 4 = .ok (.istore_n 1, 1) := by decide +kernel
theorem dX10_laysItems_5 : decode cX10_laysItems 5 = .ok (.iconst 0, 1) := by decide +kernel
theorem dX10_laysItems_6 : decode cX10_laysItems 6 = .ok (.istore_n 2, 1) := by decide +kernel
theorem dX10_laysItems_7 : decode cX10_laysItems 7 = .ok (.aload_n 0, 1) := by decide +kernel
theorem dX10_laysItems_8 : decode cX10_laysItems 8 = .ok (.iconst 0, 1) := by decide +kernel
theorem dX10_laysItems_9 : decode cX10_laysItems 9 = .ok (.putfield 312, 3) := by decide +kernel
theorem dX10_laysItems_12 : decode cX10_laysItems 12 = .ok (.iconst 0, 1) := by decide +kernel
theorem dX10_laysItems_13 : decode cX10_laysItems 13 = .ok (.istore_n 3, 1) := by decide +kernel
theorem dX10_laysItems_14 : decode cX10_laysItems 14 = .ok (.iload_n 3, 1) := by decide +kernel
theorem dX10_laysItems_15 : decode cX10_laysItems 15 = .ok (.aload_n 0, 1) := by decide +kernel
theorem dX10_laysItems_16 : decode cX10_laysItems 16 = .ok (.getfield 35, 3) := by decide +kernel
theorem dX10_laysItems_19 : decode cX10_laysItems 19 = .ok (.iconst 1, 1) := by decide +kernel
theorem dX10_laysItems_20 : decode cX10_laysItems 20 = .ok (.iaload, 1) := by decide +kernel
theorem dX10_laysItems_21 : decode cX10_laysItems 21 = .ok (.if_icmp .ge 182, 3) := by decide +kernel
theorem dX10_laysItems_24 : decode cX10_laysItems 24 = .ok (.aload_n 0, 1) := by decide +kernel
theorem dX10_laysItems_25 : decode cX10_laysItems 25 = .ok (.getfield 32, 3) := by decide +kernel
theorem dX10_laysItems_28 : decode cX10_laysItems 28 = .ok (.bipush 24, 2) := by decide +kernel
theorem dX10_laysItems_30 : decode cX10_laysItems 30 = .ok (.iload_n 3, 1) := by decide +kernel
theorem dX10_laysItems_31 : decode cX10_laysItems 31 = .ok (.iadd, 1) := by decide +kernel
theorem dX10_laysItems_32 : decode cX10_laysItems 32 = .ok (.iaload, 1) := by decide +kernel
theorem dX10_laysItems_33 : decode cX10_laysItems 33 = .ok (.istore 4, 2) := by decide +kernel
theorem dX10_laysItems_35 : decode cX10_laysItems 35 = .ok (.iconst 0, 1) := by decide +kernel
theorem dX10_laysItems_36 : decode cX10_laysItems 36 = .ok (.istore 5, 2) := by decide +kernel
theorem dX10_laysItems_38 : decode cX10_laysItems 38 = .ok (.iconst 0, 1) := by decide +kernel
theorem dX10_laysItems_39 : decode cX10_laysItems 39 = .ok (.istore 6, 2) := by decide +kernel
theorem dX10_laysItems_41 : decode cX10_laysItems 41 = .ok (.iload 6, 2) := by decide +kernel
theorem dX10_laysItems_43 : decode cX10_laysItems 43 = .ok (.aload_n 0, 1) := by decide +kernel
theorem dX10_laysItems_44 : decode cX10_laysItems 44 = .ok (.getfield 172, 3) := by decide +kernel
theorem dX10_laysItems_47 : decode cX10_laysItems 47 = .ok (.if_icmp .ge 36, 3) := by decide +kernel
theorem dX10_laysItems_50 : decode cX10_laysItems 50 = .ok (.iload 5, 2) := by decide +kernel
theorem dX10_laysItems_52 : decode cX10_laysItems 52 = .ok (.aload_n 0, 1) := by decide +kernel
theorem dX10_laysItems_53 : decode cX10_laysItems 53 = .ok (.getfield 38, 3) := by decide +kernel
theorem dX10_laysItems_56 : decode cX10_laysItems 56 = .ok (.iload 6, 2) := by decide +kernel
theorem dX10_laysItems_58 : decode cX10_laysItems 58 = .ok (.iaload, 1) := by decide +kernel
theorem dX10_laysItems_59 : decode cX10_laysItems 59 = .ok (.iload 4, 2) := by decide +kernel
theorem dX10_laysItems_61 : decode cX10_laysItems 61 = .ok (.if_icmp .ne 12, 3) := by decide +kernel
theorem dX10_laysItems_64 : decode cX10_laysItems 64 = .ok (.aload_n 0, 1) := by decide +kernel
theorem dX10_laysItems_65 : decode cX10_laysItems 65 = .ok (.iload 6, 2) := by decide +kernel
theorem dX10_laysItems_67 : decode cX10_laysItems 67 = .ok (.invokevirtual 318, 3) := by decide +kernel
theorem dX10_laysItems_70 : decode cX10_laysItems 70 = .ok (.goto 4, 3) := by decide +kernel
theorem dX10_laysItems_73 : decode cX10_laysItems 73 = .ok (.iconst 0, 1) := by decide +kernel
theorem dX10_laysItems_74 : decode cX10_laysItems 74 = .ok (.iadd, 1) := by decide +kernel
theorem dX10_laysItems_75 : decode cX10_laysItems 75 = .ok (.istore 5, 2) := by decide +kernel
theorem dX10_laysItems_77 : decode cX10_laysItems 77 = .ok (.iinc 6 1, 3) := by decide +kernel
theorem dX10_laysItems_80 : decode cX10_laysItems 80 = .ok (.goto (-39), 3) := by decide +kernel
theorem dX10_laysItems_83 : decode cX10_laysItems 83 = .ok (.iload_n 2, 1) := by decide +kernel
theorem dX10_laysItems_84 : decode cX10_laysItems 84 = .ok (.iload 5, 2) := by decide +kernel
theorem dX10_laysItems_86 : decode cX10_laysItems 86 = .ok (.iadd, 1) := by decide +kernel
theorem dX10_laysItems_87 : decode cX10_laysItems 87 = .ok (.istore_n 2, 1) := by decide +kernel
theorem dX10_laysItems_88 : decode cX10_laysItems 88 = .ok (.aload_n 0, 1) := by decide +kernel
theorem dX10_laysItems_89 : decode cX10_laysItems 89 = .ok (.iload 4, 2) := by decide +kernel
theorem dX10_laysItems_91 : decode cX10_laysItems 91 = .ok (.aload_n 0, 1) := by decide +kernel
theorem dX10_laysItems_92 : decode cX10_laysItems 92 = .ok (.getfield 105, 3) := by decide +kernel
theorem dX10_laysItems_95 : decode cX10_laysItems 95 = .ok (.iload 4, 2) := by decide +kernel
theorem dX10_laysItems_97 : decode cX10_laysItems 97 = .ok (.iaload, 1) := by decide +kernel
theorem dX10_laysItems_98 : decode cX10_laysItems 98 = .ok (.aload_n 0, 1) := by decide +kernel
theorem dX10_laysItems_99 : decode cX10_laysItems 99 = .ok (.getfield 199, 3) := by decide +kernel
theorem dX10_laysItems_102 : decode cX10_laysItems 102 = .ok (.ifCond .eq 7, 3) := by decide +kernel
theorem dX10_laysItems_105 : decode cX10_laysItems 105 = .ok (.iconst 0, 1) := by decide +kernel
theorem dX10_laysItems_106 : decode cX10_laysItems 106 = .ok (.goto 5, 3) := by decide +kernel
theorem dX10_laysItems_109 : decode cX10_laysItems 109 = .ok (.iload 5, 2) := by decide +kernel
theorem dX10_laysItems_111 : decode cX10_laysItems 111 = .ok (.aload_n 0, 1) := by decide +kernel
theorem dX10_laysItems_112 : decode cX10_laysItems 112 = .ok (.getfield 29, 3) := by decide +kernel
theorem dX10_laysItems_115 : decode cX10_laysItems 115 = .ok (.iload 4, 2) := by decide +kernel
theorem dX10_laysItems_117 : decode cX10_laysItems 117 = .ok (.baload, 1) := by decide +kernel
theorem dX10_laysItems_118 : decode cX10_laysItems 118 = .ok (.invokevirtual 321, 3) := by decide +kernel
theorem dX10_laysItems_121 : decode cX10_laysItems 121 = .ok (.iload_n 3, 1) := by decide +kernel
theorem dX10_laysItems_122 : decode cX10_laysItems 122 = .ok (.iconst 1, 1) := by decide +kernel
theorem dX10_laysItems_123 : decode cX10_laysItems 123 = .ok (.iadd, 1) := by decide +kernel
theorem dX10_laysItems_124 : decode cX10_laysItems 124 = .ok (.aload_n 0, 1) := by decide +kernel
theorem dX10_laysItems_125 : decode cX10_laysItems 125 = .ok (.getfield 35, 3) := by decide +kernel
theorem dX10_laysItems_128 : decode cX10_laysItems 128 = .ok (.iconst 1, 1) := by decide +kernel
theorem dX10_laysItems_129 : decode cX10_laysItems 129 = .ok (.iaload, 1) := by decide +kernel
theorem dX10_laysItems_130 : decode cX10_laysItems 130 = .ok (.if_icmp .eq 29, 3) := by decide +kernel
theorem dX10_laysItems_133 : decode cX10_laysItems 133 = .ok (.aload_n 0, 1) := by decide +kernel
theorem dX10_laysItems_134 : decode cX10_laysItems 134 = .ok (.getfield 26, 3) := by decide +kernel
theorem dX10_laysItems_137 : decode cX10_laysItems 137 = .ok (.aload_n 0, 1) := by decide +kernel
theorem dX10_laysItems_138 : decode cX10_laysItems 138 = .ok (.getfield 32, 3) := by decide +kernel
theorem dX10_laysItems_141 : decode cX10_laysItems 141 = .ok (.bipush 24, 2) := by decide +kernel
theorem dX10_laysItems_143 : decode cX10_laysItems 143 = .ok (.iload_n 3, 1) := by decide +kernel
theorem dX10_laysItems_144 : decode cX10_laysItems 144 = .ok (.iadd, 1) := by decide +kernel
theorem dX10_laysItems_145 : decode cX10_laysItems 145 = .ok (.iconst 1, 1) := by decide +kernel
theorem dX10_laysItems_146 : decode cX10_laysItems 146 = .ok (.iadd, 1) := by decide +kernel
theorem dX10_laysItems_147 : decode cX10_laysItems 147 = .ok (.iaload, 1) := by decide +kernel
theorem dX10_laysItems_148 : decode cX10_laysItems 148 = .ok (.iaload, 1) := by decide +kernel
theorem dX10_laysItems_149 : decode cX10_laysItems 149 = .ok (.aload_n 0, 1) := by decide +kernel
theorem dX10_laysItems_150 : decode cX10_laysItems 150 = .ok (.getfield 26, 3) := by decide +kernel
theorem dX10_laysItems_153 : decode cX10_laysItems 153 = .ok (.iload 4, 2) := by decide +kernel
theorem dX10_laysItems_155 : decode cX10_laysItems 155 = .ok (.iaload, 1) := by decide +kernel
theorem dX10_laysItems_156 : decode cX10_laysItems 156 = .ok (.if_icmp .eq 7, 3) := by decide +kernel
theorem dX10_laysItems_159 : decode cX10_laysItems 159 = .ok (.iconst 1, 1) := by decide +kernel
theorem dX10_laysItems_160 : decode cX10_laysItems 160 = .ok (.goto 4, 3) := by decide +kernel
theorem dX10_laysItems_163 : decode cX10_laysItems 163 = .ok (.iconst 0, 1) := by decide +kernel
theorem dX10_laysItems_164 : decode cX10_laysItems 164 = .ok (.istore 6, 2) := by decide +kernel
theorem dX10_laysItems_166 : decode cX10_laysItems 166 = .ok (.iload_n 1, 1) := by decide +kernel
theorem dX10_laysItems_167 : decode cX10_laysItems 167 = .ok (.ifCond .eq 30, 3) := by decide +kernel
theorem dX10_laysItems_170 : decode cX10_laysItems 170 = .ok (.iload 6, 2) := by decide +kernel
theorem dX10_laysItems_172 : decode cX10_laysItems 172 = .ok (.ifCond .eq 25, 3) := by decide +kernel
theorem dX10_laysItems_175 : decode cX10_laysItems 175 = .ok (.aload_n 0, 1) := by decide +kernel
theorem dX10_laysItems_176 : decode cX10_laysItems 176 = .ok (.getfield 26, 3) := by decide +kernel
theorem dX10_laysItems_179 : decode cX10_laysItems 179 = .ok (.iload 4, 2) := by decide +kernel
theorem dX10_laysItems_181 : decode cX10_laysItems 181 = .ok (.iaload, 1) := by decide +kernel
theorem dX10_laysItems_182 : decode cX10_laysItems 182 = .ok (.ifCond .eq 15, 3) := by decide +kernel
theorem dX10_laysItems_185 : decode cX10_laysItems 185 = .ok (.aload_n 0, 1) := by decide +kernel
theorem dX10_laysItems_186 : decode cX10_laysItems 186 = .ok (.bipush 100, 2) := by decide +kernel
theorem dX10_laysItems_188 : decode cX10_laysItems 188 = .ok (.iload 4, 2) := by decide +kernel
theorem dX10_laysItems_190 : decode cX10_laysItems 190 = .ok (.iadd, 1) := by decide +kernel
theorem dX10_laysItems_191 : decode cX10_laysItems 191 = .ok (.iconst 1, 1) := by decide +kernel
theorem dX10_laysItems_192 : decode cX10_laysItems 192 = .ok (.iconst 0, 1) := by decide +kernel
theorem dX10_laysItems_193 : decode cX10_laysItems 193 = .ok (.iconst 0, 1) := by decide +kernel
theorem dX10_laysItems_194 : decode cX10_laysItems 194 = .ok (.invokevirtual 321, 3) := by decide +kernel
theorem dX10_laysItems_197 : decode cX10_laysItems 197 = .ok (.iinc 3 1, 3) := by decide +kernel
theorem dX10_laysItems_200 : decode cX10_laysItems 200 = .ok (.goto (-186), 3) := by decide +kernel
theorem dX10_laysItems_203 : decode cX10_laysItems 203 = .ok (.iload_n 1, 1) := by decide +kernel
theorem dX10_laysItems_204 : decode cX10_laysItems 204 = .ok (.ifCond .eq 13, 3) := by decide +kernel
theorem dX10_laysItems_207 : decode cX10_laysItems 207 = .ok (.aload_n 0, 1) := by decide +kernel
theorem dX10_laysItems_208 : decode cX10_laysItems 208 = .ok (.sipush 200, 3) := by decide +kernel
theorem dX10_laysItems_211 : decode cX10_laysItems 211 = .ok (.iconst 1, 1) := by decide +kernel
theorem dX10_laysItems_212 : decode cX10_laysItems 212 = .ok (.iconst 0, 1) := by decide +kernel
theorem dX10_laysItems_213 : decode cX10_laysItems 213 = .ok (.iconst 0, 1) := by decide +kernel
theorem dX10_laysItems_214 : decode cX10_laysItems 214 = .ok (.invokevirtual 321, 3) := by decide +kernel
theorem dX10_laysItems_217 : decode cX10_laysItems 217 = .ok (.aload_n 0, 1) := by decide +kernel
theorem dX10_laysItems_218 : decode cX10_laysItems 218 = .ok (.getfield 199, 3) := by decide +kernel
theorem dX10_laysItems_221 : decode cX10_laysItems 221 = .ok (.ifCond .eq 17, 3) := by decide +kernel
theorem dX10_laysItems_224 : decode cX10_laysItems 224 = .ok (.iload_n 2, 1) := by decide +kernel
theorem dX10_laysItems_225 : decode cX10_laysItems 225 = .ok (.ifCond .le 13, 3) := by decide +kernel
theorem dX10_laysItems_228 : decode cX10_laysItems 228 = .ok (.aload_n 0, 1) := by decide +kernel
theorem dX10_laysItems_229 : decode cX10_laysItems 229 = .ok (.sipush 201, 3) := by decide +kernel
theorem dX10_laysItems_232 : decode cX10_laysItems 232 = .ok (.iload_n 2, 1) := by decide +kernel
theorem dX10_laysItems_233 : decode cX10_laysItems 233 = .ok (.iconst 0, 1) := by decide +kernel
theorem dX10_laysItems_234 : decode cX10_laysItems 234 = .ok (.iconst 1, 1) := by decide +kernel
theorem dX10_laysItems_235 : decode cX10_laysItems 235 = .ok (.invokevirtual 321, 3) := by decide +kernel
theorem dX10_laysItems_238 : decode cX10_laysItems 238 = .ok (.return_, 1) := by decide +kernel
theorem dX10_puts_0 : decode cX10_puts 0 = .ok (.aload_n 0, 1) := by decide +kernel
theorem dX10_puts_1 : decode cX10_puts 1 = .ok (.getfield 120, 3) := by decide +kernel
theorem dX10_puts_4 : decode cX10_puts 4 = .ok (.aload_n 0, 1) := by decide +kernel
theorem dX10_puts_5 : decode cX10_puts 5 = .ok (.getfield 325, 3) := by decide +kernel
theorem dX10_puts_8 : decode cX10_puts 8 = .ok (.aload_n 0, 1) := by decide +kernel
theorem dX10_puts_9 : decode cX10_puts 9 = .ok (.getfield 108, 3) := by decide +kernel
theorem dX10_puts_12 : decode cX10_puts 12 = .ok (.iload_n 1, 1) := by decide +kernel
theorem dX10_puts_13 : decode cX10_puts 13 = .ok (.iaload, 1) := by decide +kernel
theorem dX10_puts_14 : decode cX10_puts 14 = .ok (.iastore, 1) := by decide +kernel
theorem dX10_puts_15 : decode cX10_puts 15 = .ok (.aload_n 0, 1) := by decide +kernel
theorem dX10_puts_16 : decode cX10_puts 16 = .ok (.getfield 123, 3) := by decide +kernel
theorem dX10_puts_19 : decode cX10_puts 19 = .ok (.aload_n 0, 1) := by decide +kernel
theorem dX10_puts_20 : decode cX10_puts 20 = .ok (.getfield 325, 3) := by decide +kernel
theorem dX10_puts_23 : decode cX10_puts 23 = .ok (.aload_n 0, 1) := by decide +kernel
theorem dX10_puts_24 : decode cX10_puts 24 = .ok (.getfield 328, 3) := by decide +kernel
theorem dX10_puts_27 : decode cX10_puts 27 = .ok (.iconst 1, 1) := by decide +kernel
theorem dX10_puts_28 : decode cX10_puts 28 = .ok (.isub, 1) := by decide +kernel
theorem dX10_puts_29 : decode cX10_puts 29 = .ok (.iastore, 1) := by decide +kernel
theorem dX10_puts_30 : decode cX10_puts 30 = .ok (.aload_n 0, 1) := by decide +kernel
theorem dX10_puts_31 : decode cX10_puts 31 = .ok (.getfield 126, 3) := by decide +kernel
theorem dX10_puts_34 : decode cX10_puts 34 = .ok (.aload_n 0, 1) := by decide +kernel
theorem dX10_puts_35 : decode cX10_puts 35 = .ok (.getfield 325, 3) := by decide +kernel
theorem dX10_puts_38 : decode cX10_puts 38 = .ok (.iload_n 2, 1) := by decide +kernel
theorem dX10_puts_39 : decode cX10_puts 39 = .ok (.iastore, 1) := by decide +kernel
theorem dX10_puts_40 : decode cX10_puts 40 = .ok (.aload_n 0, 1) := by decide +kernel
theorem dX10_puts_41 : decode cX10_puts 41 = .ok (.getfield 129, 3) := by decide +kernel
theorem dX10_puts_44 : decode cX10_puts 44 = .ok (.aload_n 0, 1) := by decide +kernel
theorem dX10_puts_45 : decode cX10_puts 45 = .ok (.getfield 325, 3) := by decide +kernel
theorem dX10_puts_48 : decode cX10_puts 48 = .ok (.iload_n 3, 1) := by decide +kernel
theorem dX10_puts_49 : decode cX10_puts 49 = .ok (.iastore, 1) := by decide +kernel
theorem dX10_puts_50 : decode cX10_puts 50 = .ok (.aload_n 0, 1) := by decide +kernel
theorem dX10_puts_51 : decode cX10_puts 51 = .ok (.dup, 1) := by decide +kernel
theorem dX10_puts_52 : decode cX10_puts 52 = .ok (.getfield 325, 3) := by decide +kernel
theorem dX10_puts_55 : decode cX10_puts 55 = .ok (.iconst 1, 1) := by decide +kernel
theorem dX10_puts_56 : decode cX10_puts 56 = .ok (.iadd, 1) := by decide +kernel
theorem dX10_puts_57 : decode cX10_puts 57 = .ok (.putfield 325, 3) := by decide +kernel
theorem dX10_puts_60 : decode cX10_puts 60 = .ok (.aload_n 0, 1) := by decide +kernel
theorem dX10_puts_61 : decode cX10_puts 61 = .ok (.getfield 135, 3) := by decide +kernel
theorem dX10_puts_64 : decode cX10_puts 64 = .ok (.aload_n 0, 1) := by decide +kernel
theorem dX10_puts_65 : decode cX10_puts 65 = .ok (.getfield 328, 3) := by decide +kernel
theorem dX10_puts_68 : decode cX10_puts 68 = .ok (.iconst 1, 1) := by decide +kernel
theorem dX10_puts_69 : decode cX10_puts 69 = .ok (.isub, 1) := by decide +kernel
theorem dX10_puts_70 : decode cX10_puts 70 = .ok (.dup2, 1) := by decide +kernel
theorem dX10_puts_71 : decode cX10_puts 71 = .ok (.iaload, 1) := by decide +kernel
theorem dX10_puts_72 : decode cX10_puts 72 = .ok (.iload_n 3, 1) := by decide +kernel
theorem dX10_puts_73 : decode cX10_puts 73 = .ok (.iadd, 1) := by decide +kernel
theorem dX10_puts_74 : decode cX10_puts 74 = .ok (.iastore, 1) := by decide +kernel
theorem dX10_puts_75 : decode cX10_puts 75 = .ok (.aload_n 0, 1) := by decide +kernel
theorem dX10_puts_76 : decode cX10_puts 76 = .ok (.getfield 132, 3) := by decide +kernel
theorem dX10_puts_79 : decode cX10_puts 79 = .ok (.aload_n 0, 1) := by decide +kernel
theorem dX10_puts_80 : decode cX10_puts 80 = .ok (.getfield 328, 3) := by decide +kernel
theorem dX10_puts_83 : decode cX10_puts 83 = .ok (.iconst 1, 1) := by decide +kernel
theorem dX10_puts_84 : decode cX10_puts 84 = .ok (.isub, 1) := by decide +kernel
theorem dX10_puts_85 : decode cX10_puts 85 = .ok (.dup2, 1) := by decide +kernel
theorem dX10_puts_86 : decode cX10_puts 86 = .ok (.iaload, 1) := by decide +kernel
theorem dX10_puts_87 : decode cX10_puts 87 = .ok (.iload 4, 2) := by decide +kernel
theorem dX10_puts_89 : decode cX10_puts 89 = .ok (.aload_n 0, 1) := by decide +kernel
theorem dX10_puts_90 : decode cX10_puts 90 = .ok (.getfield 108, 3) := by decide +kernel
theorem dX10_puts_93 : decode cX10_puts 93 = .ok (.iload_n 1, 1) := by decide +kernel
theorem dX10_puts_94 : decode cX10_puts 94 = .ok (.iaload, 1) := by decide +kernel
theorem dX10_puts_95 : decode cX10_puts 95 = .ok (.sipush 201, 3) := by decide +kernel
theorem dX10_puts_98 : decode cX10_puts 98 = .ok (.if_icmp .ne 7, 3) := by decide +kernel
theorem dX10_puts_101 : decode cX10_puts 101 = .ok (.iload_n 3, 1) := by decide +kernel
theorem dX10_puts_102 : decode cX10_puts 102 = .ok (.goto 4, 3) := by decide +kernel
theorem dX10_puts_105 : decode cX10_puts 105 = .ok (.iconst 0, 1) := by decide +kernel
theorem dX10_puts_106 : decode cX10_puts 106 = .ok (.iadd, 1) := by decide +kernel
theorem dX10_puts_107 : decode cX10_puts 107 = .ok (.iadd, 1) := by decide +kernel
theorem dX10_puts_108 : decode cX10_puts 108 = .ok (.iastore, 1) := by decide +kernel
theorem dX10_puts_109 : decode cX10_puts 109 = .ok (.return_, 1) := by decide +kernel
theorem dX10_roomOf_0 : decode cX10_roomOf 0 = .ok (.aload_n 0, 1) := by decide +kernel
theorem dX10_roomOf_1 : decode cX10_roomOf 1 = .ok (.getfield 78, 3) := by decide +kernel
theorem dX10_roomOf_4 : decode cX10_roomOf 4 = .ok (.aload_n 0, 1) := by decide +kernel
theorem dX10_roomOf_5 : decode cX10_roomOf 5 = .ok (.iconst 0, 1) := by decide +kernel
theorem dX10_roomOf_6 : decode cX10_roomOf 6 = .ok (.invokevirtual 289, 3) := by decide +kernel
theorem dX10_roomOf_9 : decode cX10_roomOf 9 = .ok (.isub, 1) := by decide +kernel
theorem dX10_roomOf_10 : decode cX10_roomOf 10 = .ok (.aload_n 0, 1) := by decide +kernel
theorem dX10_roomOf_11 : decode cX10_roomOf 11 = .ok (.iconst 2, 1) := by decide +kernel
theorem dX10_roomOf_12 : decode cX10_roomOf 12 = .ok (.invokevirtual 289, 3) := by decide +kernel
theorem dX10_roomOf_15 : decode cX10_roomOf 15 = .ok (.isub, 1) := by decide +kernel
theorem dX10_roomOf_16 : decode cX10_roomOf 16 = .ok (.iload_n 1, 1) := by decide +kernel
theorem dX10_roomOf_17 : decode cX10_roomOf 17 = .ok (.ifCond .ne 7, 3) := by decide +kernel
theorem dX10_roomOf_20 : decode cX10_roomOf 20 = .ok (.iconst 0, 1) := by decide +kernel
theorem dX10_roomOf_21 : decode cX10_roomOf 21 = .ok (.goto 15, 3) := by decide +kernel
theorem dX10_roomOf_24 : decode cX10_roomOf 24 = .ok (.aload_n 0, 1) := by decide +kernel
theorem dX10_roomOf_25 : decode cX10_roomOf 25 = .ok (.invokevirtual 315, 3) := by decide +kernel
theorem dX10_roomOf_28 : decode cX10_roomOf 28 = .ok (.ifCond .eq 7, 3) := by decide +kernel
theorem dX10_roomOf_31 : decode cX10_roomOf 31 = .ok (.iconst 2, 1) := by decide +kernel
theorem dX10_roomOf_32 : decode cX10_roomOf 32 = .ok (.goto 4, 3) := by decide +kernel
theorem dX10_roomOf_35 : decode cX10_roomOf 35 = .ok (.iconst 1, 1) := by decide +kernel
theorem dX10_roomOf_36 : decode cX10_roomOf 36 = .ok (.isub, 1) := by decide +kernel
theorem dX10_roomOf_37 : decode cX10_roomOf 37 = .ok (.ireturn, 1) := by decide +kernel
theorem dX10_begins1_0 : decode cX10_begins1 0 = .ok (.aload_n 0, 1) := by decide +kernel
theorem dX10_begins1_1 : decode cX10_begins1 1 = .ok (.getfield 135, 3) := by decide +kernel
theorem dX10_begins1_4 : decode cX10_begins1 4 = .ok (.aload_n 0, 1) := by decide +kernel
theorem dX10_begins1_5 : decode cX10_begins1 5 = .ok (.getfield 328, 3) := by decide +kernel
theorem dX10_begins1_8 : decode cX10_begins1 8 = .ok (.iconst 0, 1) := by decide +kernel
theorem dX10_begins1_9 : decode cX10_begins1 9 = .ok (.iastore, 1) := by decide +kernel
theorem dX10_begins1_10 : decode cX10_begins1 10 = .ok (.aload_n 0, 1) := by decide +kernel
theorem dX10_begins1_11 : decode cX10_begins1 11 = .ok (.getfield 132, 3) := by decide +kernel
theorem dX10_begins1_14 : decode cX10_begins1 14 = .ok (.aload_n 0, 1) := by decide +kernel
theorem dX10_begins1_15 : decode cX10_begins1 15 = .ok (.getfield 328, 3) := by decide +kernel
theorem dX10_begins1_18 : decode cX10_begins1 18 = .ok (.iconst 0, 1) := by decide +kernel
theorem dX10_begins1_19 : decode cX10_begins1 19 = .ok (.iastore, 1) := by decide +kernel
theorem dX10_begins1_20 : decode cX10_begins1 20 = .ok (.aload_n 0, 1) := by decide +kernel
theorem dX10_begins1_21 : decode cX10_begins1 21 = .ok (.dup, 1) := by decide +kernel
theorem dX10_begins1_22 : decode cX10_begins1 22 = .ok (.getfield 328, 3) := by decide +kernel
theorem dX10_begins1_25 : decode cX10_begins1 25 = .ok (.iconst 1, 1) := by decide +kernel
theorem dX10_begins1_26 : decode cX10_begins1 26 = .ok (.iadd, 1) := by decide +kernel
theorem dX10_begins1_27 : decode cX10_begins1 27 = .ok (.putfield 328, 3) := by decide +kernel
theorem dX10_begins1_30 : decode cX10_begins1 30 = .ok (.return_, 1) := by decide +kernel
theorem dX10_laysPages_0 : decode cX10_laysPages 0 = .ok (.aload_n 0, 1) := by decide +kernel
theorem dX10_laysPages_1 : decode cX10_laysPages 1 = .ok (.invokevirtual 283, 3) := by decide +kernel
theorem dX10_laysPages_4 : decode cX10_laysPages 4 = .ok (.aload_n 0, 1) := by decide +kernel
theorem dX10_laysPages_5 : decode cX10_laysPages 5 = .ok (.invokevirtual 331, 3) := by decide +kernel
theorem dX10_laysPages_8 : decode cX10_laysPages 8 = .ok (.aload_n 0, 1) := by decide +kernel
theorem dX10_laysPages_9 : decode cX10_laysPages 9 = .ok (.invokevirtual 315, 3) := by decide +kernel
theorem dX10_laysPages_12 : decode cX10_laysPages 12 = .ok (.ifCond .eq 7, 3) := by decide +kernel
theorem dX10_laysPages_15 : decode cX10_laysPages 15 = .ok (.iconst 1, 1) := by decide +kernel
theorem dX10_laysPages_16 : decode cX10_laysPages 16 = .ok (.goto 4, 3) := by decide +kernel
theorem dX10_laysPages_19 : decode cX10_laysPages 19 = .ok (.iconst 0, 1) := by decide +kernel
theorem dX10_laysPages_20 : decode cX10_laysPages 20 = .ok (.istore_n 1, 1) := by decide +kernel
theorem dX10_laysPages_21 : decode cX10_laysPages 21 = .ok (.aload_n 0, 1) := by decide +kernel
theorem dX10_laysPages_22 : decode cX10_laysPages 22 = .ok (.iconst 0, 1) := by decide +kernel
theorem dX10_laysPages_23 : decode cX10_laysPages 23 = .ok (.putfield 325, 3) := by decide +kernel
theorem dX10_laysPages_26 : decode cX10_laysPages 26 = .ok (.aload_n 0, 1) := by decide +kernel
theorem dX10_laysPages_27 : decode cX10_laysPages 27 = .ok (.iconst 0, 1) := by decide +kernel
theorem dX10_laysPages_28 : decode cX10_laysPages 28 = .ok (.putfield 328, 3) := by decide +kernel
theorem dX10_laysPages_31 : decode cX10_laysPages 31 = .ok (.aload_n 0, 1) := by decide +kernel
theorem dX10_laysPages_32 : decode cX10_laysPages 32 = .ok (.invokevirtual 334, 3) := by decide +kernel
theorem dX10_laysPages_35 : decode cX10_laysPages 35 = .ok (.aload_n 0, 1) := by decide +kernel
theorem dX10_laysPages_36 : decode cX10_laysPages 36 = .ok (.iconst 0, 1) := by decide +kernel
theorem dX10_laysPages_37 : decode cX10_laysPages 37 = .ok (.invokevirtual 337, 3) := by decide +kernel
theorem dX10_laysPages_40 : decode cX10_laysPages 40 = .ok (.istore_n 2, 1) := by decide +kernel
theorem dX10_laysPages_41 : decode cX10_laysPages 41 = .ok (.iconst 0, 1) := by decide +kernel
theorem dX10_laysPages_42 : decode cX10_laysPages 42 = .ok (.istore_n 3, 1) := by decide +kernel
theorem dX10_laysPages_43 : decode cX10_laysPages 43 = .ok (.iconst 0, 1) := by decide +kernel
theorem dX10_laysPages_44 : decode cX10_laysPages 44 = .ok (.istore 4, 2) := by decide +kernel
theorem dX10_laysPages_46 : decode cX10_laysPages 46 = .ok (.iconst 0, 1) := by decide +kernel
theorem dX10_laysPages_47 : decode cX10_laysPages 47 = .ok (.istore 5, 2) := by decide +kernel
theorem dX10_laysPages_49 : decode cX10_laysPages 49 = .ok (.iload 4, 2) := by decide +kernel
theorem dX10_laysPages_51 : decode cX10_laysPages 51 = .ok (.aload_n 0, 1) := by decide +kernel
theorem dX10_laysPages_52 : decode cX10_laysPages 52 = .ok (.getfield 312, 3) := by decide +kernel
theorem dX10_laysPages_55 : decode cX10_laysPages 55 = .ok (.if_icmp .ge 196, 3) := by decide +kernel
theorem dX10_laysPages_58 : decode cX10_laysPages 58 = .ok (.aload_n 0, 1) := by decide +kernel
theorem dX10_laysPages_59 : decode cX10_laysPages 59 = .ok (.getfield 111, 3) := by decide +kernel
theorem dX10_laysPages_62 : decode cX10_laysPages 62 = .ok (.iload 4, 2) := by decide +kernel
theorem dX10_laysPages_64 : decode cX10_laysPages 64 = .ok (.iaload, 1) := by decide +kernel
theorem dX10_laysPages_65 : decode cX10_laysPages 65 = .ok (.iload 5, 2) := by decide +kernel
theorem dX10_laysPages_67 : decode cX10_laysPages 67 = .ok (.isub, 1) := by decide +kernel
theorem dX10_laysPages_68 : decode cX10_laysPages 68 = .ok (.istore 6, 2) := by decide +kernel
theorem dX10_laysPages_70 : decode cX10_laysPages 70 = .ok (.iload 5, 2) := by decide +kernel
theorem dX10_laysPages_72 : decode cX10_laysPages 72 = .ok (.ifCond .le 7, 3) := by decide +kernel
theorem dX10_laysPages_75 : decode cX10_laysPages 75 = .ok (.iconst 0, 1) := by decide +kernel
theorem dX10_laysPages_76 : decode cX10_laysPages 76 = .ok (.goto 10, 3) := by decide +kernel
theorem dX10_laysPages_79 : decode cX10_laysPages 79 = .ok (.aload_n 0, 1) := by decide +kernel
theorem dX10_laysPages_80 : decode cX10_laysPages 80 = .ok (.getfield 114, 3) := by decide +kernel
theorem dX10_laysPages_83 : decode cX10_laysPages 83 = .ok (.iload 4, 2) := by decide +kernel
theorem dX10_laysPages_85 : decode cX10_laysPages 85 = .ok (.iaload, 1) := by decide +kernel
theorem dX10_laysPages_86 : decode cX10_laysPages 86 = .ok (.istore 7, 2) := by decide +kernel
theorem dX10_laysPages_88 : decode cX10_laysPages 88 = .ok (.iload_n 2, 1) := by decide +kernel
theorem dX10_laysPages_89 : decode cX10_laysPages 89 = .ok (.iload_n 1, 1) := by decide +kernel
theorem dX10_laysPages_90 : decode cX10_laysPages 90 = .ok (.isub, 1) := by decide +kernel
theorem dX10_laysPages_91 : decode cX10_laysPages 91 = .ok (.iload 7, 2) := by decide +kernel
theorem dX10_laysPages_93 : decode cX10_laysPages 93 = .ok (.isub, 1) := by decide +kernel
theorem dX10_laysPages_94 : decode cX10_laysPages 94 = .ok (.istore 8, 2) := by decide +kernel
theorem dX10_laysPages_96 : decode cX10_laysPages 96 = .ok (.iload 6, 2) := by decide +kernel
theorem dX10_laysPages_98 : decode cX10_laysPages 98 = .ok (.iload 7, 2) := by decide +kernel
theorem dX10_laysPages_100 : decode cX10_laysPages 100 = .ok (.iadd, 1) := by decide +kernel
theorem dX10_laysPages_101 : decode cX10_laysPages 101 = .ok (.iload_n 2, 1) := by decide +kernel
theorem dX10_laysPages_102 : decode cX10_laysPages 102 = .ok (.iload 4, 2) := by decide +kernel
theorem dX10_laysPages_104 : decode cX10_laysPages 104 = .ok (.iconst 1, 1) := by decide +kernel
theorem dX10_laysPages_105 : decode cX10_laysPages 105 = .ok (.iadd, 1) := by decide +kernel
theorem dX10_laysPages_106 : decode cX10_laysPages 106 = .ok (.aload_n 0, 1) := by decide +kernel
theorem dX10_laysPages_107 : decode cX10_laysPages 107 = .ok (.getfield 312, 3) := by decide +kernel
theorem dX10_laysPages_110 : decode cX10_laysPages 110 = .ok (.if_icmp .ge 7, 3) := by decide +kernel
theorem dX10_laysPages_113 : decode cX10_laysPages 113 = .ok (.iload_n 1, 1) := by decide +kernel
theorem dX10_laysPages_114 : decode cX10_laysPages 114 = .ok (.goto 4, 3) := by decide +kernel
theorem dX10_laysPages_117 : decode cX10_laysPages 117 = .ok (.iconst 0, 1) := by decide +kernel
theorem dX10_laysPages_118 : decode cX10_laysPages 118 = .ok (.isub, 1) := by decide +kernel
theorem dX10_laysPages_119 : decode cX10_laysPages 119 = .ok (.if_icmp .gt 34, 3) := by decide +kernel
theorem dX10_laysPages_122 : decode cX10_laysPages 122 = .ok (.aload_n 0, 1) := by decide +kernel
theorem dX10_laysPages_123 : decode cX10_laysPages 123 = .ok (.iload 4, 2) := by decide +kernel
theorem dX10_laysPages_125 : decode cX10_laysPages 125 = .ok (.iload 5, 2) := by decide +kernel
theorem dX10_laysPages_127 : decode cX10_laysPages 127 = .ok (.iload 6, 2) := by decide +kernel
theorem dX10_laysPages_129 : decode cX10_laysPages 129 = .ok (.iload 7, 2) := by decide +kernel
theorem dX10_laysPages_131 : decode cX10_laysPages 131 = .ok (.invokevirtual 340, 3) := by decide +kernel
theorem dX10_laysPages_134 : decode cX10_laysPages 134 = .ok (.iload_n 2, 1) := by decide +kernel
theorem dX10_laysPages_135 : decode cX10_laysPages 135 = .ok (.iload 6, 2) := by decide +kernel
theorem dX10_laysPages_137 : decode cX10_laysPages 137 = .ok (.iload 7, 2) := by decide +kernel
theorem dX10_laysPages_139 : decode cX10_laysPages 139 = .ok (.iadd, 1) := by decide +kernel
theorem dX10_laysPages_140 : decode cX10_laysPages 140 = .ok (.isub, 1) := by decide +kernel
theorem dX10_laysPages_141 : decode cX10_laysPages 141 = .ok (.istore_n 2, 1) := by decide +kernel
theorem dX10_laysPages_142 : decode cX10_laysPages 142 = .ok (.iconst 1, 1) := by decide +kernel
theorem dX10_laysPages_143 : decode cX10_laysPages 143 = .ok (.istore_n 3, 1) := by decide +kernel
theorem dX10_laysPages_144 : decode cX10_laysPages 144 = .ok (.iconst 0, 1) := by decide +kernel
theorem dX10_laysPages_145 : decode cX10_laysPages 145 = .ok (.istore 5, 2) := by decide +kernel
theorem dX10_laysPages_147 : decode cX10_laysPages 147 = .ok (.iinc 4 1, 3) := by decide +kernel
theorem dX10_laysPages_150 : decode cX10_laysPages 150 = .ok (.goto 98, 3) := by decide +kernel
theorem dX10_laysPages_153 : decode cX10_laysPages 153 = .ok (.aload_n 0, 1) := by decide +kernel
theorem dX10_laysPages_154 : decode cX10_laysPages 154 = .ok (.getfield 117, 3) := by decide +kernel
theorem dX10_laysPages_157 : decode cX10_laysPages 157 = .ok (.iload 4, 2) := by decide +kernel
theorem dX10_laysPages_159 : decode cX10_laysPages 159 = .ok (.baload, 1) := by decide +kernel
theorem dX10_laysPages_160 : decode cX10_laysPages 160 = .ok (.ifCond .ne 7, 3) := by decide +kernel
theorem dX10_laysPages_163 : decode cX10_laysPages 163 = .ok (.iload_n 3, 1) := by decide +kernel
theorem dX10_laysPages_164 : decode cX10_laysPages 164 = .ok (.ifCond .ne 48, 3) := by decide +kernel
theorem dX10_laysPages_167 : decode cX10_laysPages 167 = .ok (.iload 8, 2) := by decide +kernel
theorem dX10_laysPages_169 : decode cX10_laysPages 169 = .ok (.iconst 1, 1) := by decide +kernel
theorem dX10_laysPages_170 : decode cX10_laysPages 170 = .ok (.if_icmp .lt 42, 3) := by decide +kernel
theorem dX10_laysPages_173 : decode cX10_laysPages 173 = .ok (.aload_n 0, 1) := by decide +kernel
theorem dX10_laysPages_174 : decode cX10_laysPages 174 = .ok (.iload 4, 2) := by decide +kernel
theorem dX10_laysPages_176 : decode cX10_laysPages 176 = .ok (.iload 5, 2) := by decide +kernel
theorem dX10_laysPages_178 : decode cX10_laysPages 178 = .ok (.iload 8, 2) := by decide +kernel
theorem dX10_laysPages_180 : decode cX10_laysPages 180 = .ok (.iload 7, 2) := by decide +kernel
theorem dX10_laysPages_182 : decode cX10_laysPages 182 = .ok (.invokevirtual 340, 3) := by decide +kernel
theorem dX10_laysPages_185 : decode cX10_laysPages 185 = .ok (.iload 5, 2) := by decide +kernel
theorem dX10_laysPages_187 : decode cX10_laysPages 187 = .ok (.iload 8, 2) := by decide +kernel
theorem dX10_laysPages_189 : decode cX10_laysPages 189 = .ok (.iadd, 1) := by decide +kernel
theorem dX10_laysPages_190 : decode cX10_laysPages 190 = .ok (.istore 5, 2) := by decide +kernel
theorem dX10_laysPages_192 : decode cX10_laysPages 192 = .ok (.aload_n 0, 1) := by decide +kernel
theorem dX10_laysPages_193 : decode cX10_laysPages 193 = .ok (.invokevirtual 334, 3) := by decide +kernel
theorem dX10_laysPages_196 : decode cX10_laysPages 196 = .ok (.aload_n 0, 1) := by decide +kernel
theorem dX10_laysPages_197 : decode cX10_laysPages 197 = .ok (.aload_n 0, 1) := by decide +kernel
theorem dX10_laysPages_198 : decode cX10_laysPages 198 = .ok (.getfield 328, 3) := by decide +kernel
theorem dX10_laysPages_201 : decode cX10_laysPages 201 = .ok (.iconst 1, 1) := by decide +kernel
theorem dX10_laysPages_202 : decode cX10_laysPages 202 = .ok (.isub, 1) := by decide +kernel
theorem dX10_laysPages_203 : decode cX10_laysPages 203 = .ok (.invokevirtual 337, 3) := by decide +kernel
theorem dX10_laysPages_206 : decode cX10_laysPages 206 = .ok (.istore_n 2, 1) := by decide +kernel
theorem dX10_laysPages_207 : decode cX10_laysPages 207 = .ok (.iconst 0, 1) := by decide +kernel
theorem dX10_laysPages_208 : decode cX10_laysPages 208 = .ok (.istore_n 3, 1) := by decide +kernel
theorem dX10_laysPages_209 : decode cX10_laysPages 209 = .ok (.goto 39, 3) := by decide +kernel
theorem dX10_laysPages_212 : decode cX10_laysPages 212 = .ok (.iload_n 3, 1) := by decide +kernel
theorem dX10_laysPages_213 : decode cX10_laysPages 213 = .ok (.ifCond .eq 23, 3) := by decide +kernel
theorem dX10_laysPages_216 : decode cX10_laysPages 216 = .ok (.aload_n 0, 1) := by decide +kernel
theorem dX10_laysPages_217 : decode cX10_laysPages 217 = .ok (.invokevirtual 334, 3) := by decide +kernel
theorem dX10_laysPages_220 : decode cX10_laysPages 220 = .ok (.aload_n 0, 1) := by decide +kernel
theorem dX10_laysPages_221 : decode cX10_laysPages 221 = .ok (.aload_n 0, 1) := by decide +kernel
theorem dX10_laysPages_222 : decode cX10_laysPages 222 = .ok (.getfield 328, 3) := by decide +kernel
theorem dX10_laysPages_225 : decode cX10_laysPages 225 = .ok (.iconst 1, 1) := by decide +kernel
theorem dX10_laysPages_226 : decode cX10_laysPages 226 = .ok (.isub, 1) := by decide +kernel
theorem dX10_laysPages_227 : decode cX10_laysPages 227 = .ok (.invokevirtual 337, 3) := by decide +kernel
theorem dX10_laysPages_230 : decode cX10_laysPages 230 = .ok (.istore_n 2, 1) := by decide +kernel
theorem dX10_laysPages_231 : decode cX10_laysPages 231 = .ok (.iconst 0, 1) := by decide +kernel
theorem dX10_laysPages_232 : decode cX10_laysPages 232 = .ok (.istore_n 3, 1) := by decide +kernel
theorem dX10_laysPages_233 : decode cX10_laysPages 233 = .ok (.goto 15, 3) := by decide +kernel
theorem dX10_laysPages_236 : decode cX10_laysPages 236 = .ok (.aload_n 0, 1) := by decide +kernel
theorem dX10_laysPages_237 : decode cX10_laysPages 237 = .ok (.iconst 0, 1) := by decide +kernel
theorem dX10_laysPages_238 : decode cX10_laysPages 238 = .ok (.putfield 328, 3) := by decide +kernel
theorem dX10_laysPages_241 : decode cX10_laysPages 241 = .ok (.aload_n 0, 1) := by decide +kernel
theorem dX10_laysPages_242 : decode cX10_laysPages 242 = .ok (.iconst 0, 1) := by decide +kernel
theorem dX10_laysPages_243 : decode cX10_laysPages 243 = .ok (.putfield 325, 3) := by decide +kernel
theorem dX10_laysPages_246 : decode cX10_laysPages 246 = .ok (.iconst 0, 1) := by decide +kernel
theorem dX10_laysPages_247 : decode cX10_laysPages 247 = .ok (.ireturn, 1) := by decide +kernel
theorem dX10_laysPages_248 : decode cX10_laysPages 248 = .ok (.goto (-199), 3) := by decide +kernel
theorem dX10_laysPages_251 : decode cX10_laysPages 251 = .ok (.iconst 1, 1) := by decide +kernel
theorem dX10_laysPages_252 : decode cX10_laysPages 252 = .ok (.ireturn, 1) := by decide +kernel
theorem dX10_pages_0 : decode cX10_pages 0 = .ok (.aload_n 0, 1) := by decide +kernel
theorem dX10_pages_1 : decode cX10_pages 1 = .ok (.aload_n 0, 1) := by decide +kernel
theorem dX10_pages_2 : decode cX10_pages 2 = .ok (.invokevirtual 344, 3) := by decide +kernel
theorem dX10_pages_5 : decode cX10_pages 5 = .ok (.iconst 1, 1) := by decide +kernel
theorem dX10_pages_6 : decode cX10_pages 6 = .ok (.iconst 1, 1) := by decide +kernel
theorem dX10_pages_7 : decode cX10_pages 7 = .ok (.invokevirtual 175, 3) := by decide +kernel
theorem dX10_pages_10 : decode cX10_pages 10 = .ok (.ifCond .eq 10, 3) := by decide +kernel
theorem dX10_pages_13 : decode cX10_pages 13 = .ok (.aload_n 0, 1) := by decide +kernel
theorem dX10_pages_14 : decode cX10_pages 14 = .ok (.getfield 328, 3) := by decide +kernel
theorem dX10_pages_17 : decode cX10_pages 17 = .ok (.goto 4, 3) := by decide +kernel
theorem dX10_pages_20 : decode cX10_pages 20 = .ok (.iconst 0, 1) := by decide +kernel
theorem dX10_pages_21 : decode cX10_pages 21 = .ok (.ireturn, 1) := by decide +kernel
theorem dX10_isBody_0 : decode cX10_isBody 0 = .ok (.aload_n 0, 1) := by decide +kernel
theorem dX10_isBody_1 : decode cX10_isBody 1 = .ok (.iload_n 1, 1) := by decide +kernel
theorem dX10_isBody_2 : decode cX10_isBody 2 = .ok (.invokevirtual 183, 3) := by decide +kernel
theorem dX10_isBody_5 : decode cX10_isBody 5 = .ok (.ifCond .eq 17, 3) := by decide +kernel
theorem dX10_isBody_8 : decode cX10_isBody 8 = .ok (.aload_n 0, 1) := by decide +kernel
theorem dX10_isBody_9 : decode cX10_isBody 9 = .ok (.getfield 23, 3) := by decide +kernel
theorem dX10_isBody_12 : decode cX10_isBody 12 = .ok (.iload_n 1, 1) := by decide +kernel
theorem dX10_isBody_13 : decode cX10_isBody 13 = .ok (.iaload, 1) := by decide +kernel
theorem dX10_isBody_14 : decode cX10_isBody 14 = .ok (.iconst 1, 1) := by decide +kernel
theorem dX10_isBody_15 : decode cX10_isBody 15 = .ok (.if_icmp .ne 7, 3) := by decide +kernel
theorem dX10_isBody_18 : decode cX10_isBody 18 = .ok (.iconst 1, 1) := by decide +kernel
theorem dX10_isBody_19 : decode cX10_isBody 19 = .ok (.goto 4, 3) := by decide +kernel
theorem dX10_isBody_22 : decode cX10_isBody 22 = .ok (.iconst 0, 1) := by decide +kernel
theorem dX10_isBody_23 : decode cX10_isBody 23 = .ok (.ireturn, 1) := by decide +kernel
theorem dX10_firstPage_0 : decode cX10_firstPage 0 = .ok (.iconst 0, 1) := by decide +kernel
theorem dX10_firstPage_1 : decode cX10_firstPage 1 = .ok (.istore_n 2, 1) := by decide +kernel
theorem dX10_firstPage_2 : decode cX10_firstPage 2 = .ok (.aload_n 0, 1) := by decide +kernel
theorem dX10_firstPage_3 : decode cX10_firstPage 3 = .ok (.getfield 120, 3) := by decide +kernel
theorem dX10_firstPage_6 : decode cX10_firstPage 6 = .ok (.iload_n 2, 1) := by decide +kernel
theorem dX10_firstPage_7 : decode cX10_firstPage 7 = .ok (.iaload, 1) := by decide +kernel
theorem dX10_firstPage_8 : decode cX10_firstPage 8 = .ok (.iload_n 1, 1) := by decide +kernel
theorem dX10_firstPage_9 : decode cX10_firstPage 9 = .ok (.if_icmp .eq 9, 3) := by decide +kernel
theorem dX10_firstPage_12 : decode cX10_firstPage 12 = .ok (.iinc 2 1, 3) := by decide +kernel
theorem dX10_firstPage_15 : decode cX10_firstPage 15 = .ok (.goto (-13), 3) := by decide +kernel
theorem dX10_firstPage_18 : decode cX10_firstPage 18 = .ok (.aload_n 0, 1) := by decide +kernel
theorem dX10_firstPage_19 : decode cX10_firstPage 19 = .ok (.getfield 123, 3) := by decide +kernel
theorem dX10_firstPage_22 : decode cX10_firstPage 22 = .ok (.iload_n 2, 1) := by decide +kernel
theorem dX10_firstPage_23 : decode cX10_firstPage 23 = .ok (.iaload, 1) := by decide +kernel
theorem dX10_firstPage_24 : decode cX10_firstPage 24 = .ok (.ireturn, 1) := by decide +kernel
theorem dX10_pageOf_0 : decode cX10_pageOf 0 = .ok (.aload_n 0, 1) := by decide +kernel
theorem dX10_pageOf_1 : decode cX10_pageOf 1 = .ok (.iload_n 1, 1) := by decide +kernel
theorem dX10_pageOf_2 : decode cX10_pageOf 2 = .ok (.invokevirtual 347, 3) := by decide +kernel
theorem dX10_pageOf_5 : decode cX10_pageOf 5 = .ok (.istore_n 2, 1) := by decide +kernel
theorem dX10_pageOf_6 : decode cX10_pageOf 6 = .ok (.aload_n 0, 1) := by decide +kernel
theorem dX10_pageOf_7 : decode cX10_pageOf 7 = .ok (.aload_n 0, 1) := by decide +kernel
theorem dX10_pageOf_8 : decode cX10_pageOf 8 = .ok (.iload_n 1, 1) := by decide +kernel
theorem dX10_pageOf_9 : decode cX10_pageOf 9 = .ok (.invokevirtual 183, 3) := by decide +kernel
theorem dX10_pageOf_12 : decode cX10_pageOf 12 = .ok (.iload_n 2, 1) := by decide +kernel
theorem dX10_pageOf_13 : decode cX10_pageOf 13 = .ok (.iload_n 2, 1) := by decide +kernel
theorem dX10_pageOf_14 : decode cX10_pageOf 14 = .ok (.ifCond .eq 14, 3) := by decide +kernel
theorem dX10_pageOf_17 : decode cX10_pageOf 17 = .ok (.aload_n 0, 1) := by decide +kernel
theorem dX10_pageOf_18 : decode cX10_pageOf 18 = .ok (.invokevirtual 344, 3) := by decide +kernel
theorem dX10_pageOf_21 : decode cX10_pageOf 21 = .ok (.ifCond .eq 7, 3) := by decide +kernel
theorem dX10_pageOf_24 : decode cX10_pageOf 24 = .ok (.iconst 1, 1) := by decide +kernel
theorem dX10_pageOf_25 : decode cX10_pageOf 25 = .ok (.goto 4, 3) := by decide +kernel
theorem dX10_pageOf_28 : decode cX10_pageOf 28 = .ok (.iconst 0, 1) := by decide +kernel
theorem dX10_pageOf_29 : decode cX10_pageOf 29 = .ok (.invokevirtual 175, 3) := by decide +kernel
theorem dX10_pageOf_32 : decode cX10_pageOf 32 = .ok (.ifCond .eq 11, 3) := by decide +kernel
theorem dX10_pageOf_35 : decode cX10_pageOf 35 = .ok (.aload_n 0, 1) := by decide +kernel
theorem dX10_pageOf_36 : decode cX10_pageOf 36 = .ok (.iload_n 1, 1) := by decide +kernel
theorem dX10_pageOf_37 : decode cX10_pageOf 37 = .ok (.invokevirtual 350, 3) := by decide +kernel
theorem dX10_pageOf_40 : decode cX10_pageOf 40 = .ok (.goto 4, 3) := by decide +kernel
theorem dX10_pageOf_43 : decode cX10_pageOf 43 = .ok (.iconst 0, 1) := by decide +kernel
theorem dX10_pageOf_44 : decode cX10_pageOf 44 = .ok (.ireturn, 1) := by decide +kernel
theorem dX10_linesAt_0 : decode cX10_linesAt 0 = .ok (.iconst 0, 1) := by decide +kernel
theorem dX10_linesAt_1 : decode cX10_linesAt 1 = .ok (.istore_n 3, 1) := by decide +kernel
theorem dX10_linesAt_2 : decode cX10_linesAt 2 = .ok (.iconst 0, 1) := by decide +kernel
theorem dX10_linesAt_3 : decode cX10_linesAt 3 = .ok (.istore 4, 2) := by decide +kernel
theorem dX10_linesAt_5 : decode cX10_linesAt 5 = .ok (.iload 4, 2) := by decide +kernel
theorem dX10_linesAt_7 : decode cX10_linesAt 7 = .ok (.aload_n 0, 1) := by decide +kernel
theorem dX10_linesAt_8 : decode cX10_linesAt 8 = .ok (.getfield 325, 3) := by decide +kernel
theorem dX10_linesAt_11 : decode cX10_linesAt 11 = .ok (.if_icmp .ge 45, 3) := by decide +kernel
theorem dX10_linesAt_14 : decode cX10_linesAt 14 = .ok (.iload_n 3, 1) := by decide +kernel
theorem dX10_linesAt_15 : decode cX10_linesAt 15 = .ok (.aload_n 0, 1) := by decide +kernel
theorem dX10_linesAt_16 : decode cX10_linesAt 16 = .ok (.getfield 120, 3) := by decide +kernel
theorem dX10_linesAt_19 : decode cX10_linesAt 19 = .ok (.iload 4, 2) := by decide +kernel
theorem dX10_linesAt_21 : decode cX10_linesAt 21 = .ok (.iaload, 1) := by decide +kernel
theorem dX10_linesAt_22 : decode cX10_linesAt 22 = .ok (.iload_n 1, 1) := by decide +kernel
theorem dX10_linesAt_23 : decode cX10_linesAt 23 = .ok (.if_icmp .ne 24, 3) := by decide +kernel
theorem dX10_linesAt_26 : decode cX10_linesAt 26 = .ok (.aload_n 0, 1) := by decide +kernel
theorem dX10_linesAt_27 : decode cX10_linesAt 27 = .ok (.getfield 123, 3) := by decide +kernel
theorem dX10_linesAt_30 : decode cX10_linesAt 30 = .ok (.iload 4, 2) := by decide +kernel
theorem dX10_linesAt_32 : decode cX10_linesAt 32 = .ok (.iaload, 1) := by decide +kernel
theorem dX10_linesAt_33 : decode cX10_linesAt 33 = .ok (.iload_n 2, 1) := by decide +kernel
theorem dX10_linesAt_34 : decode cX10_linesAt 34 = .ok (.if_icmp .ne 13, 3) := by decide +kernel
theorem dX10_linesAt_37 : decode cX10_linesAt 37 = .ok (.aload_n 0, 1) := by decide +kernel
theorem dX10_linesAt_38 : decode cX10_linesAt 38 = .ok (.getfield 129, 3) := by decide +kernel
theorem dX10_linesAt_41 : decode cX10_linesAt 41 = .ok (.iload 4, 2) := by decide +kernel
theorem dX10_linesAt_43 : decode cX10_linesAt 43 = .ok (.iaload, 1) := by decide +kernel
theorem dX10_linesAt_44 : decode cX10_linesAt 44 = .ok (.goto 4, 3) := by decide +kernel
theorem dX10_linesAt_47 : decode cX10_linesAt 47 = .ok (.iconst 0, 1) := by decide +kernel
theorem dX10_linesAt_48 : decode cX10_linesAt 48 = .ok (.iadd, 1) := by decide +kernel
theorem dX10_linesAt_49 : decode cX10_linesAt 49 = .ok (.istore_n 3, 1) := by decide +kernel
theorem dX10_linesAt_50 : decode cX10_linesAt 50 = .ok (.iinc 4 1, 3) := by decide +kernel
theorem dX10_linesAt_53 : decode cX10_linesAt 53 = .ok (.goto (-48), 3) := by decide +kernel
theorem dX10_linesAt_56 : decode cX10_linesAt 56 = .ok (.iload_n 3, 1) := by decide +kernel
theorem dX10_linesAt_57 : decode cX10_linesAt 57 = .ok (.ireturn, 1) := by decide +kernel
theorem dX10_linesOn_0 : decode cX10_linesOn 0 = .ok (.aload_n 0, 1) := by decide +kernel
theorem dX10_linesOn_1 : decode cX10_linesOn 1 = .ok (.iload_n 1, 1) := by decide +kernel
theorem dX10_linesOn_2 : decode cX10_linesOn 2 = .ok (.invokevirtual 347, 3) := by decide +kernel
theorem dX10_linesOn_5 : decode cX10_linesOn 5 = .ok (.ifCond .eq 11, 3) := by decide +kernel
theorem dX10_linesOn_8 : decode cX10_linesOn 8 = .ok (.iload_n 2, 1) := by decide +kernel
theorem dX10_linesOn_9 : decode cX10_linesOn 9 = .ok (.ifCond .lt 7, 3) := by decide +kernel
theorem dX10_linesOn_12 : decode cX10_linesOn 12 = .ok (.iconst 1, 1) := by decide +kernel
theorem dX10_linesOn_13 : decode cX10_linesOn 13 = .ok (.goto 4, 3) := by decide +kernel
theorem dX10_linesOn_16 : decode cX10_linesOn 16 = .ok (.iconst 0, 1) := by decide +kernel
theorem dX10_linesOn_17 : decode cX10_linesOn 17 = .ok (.istore_n 3, 1) := by decide +kernel
theorem dX10_linesOn_18 : decode cX10_linesOn 18 = .ok (.aload_n 0, 1) := by decide +kernel
theorem dX10_linesOn_19 : decode cX10_linesOn 19 = .ok (.aload_n 0, 1) := by decide +kernel
theorem dX10_linesOn_20 : decode cX10_linesOn 20 = .ok (.iload_n 1, 1) := by decide +kernel
theorem dX10_linesOn_21 : decode cX10_linesOn 21 = .ok (.invokevirtual 183, 3) := by decide +kernel
theorem dX10_linesOn_24 : decode cX10_linesOn 24 = .ok (.iload_n 3, 1) := by decide +kernel
theorem dX10_linesOn_25 : decode cX10_linesOn 25 = .ok (.iload_n 3, 1) := by decide +kernel
theorem dX10_linesOn_26 : decode cX10_linesOn 26 = .ok (.ifCond .eq 14, 3) := by decide +kernel
theorem dX10_linesOn_29 : decode cX10_linesOn 29 = .ok (.aload_n 0, 1) := by decide +kernel
theorem dX10_linesOn_30 : decode cX10_linesOn 30 = .ok (.invokevirtual 344, 3) := by decide +kernel
theorem dX10_linesOn_33 : decode cX10_linesOn 33 = .ok (.ifCond .eq 7, 3) := by decide +kernel
theorem dX10_linesOn_36 : decode cX10_linesOn 36 = .ok (.iconst 1, 1) := by decide +kernel
theorem dX10_linesOn_37 : decode cX10_linesOn 37 = .ok (.goto 4, 3) := by decide +kernel
theorem dX10_linesOn_40 : decode cX10_linesOn 40 = .ok (.iconst 0, 1) := by decide +kernel
theorem dX10_linesOn_41 : decode cX10_linesOn 41 = .ok (.invokevirtual 175, 3) := by decide +kernel
theorem dX10_linesOn_44 : decode cX10_linesOn 44 = .ok (.ifCond .eq 12, 3) := by decide +kernel
theorem dX10_linesOn_47 : decode cX10_linesOn 47 = .ok (.aload_n 0, 1) := by decide +kernel
theorem dX10_linesOn_48 : decode cX10_linesOn 48 = .ok (.iload_n 1, 1) := by decide +kernel
theorem dX10_linesOn_49 : decode cX10_linesOn 49 = .ok (.iload_n 2, 1) := by decide +kernel
theorem dX10_linesOn_50 : decode cX10_linesOn 50 = .ok (.invokevirtual 353, 3) := by decide +kernel
theorem dX10_linesOn_53 : decode cX10_linesOn 53 = .ok (.goto 4, 3) := by decide +kernel
theorem dX10_linesOn_56 : decode cX10_linesOn 56 = .ok (.iconst 0, 1) := by decide +kernel
theorem dX10_linesOn_57 : decode cX10_linesOn 57 = .ok (.ireturn, 1) := by decide +kernel
theorem dX10_shown_0 : decode cX10_shown 0 = .ok (.aload_n 0, 1) := by decide +kernel
theorem dX10_shown_1 : decode cX10_shown 1 = .ok (.iload_n 1, 1) := by decide +kernel
theorem dX10_shown_2 : decode cX10_shown 2 = .ok (.invokevirtual 194, 3) := by decide +kernel
theorem dX10_shown_5 : decode cX10_shown 5 = .ok (.istore_n 3, 1) := by decide +kernel
theorem dX10_shown_6 : decode cX10_shown 6 = .ok (.iload_n 3, 1) := by decide +kernel
theorem dX10_shown_7 : decode cX10_shown 7 = .ok (.ifCond .eq 26, 3) := by decide +kernel
theorem dX10_shown_10 : decode cX10_shown 10 = .ok (.aload_n 0, 1) := by decide +kernel
theorem dX10_shown_11 : decode cX10_shown 11 = .ok (.getfield 23, 3) := by decide +kernel
theorem dX10_shown_14 : decode cX10_shown 14 = .ok (.aload_n 0, 1) := by decide +kernel
theorem dX10_shown_15 : decode cX10_shown 15 = .ok (.getfield 38, 3) := by decide +kernel
theorem dX10_shown_18 : decode cX10_shown 18 = .ok (.iload_n 1, 1) := by decide +kernel
theorem dX10_shown_19 : decode cX10_shown 19 = .ok (.iaload, 1) := by decide +kernel
theorem dX10_shown_20 : decode cX10_shown 20 = .ok (.iaload, 1) := by decide +kernel
theorem dX10_shown_21 : decode cX10_shown 21 = .ok (.iconst 1, 1) := by decide +kernel
theorem dX10_shown_22 : decode cX10_shown 22 = .ok (.if_icmp .ne 11, 3) := by decide +kernel
theorem dX10_shown_25 : decode cX10_shown 25 = .ok (.iload_n 2, 1) := by decide +kernel
theorem dX10_shown_26 : decode cX10_shown 26 = .ok (.ifCond .lt 7, 3) := by decide +kernel
theorem dX10_shown_29 : decode cX10_shown 29 = .ok (.iconst 1, 1) := by decide +kernel
theorem dX10_shown_30 : decode cX10_shown 30 = .ok (.goto 4, 3) := by decide +kernel
theorem dX10_shown_33 : decode cX10_shown 33 = .ok (.iconst 0, 1) := by decide +kernel
theorem dX10_shown_34 : decode cX10_shown 34 = .ok (.istore 4, 2) := by decide +kernel
theorem dX10_shown_36 : decode cX10_shown 36 = .ok (.aload_n 0, 1) := by decide +kernel
theorem dX10_shown_37 : decode cX10_shown 37 = .ok (.iload_n 3, 1) := by decide +kernel
theorem dX10_shown_38 : decode cX10_shown 38 = .ok (.iload 4, 2) := by decide +kernel
theorem dX10_shown_40 : decode cX10_shown 40 = .ok (.iload 4, 2) := by decide +kernel
theorem dX10_shown_42 : decode cX10_shown 42 = .ok (.ifCond .eq 14, 3) := by decide +kernel
theorem dX10_shown_45 : decode cX10_shown 45 = .ok (.aload_n 0, 1) := by decide +kernel
theorem dX10_shown_46 : decode cX10_shown 46 = .ok (.invokevirtual 344, 3) := by decide +kernel
theorem dX10_shown_49 : decode cX10_shown 49 = .ok (.ifCond .eq 7, 3) := by decide +kernel
theorem dX10_shown_52 : decode cX10_shown 52 = .ok (.iconst 1, 1) := by decide +kernel
theorem dX10_shown_53 : decode cX10_shown 53 = .ok (.goto 4, 3) := by decide +kernel
theorem dX10_shown_56 : decode cX10_shown 56 = .ok (.iconst 0, 1) := by decide +kernel
theorem dX10_shown_57 : decode cX10_shown 57 = .ok (.invokevirtual 175, 3) := by decide +kernel
theorem dX10_shown_60 : decode cX10_shown 60 = .ok (.ifCond .ne 5, 3) := by decide +kernel
theorem dX10_shown_63 : decode cX10_shown 63 = .ok (.iconst 0, 1) := by decide +kernel
theorem dX10_shown_64 : decode cX10_shown 64 = .ok (.ireturn, 1) := by decide +kernel
theorem dX10_shown_65 : decode cX10_shown 65 = .ok (.aload_n 0, 1) := by decide +kernel
theorem dX10_shown_66 : decode cX10_shown 66 = .ok (.iload_n 1, 1) := by decide +kernel
theorem dX10_shown_67 : decode cX10_shown 67 = .ok (.invokevirtual 277, 3) := by decide +kernel
theorem dX10_shown_70 : decode cX10_shown 70 = .ok (.istore 5, 2) := by decide +kernel
theorem dX10_shown_72 : decode cX10_shown 72 = .ok (.iconst 0, 1) := by decide +kernel
theorem dX10_shown_73 : decode cX10_shown 73 = .ok (.istore 6, 2) := by decide +kernel
theorem dX10_shown_75 : decode cX10_shown 75 = .ok (.iconst 0, 1) := by decide +kernel
theorem dX10_shown_76 : decode cX10_shown 76 = .ok (.istore 7, 2) := by decide +kernel
theorem dX10_shown_78 : decode cX10_shown 78 = .ok (.iload 7, 2) := by decide +kernel
theorem dX10_shown_80 : decode cX10_shown 80 = .ok (.iload_n 2, 1) := by decide +kernel
theorem dX10_shown_81 : decode cX10_shown 81 = .ok (.if_icmp .gt 87, 3) := by decide +kernel
theorem dX10_shown_84 : decode cX10_shown 84 = .ok (.iload 7, 2) := by decide +kernel
theorem dX10_shown_86 : decode cX10_shown 86 = .ok (.aload_n 0, 1) := by decide +kernel
theorem dX10_shown_87 : decode cX10_shown 87 = .ok (.getfield 328, 3) := by decide +kernel
theorem dX10_shown_90 : decode cX10_shown 90 = .ok (.if_icmp .ge 78, 3) := by decide +kernel
theorem dX10_shown_93 : decode cX10_shown 93 = .ok (.iconst 0, 1) := by decide +kernel
theorem dX10_shown_94 : decode cX10_shown 94 = .ok (.istore 6, 2) := by decide +kernel
theorem dX10_shown_96 : decode cX10_shown 96 = .ok (.iconst 0, 1) := by decide +kernel
theorem dX10_shown_97 : decode cX10_shown 97 = .ok (.istore 8, 2) := by decide +kernel
theorem dX10_shown_99 : decode cX10_shown 99 = .ok (.iload 8, 2) := by decide +kernel
theorem dX10_shown_101 : decode cX10_shown 101 = .ok (.aload_n 0, 1) := by decide +kernel
theorem dX10_shown_102 : decode cX10_shown 102 = .ok (.getfield 44, 3) := by decide +kernel
theorem dX10_shown_105 : decode cX10_shown 105 = .ok (.iload_n 1, 1) := by decide +kernel
theorem dX10_shown_106 : decode cX10_shown 106 = .ok (.iaload, 1) := by decide +kernel
theorem dX10_shown_107 : decode cX10_shown 107 = .ok (.if_icmp .ge 32, 3) := by decide +kernel
theorem dX10_shown_110 : decode cX10_shown 110 = .ok (.iload 6, 2) := by decide +kernel
theorem dX10_shown_112 : decode cX10_shown 112 = .ok (.aload_n 0, 1) := by decide +kernel
theorem dX10_shown_113 : decode cX10_shown 113 = .ok (.aload_n 0, 1) := by decide +kernel
theorem dX10_shown_114 : decode cX10_shown 114 = .ok (.aload_n 0, 1) := by decide +kernel
theorem dX10_shown_115 : decode cX10_shown 115 = .ok (.getfield 38, 3) := by decide +kernel
theorem dX10_shown_118 : decode cX10_shown 118 = .ok (.iload_n 1, 1) := by decide +kernel
theorem dX10_shown_119 : decode cX10_shown 119 = .ok (.iaload, 1) := by decide +kernel
theorem dX10_shown_120 : decode cX10_shown 120 = .ok (.iload 8, 2) := by decide +kernel
theorem dX10_shown_122 : decode cX10_shown 122 = .ok (.invokevirtual 190, 3) := by decide +kernel
theorem dX10_shown_125 : decode cX10_shown 125 = .ok (.iload 7, 2) := by decide +kernel
theorem dX10_shown_127 : decode cX10_shown 127 = .ok (.invokevirtual 353, 3) := by decide +kernel
theorem dX10_shown_130 : decode cX10_shown 130 = .ok (.iadd, 1) := by decide +kernel
theorem dX10_shown_131 : decode cX10_shown 131 = .ok (.istore 6, 2) := by decide +kernel
theorem dX10_shown_133 : decode cX10_shown 133 = .ok (.iinc 8 1, 3) := by decide +kernel
theorem dX10_shown_136 : decode cX10_shown 136 = .ok (.goto (-37), 3) := by decide +kernel
theorem dX10_shown_139 : decode cX10_shown 139 = .ok (.iload 6, 2) := by decide +kernel
theorem dX10_shown_141 : decode cX10_shown 141 = .ok (.iload 5, 2) := by decide +kernel
theorem dX10_shown_143 : decode cX10_shown 143 = .ok (.if_icmp .ge 8, 3) := by decide +kernel
theorem dX10_shown_146 : decode cX10_shown 146 = .ok (.iload 6, 2) := by decide +kernel
theorem dX10_shown_148 : decode cX10_shown 148 = .ok (.goto 5, 3) := by decide +kernel
theorem dX10_shown_151 : decode cX10_shown 151 = .ok (.iload 5, 2) := by decide +kernel
theorem dX10_shown_153 : decode cX10_shown 153 = .ok (.istore 6, 2) := by decide +kernel
theorem dX10_shown_155 : decode cX10_shown 155 = .ok (.iload 5, 2) := by decide +kernel
theorem dX10_shown_157 : decode cX10_shown 157 = .ok (.iload 6, 2) := by decide +kernel
theorem dX10_shown_159 : decode cX10_shown 159 = .ok (.isub, 1) := by decide +kernel
theorem dX10_shown_160 : decode cX10_shown 160 = .ok (.istore 5, 2) := by decide +kernel
theorem dX10_shown_162 : decode cX10_shown 162 = .ok (.iinc 7 1, 3) := by decide +kernel
theorem dX10_shown_165 : decode cX10_shown 165 = .ok (.goto (-87), 3) := by decide +kernel
theorem dX10_shown_168 : decode cX10_shown 168 = .ok (.iload_n 2, 1) := by decide +kernel
theorem dX10_shown_169 : decode cX10_shown 169 = .ok (.aload_n 0, 1) := by decide +kernel
theorem dX10_shown_170 : decode cX10_shown 170 = .ok (.getfield 328, 3) := by decide +kernel
theorem dX10_shown_173 : decode cX10_shown 173 = .ok (.if_icmp .ge 8, 3) := by decide +kernel
theorem dX10_shown_176 : decode cX10_shown 176 = .ok (.iload 6, 2) := by decide +kernel
theorem dX10_shown_178 : decode cX10_shown 178 = .ok (.goto 4, 3) := by decide +kernel
theorem dX10_shown_181 : decode cX10_shown 181 = .ok (.iconst 0, 1) := by decide +kernel
theorem dX10_shown_182 : decode cX10_shown 182 = .ok (.ireturn, 1) := by decide +kernel
theorem dX10_isPage_0 : decode cX10_isPage 0 = .ok (.iload_n 1, 1) := by decide +kernel
theorem dX10_isPage_1 : decode cX10_isPage 1 = .ok (.iconst 0, 1) := by decide +kernel
theorem dX10_isPage_2 : decode cX10_isPage 2 = .ok (.aload_n 0, 1) := by decide +kernel
theorem dX10_isPage_3 : decode cX10_isPage 3 = .ok (.getfield 328, 3) := by decide +kernel
theorem dX10_isPage_6 : decode cX10_isPage 6 = .ok (.iconst 1, 1) := by decide +kernel
theorem dX10_isPage_7 : decode cX10_isPage 7 = .ok (.isub, 1) := by decide +kernel
theorem dX10_isPage_8 : decode cX10_isPage 8 = .ok (.invokestatic 165, 3) := by decide +kernel
theorem dX10_isPage_11 : decode cX10_isPage 11 = .ok (.ireturn, 1) := by decide +kernel
theorem dX10_restOfNotes_0 : decode cX10_restOfNotes 0 = .ok (.aload_n 0, 1) := by decide +kernel
theorem dX10_restOfNotes_1 : decode cX10_restOfNotes 1 = .ok (.getfield 199, 3) := by decide +kernel
theorem dX10_restOfNotes_4 : decode cX10_restOfNotes 4 = .ok (.ifCond .eq 7, 3) := by decide +kernel
theorem dX10_restOfNotes_7 : decode cX10_restOfNotes 7 = .ok (.iconst 0, 1) := by decide +kernel
theorem dX10_restOfNotes_8 : decode cX10_restOfNotes 8 = .ok (.goto 9, 3) := by decide +kernel
theorem dX10_restOfNotes_11 : decode cX10_restOfNotes 11 = .ok (.aload_n 0, 1) := by decide +kernel
theorem dX10_restOfNotes_12 : decode cX10_restOfNotes 12 = .ok (.getfield 132, 3) := by decide +kernel
theorem dX10_restOfNotes_15 : decode cX10_restOfNotes 15 = .ok (.iload_n 1, 1) := by decide +kernel
theorem dX10_restOfNotes_16 : decode cX10_restOfNotes 16 = .ok (.iaload, 1) := by decide +kernel
theorem dX10_restOfNotes_17 : decode cX10_restOfNotes 17 = .ok (.ireturn, 1) := by decide +kernel
theorem dX10_notesOn_0 : decode cX10_notesOn 0 = .ok (.aload_n 0, 1) := by decide +kernel
theorem dX10_notesOn_1 : decode cX10_notesOn 1 = .ok (.invokevirtual 344, 3) := by decide +kernel
theorem dX10_notesOn_4 : decode cX10_notesOn 4 = .ok (.istore_n 2, 1) := by decide +kernel
theorem dX10_notesOn_5 : decode cX10_notesOn 5 = .ok (.aload_n 0, 1) := by decide +kernel
theorem dX10_notesOn_6 : decode cX10_notesOn 6 = .ok (.iload_n 2, 1) := by decide +kernel
theorem dX10_notesOn_7 : decode cX10_notesOn 7 = .ok (.iload_n 2, 1) := by decide +kernel
theorem dX10_notesOn_8 : decode cX10_notesOn 8 = .ok (.ifCond .eq 15, 3) := by decide +kernel
theorem dX10_notesOn_11 : decode cX10_notesOn 11 = .ok (.aload_n 0, 1) := by decide +kernel
theorem dX10_notesOn_12 : decode cX10_notesOn 12 = .ok (.iload_n 1, 1) := by decide +kernel
theorem dX10_notesOn_13 : decode cX10_notesOn 13 = .ok (.invokevirtual 356, 3) := by decide +kernel
theorem dX10_notesOn_16 : decode cX10_notesOn 16 = .ok (.ifCond .eq 7, 3) := by decide +kernel
theorem dX10_notesOn_19 : decode cX10_notesOn 19 = .ok (.iconst 1, 1) := by decide +kernel
theorem dX10_notesOn_20 : decode cX10_notesOn 20 = .ok (.goto 4, 3) := by decide +kernel
theorem dX10_notesOn_23 : decode cX10_notesOn 23 = .ok (.iconst 0, 1) := by decide +kernel
theorem dX10_notesOn_24 : decode cX10_notesOn 24 = .ok (.iconst 1, 1) := by decide +kernel
theorem dX10_notesOn_25 : decode cX10_notesOn 25 = .ok (.invokevirtual 175, 3) := by decide +kernel
theorem dX10_notesOn_28 : decode cX10_notesOn 28 = .ok (.ifCond .eq 12, 3) := by decide +kernel
theorem dX10_notesOn_31 : decode cX10_notesOn 31 = .ok (.aload_n 0, 1) := by decide +kernel
theorem dX10_notesOn_32 : decode cX10_notesOn 32 = .ok (.getfield 132, 3) := by decide +kernel
theorem dX10_notesOn_35 : decode cX10_notesOn 35 = .ok (.iload_n 1, 1) := by decide +kernel
theorem dX10_notesOn_36 : decode cX10_notesOn 36 = .ok (.iaload, 1) := by decide +kernel
theorem dX10_notesOn_37 : decode cX10_notesOn 37 = .ok (.goto 4, 3) := by decide +kernel
theorem dX10_notesOn_40 : decode cX10_notesOn 40 = .ok (.iconst 0, 1) := by decide +kernel
theorem dX10_notesOn_41 : decode cX10_notesOn 41 = .ok (.ireturn, 1) := by decide +kernel
section
variable {p : Program} {l : Launch} {e : Env} {s : State} {m : MethodId} {args : Array Value} {below : List Frame} {meth : Method} {c : Code} {G : Gx} {e0 : Nat} {α : Ax} {κ : Nat → Int} {B : Nat}
def wp_X10_noteOf (p1 : Int) (M : Mem) (Qm : Int → Mem → Prop) : Prop := wp_X10_shows p1 M fun (x2 : Int) (M1 : Mem) => (¬ x2 = 0 → (0 ≤ p1 ∧ p1 < 100) ∧ True) ∧ Qm (if ¬ x2 = 0 then (M1 76 0 p1) else 0) M1
set_option maxHeartbeats 4000000 in
set_option maxRecDepth 100000 in
theorem t_X10_noteOf {p1 : Int} (X : CX p m c cX10_noteOf 2 s args RX10 G B κ meth (some .int)) (hp1 : inR p1) {M : Mem} {Qm : Int → Mem → Prop} (hw : wp_X10_noteOf p1 M Qm) (H : Heap) (locs : List Loc) (hR : Rp G e0 α κ B M H) (hS : va_S (fun q => B ≤ q) s.heap H locs) (ls : Array Slot) (hl : lv_has ls 2 [(0, .ref (α 11 0)), (1, .int (Int32.ofInt p1))]) : WI p l e 1 s m args below meth c G e0 α κ B Qm H locs 0 ls [] := by
  have hw : wp_X10_shows p1 M fun (x2 : Int) (M1 : Mem) => (¬ x2 = 0 → (0 ≤ p1 ∧ p1 < 100) ∧ True) ∧ Qm (if ¬ x2 = 0 then (M1 76 0 p1) else 0) M1 := hw
  refine lv_aload_n X.1.1 X.1.2.1 dX10_noteOf_0 rfl (lv_at hl 0 rfl) ?_
  refine lv_iload_n X.1.1 X.1.2.1 dX10_noteOf_1 rfl (lv_at hl 1 rfl) ?_
  refine cs_X10_shows X hp1 (kc := 1) rmL_ok rm_c (by decide) hR hS kw_1829 hl.1 dX10_noteOf_2 (Nat.le_of_ble_eq_true rfl) hw (fun x2 M1 H locs hw r3 hR hS => ?_)
  have s5 := hw.1
  have hw := hw.2
  have r6 := inR_ite (c := ¬ x2 = 0) (hR.r 76 0 p1) (inR_c (a := 0) rfl)
  refine cut_j (A := ∀ v7 : Int, v7 = (if ¬ x2 = 0 then (M1 76 0 p1) else 0) → WI p l e 1 s m args below meth c G e0 α κ B Qm H locs 18 ls [.int (Int32.ofInt v7)]) (fun J8 => ?_) ?_
  · refine sa_if_ne (tgt := 12) X.1 r3 dX10_noteOf_5 (by decide) (fun hc => ?_) (fun hc => ?_)
    · have hw := s5 hc
      refine lv_aload_n X.1.1 X.1.2.1 dX10_noteOf_12 rfl (lv_at hl 0 rfl) ?_
      refine gt_11_23 X hR (okf X.2.2.1 rfl) kw_1552 dX10_noteOf_13 ?_
      refine lv_iload_n X.1.1 X.1.2.1 dX10_noteOf_16 rfl (lv_at hl 1 rfl) ?_
      have c4 := hw.1
      have hw := hw.2
      refine ra_76 X hR (okf X.2.2.1 rfl) c4 dX10_noteOf_17 ?_
      exact J8 ((M1 76 0 p1)) (if_pos (c := ¬ x2 = 0) hc).symm
    · skip
      refine sa_const X.1 dX10_noteOf_8 ?_
      refine lv_goto (tgt := 18) X.1.1 X.1.2.1 dX10_noteOf_9 (by decide) ?_
      exact J8 (0) (if_neg (c := ¬ x2 = 0) (fun z => z hc)).symm
  intro v7 hv7
  subst hv7
  exact sa_iret X.1 X.2.2.2.1 X.2.2.2.2 hR hS r6 hw dX10_noteOf_18
theorem m_X10_noteOf {l : Launch} {G : Gx} {e0 : Nat} {α : Ax} {κ : Nat → Int} {B : Nat} {p1 : Int} (hκ : kOK κ) (hp1 : inR p1) {M : Mem} {Qm : Int → Mem → Prop} (hw : wp_X10_noteOf p1 M Qm) : CI l yX10_noteOf (Cond.code yX10_noteOf cX10_noteOf 2 (some .int)) 1 G e0 α κ B [.ref (α 11 0), .int (Int32.ofInt p1)] M Qm :=
  CI.mk hκ (by decide +kernel) rfl (Nat.le_of_ble_eq_true rfl) (lv := [(0, .ref (α 11 0)), (1, .int (Int32.ofInt p1))]) rfl (fun p e s m args below meth c ls X hR hS hl => t_X10_noteOf X hp1 hw _ _ hR hS ls hl)
theorem cs_X10_noteOf {cc : ByteArray} {nL : Nat} {own : String} {ret : Option FieldType} {idx pc : Nat} {p1 : Int} (X : CX p m c cc nL s args own G B κ meth ret) (hp1 : inR p1) {kc : Nat} {R : Room} {cells slots : Nat} (hRr : RmOK R kc) (hcel : cells ≤ R.cells ∧ slots ≤ R.slots) (hk : 1 + 1 ≤ kc) {M : Mem} {H : Heap} {locs : List Loc} (hR : Rp G e0 α κ B M H) (hS : va_S (fun q => B ≤ q) s.heap H locs) (k1 : Cond.methodLink own idx yX10_noteOf ∈ gw) {ls : Array Slot} (hml : ls.size = nL) {rest : List Value} (hd : decode cc pc = .ok (.invokevirtual idx, 3)) (hrest : (rest.map fun v => v.category).sum ≤ 8) {Q : State → Prop} {Qm : Int → Mem → Prop} (hw : wp_X10_noteOf p1 M Qm) (kk : ∀ (r : Int) (M1 : Mem) (H1 : Heap) (locs1 : List Loc), Qm r M1 → inR r → Rp G e0 α κ B M1 H1 → va_S (fun q => B ≤ q) s.heap H1 locs1 → W p l e R s m args below meth c H1 locs1 cells slots Q (F0 m (pc + 3) ls (.int (Int32.ofInt r) :: rest))) : W p l e R s m args below meth c H locs cells slots Q (F0 m pc ls (.int (Int32.ofInt p1) :: .ref (α 11 0) :: rest)) :=
  sa_callVI 1 (n := 1) (As := [.int (Int32.ofInt p1)]) (rest := rest) X.1 X.2.1 hR hS (m_X10_noteOf X.2.2.1 hp1 hw) k1 kw_1987 kw_78 kw_104 kw_1988 ⟨rfl, by decide +kernel, by decide +kernel, by decide +kernel⟩ (rm_ok hRr hk (by decide)) (rc_11 X hR (okf X.2.2.1 rfl)) rfl rfl hrest hml hd hcel kk
def wp_X10_flows (p1 : Int) (p2 : Int) (p3 : Int) (p4 : Int) (M : Mem) (Qm : Mem → Prop) : Prop := (0 ≤ (M 11 0 41) ∧ (M 11 0 41) < 60) ∧ ∀ M3 : Mem, M3 = up M 86 0 (M 11 0 41) p1 → (0 ≤ (M3 11 0 41) ∧ (M3 11 0 41) < 60) ∧ ∀ M7 : Mem, M7 = up M3 87 0 (M3 11 0 41) p2 → (0 ≤ (M7 11 0 41) ∧ (M7 11 0 41) < 60) ∧ ∀ M11 : Mem, M11 = up M7 88 0 (M7 11 0 41) p3 → (bit p4) ∧ (0 ≤ (M11 11 0 41) ∧ (M11 11 0 41) < 60) ∧ ∀ M16 : Mem, M16 = up M11 89 0 (M11 11 0 41) p4 → (inR ((M16 11 0 41) + 1)) ∧ ∀ M20 : Mem, M20 = up M16 11 0 41 ((M16 11 0 41) + 1) → Qm M20
set_option maxHeartbeats 4000000 in
set_option maxRecDepth 100000 in
theorem t_X10_flows {p1 : Int} {p2 : Int} {p3 : Int} {p4 : Int} (X : CX p m c cX10_flows 5 s args RX10 G B κ meth none) (hp1 : inR p1) (hp2 : inR p2) (hp3 : inR p3) (hp4 : inR p4) {M : Mem} {Qm : Mem → Prop} (hw : wp_X10_flows p1 p2 p3 p4 M Qm) (H : Heap) (locs : List Loc) (hR : Rp G e0 α κ B M H) (hS : va_S (fun q => B ≤ q) s.heap H locs) (ls : Array Slot) (hl : lv_has ls 5 [(0, .ref (α 11 0)), (1, .int (Int32.ofInt p1)), (2, .int (Int32.ofInt p2)), (3, .int (Int32.ofInt p3)), (4, .int (Int32.ofInt p4))]) : WV p l e 0 s m args below meth c G e0 α κ B Qm H locs 0 ls [] := by
  have hw : (0 ≤ (M 11 0 41) ∧ (M 11 0 41) < 60) ∧ ∀ M3 : Mem, M3 = up M 86 0 (M 11 0 41) p1 → (0 ≤ (M3 11 0 41) ∧ (M3 11 0 41) < 60) ∧ ∀ M7 : Mem, M7 = up M3 87 0 (M3 11 0 41) p2 → (0 ≤ (M7 11 0 41) ∧ (M7 11 0 41) < 60) ∧ ∀ M11 : Mem, M11 = up M7 88 0 (M7 11 0 41) p3 → (bit p4) ∧ (0 ≤ (M11 11 0 41) ∧ (M11 11 0 41) < 60) ∧ ∀ M16 : Mem, M16 = up M11 89 0 (M11 11 0 41) p4 → (inR ((M16 11 0 41) + 1)) ∧ ∀ M20 : Mem, M20 = up M16 11 0 41 ((M16 11 0 41) + 1) → Qm M20 := hw
  refine lv_aload_n X.1.1 X.1.2.1 dX10_flows_0 rfl (lv_at hl 0 rfl) ?_
  refine gt_11_37 X hR (okf X.2.2.1 rfl) kw_1566 dX10_flows_1 ?_
  refine lv_aload_n X.1.1 X.1.2.1 dX10_flows_4 rfl (lv_at hl 0 rfl) ?_
  refine gt_11_41 X hR (okf X.2.2.1 rfl) kw_1570 dX10_flows_5 ?_
  have r1 := hR.r 11 0 41
  refine lv_iload_n X.1.1 X.1.2.1 dX10_flows_8 rfl (lv_at hl 1 rfl) ?_
  have c2 := hw.1
  have hw := hw.2
  refine wa_86 X hR hS (okf X.2.2.1 rfl) c2 hp1 dX10_flows_9 (fun H locs hR hS => ?_)
  obtain ⟨M3, e4⟩ : ∃ z : Mem, z = up M 86 0 (M 11 0 41) p1 := ⟨_, rfl⟩
  rw [← e4] at hR
  have hw := hw M3 e4
  refine lv_aload_n X.1.1 X.1.2.1 dX10_flows_10 rfl (lv_at hl 0 rfl) ?_
  refine gt_11_38 X hR (okf X.2.2.1 rfl) kw_1567 dX10_flows_11 ?_
  refine lv_aload_n X.1.1 X.1.2.1 dX10_flows_14 rfl (lv_at hl 0 rfl) ?_
  refine gt_11_41 X hR (okf X.2.2.1 rfl) kw_1570 dX10_flows_15 ?_
  have r5 := hR.r 11 0 41
  refine lv_iload_n X.1.1 X.1.2.1 dX10_flows_18 rfl (lv_at hl 2 rfl) ?_
  have c6 := hw.1
  have hw := hw.2
  refine wa_87 X hR hS (okf X.2.2.1 rfl) c6 hp2 dX10_flows_19 (fun H locs hR hS => ?_)
  obtain ⟨M7, e8⟩ : ∃ z : Mem, z = up M3 87 0 (M3 11 0 41) p2 := ⟨_, rfl⟩
  rw [← e8] at hR
  have hw := hw M7 e8
  refine lv_aload_n X.1.1 X.1.2.1 dX10_flows_20 rfl (lv_at hl 0 rfl) ?_
  refine gt_11_39 X hR (okf X.2.2.1 rfl) kw_1568 dX10_flows_21 ?_
  refine lv_aload_n X.1.1 X.1.2.1 dX10_flows_24 rfl (lv_at hl 0 rfl) ?_
  refine gt_11_41 X hR (okf X.2.2.1 rfl) kw_1570 dX10_flows_25 ?_
  have r9 := hR.r 11 0 41
  refine lv_iload_n X.1.1 X.1.2.1 dX10_flows_28 rfl (lv_at hl 3 rfl) ?_
  have c10 := hw.1
  have hw := hw.2
  refine wa_88 X hR hS (okf X.2.2.1 rfl) c10 hp3 dX10_flows_29 (fun H locs hR hS => ?_)
  obtain ⟨M11, e12⟩ : ∃ z : Mem, z = up M7 88 0 (M7 11 0 41) p3 := ⟨_, rfl⟩
  rw [← e12] at hR
  have hw := hw M11 e12
  refine lv_aload_n X.1.1 X.1.2.1 dX10_flows_30 rfl (lv_at hl 0 rfl) ?_
  refine gt_11_40 X hR (okf X.2.2.1 rfl) kw_1569 dX10_flows_31 ?_
  refine lv_aload_n X.1.1 X.1.2.1 dX10_flows_34 rfl (lv_at hl 0 rfl) ?_
  refine gt_11_41 X hR (okf X.2.2.1 rfl) kw_1570 dX10_flows_35 ?_
  have r13 := hR.r 11 0 41
  refine lv_iload X.1.1 X.1.2.1 dX10_flows_38 (lv_at hl 4 rfl) ?_
  have c14 := hw.1
  have hw := hw.2
  have c15 := hw.1
  have hw := hw.2
  refine wa_89 X hR hS (okf X.2.2.1 rfl) c15 c14 dX10_flows_40 (fun H locs hR hS => ?_)
  obtain ⟨M16, e17⟩ : ∃ z : Mem, z = up M11 89 0 (M11 11 0 41) p4 := ⟨_, rfl⟩
  rw [← e17] at hR
  have hw := hw M16 e17
  refine lv_aload_n X.1.1 X.1.2.1 dX10_flows_41 rfl (lv_at hl 0 rfl) ?_
  refine lv_dup X.1.1 X.1.2.1 dX10_flows_42 rfl ?_
  refine gt_11_41 X hR (okf X.2.2.1 rfl) kw_1570 dX10_flows_43 ?_
  have r18 := hR.r 11 0 41
  refine sa_const X.1 dX10_flows_46 ?_
  have c19 := hw.1
  have hw := hw.2
  refine sa_iadd X.1 dX10_flows_47 ?_
  refine pt_11_41 X hR hS (okf X.2.2.1 rfl) c19 kw_1570 dX10_flows_48 (fun H locs hR hS => ?_)
  obtain ⟨M20, e21⟩ : ∃ z : Mem, z = up M16 11 0 41 ((M16 11 0 41) + 1) := ⟨_, rfl⟩
  rw [← e21] at hR
  have hw := hw M20 e21
  exact sa_vret X.1 X.2.2.2.1 X.2.2.2.2 hR hS hw dX10_flows_51
theorem m_X10_flows {l : Launch} {G : Gx} {e0 : Nat} {α : Ax} {κ : Nat → Int} {B : Nat} {p1 : Int} {p2 : Int} {p3 : Int} {p4 : Int} (hκ : kOK κ) (hp1 : inR p1) (hp2 : inR p2) (hp3 : inR p3) (hp4 : inR p4) {M : Mem} {Qm : Mem → Prop} (hw : wp_X10_flows p1 p2 p3 p4 M Qm) : CV l yX10_flows (Cond.code yX10_flows cX10_flows 5 none) 0 G e0 α κ B [.ref (α 11 0), .int (Int32.ofInt p1), .int (Int32.ofInt p2), .int (Int32.ofInt p3), .int (Int32.ofInt p4)] M Qm :=
  CV.mk hκ (by decide +kernel) rfl (Nat.le_of_ble_eq_true rfl) (lv := [(0, .ref (α 11 0)), (1, .int (Int32.ofInt p1)), (2, .int (Int32.ofInt p2)), (3, .int (Int32.ofInt p3)), (4, .int (Int32.ofInt p4))]) rfl (fun p e s m args below meth c ls X hR hS hl => t_X10_flows X hp1 hp2 hp3 hp4 hw _ _ hR hS ls hl)
theorem cs_X10_flows {cc : ByteArray} {nL : Nat} {own : String} {ret : Option FieldType} {idx pc : Nat} {p1 : Int} {p2 : Int} {p3 : Int} {p4 : Int} (X : CX p m c cc nL s args own G B κ meth ret) (hp1 : inR p1) (hp2 : inR p2) (hp3 : inR p3) (hp4 : inR p4) {kc : Nat} {R : Room} {cells slots : Nat} (hRr : RmOK R kc) (hcel : cells ≤ R.cells ∧ slots ≤ R.slots) (hk : 0 + 1 ≤ kc) {M : Mem} {H : Heap} {locs : List Loc} (hR : Rp G e0 α κ B M H) (hS : va_S (fun q => B ≤ q) s.heap H locs) (k1 : Cond.methodLink own idx yX10_flows ∈ gw) {ls : Array Slot} (hml : ls.size = nL) {rest : List Value} (hd : decode cc pc = .ok (.invokevirtual idx, 3)) (hrest : (rest.map fun v => v.category).sum ≤ 8) {Q : State → Prop} {Qm : Mem → Prop} (hw : wp_X10_flows p1 p2 p3 p4 M Qm) (kk : ∀ (M1 : Mem) (H1 : Heap) (locs1 : List Loc), Qm M1 → Rp G e0 α κ B M1 H1 → va_S (fun q => B ≤ q) s.heap H1 locs1 → W p l e R s m args below meth c H1 locs1 cells slots Q (F0 m (pc + 3) ls (rest))) : W p l e R s m args below meth c H locs cells slots Q (F0 m pc ls (.int (Int32.ofInt p4) :: .int (Int32.ofInt p3) :: .int (Int32.ofInt p2) :: .int (Int32.ofInt p1) :: .ref (α 11 0) :: rest)) :=
  sa_callVV 0 (n := 4) (As := [.int (Int32.ofInt p1), .int (Int32.ofInt p2), .int (Int32.ofInt p3), .int (Int32.ofInt p4)]) (rest := rest) X.1 X.2.1 hR hS (m_X10_flows X.2.2.1 hp1 hp2 hp3 hp4 hw) k1 kw_1991 kw_79 kw_104 kw_1992 ⟨rfl, by decide +kernel, by decide +kernel, by decide +kernel⟩ (rm_ok hRr hk (by decide)) (rc_11 X hR (okf X.2.2.1 rfl)) rfl rfl hrest hml hd hcel kk
def wp_X10_laysItems_238 (Qm : Mem → Prop) (M : Mem) : Prop := Qm M
def wp_X10_laysItems_217 (Qm : Mem → Prop) (y2 : Int) (M : Mem) : Prop := (((M 11 0 26) = 0 → wp_X10_laysItems_238 Qm M) ∧ (¬ (M 11 0 26) = 0 → ((y2 ≤ 0 → wp_X10_laysItems_238 Qm M) ∧ (0 < y2 → wp_X10_flows 201 y2 0 1 M fun (M8 : Mem) => wp_X10_laysItems_238 Qm M8))))
def wp_X10_laysItems_197 (Qm : Mem → Prop) (K14 : Int → Int → Int → Mem → Prop) (y1 : Int) (y2 : Int) (y3 : Int) (M : Mem) : Prop := (inR (y3 + 1)) ∧ K14 y1 y2 (y3 + 1) M
def wp_X10_laysItems_74 (Qm : Mem → Prop) (K14 : Int → Int → Int → Mem → Prop) (K41 : Int → Int → Int → Int → Int → Int → Mem → Prop) (y1 : Int) (y2 : Int) (y3 : Int) (y4 : Int) (y6 : Int) (z0 : Int) (z1 : Int) (M : Mem) : Prop := (inR (z1 + z0)) ∧ (inR (y6 + 1)) ∧ K41 y1 y2 y3 y4 (z1 + z0) (y6 + 1) M
def wp_X10_laysItems_41 (Qm : Mem → Prop) (K14 : Int → Int → Int → Mem → Prop) : Nat → Int → Int → Int → Int → Int → Int → Mem → Prop
  | 0 => fun _ _ _ _ _ _ _ => False
  | n + 1 => fun y1 y2 y3 y4 y5 y6 M => (((M 11 0 15) ≤ y6 → (inR (y2 + y5)) ∧ (0 ≤ y4 ∧ y4 < 29) ∧ (0 ≤ y4 ∧ y4 < 29) ∧ wp_X10_flows y4 (M 85 0 y4) (if (M 11 0 26) = 0 then y5 else 0) (M 62 0 y4) M fun (M23 : Mem) => (inR (y3 + 1)) ∧ (¬ (y3 + 1) = (M23 64 0 1) → (inR (24 + y3)) ∧ (inR ((24 + y3) + 1)) ∧ (0 ≤ ((24 + y3) + 1) ∧ ((24 + y3) + 1) < 72) ∧ (0 ≤ (M23 63 0 ((24 + y3) + 1)) ∧ (M23 63 0 ((24 + y3) + 1)) < 29) ∧ (0 ≤ y4 ∧ y4 < 29) ∧ True) ∧ ((y1 = 0 → wp_X10_laysItems_197 Qm K14 y1 (y2 + y5) y3 M23) ∧ (¬ y1 = 0 → (((if (y3 + 1) = (M23 64 0 1) then (1 : Int) else (if (M23 61 0 (M23 63 0 ((24 + y3) + 1))) = (M23 61 0 y4) then (0 : Int) else 1)) = 0 → wp_X10_laysItems_197 Qm K14 y1 (y2 + y5) y3 M23) ∧ (¬ (if (y3 + 1) = (M23 64 0 1) then (1 : Int) else (if (M23 61 0 (M23 63 0 ((24 + y3) + 1))) = (M23 61 0 y4) then (0 : Int) else 1)) = 0 → (0 ≤ y4 ∧ y4 < 29) ∧ (((M23 61 0 y4) = 0 → wp_X10_laysItems_197 Qm K14 y1 (y2 + y5) y3 M23) ∧ (¬ (M23 61 0 y4) = 0 → (inR (100 + y4)) ∧ wp_X10_flows (100 + y4) 1 0 0 M23 fun (M41 : Mem) => wp_X10_laysItems_197 Qm K14 y1 (y2 + y5) y3 M41))))))) ∧ (y6 < (M 11 0 15) → (0 ≤ y6 ∧ y6 < 100) ∧ ((¬ (M 65 0 y6) = y4 → wp_X10_laysItems_74 Qm K14 (wp_X10_laysItems_41 Qm K14 n) y1 y2 y3 y4 y6 0 y5 M) ∧ ((M 65 0 y6) = y4 → wp_X10_noteOf y6 M fun (x47 : Int) (M46 : Mem) => wp_X10_laysItems_74 Qm K14 (wp_X10_laysItems_41 Qm K14 n) y1 y2 y3 y4 y6 x47 y5 M46))))
def wp_X10_laysItems_14 (Qm : Mem → Prop) : Nat → Int → Int → Int → Mem → Prop
  | 0 => fun _ _ _ _ => False
  | n + 1 => fun y1 y2 y3 M => (((M 64 0 1) ≤ y3 → ((y1 = 0 → wp_X10_laysItems_217 Qm y2 M) ∧ (¬ y1 = 0 → wp_X10_flows 200 1 0 0 M fun (M9 : Mem) => wp_X10_laysItems_217 Qm y2 M9))) ∧ (y3 < (M 64 0 1) → (inR (24 + y3)) ∧ (0 ≤ (24 + y3) ∧ (24 + y3) < 72) ∧ (∃ n49 : Nat, wp_X10_laysItems_41 Qm (wp_X10_laysItems_14 Qm n) n49 y1 y2 y3 (M 63 0 (24 + y3)) 0 0 M)))
def wp_X10_laysItems (M : Mem) (Qm : Mem → Prop) : Prop := wp_X10_isAnyTotalled M fun (x2 : Int) (M1 : Mem) => ∀ M4 : Mem, M4 = up M1 11 0 41 0 → (∃ n50 : Nat, wp_X10_laysItems_14 Qm n50 x2 0 0 M4)
set_option maxHeartbeats 4000000 in
set_option maxRecDepth 100000 in
theorem t_X10_laysItems_238 (X : CX p m c cX10_laysItems 7 s args RX10 G B κ meth none) {Qm : Mem → Prop} : ∀ M : Mem, wp_X10_laysItems_238 Qm M → ∀ (H : Heap) (locs : List Loc), Rp G e0 α κ B M H → va_S (fun q => B ≤ q) s.heap H locs → ∀ (ls : Array Slot), lv_has ls 7 [] → WV p l e 2 s m args below meth c G e0 α κ B Qm H locs 238 ls [] := by
  intro M hw H locs hR hS ls hl
  have hw : Qm M := hw
  exact sa_vret X.1 X.2.2.2.1 X.2.2.2.2 hR hS hw dX10_laysItems_238
set_option maxHeartbeats 4000000 in
set_option maxRecDepth 100000 in
theorem t_X10_laysItems_217 (X : CX p m c cX10_laysItems 7 s args RX10 G B κ meth none) {Qm : Mem → Prop} : ∀ y2 : Int, ∀ M : Mem, wp_X10_laysItems_217 Qm y2 M → inR y2 → ∀ (H : Heap) (locs : List Loc), Rp G e0 α κ B M H → va_S (fun q => B ≤ q) s.heap H locs → ∀ (ls : Array Slot), lv_has ls 7 [(0, .ref (α 11 0)), (2, .int (Int32.ofInt y2))] → WV p l e 2 s m args below meth c G e0 α κ B Qm H locs 217 ls [] := by
  intro y2 M hw hy2 H locs hR hS ls hl
  have hw : (((M 11 0 26) = 0 → wp_X10_laysItems_238 Qm M) ∧ (¬ (M 11 0 26) = 0 → ((y2 ≤ 0 → wp_X10_laysItems_238 Qm M) ∧ (0 < y2 → wp_X10_flows 201 y2 0 1 M fun (M8 : Mem) => wp_X10_laysItems_238 Qm M8)))) := hw
  refine lv_aload_n X.1.1 X.1.2.1 dX10_laysItems_217 rfl (lv_at hl 0 rfl) ?_
  refine gt_11_26 X hR (okf X.2.2.1 rfl) kw_1555 dX10_laysItems_218 ?_
  have r7 := hR.r 11 0 26
  refine sa_if_eq (tgt := 238) X.1 r7 dX10_laysItems_221 (by decide) (fun hc => ?_) (fun hc => ?_)
  · have hw := hw.1 hc
    exact t_X10_laysItems_238 X _ hw _ _ hR hS _ (lv_sub hl [] rfl)
  · have hw := hw.2 hc
    refine lv_iload_n X.1.1 X.1.2.1 dX10_laysItems_224 rfl (lv_at hl 1 rfl) ?_
    refine sa_if_le (tgt := 238) X.1 hy2 dX10_laysItems_225 (by decide) (fun hc => ?_) (fun hc => ?_)
    · have hw := hw.1 hc
      exact t_X10_laysItems_238 X _ hw _ _ hR hS _ (lv_sub hl [] rfl)
    · have hw := hw.2 hc
      refine lv_aload_n X.1.1 X.1.2.1 dX10_laysItems_228 rfl (lv_at hl 0 rfl) ?_
      refine sa_sipush X.1 dX10_laysItems_229 (by decide) ?_
      refine lv_iload_n X.1.1 X.1.2.1 dX10_laysItems_232 rfl (lv_at hl 1 rfl) ?_
      refine sa_const X.1 dX10_laysItems_233 ?_
      refine sa_const X.1 dX10_laysItems_234 ?_
      refine cs_X10_flows X (inR_c (a := 201) rfl) hy2 (inR_c (a := 0) rfl) (inR_c (a := 1) rfl) (kc := 2) rmL_ok rm_c (by decide) hR hS kw_1989 hl.1 dX10_laysItems_235 (Nat.le_of_ble_eq_true rfl) hw (fun M8 H locs hw hR hS => ?_)
      exact t_X10_laysItems_238 X _ hw _ _ hR hS _ (lv_sub hl [] rfl)
set_option maxHeartbeats 4000000 in
set_option maxRecDepth 100000 in
theorem t_X10_laysItems_197 (X : CX p m c cX10_laysItems 7 s args RX10 G B κ meth none) {Qm : Mem → Prop} {K14 : Int → Int → Int → Mem → Prop} (hK14 : ∀ y1 : Int, ∀ y2 : Int, ∀ y3 : Int, ∀ M : Mem, K14 y1 y2 y3 M → inR y1 → inR y2 → inR y3 → ∀ (H : Heap) (locs : List Loc), Rp G e0 α κ B M H → va_S (fun q => B ≤ q) s.heap H locs → ∀ (ls : Array Slot), lv_has ls 7 [(0, .ref (α 11 0)), (1, .int (Int32.ofInt y1)), (2, .int (Int32.ofInt y2)), (3, .int (Int32.ofInt y3))] → WV p l e 2 s m args below meth c G e0 α κ B Qm H locs 14 ls []) : ∀ y1 : Int, ∀ y2 : Int, ∀ y3 : Int, ∀ M : Mem, wp_X10_laysItems_197 Qm K14 y1 y2 y3 M → inR y1 → inR y2 → inR y3 → ∀ (H : Heap) (locs : List Loc), Rp G e0 α κ B M H → va_S (fun q => B ≤ q) s.heap H locs → ∀ (ls : Array Slot), lv_has ls 7 [(0, .ref (α 11 0)), (1, .int (Int32.ofInt y1)), (2, .int (Int32.ofInt y2)), (3, .int (Int32.ofInt y3))] → WV p l e 2 s m args below meth c G e0 α κ B Qm H locs 197 ls [] := by
  intro y1 y2 y3 M hw hy1 hy2 hy3 H locs hR hS ls hl
  have hw : (inR (y3 + 1)) ∧ K14 y1 y2 (y3 + 1) M := hw
  have c37 := hw.1
  have hw := hw.2
  refine lv_iinc (v := Int32.ofInt (y3 + 1)) (lv' := [(3, .int (Int32.ofInt (y3 + 1))), (0, .ref (α 11 0)), (1, .int (Int32.ofInt y1)), (2, .int (Int32.ofInt y2))]) X.1.1 X.1.2.1 dX10_laysItems_197 hl (k := 3) rfl (Int32.ofInt_add _ _).symm (by decide) rfl (fun ls hl => ?_)
  refine lv_goto (tgt := 14) X.1.1 X.1.2.1 dX10_laysItems_200 (by decide) ?_
  exact hK14 _ _ _ _ hw hy1 hy2 c37 _ _ hR hS _ (lv_sub hl [1, 2, 3, 0] rfl)
set_option maxHeartbeats 4000000 in
set_option maxRecDepth 100000 in
theorem t_X10_laysItems_74 (X : CX p m c cX10_laysItems 7 s args RX10 G B κ meth none) {Qm : Mem → Prop} {K14 : Int → Int → Int → Mem → Prop} {K41 : Int → Int → Int → Int → Int → Int → Mem → Prop} (hK14 : ∀ y1 : Int, ∀ y2 : Int, ∀ y3 : Int, ∀ M : Mem, K14 y1 y2 y3 M → inR y1 → inR y2 → inR y3 → ∀ (H : Heap) (locs : List Loc), Rp G e0 α κ B M H → va_S (fun q => B ≤ q) s.heap H locs → ∀ (ls : Array Slot), lv_has ls 7 [(0, .ref (α 11 0)), (1, .int (Int32.ofInt y1)), (2, .int (Int32.ofInt y2)), (3, .int (Int32.ofInt y3))] → WV p l e 2 s m args below meth c G e0 α κ B Qm H locs 14 ls []) (hK41 : ∀ y1 : Int, ∀ y2 : Int, ∀ y3 : Int, ∀ y4 : Int, ∀ y5 : Int, ∀ y6 : Int, ∀ M : Mem, K41 y1 y2 y3 y4 y5 y6 M → inR y1 → inR y2 → inR y3 → inR y4 → inR y5 → inR y6 → ∀ (H : Heap) (locs : List Loc), Rp G e0 α κ B M H → va_S (fun q => B ≤ q) s.heap H locs → ∀ (ls : Array Slot), lv_has ls 7 [(0, .ref (α 11 0)), (1, .int (Int32.ofInt y1)), (2, .int (Int32.ofInt y2)), (3, .int (Int32.ofInt y3)), (4, .int (Int32.ofInt y4)), (5, .int (Int32.ofInt y5)), (6, .int (Int32.ofInt y6))] → WV p l e 2 s m args below meth c G e0 α κ B Qm H locs 41 ls []) : ∀ y1 : Int, ∀ y2 : Int, ∀ y3 : Int, ∀ y4 : Int, ∀ y6 : Int, ∀ z0 : Int, ∀ z1 : Int, ∀ M : Mem, wp_X10_laysItems_74 Qm K14 K41 y1 y2 y3 y4 y6 z0 z1 M → inR y1 → inR y2 → inR y3 → inR y4 → inR y6 → inR z0 → inR z1 → ∀ (H : Heap) (locs : List Loc), Rp G e0 α κ B M H → va_S (fun q => B ≤ q) s.heap H locs → ∀ (ls : Array Slot), lv_has ls 7 [(0, .ref (α 11 0)), (1, .int (Int32.ofInt y1)), (2, .int (Int32.ofInt y2)), (3, .int (Int32.ofInt y3)), (4, .int (Int32.ofInt y4)), (6, .int (Int32.ofInt y6))] → WV p l e 2 s m args below meth c G e0 α κ B Qm H locs 74 ls [.int (Int32.ofInt z0), .int (Int32.ofInt z1)] := by
  intro y1 y2 y3 y4 y6 z0 z1 M hw hy1 hy2 hy3 hy4 hy6 hz0 hz1 H locs hR hS ls hl
  have hw : (inR (z1 + z0)) ∧ (inR (y6 + 1)) ∧ K41 y1 y2 y3 y4 (z1 + z0) (y6 + 1) M := hw
  have c44 := hw.1
  have hw := hw.2
  refine sa_iadd X.1 dX10_laysItems_74 ?_
  refine lv_istore (lv' := [(5, .int (Int32.ofInt (z1 + z0))), (0, .ref (α 11 0)), (1, .int (Int32.ofInt y1)), (2, .int (Int32.ofInt y2)), (3, .int (Int32.ofInt y3)), (4, .int (Int32.ofInt y4)), (6, .int (Int32.ofInt y6))]) X.1.1 X.1.2.1 dX10_laysItems_75 hl (by decide) rfl (fun ls hl => ?_)
  have c45 := hw.1
  have hw := hw.2
  refine lv_iinc (v := Int32.ofInt (y6 + 1)) (lv' := [(6, .int (Int32.ofInt (y6 + 1))), (5, .int (Int32.ofInt (z1 + z0))), (0, .ref (α 11 0)), (1, .int (Int32.ofInt y1)), (2, .int (Int32.ofInt y2)), (3, .int (Int32.ofInt y3)), (4, .int (Int32.ofInt y4))]) X.1.1 X.1.2.1 dX10_laysItems_77 hl (k := 6) rfl (Int32.ofInt_add _ _).symm (by decide) rfl (fun ls hl => ?_)
  refine lv_goto (tgt := 41) X.1.1 X.1.2.1 dX10_laysItems_80 (by decide) ?_
  exact hK41 _ _ _ _ _ _ _ hw hy1 hy2 hy3 hy4 c44 c45 _ _ hR hS _ (lv_sub hl [2, 3, 4, 5, 6, 1, 0] rfl)
set_option maxHeartbeats 4000000 in
set_option maxRecDepth 100000 in
theorem t_X10_laysItems_41 (X : CX p m c cX10_laysItems 7 s args RX10 G B κ meth none) {Qm : Mem → Prop} {K14 : Int → Int → Int → Mem → Prop} (hK14 : ∀ y1 : Int, ∀ y2 : Int, ∀ y3 : Int, ∀ M : Mem, K14 y1 y2 y3 M → inR y1 → inR y2 → inR y3 → ∀ (H : Heap) (locs : List Loc), Rp G e0 α κ B M H → va_S (fun q => B ≤ q) s.heap H locs → ∀ (ls : Array Slot), lv_has ls 7 [(0, .ref (α 11 0)), (1, .int (Int32.ofInt y1)), (2, .int (Int32.ofInt y2)), (3, .int (Int32.ofInt y3))] → WV p l e 2 s m args below meth c G e0 α κ B Qm H locs 14 ls []) : ∀ n : Nat, ∀ y1 : Int, ∀ y2 : Int, ∀ y3 : Int, ∀ y4 : Int, ∀ y5 : Int, ∀ y6 : Int, ∀ M : Mem, wp_X10_laysItems_41 Qm K14 n y1 y2 y3 y4 y5 y6 M → inR y1 → inR y2 → inR y3 → inR y4 → inR y5 → inR y6 → ∀ (H : Heap) (locs : List Loc), Rp G e0 α κ B M H → va_S (fun q => B ≤ q) s.heap H locs → ∀ (ls : Array Slot), lv_has ls 7 [(0, .ref (α 11 0)), (1, .int (Int32.ofInt y1)), (2, .int (Int32.ofInt y2)), (3, .int (Int32.ofInt y3)), (4, .int (Int32.ofInt y4)), (5, .int (Int32.ofInt y5)), (6, .int (Int32.ofInt y6))] → WV p l e 2 s m args below meth c G e0 α κ B Qm H locs 41 ls [] := by
  intro n
  induction n with
  | zero =>
    intro y1 y2 y3 y4 y5 y6 M hw hy1 hy2 hy3 hy4 hy5 hy6 H locs hR hS ls hl
    exact hw.elim
  | succ n ih =>
    intro y1 y2 y3 y4 y5 y6 M hw hy1 hy2 hy3 hy4 hy5 hy6 H locs hR hS ls hl
    have hw : (((M 11 0 15) ≤ y6 → (inR (y2 + y5)) ∧ (0 ≤ y4 ∧ y4 < 29) ∧ (0 ≤ y4 ∧ y4 < 29) ∧ wp_X10_flows y4 (M 85 0 y4) (if (M 11 0 26) = 0 then y5 else 0) (M 62 0 y4) M fun (M23 : Mem) => (inR (y3 + 1)) ∧ (¬ (y3 + 1) = (M23 64 0 1) → (inR (24 + y3)) ∧ (inR ((24 + y3) + 1)) ∧ (0 ≤ ((24 + y3) + 1) ∧ ((24 + y3) + 1) < 72) ∧ (0 ≤ (M23 63 0 ((24 + y3) + 1)) ∧ (M23 63 0 ((24 + y3) + 1)) < 29) ∧ (0 ≤ y4 ∧ y4 < 29) ∧ True) ∧ ((y1 = 0 → wp_X10_laysItems_197 Qm K14 y1 (y2 + y5) y3 M23) ∧ (¬ y1 = 0 → (((if (y3 + 1) = (M23 64 0 1) then (1 : Int) else (if (M23 61 0 (M23 63 0 ((24 + y3) + 1))) = (M23 61 0 y4) then (0 : Int) else 1)) = 0 → wp_X10_laysItems_197 Qm K14 y1 (y2 + y5) y3 M23) ∧ (¬ (if (y3 + 1) = (M23 64 0 1) then (1 : Int) else (if (M23 61 0 (M23 63 0 ((24 + y3) + 1))) = (M23 61 0 y4) then (0 : Int) else 1)) = 0 → (0 ≤ y4 ∧ y4 < 29) ∧ (((M23 61 0 y4) = 0 → wp_X10_laysItems_197 Qm K14 y1 (y2 + y5) y3 M23) ∧ (¬ (M23 61 0 y4) = 0 → (inR (100 + y4)) ∧ wp_X10_flows (100 + y4) 1 0 0 M23 fun (M41 : Mem) => wp_X10_laysItems_197 Qm K14 y1 (y2 + y5) y3 M41))))))) ∧ (y6 < (M 11 0 15) → (0 ≤ y6 ∧ y6 < 100) ∧ ((¬ (M 65 0 y6) = y4 → wp_X10_laysItems_74 Qm K14 (wp_X10_laysItems_41 Qm K14 n) y1 y2 y3 y4 y6 0 y5 M) ∧ ((M 65 0 y6) = y4 → wp_X10_noteOf y6 M fun (x47 : Int) (M46 : Mem) => wp_X10_laysItems_74 Qm K14 (wp_X10_laysItems_41 Qm K14 n) y1 y2 y3 y4 y6 x47 y5 M46)))) := hw
    refine lv_iload X.1.1 X.1.2.1 dX10_laysItems_41 (lv_at hl 6 rfl) ?_
    refine lv_aload_n X.1.1 X.1.2.1 dX10_laysItems_43 rfl (lv_at hl 0 rfl) ?_
    refine gt_11_15 X hR (okf X.2.2.1 rfl) kw_1544 dX10_laysItems_44 ?_
    have r13 := hR.r 11 0 15
    refine sa_icmp_ge (tgt := 83) X.1 hy6 r13 dX10_laysItems_47 (by decide) (fun hc => ?_) (fun hc => ?_)
    · have hw := hw.1 hc
      refine lv_iload_n X.1.1 X.1.2.1 dX10_laysItems_83 rfl (lv_at hl 2 rfl) ?_
      refine lv_iload X.1.1 X.1.2.1 dX10_laysItems_84 (lv_at hl 5 rfl) ?_
      have c14 := hw.1
      have hw := hw.2
      refine sa_iadd X.1 dX10_laysItems_86 ?_
      refine lv_istore_n (lv' := [(2, .int (Int32.ofInt (y2 + y5))), (0, .ref (α 11 0)), (1, .int (Int32.ofInt y1)), (3, .int (Int32.ofInt y3)), (4, .int (Int32.ofInt y4)), (5, .int (Int32.ofInt y5)), (6, .int (Int32.ofInt y6))]) X.1.1 X.1.2.1 dX10_laysItems_87 rfl hl (by decide) rfl (fun ls hl => ?_)
      refine lv_aload_n X.1.1 X.1.2.1 dX10_laysItems_88 rfl (lv_at hl 1 rfl) ?_
      refine lv_iload X.1.1 X.1.2.1 dX10_laysItems_89 (lv_at hl 4 rfl) ?_
      refine lv_aload_n X.1.1 X.1.2.1 dX10_laysItems_91 rfl (lv_at hl 1 rfl) ?_
      refine gt_11_36 X hR (okf X.2.2.1 rfl) kw_1565 dX10_laysItems_92 ?_
      refine lv_iload X.1.1 X.1.2.1 dX10_laysItems_95 (lv_at hl 4 rfl) ?_
      have c15 := hw.1
      have hw := hw.2
      refine ra_85 X hR (okf X.2.2.1 rfl) c15 dX10_laysItems_97 ?_
      have r16 := hR.r 85 0 y4
      refine lv_aload_n X.1.1 X.1.2.1 dX10_laysItems_98 rfl (lv_at hl 1 rfl) ?_
      refine gt_11_26 X hR (okf X.2.2.1 rfl) kw_1555 dX10_laysItems_99 ?_
      have r17 := hR.r 11 0 26
      have r18 := inR_ite (c := (M 11 0 26) = 0) hy5 (inR_c (a := 0) rfl)
      refine cut_j (A := ∀ v19 : Int, v19 = (if (M 11 0 26) = 0 then y5 else 0) → WV p l e 2 s m args below meth c G e0 α κ B Qm H locs 111 ls [.int (Int32.ofInt v19), .int (Int32.ofInt (M 85 0 y4)), .int (Int32.ofInt y4), .ref (α 11 0)]) (fun J20 => ?_) ?_
      · refine sa_if_eq (tgt := 109) X.1 r17 dX10_laysItems_102 (by decide) (fun hc => ?_) (fun hc => ?_)
        · skip
          refine lv_iload X.1.1 X.1.2.1 dX10_laysItems_109 (lv_at hl 5 rfl) ?_
          exact J20 (y5) (if_pos (c := (M 11 0 26) = 0) hc).symm
        · skip
          refine sa_const X.1 dX10_laysItems_105 ?_
          refine lv_goto (tgt := 111) X.1.1 X.1.2.1 dX10_laysItems_106 (by decide) ?_
          exact J20 (0) (if_neg (c := (M 11 0 26) = 0) hc).symm
      intro v19 hv19
      subst hv19
      refine lv_aload_n X.1.1 X.1.2.1 dX10_laysItems_111 rfl (lv_at hl 1 rfl) ?_
      refine gt_11_7 X hR (okf X.2.2.1 rfl) kw_1536 dX10_laysItems_112 ?_
      refine lv_iload X.1.1 X.1.2.1 dX10_laysItems_115 (lv_at hl 4 rfl) ?_
      have c21 := hw.1
      have hw := hw.2
      refine ra_62 X hR (okf X.2.2.1 rfl) c21 dX10_laysItems_117 ?_
      have r22 := hR.r 62 0 y4
      refine cs_X10_flows X hy4 r16 r18 r22 (kc := 2) rmL_ok rm_c (by decide) hR hS kw_1989 hl.1 dX10_laysItems_118 (Nat.le_of_ble_eq_true rfl) hw (fun M23 H locs hw hR hS => ?_)
      refine lv_iload_n X.1.1 X.1.2.1 dX10_laysItems_121 rfl (lv_at hl 3 rfl) ?_
      refine sa_const X.1 dX10_laysItems_122 ?_
      have c24 := hw.1
      have hw := hw.2
      refine sa_iadd X.1 dX10_laysItems_123 ?_
      refine lv_aload_n X.1.1 X.1.2.1 dX10_laysItems_124 rfl (lv_at hl 1 rfl) ?_
      refine gt_11_10 X hR (okf X.2.2.1 rfl) kw_1539 dX10_laysItems_125 ?_
      refine sa_const X.1 dX10_laysItems_128 ?_
      refine ra_64 X hR (okf X.2.2.1 rfl) ⟨by decide, by decide⟩ dX10_laysItems_129 ?_
      have r25 := hR.r 64 0 1
      have s33 := hw.1
      have hw := hw.2
      have r34 := inR_ite (c := (y3 + 1) = (M23 64 0 1)) (inR_c (a := 1) rfl) (inR_ite (c := (M23 61 0 (M23 63 0 ((24 + y3) + 1))) = (M23 61 0 y4)) (inR_c (a := 0) rfl) (inR_c (a := 1) rfl))
      refine cut_j (A := ∀ v35 : Int, v35 = (if (y3 + 1) = (M23 64 0 1) then (1 : Int) else (if (M23 61 0 (M23 63 0 ((24 + y3) + 1))) = (M23 61 0 y4) then (0 : Int) else 1)) → WV p l e 2 s m args below meth c G e0 α κ B Qm H locs 164 ls [.int (Int32.ofInt v35)]) (fun J36 => ?_) ?_
      · refine sa_icmp_eq (tgt := 159) X.1 c24 r25 dX10_laysItems_130 (by decide) (fun hc => ?_) (fun hc => ?_)
        · skip
          refine sa_const X.1 dX10_laysItems_159 ?_
          refine lv_goto (tgt := 164) X.1.1 X.1.2.1 dX10_laysItems_160 (by decide) ?_
          exact J36 (1) (if_pos (c := (y3 + 1) = (M23 64 0 1)) hc).symm
        · have hw := s33 hc
          refine lv_aload_n X.1.1 X.1.2.1 dX10_laysItems_133 rfl (lv_at hl 1 rfl) ?_
          refine gt_11_6 X hR (okf X.2.2.1 rfl) kw_1535 dX10_laysItems_134 ?_
          refine lv_aload_n X.1.1 X.1.2.1 dX10_laysItems_137 rfl (lv_at hl 1 rfl) ?_
          refine gt_11_9 X hR (okf X.2.2.1 rfl) kw_1538 dX10_laysItems_138 ?_
          refine sa_bipush X.1 dX10_laysItems_141 (by decide) ?_
          refine lv_iload_n X.1.1 X.1.2.1 dX10_laysItems_143 rfl (lv_at hl 3 rfl) ?_
          have c26 := hw.1
          have hw := hw.2
          refine sa_iadd X.1 dX10_laysItems_144 ?_
          refine sa_const X.1 dX10_laysItems_145 ?_
          have c27 := hw.1
          have hw := hw.2
          refine sa_iadd X.1 dX10_laysItems_146 ?_
          have c28 := hw.1
          have hw := hw.2
          refine ra_63 X hR (okf X.2.2.1 rfl) c28 dX10_laysItems_147 ?_
          have c29 := hw.1
          have hw := hw.2
          refine ra_61 X hR (okf X.2.2.1 rfl) c29 dX10_laysItems_148 ?_
          refine lv_aload_n X.1.1 X.1.2.1 dX10_laysItems_149 rfl (lv_at hl 1 rfl) ?_
          refine gt_11_6 X hR (okf X.2.2.1 rfl) kw_1535 dX10_laysItems_150 ?_
          refine lv_iload X.1.1 X.1.2.1 dX10_laysItems_153 (lv_at hl 4 rfl) ?_
          have c30 := hw.1
          have hw := hw.2
          refine ra_61 X hR (okf X.2.2.1 rfl) c30 dX10_laysItems_155 ?_
          refine cut_j (A := ∀ v31 : Int, v31 = (if (M23 61 0 (M23 63 0 ((24 + y3) + 1))) = (M23 61 0 y4) then (0 : Int) else 1) → WV p l e 2 s m args below meth c G e0 α κ B Qm H locs 164 ls [.int (Int32.ofInt v31)]) (fun J32 => ?_) ?_
          · refine sa_icmp_eq (tgt := 163) X.1 (hR.r 61 0 (M23 63 0 ((24 + y3) + 1))) (hR.r 61 0 y4) dX10_laysItems_156 (by decide) (fun hc => ?_) (fun hc => ?_)
            · skip
              refine sa_const X.1 dX10_laysItems_163 ?_
              exact J32 (0) (if_pos (c := (M23 61 0 (M23 63 0 ((24 + y3) + 1))) = (M23 61 0 y4)) hc).symm
            · skip
              refine sa_const X.1 dX10_laysItems_159 ?_
              refine lv_goto (tgt := 164) X.1.1 X.1.2.1 dX10_laysItems_160 (by decide) ?_
              exact J32 (1) (if_neg (c := (M23 61 0 (M23 63 0 ((24 + y3) + 1))) = (M23 61 0 y4)) hc).symm
          intro v31 hv31
          subst hv31
          exact J36 ((if (M23 61 0 (M23 63 0 ((24 + y3) + 1))) = (M23 61 0 y4) then (0 : Int) else 1)) (if_neg (c := (y3 + 1) = (M23 64 0 1)) hc).symm
      intro v35 hv35
      subst hv35
      refine lv_istore (lv' := [(6, .int (Int32.ofInt (if (y3 + 1) = (M23 64 0 1) then (1 : Int) else (if (M23 61 0 (M23 63 0 ((24 + y3) + 1))) = (M23 61 0 y4) then (0 : Int) else 1)))), (2, .int (Int32.ofInt (y2 + y5))), (0, .ref (α 11 0)), (1, .int (Int32.ofInt y1)), (3, .int (Int32.ofInt y3)), (4, .int (Int32.ofInt y4)), (5, .int (Int32.ofInt y5))]) X.1.1 X.1.2.1 dX10_laysItems_164 hl (by decide) rfl (fun ls hl => ?_)
      refine lv_iload_n X.1.1 X.1.2.1 dX10_laysItems_166 rfl (lv_at hl 3 rfl) ?_
      refine sa_if_eq (tgt := 197) X.1 hy1 dX10_laysItems_167 (by decide) (fun hc => ?_) (fun hc => ?_)
      · have hw := hw.1 hc
        exact t_X10_laysItems_197 X hK14 _ _ _ _ hw hy1 c14 hy3 _ _ hR hS _ (lv_sub hl [2, 3, 1, 4] rfl)
      · have hw := hw.2 hc
        refine lv_iload X.1.1 X.1.2.1 dX10_laysItems_170 (lv_at hl 0 rfl) ?_
        refine sa_if_eq (tgt := 197) X.1 r34 dX10_laysItems_172 (by decide) (fun hc => ?_) (fun hc => ?_)
        · have hw := hw.1 hc
          exact t_X10_laysItems_197 X hK14 _ _ _ _ hw hy1 c14 hy3 _ _ hR hS _ (lv_sub hl [2, 3, 1, 4] rfl)
        · have hw := hw.2 hc
          refine lv_aload_n X.1.1 X.1.2.1 dX10_laysItems_175 rfl (lv_at hl 2 rfl) ?_
          refine gt_11_6 X hR (okf X.2.2.1 rfl) kw_1535 dX10_laysItems_176 ?_
          refine lv_iload X.1.1 X.1.2.1 dX10_laysItems_179 (lv_at hl 5 rfl) ?_
          have c38 := hw.1
          have hw := hw.2
          refine ra_61 X hR (okf X.2.2.1 rfl) c38 dX10_laysItems_181 ?_
          have r39 := hR.r 61 0 y4
          refine sa_if_eq (tgt := 197) X.1 r39 dX10_laysItems_182 (by decide) (fun hc => ?_) (fun hc => ?_)
          · have hw := hw.1 hc
            exact t_X10_laysItems_197 X hK14 _ _ _ _ hw hy1 c14 hy3 _ _ hR hS _ (lv_sub hl [2, 3, 1, 4] rfl)
          · have hw := hw.2 hc
            refine lv_aload_n X.1.1 X.1.2.1 dX10_laysItems_185 rfl (lv_at hl 2 rfl) ?_
            refine sa_bipush X.1 dX10_laysItems_186 (by decide) ?_
            refine lv_iload X.1.1 X.1.2.1 dX10_laysItems_188 (lv_at hl 5 rfl) ?_
            have c40 := hw.1
            have hw := hw.2
            refine sa_iadd X.1 dX10_laysItems_190 ?_
            refine sa_const X.1 dX10_laysItems_191 ?_
            refine sa_const X.1 dX10_laysItems_192 ?_
            refine sa_const X.1 dX10_laysItems_193 ?_
            refine cs_X10_flows X c40 (inR_c (a := 1) rfl) (inR_c (a := 0) rfl) (inR_c (a := 0) rfl) (kc := 2) rmL_ok rm_c (by decide) hR hS kw_1989 hl.1 dX10_laysItems_194 (Nat.le_of_ble_eq_true rfl) hw (fun M41 H locs hw hR hS => ?_)
            exact t_X10_laysItems_197 X hK14 _ _ _ _ hw hy1 c14 hy3 _ _ hR hS _ (lv_sub hl [2, 3, 1, 4] rfl)
    · have hw := hw.2 hc
      refine lv_iload X.1.1 X.1.2.1 dX10_laysItems_50 (lv_at hl 5 rfl) ?_
      refine lv_aload_n X.1.1 X.1.2.1 dX10_laysItems_52 rfl (lv_at hl 0 rfl) ?_
      refine gt_11_11 X hR (okf X.2.2.1 rfl) kw_1540 dX10_laysItems_53 ?_
      refine lv_iload X.1.1 X.1.2.1 dX10_laysItems_56 (lv_at hl 6 rfl) ?_
      have c42 := hw.1
      have hw := hw.2
      refine ra_65 X hR (okf X.2.2.1 rfl) c42 dX10_laysItems_58 ?_
      have r43 := hR.r 65 0 y6
      refine lv_iload X.1.1 X.1.2.1 dX10_laysItems_59 (lv_at hl 4 rfl) ?_
      refine sa_icmp_ne (tgt := 73) X.1 r43 hy4 dX10_laysItems_61 (by decide) (fun hc => ?_) (fun hc => ?_)
      · have hw := hw.1 hc
        refine sa_const X.1 dX10_laysItems_73 ?_
        exact t_X10_laysItems_74 X hK14 ih _ _ _ _ _ _ _ _ hw hy1 hy2 hy3 hy4 hy6 (inR_c (a := 0) rfl) hy5 _ _ hR hS _ (lv_sub hl [0, 1, 2, 3, 4, 6] rfl)
      · have hw := hw.2 hc
        refine lv_aload_n X.1.1 X.1.2.1 dX10_laysItems_64 rfl (lv_at hl 0 rfl) ?_
        refine lv_iload X.1.1 X.1.2.1 dX10_laysItems_65 (lv_at hl 6 rfl) ?_
        refine cs_X10_noteOf X hy6 (kc := 2) rmL_ok rm_c (by decide) hR hS kw_1985 hl.1 dX10_laysItems_67 (Nat.le_of_ble_eq_true rfl) hw (fun x47 M46 H locs hw r48 hR hS => ?_)
        refine lv_goto (tgt := 74) X.1.1 X.1.2.1 dX10_laysItems_70 (by decide) ?_
        exact t_X10_laysItems_74 X hK14 ih _ _ _ _ _ _ _ _ hw hy1 hy2 hy3 hy4 hy6 r48 hy5 _ _ hR hS _ (lv_sub hl [0, 1, 2, 3, 4, 6] rfl)
set_option maxHeartbeats 4000000 in
set_option maxRecDepth 100000 in
theorem t_X10_laysItems_14 (X : CX p m c cX10_laysItems 7 s args RX10 G B κ meth none) {Qm : Mem → Prop} : ∀ n : Nat, ∀ y1 : Int, ∀ y2 : Int, ∀ y3 : Int, ∀ M : Mem, wp_X10_laysItems_14 Qm n y1 y2 y3 M → inR y1 → inR y2 → inR y3 → ∀ (H : Heap) (locs : List Loc), Rp G e0 α κ B M H → va_S (fun q => B ≤ q) s.heap H locs → ∀ (ls : Array Slot), lv_has ls 7 [(0, .ref (α 11 0)), (1, .int (Int32.ofInt y1)), (2, .int (Int32.ofInt y2)), (3, .int (Int32.ofInt y3))] → WV p l e 2 s m args below meth c G e0 α κ B Qm H locs 14 ls [] := by
  intro n
  induction n with
  | zero =>
    intro y1 y2 y3 M hw hy1 hy2 hy3 H locs hR hS ls hl
    exact hw.elim
  | succ n ih =>
    intro y1 y2 y3 M hw hy1 hy2 hy3 H locs hR hS ls hl
    have hw : (((M 64 0 1) ≤ y3 → ((y1 = 0 → wp_X10_laysItems_217 Qm y2 M) ∧ (¬ y1 = 0 → wp_X10_flows 200 1 0 0 M fun (M9 : Mem) => wp_X10_laysItems_217 Qm y2 M9))) ∧ (y3 < (M 64 0 1) → (inR (24 + y3)) ∧ (0 ≤ (24 + y3) ∧ (24 + y3) < 72) ∧ (∃ n49 : Nat, wp_X10_laysItems_41 Qm (wp_X10_laysItems_14 Qm n) n49 y1 y2 y3 (M 63 0 (24 + y3)) 0 0 M))) := hw
    refine lv_iload_n X.1.1 X.1.2.1 dX10_laysItems_14 rfl (lv_at hl 3 rfl) ?_
    refine lv_aload_n X.1.1 X.1.2.1 dX10_laysItems_15 rfl (lv_at hl 0 rfl) ?_
    refine gt_11_10 X hR (okf X.2.2.1 rfl) kw_1539 dX10_laysItems_16 ?_
    refine sa_const X.1 dX10_laysItems_19 ?_
    refine ra_64 X hR (okf X.2.2.1 rfl) ⟨by decide, by decide⟩ dX10_laysItems_20 ?_
    have r6 := hR.r 64 0 1
    refine sa_icmp_ge (tgt := 203) X.1 hy3 r6 dX10_laysItems_21 (by decide) (fun hc => ?_) (fun hc => ?_)
    · have hw := hw.1 hc
      refine lv_iload_n X.1.1 X.1.2.1 dX10_laysItems_203 rfl (lv_at hl 1 rfl) ?_
      refine sa_if_eq (tgt := 217) X.1 hy1 dX10_laysItems_204 (by decide) (fun hc => ?_) (fun hc => ?_)
      · have hw := hw.1 hc
        exact t_X10_laysItems_217 X _ _ hw hy2 _ _ hR hS _ (lv_sub hl [0, 2] rfl)
      · have hw := hw.2 hc
        refine lv_aload_n X.1.1 X.1.2.1 dX10_laysItems_207 rfl (lv_at hl 0 rfl) ?_
        refine sa_sipush X.1 dX10_laysItems_208 (by decide) ?_
        refine sa_const X.1 dX10_laysItems_211 ?_
        refine sa_const X.1 dX10_laysItems_212 ?_
        refine sa_const X.1 dX10_laysItems_213 ?_
        refine cs_X10_flows X (inR_c (a := 200) rfl) (inR_c (a := 1) rfl) (inR_c (a := 0) rfl) (inR_c (a := 0) rfl) (kc := 2) rmL_ok rm_c (by decide) hR hS kw_1989 hl.1 dX10_laysItems_214 (Nat.le_of_ble_eq_true rfl) hw (fun M9 H locs hw hR hS => ?_)
        exact t_X10_laysItems_217 X _ _ hw hy2 _ _ hR hS _ (lv_sub hl [0, 2] rfl)
    · have hw := hw.2 hc
      refine lv_aload_n X.1.1 X.1.2.1 dX10_laysItems_24 rfl (lv_at hl 0 rfl) ?_
      refine gt_11_9 X hR (okf X.2.2.1 rfl) kw_1538 dX10_laysItems_25 ?_
      refine sa_bipush X.1 dX10_laysItems_28 (by decide) ?_
      refine lv_iload_n X.1.1 X.1.2.1 dX10_laysItems_30 rfl (lv_at hl 3 rfl) ?_
      have c10 := hw.1
      have hw := hw.2
      refine sa_iadd X.1 dX10_laysItems_31 ?_
      have c11 := hw.1
      have hw := hw.2
      refine ra_63 X hR (okf X.2.2.1 rfl) c11 dX10_laysItems_32 ?_
      have r12 := hR.r 63 0 (24 + y3)
      refine lv_istore (lv' := [(4, .int (Int32.ofInt (M 63 0 (24 + y3)))), (0, .ref (α 11 0)), (1, .int (Int32.ofInt y1)), (2, .int (Int32.ofInt y2)), (3, .int (Int32.ofInt y3))]) X.1.1 X.1.2.1 dX10_laysItems_33 hl (by decide) rfl (fun ls hl => ?_)
      refine sa_const X.1 dX10_laysItems_35 ?_
      refine lv_istore (lv' := [(5, .int (Int32.ofInt 0)), (4, .int (Int32.ofInt (M 63 0 (24 + y3)))), (0, .ref (α 11 0)), (1, .int (Int32.ofInt y1)), (2, .int (Int32.ofInt y2)), (3, .int (Int32.ofInt y3))]) X.1.1 X.1.2.1 dX10_laysItems_36 hl (by decide) rfl (fun ls hl => ?_)
      refine sa_const X.1 dX10_laysItems_38 ?_
      refine lv_istore (lv' := [(6, .int (Int32.ofInt 0)), (5, .int (Int32.ofInt 0)), (4, .int (Int32.ofInt (M 63 0 (24 + y3)))), (0, .ref (α 11 0)), (1, .int (Int32.ofInt y1)), (2, .int (Int32.ofInt y2)), (3, .int (Int32.ofInt y3))]) X.1.1 X.1.2.1 dX10_laysItems_39 hl (by decide) rfl (fun ls hl => ?_)
      obtain ⟨n49, hw⟩ := hw
      exact t_X10_laysItems_41 X ih n49 _ _ _ _ _ _ _ hw hy1 hy2 hy3 r12 (inR_c (a := 0) rfl) (inR_c (a := 0) rfl) _ _ hR hS _ (lv_sub hl [3, 4, 5, 6, 2, 1, 0] rfl)
set_option maxHeartbeats 4000000 in
set_option maxRecDepth 100000 in
theorem t_X10_laysItems (X : CX p m c cX10_laysItems 7 s args RX10 G B κ meth none) {M : Mem} {Qm : Mem → Prop} (hw : wp_X10_laysItems M Qm) (H : Heap) (locs : List Loc) (hR : Rp G e0 α κ B M H) (hS : va_S (fun q => B ≤ q) s.heap H locs) (ls : Array Slot) (hl : lv_has ls 7 [(0, .ref (α 11 0))]) : WV p l e 2 s m args below meth c G e0 α κ B Qm H locs 0 ls [] := by
  have hw : wp_X10_isAnyTotalled M fun (x2 : Int) (M1 : Mem) => ∀ M4 : Mem, M4 = up M1 11 0 41 0 → (∃ n50 : Nat, wp_X10_laysItems_14 Qm n50 x2 0 0 M4) := hw
  refine lv_aload_n X.1.1 X.1.2.1 dX10_laysItems_0 rfl (lv_at hl 0 rfl) ?_
  refine cs_X10_isAnyTotalled X  (kc := 2) rmL_ok rm_c (by decide) hR hS kw_1981 hl.1 dX10_laysItems_1 (Nat.le_of_ble_eq_true rfl) hw (fun x2 M1 H locs hw r3 hR hS => ?_)
  refine lv_istore_n (lv' := [(1, .int (Int32.ofInt x2)), (0, .ref (α 11 0))]) X.1.1 X.1.2.1 dX10_laysItems_4 rfl hl (by decide) rfl (fun ls hl => ?_)
  refine sa_const X.1 dX10_laysItems_5 ?_
  refine lv_istore_n (lv' := [(2, .int (Int32.ofInt 0)), (1, .int (Int32.ofInt x2)), (0, .ref (α 11 0))]) X.1.1 X.1.2.1 dX10_laysItems_6 rfl hl (by decide) rfl (fun ls hl => ?_)
  refine lv_aload_n X.1.1 X.1.2.1 dX10_laysItems_7 rfl (lv_at hl 2 rfl) ?_
  refine sa_const X.1 dX10_laysItems_8 ?_
  refine pt_11_41 X hR hS (okf X.2.2.1 rfl) (inR_c (a := 0) rfl) kw_1570 dX10_laysItems_9 (fun H locs hR hS => ?_)
  obtain ⟨M4, e5⟩ : ∃ z : Mem, z = up M1 11 0 41 0 := ⟨_, rfl⟩
  rw [← e5] at hR
  have hw := hw M4 e5
  refine sa_const X.1 dX10_laysItems_12 ?_
  refine lv_istore_n (lv' := [(3, .int (Int32.ofInt 0)), (2, .int (Int32.ofInt 0)), (1, .int (Int32.ofInt x2)), (0, .ref (α 11 0))]) X.1.1 X.1.2.1 dX10_laysItems_13 rfl hl (by decide) rfl (fun ls hl => ?_)
  obtain ⟨n50, hw⟩ := hw
  exact t_X10_laysItems_14 X n50 _ _ _ _ hw r3 (inR_c (a := 0) rfl) (inR_c (a := 0) rfl) _ _ hR hS _ (lv_sub hl [3, 2, 1, 0] rfl)
theorem m_X10_laysItems {l : Launch} {G : Gx} {e0 : Nat} {α : Ax} {κ : Nat → Int} {B : Nat} (hκ : kOK κ) {M : Mem} {Qm : Mem → Prop} (hw : wp_X10_laysItems M Qm) : CV l yX10_laysItems (Cond.code yX10_laysItems cX10_laysItems 7 none) 2 G e0 α κ B [.ref (α 11 0)] M Qm :=
  CV.mk hκ (by decide +kernel) rfl (Nat.le_of_ble_eq_true rfl) (lv := [(0, .ref (α 11 0))]) rfl (fun p e s m args below meth c ls X hR hS hl => t_X10_laysItems X hw _ _ hR hS ls hl)
theorem cs_X10_laysItems {cc : ByteArray} {nL : Nat} {own : String} {ret : Option FieldType} {idx pc : Nat} (X : CX p m c cc nL s args own G B κ meth ret) {kc : Nat} {R : Room} {cells slots : Nat} (hRr : RmOK R kc) (hcel : cells ≤ R.cells ∧ slots ≤ R.slots) (hk : 2 + 1 ≤ kc) {M : Mem} {H : Heap} {locs : List Loc} (hR : Rp G e0 α κ B M H) (hS : va_S (fun q => B ≤ q) s.heap H locs) (k1 : Cond.methodLink own idx yX10_laysItems ∈ gw) {ls : Array Slot} (hml : ls.size = nL) {rest : List Value} (hd : decode cc pc = .ok (.invokevirtual idx, 3)) (hrest : (rest.map fun v => v.category).sum ≤ 8) {Q : State → Prop} {Qm : Mem → Prop} (hw : wp_X10_laysItems M Qm) (kk : ∀ (M1 : Mem) (H1 : Heap) (locs1 : List Loc), Qm M1 → Rp G e0 α κ B M1 H1 → va_S (fun q => B ≤ q) s.heap H1 locs1 → W p l e R s m args below meth c H1 locs1 cells slots Q (F0 m (pc + 3) ls (rest))) : W p l e R s m args below meth c H locs cells slots Q (F0 m pc ls (.ref (α 11 0) :: rest)) :=
  sa_callVV 2 (n := 0) (As := []) (rest := rest) X.1 X.2.1 hR hS (m_X10_laysItems X.2.2.1 hw) k1 kw_1979 kw_76 kw_104 kw_1980 ⟨rfl, by decide +kernel, by decide +kernel, by decide +kernel⟩ (rm_ok hRr hk (by decide)) (rc_11 X hR (okf X.2.2.1 rfl)) rfl rfl hrest hml hd hcel kk
def wp_X10_puts (p1 : Int) (p2 : Int) (p3 : Int) (p4 : Int) (M : Mem) (Qm : Mem → Prop) : Prop := (0 ≤ p1 ∧ p1 < 60) ∧ (0 ≤ (M 11 0 46) ∧ (M 11 0 46) < 1100) ∧ ∀ M5 : Mem, M5 = up M 90 0 (M 11 0 46) (M 86 0 p1) → (inR ((M5 11 0 49) - 1)) ∧ (0 ≤ (M5 11 0 46) ∧ (M5 11 0 46) < 1100) ∧ ∀ M11 : Mem, M11 = up M5 91 0 (M5 11 0 46) ((M5 11 0 49) - 1) → (0 ≤ (M11 11 0 46) ∧ (M11 11 0 46) < 1100) ∧ ∀ M15 : Mem, M15 = up M11 92 0 (M11 11 0 46) p2 → (0 ≤ (M15 11 0 46) ∧ (M15 11 0 46) < 1100) ∧ ∀ M19 : Mem, M19 = up M15 93 0 (M15 11 0 46) p3 → (inR ((M19 11 0 46) + 1)) ∧ ∀ M23 : Mem, M23 = up M19 11 0 46 ((M19 11 0 46) + 1) → (inR ((M23 11 0 49) - 1)) ∧ (0 ≤ ((M23 11 0 49) - 1) ∧ ((M23 11 0 49) - 1) < 1000) ∧ (inR ((M23 95 0 ((M23 11 0 49) - 1)) + p3)) ∧ (0 ≤ ((M23 11 0 49) - 1) ∧ ((M23 11 0 49) - 1) < 1000) ∧ ∀ M31 : Mem, M31 = up M23 95 0 ((M23 11 0 49) - 1) ((M23 95 0 ((M23 11 0 49) - 1)) + p3) → (inR ((M31 11 0 49) - 1)) ∧ (0 ≤ ((M31 11 0 49) - 1) ∧ ((M31 11 0 49) - 1) < 1000) ∧ (0 ≤ p1 ∧ p1 < 60) ∧ (inR (p4 + (if ¬ (M31 86 0 p1) = 201 then (0 : Int) else p3))) ∧ (inR ((M31 94 0 ((M31 11 0 49) - 1)) + (p4 + (if ¬ (M31 86 0 p1) = 201 then (0 : Int) else p3)))) ∧ (0 ≤ ((M31 11 0 49) - 1) ∧ ((M31 11 0 49) - 1) < 1000) ∧ ∀ M45 : Mem, M45 = up M31 94 0 ((M31 11 0 49) - 1) ((M31 94 0 ((M31 11 0 49) - 1)) + (p4 + (if ¬ (M31 86 0 p1) = 201 then (0 : Int) else p3))) → Qm M45
set_option maxHeartbeats 4000000 in
set_option maxRecDepth 100000 in
theorem t_X10_puts {p1 : Int} {p2 : Int} {p3 : Int} {p4 : Int} (X : CX p m c cX10_puts 5 s args RX10 G B κ meth none) (hp1 : inR p1) (hp2 : inR p2) (hp3 : inR p3) (hp4 : inR p4) {M : Mem} {Qm : Mem → Prop} (hw : wp_X10_puts p1 p2 p3 p4 M Qm) (H : Heap) (locs : List Loc) (hR : Rp G e0 α κ B M H) (hS : va_S (fun q => B ≤ q) s.heap H locs) (ls : Array Slot) (hl : lv_has ls 5 [(0, .ref (α 11 0)), (1, .int (Int32.ofInt p1)), (2, .int (Int32.ofInt p2)), (3, .int (Int32.ofInt p3)), (4, .int (Int32.ofInt p4))]) : WV p l e 0 s m args below meth c G e0 α κ B Qm H locs 0 ls [] := by
  have hw : (0 ≤ p1 ∧ p1 < 60) ∧ (0 ≤ (M 11 0 46) ∧ (M 11 0 46) < 1100) ∧ ∀ M5 : Mem, M5 = up M 90 0 (M 11 0 46) (M 86 0 p1) → (inR ((M5 11 0 49) - 1)) ∧ (0 ≤ (M5 11 0 46) ∧ (M5 11 0 46) < 1100) ∧ ∀ M11 : Mem, M11 = up M5 91 0 (M5 11 0 46) ((M5 11 0 49) - 1) → (0 ≤ (M11 11 0 46) ∧ (M11 11 0 46) < 1100) ∧ ∀ M15 : Mem, M15 = up M11 92 0 (M11 11 0 46) p2 → (0 ≤ (M15 11 0 46) ∧ (M15 11 0 46) < 1100) ∧ ∀ M19 : Mem, M19 = up M15 93 0 (M15 11 0 46) p3 → (inR ((M19 11 0 46) + 1)) ∧ ∀ M23 : Mem, M23 = up M19 11 0 46 ((M19 11 0 46) + 1) → (inR ((M23 11 0 49) - 1)) ∧ (0 ≤ ((M23 11 0 49) - 1) ∧ ((M23 11 0 49) - 1) < 1000) ∧ (inR ((M23 95 0 ((M23 11 0 49) - 1)) + p3)) ∧ (0 ≤ ((M23 11 0 49) - 1) ∧ ((M23 11 0 49) - 1) < 1000) ∧ ∀ M31 : Mem, M31 = up M23 95 0 ((M23 11 0 49) - 1) ((M23 95 0 ((M23 11 0 49) - 1)) + p3) → (inR ((M31 11 0 49) - 1)) ∧ (0 ≤ ((M31 11 0 49) - 1) ∧ ((M31 11 0 49) - 1) < 1000) ∧ (0 ≤ p1 ∧ p1 < 60) ∧ (inR (p4 + (if ¬ (M31 86 0 p1) = 201 then (0 : Int) else p3))) ∧ (inR ((M31 94 0 ((M31 11 0 49) - 1)) + (p4 + (if ¬ (M31 86 0 p1) = 201 then (0 : Int) else p3)))) ∧ (0 ≤ ((M31 11 0 49) - 1) ∧ ((M31 11 0 49) - 1) < 1000) ∧ ∀ M45 : Mem, M45 = up M31 94 0 ((M31 11 0 49) - 1) ((M31 94 0 ((M31 11 0 49) - 1)) + (p4 + (if ¬ (M31 86 0 p1) = 201 then (0 : Int) else p3))) → Qm M45 := hw
  refine lv_aload_n X.1.1 X.1.2.1 dX10_puts_0 rfl (lv_at hl 0 rfl) ?_
  refine gt_11_42 X hR (okf X.2.2.1 rfl) kw_1571 dX10_puts_1 ?_
  refine lv_aload_n X.1.1 X.1.2.1 dX10_puts_4 rfl (lv_at hl 0 rfl) ?_
  refine gt_11_46 X hR (okf X.2.2.1 rfl) kw_1575 dX10_puts_5 ?_
  have r1 := hR.r 11 0 46
  refine lv_aload_n X.1.1 X.1.2.1 dX10_puts_8 rfl (lv_at hl 0 rfl) ?_
  refine gt_11_37 X hR (okf X.2.2.1 rfl) kw_1566 dX10_puts_9 ?_
  refine lv_iload_n X.1.1 X.1.2.1 dX10_puts_12 rfl (lv_at hl 1 rfl) ?_
  have c2 := hw.1
  have hw := hw.2
  refine ra_86 X hR (okf X.2.2.1 rfl) c2 dX10_puts_13 ?_
  have r3 := hR.r 86 0 p1
  have c4 := hw.1
  have hw := hw.2
  refine wa_90 X hR hS (okf X.2.2.1 rfl) c4 r3 dX10_puts_14 (fun H locs hR hS => ?_)
  obtain ⟨M5, e6⟩ : ∃ z : Mem, z = up M 90 0 (M 11 0 46) (M 86 0 p1) := ⟨_, rfl⟩
  rw [← e6] at hR
  have hw := hw M5 e6
  refine lv_aload_n X.1.1 X.1.2.1 dX10_puts_15 rfl (lv_at hl 0 rfl) ?_
  refine gt_11_43 X hR (okf X.2.2.1 rfl) kw_1572 dX10_puts_16 ?_
  refine lv_aload_n X.1.1 X.1.2.1 dX10_puts_19 rfl (lv_at hl 0 rfl) ?_
  refine gt_11_46 X hR (okf X.2.2.1 rfl) kw_1575 dX10_puts_20 ?_
  have r7 := hR.r 11 0 46
  refine lv_aload_n X.1.1 X.1.2.1 dX10_puts_23 rfl (lv_at hl 0 rfl) ?_
  refine gt_11_49 X hR (okf X.2.2.1 rfl) kw_1578 dX10_puts_24 ?_
  have r8 := hR.r 11 0 49
  refine sa_const X.1 dX10_puts_27 ?_
  have c9 := hw.1
  have hw := hw.2
  refine sa_isub X.1 dX10_puts_28 ?_
  have c10 := hw.1
  have hw := hw.2
  refine wa_91 X hR hS (okf X.2.2.1 rfl) c10 c9 dX10_puts_29 (fun H locs hR hS => ?_)
  obtain ⟨M11, e12⟩ : ∃ z : Mem, z = up M5 91 0 (M5 11 0 46) ((M5 11 0 49) - 1) := ⟨_, rfl⟩
  rw [← e12] at hR
  have hw := hw M11 e12
  refine lv_aload_n X.1.1 X.1.2.1 dX10_puts_30 rfl (lv_at hl 0 rfl) ?_
  refine gt_11_44 X hR (okf X.2.2.1 rfl) kw_1573 dX10_puts_31 ?_
  refine lv_aload_n X.1.1 X.1.2.1 dX10_puts_34 rfl (lv_at hl 0 rfl) ?_
  refine gt_11_46 X hR (okf X.2.2.1 rfl) kw_1575 dX10_puts_35 ?_
  have r13 := hR.r 11 0 46
  refine lv_iload_n X.1.1 X.1.2.1 dX10_puts_38 rfl (lv_at hl 2 rfl) ?_
  have c14 := hw.1
  have hw := hw.2
  refine wa_92 X hR hS (okf X.2.2.1 rfl) c14 hp2 dX10_puts_39 (fun H locs hR hS => ?_)
  obtain ⟨M15, e16⟩ : ∃ z : Mem, z = up M11 92 0 (M11 11 0 46) p2 := ⟨_, rfl⟩
  rw [← e16] at hR
  have hw := hw M15 e16
  refine lv_aload_n X.1.1 X.1.2.1 dX10_puts_40 rfl (lv_at hl 0 rfl) ?_
  refine gt_11_45 X hR (okf X.2.2.1 rfl) kw_1574 dX10_puts_41 ?_
  refine lv_aload_n X.1.1 X.1.2.1 dX10_puts_44 rfl (lv_at hl 0 rfl) ?_
  refine gt_11_46 X hR (okf X.2.2.1 rfl) kw_1575 dX10_puts_45 ?_
  have r17 := hR.r 11 0 46
  refine lv_iload_n X.1.1 X.1.2.1 dX10_puts_48 rfl (lv_at hl 3 rfl) ?_
  have c18 := hw.1
  have hw := hw.2
  refine wa_93 X hR hS (okf X.2.2.1 rfl) c18 hp3 dX10_puts_49 (fun H locs hR hS => ?_)
  obtain ⟨M19, e20⟩ : ∃ z : Mem, z = up M15 93 0 (M15 11 0 46) p3 := ⟨_, rfl⟩
  rw [← e20] at hR
  have hw := hw M19 e20
  refine lv_aload_n X.1.1 X.1.2.1 dX10_puts_50 rfl (lv_at hl 0 rfl) ?_
  refine lv_dup X.1.1 X.1.2.1 dX10_puts_51 rfl ?_
  refine gt_11_46 X hR (okf X.2.2.1 rfl) kw_1575 dX10_puts_52 ?_
  have r21 := hR.r 11 0 46
  refine sa_const X.1 dX10_puts_55 ?_
  have c22 := hw.1
  have hw := hw.2
  refine sa_iadd X.1 dX10_puts_56 ?_
  refine pt_11_46 X hR hS (okf X.2.2.1 rfl) c22 kw_1575 dX10_puts_57 (fun H locs hR hS => ?_)
  obtain ⟨M23, e24⟩ : ∃ z : Mem, z = up M19 11 0 46 ((M19 11 0 46) + 1) := ⟨_, rfl⟩
  rw [← e24] at hR
  have hw := hw M23 e24
  refine lv_aload_n X.1.1 X.1.2.1 dX10_puts_60 rfl (lv_at hl 0 rfl) ?_
  refine gt_11_48 X hR (okf X.2.2.1 rfl) kw_1577 dX10_puts_61 ?_
  refine lv_aload_n X.1.1 X.1.2.1 dX10_puts_64 rfl (lv_at hl 0 rfl) ?_
  refine gt_11_49 X hR (okf X.2.2.1 rfl) kw_1578 dX10_puts_65 ?_
  have r25 := hR.r 11 0 49
  refine sa_const X.1 dX10_puts_68 ?_
  have c26 := hw.1
  have hw := hw.2
  refine sa_isub X.1 dX10_puts_69 ?_
  refine lv_dup2_11 X.1.1 X.1.2.1 dX10_puts_70 rfl rfl ?_
  have c27 := hw.1
  have hw := hw.2
  refine ra_95 X hR (okf X.2.2.1 rfl) c27 dX10_puts_71 ?_
  have r28 := hR.r 95 0 ((M23 11 0 49) - 1)
  refine lv_iload_n X.1.1 X.1.2.1 dX10_puts_72 rfl (lv_at hl 3 rfl) ?_
  have c29 := hw.1
  have hw := hw.2
  refine sa_iadd X.1 dX10_puts_73 ?_
  have c30 := hw.1
  have hw := hw.2
  refine wa_95 X hR hS (okf X.2.2.1 rfl) c30 c29 dX10_puts_74 (fun H locs hR hS => ?_)
  obtain ⟨M31, e32⟩ : ∃ z : Mem, z = up M23 95 0 ((M23 11 0 49) - 1) ((M23 95 0 ((M23 11 0 49) - 1)) + p3) := ⟨_, rfl⟩
  rw [← e32] at hR
  have hw := hw M31 e32
  refine lv_aload_n X.1.1 X.1.2.1 dX10_puts_75 rfl (lv_at hl 0 rfl) ?_
  refine gt_11_47 X hR (okf X.2.2.1 rfl) kw_1576 dX10_puts_76 ?_
  refine lv_aload_n X.1.1 X.1.2.1 dX10_puts_79 rfl (lv_at hl 0 rfl) ?_
  refine gt_11_49 X hR (okf X.2.2.1 rfl) kw_1578 dX10_puts_80 ?_
  have r33 := hR.r 11 0 49
  refine sa_const X.1 dX10_puts_83 ?_
  have c34 := hw.1
  have hw := hw.2
  refine sa_isub X.1 dX10_puts_84 ?_
  refine lv_dup2_11 X.1.1 X.1.2.1 dX10_puts_85 rfl rfl ?_
  have c35 := hw.1
  have hw := hw.2
  refine ra_94 X hR (okf X.2.2.1 rfl) c35 dX10_puts_86 ?_
  have r36 := hR.r 94 0 ((M31 11 0 49) - 1)
  refine lv_iload X.1.1 X.1.2.1 dX10_puts_87 (lv_at hl 4 rfl) ?_
  refine lv_aload_n X.1.1 X.1.2.1 dX10_puts_89 rfl (lv_at hl 0 rfl) ?_
  refine gt_11_37 X hR (okf X.2.2.1 rfl) kw_1566 dX10_puts_90 ?_
  refine lv_iload_n X.1.1 X.1.2.1 dX10_puts_93 rfl (lv_at hl 1 rfl) ?_
  have c37 := hw.1
  have hw := hw.2
  refine ra_86 X hR (okf X.2.2.1 rfl) c37 dX10_puts_94 ?_
  have r38 := hR.r 86 0 p1
  refine sa_sipush X.1 dX10_puts_95 (by decide) ?_
  have r39 := inR_ite (c := ¬ (M31 86 0 p1) = 201) (inR_c (a := 0) rfl) hp3
  refine cut_j (A := ∀ v40 : Int, v40 = (if ¬ (M31 86 0 p1) = 201 then (0 : Int) else p3) → WV p l e 0 s m args below meth c G e0 α κ B Qm H locs 106 ls [.int (Int32.ofInt v40), .int (Int32.ofInt p4), .int (Int32.ofInt (M31 94 0 ((M31 11 0 49) - 1))), .int (Int32.ofInt ((M31 11 0 49) - 1)), .ref (α 94 0)]) (fun J41 => ?_) ?_
  · refine sa_icmp_ne (tgt := 105) X.1 r38 (inR_c (a := 201) rfl) dX10_puts_98 (by decide) (fun hc => ?_) (fun hc => ?_)
    · skip
      refine sa_const X.1 dX10_puts_105 ?_
      exact J41 (0) (if_pos (c := ¬ (M31 86 0 p1) = 201) hc).symm
    · skip
      refine lv_iload_n X.1.1 X.1.2.1 dX10_puts_101 rfl (lv_at hl 3 rfl) ?_
      refine lv_goto (tgt := 106) X.1.1 X.1.2.1 dX10_puts_102 (by decide) ?_
      exact J41 (p3) (if_neg (c := ¬ (M31 86 0 p1) = 201) (fun z => z hc)).symm
  intro v40 hv40
  subst hv40
  have c42 := hw.1
  have hw := hw.2
  refine sa_iadd X.1 dX10_puts_106 ?_
  have c43 := hw.1
  have hw := hw.2
  refine sa_iadd X.1 dX10_puts_107 ?_
  have c44 := hw.1
  have hw := hw.2
  refine wa_94 X hR hS (okf X.2.2.1 rfl) c44 c43 dX10_puts_108 (fun H locs hR hS => ?_)
  obtain ⟨M45, e46⟩ : ∃ z : Mem, z = up M31 94 0 ((M31 11 0 49) - 1) ((M31 94 0 ((M31 11 0 49) - 1)) + (p4 + (if ¬ (M31 86 0 p1) = 201 then (0 : Int) else p3))) := ⟨_, rfl⟩
  rw [← e46] at hR
  have hw := hw M45 e46
  exact sa_vret X.1 X.2.2.2.1 X.2.2.2.2 hR hS hw dX10_puts_109
theorem m_X10_puts {l : Launch} {G : Gx} {e0 : Nat} {α : Ax} {κ : Nat → Int} {B : Nat} {p1 : Int} {p2 : Int} {p3 : Int} {p4 : Int} (hκ : kOK κ) (hp1 : inR p1) (hp2 : inR p2) (hp3 : inR p3) (hp4 : inR p4) {M : Mem} {Qm : Mem → Prop} (hw : wp_X10_puts p1 p2 p3 p4 M Qm) : CV l yX10_puts (Cond.code yX10_puts cX10_puts 5 none) 0 G e0 α κ B [.ref (α 11 0), .int (Int32.ofInt p1), .int (Int32.ofInt p2), .int (Int32.ofInt p3), .int (Int32.ofInt p4)] M Qm :=
  CV.mk hκ (by decide +kernel) rfl (Nat.le_of_ble_eq_true rfl) (lv := [(0, .ref (α 11 0)), (1, .int (Int32.ofInt p1)), (2, .int (Int32.ofInt p2)), (3, .int (Int32.ofInt p3)), (4, .int (Int32.ofInt p4))]) rfl (fun p e s m args below meth c ls X hR hS hl => t_X10_puts X hp1 hp2 hp3 hp4 hw _ _ hR hS ls hl)
theorem cs_X10_puts {cc : ByteArray} {nL : Nat} {own : String} {ret : Option FieldType} {idx pc : Nat} {p1 : Int} {p2 : Int} {p3 : Int} {p4 : Int} (X : CX p m c cc nL s args own G B κ meth ret) (hp1 : inR p1) (hp2 : inR p2) (hp3 : inR p3) (hp4 : inR p4) {kc : Nat} {R : Room} {cells slots : Nat} (hRr : RmOK R kc) (hcel : cells ≤ R.cells ∧ slots ≤ R.slots) (hk : 0 + 1 ≤ kc) {M : Mem} {H : Heap} {locs : List Loc} (hR : Rp G e0 α κ B M H) (hS : va_S (fun q => B ≤ q) s.heap H locs) (k1 : Cond.methodLink own idx yX10_puts ∈ gw) {ls : Array Slot} (hml : ls.size = nL) {rest : List Value} (hd : decode cc pc = .ok (.invokevirtual idx, 3)) (hrest : (rest.map fun v => v.category).sum ≤ 8) {Q : State → Prop} {Qm : Mem → Prop} (hw : wp_X10_puts p1 p2 p3 p4 M Qm) (kk : ∀ (M1 : Mem) (H1 : Heap) (locs1 : List Loc), Qm M1 → Rp G e0 α κ B M1 H1 → va_S (fun q => B ≤ q) s.heap H1 locs1 → W p l e R s m args below meth c H1 locs1 cells slots Q (F0 m (pc + 3) ls (rest))) : W p l e R s m args below meth c H locs cells slots Q (F0 m pc ls (.int (Int32.ofInt p4) :: .int (Int32.ofInt p3) :: .int (Int32.ofInt p2) :: .int (Int32.ofInt p1) :: .ref (α 11 0) :: rest)) :=
  sa_callVV 0 (n := 4) (As := [.int (Int32.ofInt p1), .int (Int32.ofInt p2), .int (Int32.ofInt p3), .int (Int32.ofInt p4)]) (rest := rest) X.1 X.2.1 hR hS (m_X10_puts X.2.2.1 hp1 hp2 hp3 hp4 hw) k1 kw_2003 kw_82 kw_104 kw_2004 ⟨rfl, by decide +kernel, by decide +kernel, by decide +kernel⟩ (rm_ok hRr hk (by decide)) (rc_11 X hR (okf X.2.2.1 rfl)) rfl rfl hrest hml hd hcel kk
def wp_X10_roomOf_36 (p1 : Int) (Qm : Int → Mem → Prop) (z0 : Int) (z1 : Int) (M : Mem) : Prop := (inR (z1 - z0)) ∧ Qm (z1 - z0) M
def wp_X10_roomOf (p1 : Int) (M : Mem) (Qm : Int → Mem → Prop) : Prop := wp_X10_sumOf 0 M fun (x3 : Int) (M2 : Mem) => (inR ((M 11 0 25) - x3)) ∧ wp_X10_sumOf 2 M2 fun (x7 : Int) (M6 : Mem) => (inR (((M 11 0 25) - x3) - x7)) ∧ ((¬ p1 = 0 → wp_X10_isAnyTotalled M6 fun (x11 : Int) (M10 : Mem) => wp_X10_roomOf_36 p1 Qm (if x11 = 0 then (1 : Int) else 2) (((M 11 0 25) - x3) - x7) M10) ∧ (p1 = 0 → wp_X10_roomOf_36 p1 Qm 0 (((M 11 0 25) - x3) - x7) M6))
set_option maxHeartbeats 4000000 in
set_option maxRecDepth 100000 in
theorem t_X10_roomOf_36 {p1 : Int} (X : CX p m c cX10_roomOf 2 s args RX10 G B κ meth (some .int)) (hp1 : inR p1) {Qm : Int → Mem → Prop} : ∀ z0 : Int, ∀ z1 : Int, ∀ M : Mem, wp_X10_roomOf_36 p1 Qm z0 z1 M → inR z0 → inR z1 → ∀ (H : Heap) (locs : List Loc), Rp G e0 α κ B M H → va_S (fun q => B ≤ q) s.heap H locs → ∀ (ls : Array Slot), lv_has ls 2 [] → WI p l e 1 s m args below meth c G e0 α κ B Qm H locs 36 ls [.int (Int32.ofInt z0), .int (Int32.ofInt z1)] := by
  intro z0 z1 M hw hz0 hz1 H locs hR hS ls hl
  have hw : (inR (z1 - z0)) ∧ Qm (z1 - z0) M := hw
  have c16 := hw.1
  have hw := hw.2
  refine sa_isub X.1 dX10_roomOf_36 ?_
  exact sa_iret X.1 X.2.2.2.1 X.2.2.2.2 hR hS c16 hw dX10_roomOf_37
set_option maxHeartbeats 4000000 in
set_option maxRecDepth 100000 in
theorem t_X10_roomOf {p1 : Int} (X : CX p m c cX10_roomOf 2 s args RX10 G B κ meth (some .int)) (hp1 : inR p1) {M : Mem} {Qm : Int → Mem → Prop} (hw : wp_X10_roomOf p1 M Qm) (H : Heap) (locs : List Loc) (hR : Rp G e0 α κ B M H) (hS : va_S (fun q => B ≤ q) s.heap H locs) (ls : Array Slot) (hl : lv_has ls 2 [(0, .ref (α 11 0)), (1, .int (Int32.ofInt p1))]) : WI p l e 1 s m args below meth c G e0 α κ B Qm H locs 0 ls [] := by
  have hw : wp_X10_sumOf 0 M fun (x3 : Int) (M2 : Mem) => (inR ((M 11 0 25) - x3)) ∧ wp_X10_sumOf 2 M2 fun (x7 : Int) (M6 : Mem) => (inR (((M 11 0 25) - x3) - x7)) ∧ ((¬ p1 = 0 → wp_X10_isAnyTotalled M6 fun (x11 : Int) (M10 : Mem) => wp_X10_roomOf_36 p1 Qm (if x11 = 0 then (1 : Int) else 2) (((M 11 0 25) - x3) - x7) M10) ∧ (p1 = 0 → wp_X10_roomOf_36 p1 Qm 0 (((M 11 0 25) - x3) - x7) M6)) := hw
  refine lv_aload_n X.1.1 X.1.2.1 dX10_roomOf_0 rfl (lv_at hl 0 rfl) ?_
  refine gt_11_25 X hR (okf X.2.2.1 rfl) kw_1554 dX10_roomOf_1 ?_
  have r1 := hR.r 11 0 25
  refine lv_aload_n X.1.1 X.1.2.1 dX10_roomOf_4 rfl (lv_at hl 0 rfl) ?_
  refine sa_const X.1 dX10_roomOf_5 ?_
  refine cs_X10_sumOf X (inR_c (a := 0) rfl) (kc := 1) rmL_ok rm_c (by decide) hR hS kw_1934 hl.1 dX10_roomOf_6 (Nat.le_of_ble_eq_true rfl) hw (fun x3 M2 H locs hw r4 hR hS => ?_)
  have c5 := hw.1
  have hw := hw.2
  refine sa_isub X.1 dX10_roomOf_9 ?_
  refine lv_aload_n X.1.1 X.1.2.1 dX10_roomOf_10 rfl (lv_at hl 0 rfl) ?_
  refine sa_const X.1 dX10_roomOf_11 ?_
  refine cs_X10_sumOf X (inR_c (a := 2) rfl) (kc := 1) rmL_ok rm_c (by decide) hR hS kw_1934 hl.1 dX10_roomOf_12 (Nat.le_of_ble_eq_true rfl) hw (fun x7 M6 H locs hw r8 hR hS => ?_)
  have c9 := hw.1
  have hw := hw.2
  refine sa_isub X.1 dX10_roomOf_15 ?_
  refine lv_iload_n X.1.1 X.1.2.1 dX10_roomOf_16 rfl (lv_at hl 1 rfl) ?_
  refine sa_if_ne (tgt := 24) X.1 hp1 dX10_roomOf_17 (by decide) (fun hc => ?_) (fun hc => ?_)
  · have hw := hw.1 hc
    refine lv_aload_n X.1.1 X.1.2.1 dX10_roomOf_24 rfl (lv_at hl 0 rfl) ?_
    refine cs_X10_isAnyTotalled X  (kc := 1) rmL_ok rm_c (by decide) hR hS kw_1981 hl.1 dX10_roomOf_25 (Nat.le_of_ble_eq_true rfl) hw (fun x11 M10 H locs hw r12 hR hS => ?_)
    have r13 := inR_ite (c := x11 = 0) (inR_c (a := 1) rfl) (inR_c (a := 2) rfl)
    refine cut_j (A := ∀ v14 : Int, v14 = (if x11 = 0 then (1 : Int) else 2) → WI p l e 1 s m args below meth c G e0 α κ B Qm H locs 36 ls [.int (Int32.ofInt v14), .int (Int32.ofInt (((M 11 0 25) - x3) - x7))]) (fun J15 => ?_) ?_
    · refine sa_if_eq (tgt := 35) X.1 r12 dX10_roomOf_28 (by decide) (fun hc => ?_) (fun hc => ?_)
      · skip
        refine sa_const X.1 dX10_roomOf_35 ?_
        exact J15 (1) (if_pos (c := x11 = 0) hc).symm
      · skip
        refine sa_const X.1 dX10_roomOf_31 ?_
        refine lv_goto (tgt := 36) X.1.1 X.1.2.1 dX10_roomOf_32 (by decide) ?_
        exact J15 (2) (if_neg (c := x11 = 0) hc).symm
    intro v14 hv14
    subst hv14
    exact t_X10_roomOf_36 X hp1 _ _ _ hw r13 c9 _ _ hR hS _ (lv_sub hl [] rfl)
  · have hw := hw.2 hc
    refine sa_const X.1 dX10_roomOf_20 ?_
    refine lv_goto (tgt := 36) X.1.1 X.1.2.1 dX10_roomOf_21 (by decide) ?_
    exact t_X10_roomOf_36 X hp1 _ _ _ hw (inR_c (a := 0) rfl) c9 _ _ hR hS _ (lv_sub hl [] rfl)
theorem m_X10_roomOf {l : Launch} {G : Gx} {e0 : Nat} {α : Ax} {κ : Nat → Int} {B : Nat} {p1 : Int} (hκ : kOK κ) (hp1 : inR p1) {M : Mem} {Qm : Int → Mem → Prop} (hw : wp_X10_roomOf p1 M Qm) : CI l yX10_roomOf (Cond.code yX10_roomOf cX10_roomOf 2 (some .int)) 1 G e0 α κ B [.ref (α 11 0), .int (Int32.ofInt p1)] M Qm :=
  CI.mk hκ (by decide +kernel) rfl (Nat.le_of_ble_eq_true rfl) (lv := [(0, .ref (α 11 0)), (1, .int (Int32.ofInt p1))]) rfl (fun p e s m args below meth c ls X hR hS hl => t_X10_roomOf X hp1 hw _ _ hR hS ls hl)
theorem cs_X10_roomOf {cc : ByteArray} {nL : Nat} {own : String} {ret : Option FieldType} {idx pc : Nat} {p1 : Int} (X : CX p m c cc nL s args own G B κ meth ret) (hp1 : inR p1) {kc : Nat} {R : Room} {cells slots : Nat} (hRr : RmOK R kc) (hcel : cells ≤ R.cells ∧ slots ≤ R.slots) (hk : 1 + 1 ≤ kc) {M : Mem} {H : Heap} {locs : List Loc} (hR : Rp G e0 α κ B M H) (hS : va_S (fun q => B ≤ q) s.heap H locs) (k1 : Cond.methodLink own idx yX10_roomOf ∈ gw) {ls : Array Slot} (hml : ls.size = nL) {rest : List Value} (hd : decode cc pc = .ok (.invokevirtual idx, 3)) (hrest : (rest.map fun v => v.category).sum ≤ 8) {Q : State → Prop} {Qm : Int → Mem → Prop} (hw : wp_X10_roomOf p1 M Qm) (kk : ∀ (r : Int) (M1 : Mem) (H1 : Heap) (locs1 : List Loc), Qm r M1 → inR r → Rp G e0 α κ B M1 H1 → va_S (fun q => B ≤ q) s.heap H1 locs1 → W p l e R s m args below meth c H1 locs1 cells slots Q (F0 m (pc + 3) ls (.int (Int32.ofInt r) :: rest))) : W p l e R s m args below meth c H locs cells slots Q (F0 m pc ls (.int (Int32.ofInt p1) :: .ref (α 11 0) :: rest)) :=
  sa_callVI 1 (n := 1) (As := [.int (Int32.ofInt p1)]) (rest := rest) X.1 X.2.1 hR hS (m_X10_roomOf X.2.2.1 hp1 hw) k1 kw_1999 kw_81 kw_104 kw_2000 ⟨rfl, by decide +kernel, by decide +kernel, by decide +kernel⟩ (rm_ok hRr hk (by decide)) (rc_11 X hR (okf X.2.2.1 rfl)) rfl rfl hrest hml hd hcel kk
def wp_X10_begins1 (M : Mem) (Qm : Mem → Prop) : Prop := (0 ≤ (M 11 0 49) ∧ (M 11 0 49) < 1000) ∧ ∀ M3 : Mem, M3 = up M 95 0 (M 11 0 49) 0 → (0 ≤ (M3 11 0 49) ∧ (M3 11 0 49) < 1000) ∧ ∀ M7 : Mem, M7 = up M3 94 0 (M3 11 0 49) 0 → (inR ((M7 11 0 49) + 1)) ∧ ∀ M11 : Mem, M11 = up M7 11 0 49 ((M7 11 0 49) + 1) → Qm M11
set_option maxHeartbeats 4000000 in
set_option maxRecDepth 100000 in
theorem t_X10_begins1 (X : CX p m c cX10_begins1 1 s args RX10 G B κ meth none) {M : Mem} {Qm : Mem → Prop} (hw : wp_X10_begins1 M Qm) (H : Heap) (locs : List Loc) (hR : Rp G e0 α κ B M H) (hS : va_S (fun q => B ≤ q) s.heap H locs) (ls : Array Slot) (hl : lv_has ls 1 [(0, .ref (α 11 0))]) : WV p l e 0 s m args below meth c G e0 α κ B Qm H locs 0 ls [] := by
  have hw : (0 ≤ (M 11 0 49) ∧ (M 11 0 49) < 1000) ∧ ∀ M3 : Mem, M3 = up M 95 0 (M 11 0 49) 0 → (0 ≤ (M3 11 0 49) ∧ (M3 11 0 49) < 1000) ∧ ∀ M7 : Mem, M7 = up M3 94 0 (M3 11 0 49) 0 → (inR ((M7 11 0 49) + 1)) ∧ ∀ M11 : Mem, M11 = up M7 11 0 49 ((M7 11 0 49) + 1) → Qm M11 := hw
  refine lv_aload_n X.1.1 X.1.2.1 dX10_begins1_0 rfl (lv_at hl 0 rfl) ?_
  refine gt_11_48 X hR (okf X.2.2.1 rfl) kw_1577 dX10_begins1_1 ?_
  refine lv_aload_n X.1.1 X.1.2.1 dX10_begins1_4 rfl (lv_at hl 0 rfl) ?_
  refine gt_11_49 X hR (okf X.2.2.1 rfl) kw_1578 dX10_begins1_5 ?_
  have r1 := hR.r 11 0 49
  refine sa_const X.1 dX10_begins1_8 ?_
  have c2 := hw.1
  have hw := hw.2
  refine wa_95 X hR hS (okf X.2.2.1 rfl) c2 (inR_c (a := 0) rfl) dX10_begins1_9 (fun H locs hR hS => ?_)
  obtain ⟨M3, e4⟩ : ∃ z : Mem, z = up M 95 0 (M 11 0 49) 0 := ⟨_, rfl⟩
  rw [← e4] at hR
  have hw := hw M3 e4
  refine lv_aload_n X.1.1 X.1.2.1 dX10_begins1_10 rfl (lv_at hl 0 rfl) ?_
  refine gt_11_47 X hR (okf X.2.2.1 rfl) kw_1576 dX10_begins1_11 ?_
  refine lv_aload_n X.1.1 X.1.2.1 dX10_begins1_14 rfl (lv_at hl 0 rfl) ?_
  refine gt_11_49 X hR (okf X.2.2.1 rfl) kw_1578 dX10_begins1_15 ?_
  have r5 := hR.r 11 0 49
  refine sa_const X.1 dX10_begins1_18 ?_
  have c6 := hw.1
  have hw := hw.2
  refine wa_94 X hR hS (okf X.2.2.1 rfl) c6 (inR_c (a := 0) rfl) dX10_begins1_19 (fun H locs hR hS => ?_)
  obtain ⟨M7, e8⟩ : ∃ z : Mem, z = up M3 94 0 (M3 11 0 49) 0 := ⟨_, rfl⟩
  rw [← e8] at hR
  have hw := hw M7 e8
  refine lv_aload_n X.1.1 X.1.2.1 dX10_begins1_20 rfl (lv_at hl 0 rfl) ?_
  refine lv_dup X.1.1 X.1.2.1 dX10_begins1_21 rfl ?_
  refine gt_11_49 X hR (okf X.2.2.1 rfl) kw_1578 dX10_begins1_22 ?_
  have r9 := hR.r 11 0 49
  refine sa_const X.1 dX10_begins1_25 ?_
  have c10 := hw.1
  have hw := hw.2
  refine sa_iadd X.1 dX10_begins1_26 ?_
  refine pt_11_49 X hR hS (okf X.2.2.1 rfl) c10 kw_1578 dX10_begins1_27 (fun H locs hR hS => ?_)
  obtain ⟨M11, e12⟩ : ∃ z : Mem, z = up M7 11 0 49 ((M7 11 0 49) + 1) := ⟨_, rfl⟩
  rw [← e12] at hR
  have hw := hw M11 e12
  exact sa_vret X.1 X.2.2.2.1 X.2.2.2.2 hR hS hw dX10_begins1_30
theorem m_X10_begins1 {l : Launch} {G : Gx} {e0 : Nat} {α : Ax} {κ : Nat → Int} {B : Nat} (hκ : kOK κ) {M : Mem} {Qm : Mem → Prop} (hw : wp_X10_begins1 M Qm) : CV l yX10_begins1 (Cond.code yX10_begins1 cX10_begins1 1 none) 0 G e0 α κ B [.ref (α 11 0)] M Qm :=
  CV.mk hκ (by decide +kernel) rfl (Nat.le_of_ble_eq_true rfl) (lv := [(0, .ref (α 11 0))]) rfl (fun p e s m args below meth c ls X hR hS hl => t_X10_begins1 X hw _ _ hR hS ls hl)
theorem cs_X10_begins1 {cc : ByteArray} {nL : Nat} {own : String} {ret : Option FieldType} {idx pc : Nat} (X : CX p m c cc nL s args own G B κ meth ret) {kc : Nat} {R : Room} {cells slots : Nat} (hRr : RmOK R kc) (hcel : cells ≤ R.cells ∧ slots ≤ R.slots) (hk : 0 + 1 ≤ kc) {M : Mem} {H : Heap} {locs : List Loc} (hR : Rp G e0 α κ B M H) (hS : va_S (fun q => B ≤ q) s.heap H locs) (k1 : Cond.methodLink own idx yX10_begins1 ∈ gw) {ls : Array Slot} (hml : ls.size = nL) {rest : List Value} (hd : decode cc pc = .ok (.invokevirtual idx, 3)) (hrest : (rest.map fun v => v.category).sum ≤ 8) {Q : State → Prop} {Qm : Mem → Prop} (hw : wp_X10_begins1 M Qm) (kk : ∀ (M1 : Mem) (H1 : Heap) (locs1 : List Loc), Qm M1 → Rp G e0 α κ B M1 H1 → va_S (fun q => B ≤ q) s.heap H1 locs1 → W p l e R s m args below meth c H1 locs1 cells slots Q (F0 m (pc + 3) ls (rest))) : W p l e R s m args below meth c H locs cells slots Q (F0 m pc ls (.ref (α 11 0) :: rest)) :=
  sa_callVV 0 (n := 0) (As := []) (rest := rest) X.1 X.2.1 hR hS (m_X10_begins1 X.2.2.1 hw) k1 kw_1995 kw_80 kw_104 kw_1996 ⟨rfl, by decide +kernel, by decide +kernel, by decide +kernel⟩ (rm_ok hRr hk (by decide)) (rc_11 X hR (okf X.2.2.1 rfl)) rfl rfl hrest hml hd hcel kk
def wp_X10_laysPages_248 (Qm : Int → Mem → Prop) (K49 : Int → Int → Int → Int → Int → Mem → Prop) (y1 : Int) (y2 : Int) (y3 : Int) (y4 : Int) (y5 : Int) (M : Mem) : Prop := K49 y1 y2 y3 y4 y5 M
def wp_X10_laysPages_212 (Qm : Int → Mem → Prop) (K49 : Int → Int → Int → Int → Int → Mem → Prop) (y1 : Int) (y3 : Int) (y4 : Int) (y5 : Int) (M : Mem) : Prop := ((y3 = 0 → ∀ M37 : Mem, M37 = up M 11 0 49 0 → ∀ M39 : Mem, M39 = up M37 11 0 46 0 → Qm 0 M39) ∧ (¬ y3 = 0 → wp_X10_begins1 M fun (M41 : Mem) => (inR ((M41 11 0 49) - 1)) ∧ wp_X10_roomOf ((M41 11 0 49) - 1) M41 fun (x45 : Int) (M44 : Mem) => wp_X10_laysPages_248 Qm K49 y1 x45 0 y4 y5 M44))
def wp_X10_laysPages_167 (Qm : Int → Mem → Prop) (K49 : Int → Int → Int → Int → Int → Mem → Prop) (y1 : Int) (y3 : Int) (y4 : Int) (y5 : Int) (y7 : Int) (y8 : Int) (M : Mem) : Prop := ((y8 < 1 → wp_X10_laysPages_212 Qm K49 y1 y3 y4 y5 M) ∧ (1 ≤ y8 → wp_X10_puts y4 y5 y8 y7 M fun (M47 : Mem) => (inR (y5 + y8)) ∧ wp_X10_begins1 M47 fun (M49 : Mem) => (inR ((M49 11 0 49) - 1)) ∧ wp_X10_roomOf ((M49 11 0 49) - 1) M49 fun (x53 : Int) (M52 : Mem) => wp_X10_laysPages_248 Qm K49 y1 x53 0 y4 (y5 + y8) M52))
def wp_X10_laysPages_49 (Qm : Int → Mem → Prop) : Nat → Int → Int → Int → Int → Int → Mem → Prop
  | 0 => fun _ _ _ _ _ _ => False
  | n + 1 => fun y1 y2 y3 y4 y5 M => (((M 11 0 41) ≤ y4 → Qm 1 M) ∧ (y4 < (M 11 0 41) → (0 ≤ y4 ∧ y4 < 60) ∧ (inR ((M 87 0 y4) - y5)) ∧ (y5 ≤ 0 → (0 ≤ y4 ∧ y4 < 60) ∧ True) ∧ (inR (y2 - y1)) ∧ (inR ((y2 - y1) - (if y5 ≤ 0 then (M 88 0 y4) else 0))) ∧ (inR (((M 87 0 y4) - y5) + (if y5 ≤ 0 then (M 88 0 y4) else 0))) ∧ (inR (y4 + 1)) ∧ (inR (y2 - (if (M 11 0 41) ≤ (y4 + 1) then (0 : Int) else y1))) ∧ (((y2 - (if (M 11 0 41) ≤ (y4 + 1) then (0 : Int) else y1)) < (((M 87 0 y4) - y5) + (if y5 ≤ 0 then (M 88 0 y4) else 0)) → (0 ≤ y4 ∧ y4 < 60) ∧ ((¬ (M 89 0 y4) = 0 → wp_X10_laysPages_167 Qm (wp_X10_laysPages_49 Qm n) y1 y3 y4 y5 (if y5 ≤ 0 then (M 88 0 y4) else 0) ((y2 - y1) - (if y5 ≤ 0 then (M 88 0 y4) else 0)) M) ∧ ((M 89 0 y4) = 0 → ((¬ y3 = 0 → wp_X10_laysPages_212 Qm (wp_X10_laysPages_49 Qm n) y1 y3 y4 y5 M) ∧ (y3 = 0 → wp_X10_laysPages_167 Qm (wp_X10_laysPages_49 Qm n) y1 y3 y4 y5 (if y5 ≤ 0 then (M 88 0 y4) else 0) ((y2 - y1) - (if y5 ≤ 0 then (M 88 0 y4) else 0)) M))))) ∧ ((((M 87 0 y4) - y5) + (if y5 ≤ 0 then (M 88 0 y4) else 0)) ≤ (y2 - (if (M 11 0 41) ≤ (y4 + 1) then (0 : Int) else y1)) → wp_X10_puts y4 y5 ((M 87 0 y4) - y5) (if y5 ≤ 0 then (M 88 0 y4) else 0) M fun (M55 : Mem) => (inR (((M 87 0 y4) - y5) + (if y5 ≤ 0 then (M 88 0 y4) else 0))) ∧ (inR (y2 - (((M 87 0 y4) - y5) + (if y5 ≤ 0 then (M 88 0 y4) else 0)))) ∧ (inR (y4 + 1)) ∧ wp_X10_laysPages_248 Qm (wp_X10_laysPages_49 Qm n) y1 (y2 - (((M 87 0 y4) - y5) + (if y5 ≤ 0 then (M 88 0 y4) else 0))) 1 (y4 + 1) 0 M55))))
def wp_X10_laysPages (M : Mem) (Qm : Int → Mem → Prop) : Prop := wp_X10_laysHeights M fun (M1 : Mem) => wp_X10_laysItems M1 fun (M2 : Mem) => wp_X10_isAnyTotalled M2 fun (x4 : Int) (M3 : Mem) => ∀ M9 : Mem, M9 = up M3 11 0 46 0 → ∀ M11 : Mem, M11 = up M9 11 0 49 0 → wp_X10_begins1 M11 fun (M13 : Mem) => wp_X10_roomOf 0 M13 fun (x15 : Int) (M14 : Mem) => (∃ n59 : Nat, wp_X10_laysPages_49 Qm n59 (if x4 = 0 then (0 : Int) else 1) x15 0 0 0 M14)
set_option maxHeartbeats 4000000 in
set_option maxRecDepth 100000 in
theorem t_X10_laysPages_248 (X : CX p m c cX10_laysPages 9 s args RX10 G B κ meth (some .boolean)) {Qm : Int → Mem → Prop} {K49 : Int → Int → Int → Int → Int → Mem → Prop} (hK49 : ∀ y1 : Int, ∀ y2 : Int, ∀ y3 : Int, ∀ y4 : Int, ∀ y5 : Int, ∀ M : Mem, K49 y1 y2 y3 y4 y5 M → inR y1 → inR y2 → inR y3 → inR y4 → inR y5 → ∀ (H : Heap) (locs : List Loc), Rp G e0 α κ B M H → va_S (fun q => B ≤ q) s.heap H locs → ∀ (ls : Array Slot), lv_has ls 9 [(0, .ref (α 11 0)), (1, .int (Int32.ofInt y1)), (2, .int (Int32.ofInt y2)), (3, .int (Int32.ofInt y3)), (4, .int (Int32.ofInt y4)), (5, .int (Int32.ofInt y5))] → WI p l e 7 s m args below meth c G e0 α κ B Qm H locs 49 ls []) : ∀ y1 : Int, ∀ y2 : Int, ∀ y3 : Int, ∀ y4 : Int, ∀ y5 : Int, ∀ M : Mem, wp_X10_laysPages_248 Qm K49 y1 y2 y3 y4 y5 M → inR y1 → inR y2 → inR y3 → inR y4 → inR y5 → ∀ (H : Heap) (locs : List Loc), Rp G e0 α κ B M H → va_S (fun q => B ≤ q) s.heap H locs → ∀ (ls : Array Slot), lv_has ls 9 [(0, .ref (α 11 0)), (1, .int (Int32.ofInt y1)), (2, .int (Int32.ofInt y2)), (3, .int (Int32.ofInt y3)), (4, .int (Int32.ofInt y4)), (5, .int (Int32.ofInt y5))] → WI p l e 7 s m args below meth c G e0 α κ B Qm H locs 248 ls [] := by
  intro y1 y2 y3 y4 y5 M hw hy1 hy2 hy3 hy4 hy5 H locs hR hS ls hl
  have hw : K49 y1 y2 y3 y4 y5 M := hw
  refine lv_goto (tgt := 49) X.1.1 X.1.2.1 dX10_laysPages_248 (by decide) ?_
  exact hK49 _ _ _ _ _ _ hw hy1 hy2 hy3 hy4 hy5 _ _ hR hS _ (lv_sub hl [0, 1, 2, 3, 4, 5] rfl)
set_option maxHeartbeats 4000000 in
set_option maxRecDepth 100000 in
theorem t_X10_laysPages_212 (X : CX p m c cX10_laysPages 9 s args RX10 G B κ meth (some .boolean)) {Qm : Int → Mem → Prop} {K49 : Int → Int → Int → Int → Int → Mem → Prop} (hK49 : ∀ y1 : Int, ∀ y2 : Int, ∀ y3 : Int, ∀ y4 : Int, ∀ y5 : Int, ∀ M : Mem, K49 y1 y2 y3 y4 y5 M → inR y1 → inR y2 → inR y3 → inR y4 → inR y5 → ∀ (H : Heap) (locs : List Loc), Rp G e0 α κ B M H → va_S (fun q => B ≤ q) s.heap H locs → ∀ (ls : Array Slot), lv_has ls 9 [(0, .ref (α 11 0)), (1, .int (Int32.ofInt y1)), (2, .int (Int32.ofInt y2)), (3, .int (Int32.ofInt y3)), (4, .int (Int32.ofInt y4)), (5, .int (Int32.ofInt y5))] → WI p l e 7 s m args below meth c G e0 α κ B Qm H locs 49 ls []) : ∀ y1 : Int, ∀ y3 : Int, ∀ y4 : Int, ∀ y5 : Int, ∀ M : Mem, wp_X10_laysPages_212 Qm K49 y1 y3 y4 y5 M → inR y1 → inR y3 → inR y4 → inR y5 → ∀ (H : Heap) (locs : List Loc), Rp G e0 α κ B M H → va_S (fun q => B ≤ q) s.heap H locs → ∀ (ls : Array Slot), lv_has ls 9 [(0, .ref (α 11 0)), (1, .int (Int32.ofInt y1)), (3, .int (Int32.ofInt y3)), (4, .int (Int32.ofInt y4)), (5, .int (Int32.ofInt y5))] → WI p l e 7 s m args below meth c G e0 α κ B Qm H locs 212 ls [] := by
  intro y1 y3 y4 y5 M hw hy1 hy3 hy4 hy5 H locs hR hS ls hl
  have hw : ((y3 = 0 → ∀ M37 : Mem, M37 = up M 11 0 49 0 → ∀ M39 : Mem, M39 = up M37 11 0 46 0 → Qm 0 M39) ∧ (¬ y3 = 0 → wp_X10_begins1 M fun (M41 : Mem) => (inR ((M41 11 0 49) - 1)) ∧ wp_X10_roomOf ((M41 11 0 49) - 1) M41 fun (x45 : Int) (M44 : Mem) => wp_X10_laysPages_248 Qm K49 y1 x45 0 y4 y5 M44)) := hw
  refine lv_iload_n X.1.1 X.1.2.1 dX10_laysPages_212 rfl (lv_at hl 2 rfl) ?_
  refine sa_if_eq (tgt := 236) X.1 hy3 dX10_laysPages_213 (by decide) (fun hc => ?_) (fun hc => ?_)
  · have hw := hw.1 hc
    refine lv_aload_n X.1.1 X.1.2.1 dX10_laysPages_236 rfl (lv_at hl 0 rfl) ?_
    refine sa_const X.1 dX10_laysPages_237 ?_
    refine pt_11_49 X hR hS (okf X.2.2.1 rfl) (inR_c (a := 0) rfl) kw_1578 dX10_laysPages_238 (fun H locs hR hS => ?_)
    obtain ⟨M37, e38⟩ : ∃ z : Mem, z = up M 11 0 49 0 := ⟨_, rfl⟩
    rw [← e38] at hR
    have hw := hw M37 e38
    refine lv_aload_n X.1.1 X.1.2.1 dX10_laysPages_241 rfl (lv_at hl 0 rfl) ?_
    refine sa_const X.1 dX10_laysPages_242 ?_
    refine pt_11_46 X hR hS (okf X.2.2.1 rfl) (inR_c (a := 0) rfl) kw_1575 dX10_laysPages_243 (fun H locs hR hS => ?_)
    obtain ⟨M39, e40⟩ : ∃ z : Mem, z = up M37 11 0 46 0 := ⟨_, rfl⟩
    rw [← e40] at hR
    have hw := hw M39 e40
    refine sa_const X.1 dX10_laysPages_246 ?_
    exact sa_zret X.1 X.2.2.2.1 X.2.2.2.2 hR hS (Or.inl rfl) hw dX10_laysPages_247
  · have hw := hw.2 hc
    refine lv_aload_n X.1.1 X.1.2.1 dX10_laysPages_216 rfl (lv_at hl 0 rfl) ?_
    refine cs_X10_begins1 X  (kc := 7) rmL_ok rm_c (by decide) hR hS kw_1993 hl.1 dX10_laysPages_217 (Nat.le_of_ble_eq_true rfl) hw (fun M41 H locs hw hR hS => ?_)
    refine lv_aload_n X.1.1 X.1.2.1 dX10_laysPages_220 rfl (lv_at hl 0 rfl) ?_
    refine lv_aload_n X.1.1 X.1.2.1 dX10_laysPages_221 rfl (lv_at hl 0 rfl) ?_
    refine gt_11_49 X hR (okf X.2.2.1 rfl) kw_1578 dX10_laysPages_222 ?_
    have r42 := hR.r 11 0 49
    refine sa_const X.1 dX10_laysPages_225 ?_
    have c43 := hw.1
    have hw := hw.2
    refine sa_isub X.1 dX10_laysPages_226 ?_
    refine cs_X10_roomOf X c43 (kc := 7) rmL_ok rm_c (by decide) hR hS kw_1997 hl.1 dX10_laysPages_227 (Nat.le_of_ble_eq_true rfl) hw (fun x45 M44 H locs hw r46 hR hS => ?_)
    refine lv_istore_n (lv' := [(2, .int (Int32.ofInt x45)), (0, .ref (α 11 0)), (1, .int (Int32.ofInt y1)), (3, .int (Int32.ofInt y3)), (4, .int (Int32.ofInt y4)), (5, .int (Int32.ofInt y5))]) X.1.1 X.1.2.1 dX10_laysPages_230 rfl hl (by decide) rfl (fun ls hl => ?_)
    refine sa_const X.1 dX10_laysPages_231 ?_
    refine lv_istore_n (lv' := [(3, .int (Int32.ofInt 0)), (2, .int (Int32.ofInt x45)), (0, .ref (α 11 0)), (1, .int (Int32.ofInt y1)), (4, .int (Int32.ofInt y4)), (5, .int (Int32.ofInt y5))]) X.1.1 X.1.2.1 dX10_laysPages_232 rfl hl (by decide) rfl (fun ls hl => ?_)
    refine lv_goto (tgt := 248) X.1.1 X.1.2.1 dX10_laysPages_233 (by decide) ?_
    exact t_X10_laysPages_248 X hK49 _ _ _ _ _ _ hw hy1 r46 (inR_c (a := 0) rfl) hy4 hy5 _ _ hR hS _ (lv_sub hl [2, 3, 1, 0, 4, 5] rfl)
set_option maxHeartbeats 4000000 in
set_option maxRecDepth 100000 in
theorem t_X10_laysPages_167 (X : CX p m c cX10_laysPages 9 s args RX10 G B κ meth (some .boolean)) {Qm : Int → Mem → Prop} {K49 : Int → Int → Int → Int → Int → Mem → Prop} (hK49 : ∀ y1 : Int, ∀ y2 : Int, ∀ y3 : Int, ∀ y4 : Int, ∀ y5 : Int, ∀ M : Mem, K49 y1 y2 y3 y4 y5 M → inR y1 → inR y2 → inR y3 → inR y4 → inR y5 → ∀ (H : Heap) (locs : List Loc), Rp G e0 α κ B M H → va_S (fun q => B ≤ q) s.heap H locs → ∀ (ls : Array Slot), lv_has ls 9 [(0, .ref (α 11 0)), (1, .int (Int32.ofInt y1)), (2, .int (Int32.ofInt y2)), (3, .int (Int32.ofInt y3)), (4, .int (Int32.ofInt y4)), (5, .int (Int32.ofInt y5))] → WI p l e 7 s m args below meth c G e0 α κ B Qm H locs 49 ls []) : ∀ y1 : Int, ∀ y3 : Int, ∀ y4 : Int, ∀ y5 : Int, ∀ y7 : Int, ∀ y8 : Int, ∀ M : Mem, wp_X10_laysPages_167 Qm K49 y1 y3 y4 y5 y7 y8 M → inR y1 → inR y3 → inR y4 → inR y5 → inR y7 → inR y8 → ∀ (H : Heap) (locs : List Loc), Rp G e0 α κ B M H → va_S (fun q => B ≤ q) s.heap H locs → ∀ (ls : Array Slot), lv_has ls 9 [(0, .ref (α 11 0)), (1, .int (Int32.ofInt y1)), (3, .int (Int32.ofInt y3)), (4, .int (Int32.ofInt y4)), (5, .int (Int32.ofInt y5)), (7, .int (Int32.ofInt y7)), (8, .int (Int32.ofInt y8))] → WI p l e 7 s m args below meth c G e0 α κ B Qm H locs 167 ls [] := by
  intro y1 y3 y4 y5 y7 y8 M hw hy1 hy3 hy4 hy5 hy7 hy8 H locs hR hS ls hl
  have hw : ((y8 < 1 → wp_X10_laysPages_212 Qm K49 y1 y3 y4 y5 M) ∧ (1 ≤ y8 → wp_X10_puts y4 y5 y8 y7 M fun (M47 : Mem) => (inR (y5 + y8)) ∧ wp_X10_begins1 M47 fun (M49 : Mem) => (inR ((M49 11 0 49) - 1)) ∧ wp_X10_roomOf ((M49 11 0 49) - 1) M49 fun (x53 : Int) (M52 : Mem) => wp_X10_laysPages_248 Qm K49 y1 x53 0 y4 (y5 + y8) M52)) := hw
  refine lv_iload X.1.1 X.1.2.1 dX10_laysPages_167 (lv_at hl 6 rfl) ?_
  refine sa_const X.1 dX10_laysPages_169 ?_
  refine sa_icmp_lt (tgt := 212) X.1 hy8 (inR_c (a := 1) rfl) dX10_laysPages_170 (by decide) (fun hc => ?_) (fun hc => ?_)
  · have hw := hw.1 hc
    exact t_X10_laysPages_212 X hK49 _ _ _ _ _ hw hy1 hy3 hy4 hy5 _ _ hR hS _ (lv_sub hl [0, 1, 2, 3, 4] rfl)
  · have hw := hw.2 hc
    refine lv_aload_n X.1.1 X.1.2.1 dX10_laysPages_173 rfl (lv_at hl 0 rfl) ?_
    refine lv_iload X.1.1 X.1.2.1 dX10_laysPages_174 (lv_at hl 3 rfl) ?_
    refine lv_iload X.1.1 X.1.2.1 dX10_laysPages_176 (lv_at hl 4 rfl) ?_
    refine lv_iload X.1.1 X.1.2.1 dX10_laysPages_178 (lv_at hl 6 rfl) ?_
    refine lv_iload X.1.1 X.1.2.1 dX10_laysPages_180 (lv_at hl 5 rfl) ?_
    refine cs_X10_puts X hy4 hy5 hy8 hy7 (kc := 7) rmL_ok rm_c (by decide) hR hS kw_2001 hl.1 dX10_laysPages_182 (Nat.le_of_ble_eq_true rfl) hw (fun M47 H locs hw hR hS => ?_)
    refine lv_iload X.1.1 X.1.2.1 dX10_laysPages_185 (lv_at hl 4 rfl) ?_
    refine lv_iload X.1.1 X.1.2.1 dX10_laysPages_187 (lv_at hl 6 rfl) ?_
    have c48 := hw.1
    have hw := hw.2
    refine sa_iadd X.1 dX10_laysPages_189 ?_
    refine lv_istore (lv' := [(5, .int (Int32.ofInt (y5 + y8))), (0, .ref (α 11 0)), (1, .int (Int32.ofInt y1)), (3, .int (Int32.ofInt y3)), (4, .int (Int32.ofInt y4)), (7, .int (Int32.ofInt y7)), (8, .int (Int32.ofInt y8))]) X.1.1 X.1.2.1 dX10_laysPages_190 hl (by decide) rfl (fun ls hl => ?_)
    refine lv_aload_n X.1.1 X.1.2.1 dX10_laysPages_192 rfl (lv_at hl 1 rfl) ?_
    refine cs_X10_begins1 X  (kc := 7) rmL_ok rm_c (by decide) hR hS kw_1993 hl.1 dX10_laysPages_193 (Nat.le_of_ble_eq_true rfl) hw (fun M49 H locs hw hR hS => ?_)
    refine lv_aload_n X.1.1 X.1.2.1 dX10_laysPages_196 rfl (lv_at hl 1 rfl) ?_
    refine lv_aload_n X.1.1 X.1.2.1 dX10_laysPages_197 rfl (lv_at hl 1 rfl) ?_
    refine gt_11_49 X hR (okf X.2.2.1 rfl) kw_1578 dX10_laysPages_198 ?_
    have r50 := hR.r 11 0 49
    refine sa_const X.1 dX10_laysPages_201 ?_
    have c51 := hw.1
    have hw := hw.2
    refine sa_isub X.1 dX10_laysPages_202 ?_
    refine cs_X10_roomOf X c51 (kc := 7) rmL_ok rm_c (by decide) hR hS kw_1997 hl.1 dX10_laysPages_203 (Nat.le_of_ble_eq_true rfl) hw (fun x53 M52 H locs hw r54 hR hS => ?_)
    refine lv_istore_n (lv' := [(2, .int (Int32.ofInt x53)), (5, .int (Int32.ofInt (y5 + y8))), (0, .ref (α 11 0)), (1, .int (Int32.ofInt y1)), (3, .int (Int32.ofInt y3)), (4, .int (Int32.ofInt y4)), (7, .int (Int32.ofInt y7)), (8, .int (Int32.ofInt y8))]) X.1.1 X.1.2.1 dX10_laysPages_206 rfl hl (by decide) rfl (fun ls hl => ?_)
    refine sa_const X.1 dX10_laysPages_207 ?_
    refine lv_istore_n (lv' := [(3, .int (Int32.ofInt 0)), (2, .int (Int32.ofInt x53)), (5, .int (Int32.ofInt (y5 + y8))), (0, .ref (α 11 0)), (1, .int (Int32.ofInt y1)), (4, .int (Int32.ofInt y4)), (7, .int (Int32.ofInt y7)), (8, .int (Int32.ofInt y8))]) X.1.1 X.1.2.1 dX10_laysPages_208 rfl hl (by decide) rfl (fun ls hl => ?_)
    refine lv_goto (tgt := 248) X.1.1 X.1.2.1 dX10_laysPages_209 (by decide) ?_
    exact t_X10_laysPages_248 X hK49 _ _ _ _ _ _ hw hy1 r54 (inR_c (a := 0) rfl) hy4 c48 _ _ hR hS _ (lv_sub hl [3, 4, 1, 0, 5, 2] rfl)
set_option maxHeartbeats 4000000 in
set_option maxRecDepth 100000 in
theorem t_X10_laysPages_49 (X : CX p m c cX10_laysPages 9 s args RX10 G B κ meth (some .boolean)) {Qm : Int → Mem → Prop} : ∀ n : Nat, ∀ y1 : Int, ∀ y2 : Int, ∀ y3 : Int, ∀ y4 : Int, ∀ y5 : Int, ∀ M : Mem, wp_X10_laysPages_49 Qm n y1 y2 y3 y4 y5 M → inR y1 → inR y2 → inR y3 → inR y4 → inR y5 → ∀ (H : Heap) (locs : List Loc), Rp G e0 α κ B M H → va_S (fun q => B ≤ q) s.heap H locs → ∀ (ls : Array Slot), lv_has ls 9 [(0, .ref (α 11 0)), (1, .int (Int32.ofInt y1)), (2, .int (Int32.ofInt y2)), (3, .int (Int32.ofInt y3)), (4, .int (Int32.ofInt y4)), (5, .int (Int32.ofInt y5))] → WI p l e 7 s m args below meth c G e0 α κ B Qm H locs 49 ls [] := by
  intro n
  induction n with
  | zero =>
    intro y1 y2 y3 y4 y5 M hw hy1 hy2 hy3 hy4 hy5 H locs hR hS ls hl
    exact hw.elim
  | succ n ih =>
    intro y1 y2 y3 y4 y5 M hw hy1 hy2 hy3 hy4 hy5 H locs hR hS ls hl
    have hw : (((M 11 0 41) ≤ y4 → Qm 1 M) ∧ (y4 < (M 11 0 41) → (0 ≤ y4 ∧ y4 < 60) ∧ (inR ((M 87 0 y4) - y5)) ∧ (y5 ≤ 0 → (0 ≤ y4 ∧ y4 < 60) ∧ True) ∧ (inR (y2 - y1)) ∧ (inR ((y2 - y1) - (if y5 ≤ 0 then (M 88 0 y4) else 0))) ∧ (inR (((M 87 0 y4) - y5) + (if y5 ≤ 0 then (M 88 0 y4) else 0))) ∧ (inR (y4 + 1)) ∧ (inR (y2 - (if (M 11 0 41) ≤ (y4 + 1) then (0 : Int) else y1))) ∧ (((y2 - (if (M 11 0 41) ≤ (y4 + 1) then (0 : Int) else y1)) < (((M 87 0 y4) - y5) + (if y5 ≤ 0 then (M 88 0 y4) else 0)) → (0 ≤ y4 ∧ y4 < 60) ∧ ((¬ (M 89 0 y4) = 0 → wp_X10_laysPages_167 Qm (wp_X10_laysPages_49 Qm n) y1 y3 y4 y5 (if y5 ≤ 0 then (M 88 0 y4) else 0) ((y2 - y1) - (if y5 ≤ 0 then (M 88 0 y4) else 0)) M) ∧ ((M 89 0 y4) = 0 → ((¬ y3 = 0 → wp_X10_laysPages_212 Qm (wp_X10_laysPages_49 Qm n) y1 y3 y4 y5 M) ∧ (y3 = 0 → wp_X10_laysPages_167 Qm (wp_X10_laysPages_49 Qm n) y1 y3 y4 y5 (if y5 ≤ 0 then (M 88 0 y4) else 0) ((y2 - y1) - (if y5 ≤ 0 then (M 88 0 y4) else 0)) M))))) ∧ ((((M 87 0 y4) - y5) + (if y5 ≤ 0 then (M 88 0 y4) else 0)) ≤ (y2 - (if (M 11 0 41) ≤ (y4 + 1) then (0 : Int) else y1)) → wp_X10_puts y4 y5 ((M 87 0 y4) - y5) (if y5 ≤ 0 then (M 88 0 y4) else 0) M fun (M55 : Mem) => (inR (((M 87 0 y4) - y5) + (if y5 ≤ 0 then (M 88 0 y4) else 0))) ∧ (inR (y2 - (((M 87 0 y4) - y5) + (if y5 ≤ 0 then (M 88 0 y4) else 0)))) ∧ (inR (y4 + 1)) ∧ wp_X10_laysPages_248 Qm (wp_X10_laysPages_49 Qm n) y1 (y2 - (((M 87 0 y4) - y5) + (if y5 ≤ 0 then (M 88 0 y4) else 0))) 1 (y4 + 1) 0 M55)))) := hw
    refine lv_iload X.1.1 X.1.2.1 dX10_laysPages_49 (lv_at hl 4 rfl) ?_
    refine lv_aload_n X.1.1 X.1.2.1 dX10_laysPages_51 rfl (lv_at hl 0 rfl) ?_
    refine gt_11_41 X hR (okf X.2.2.1 rfl) kw_1570 dX10_laysPages_52 ?_
    have r17 := hR.r 11 0 41
    refine sa_icmp_ge (tgt := 251) X.1 hy4 r17 dX10_laysPages_55 (by decide) (fun hc => ?_) (fun hc => ?_)
    · have hw := hw.1 hc
      refine sa_const X.1 dX10_laysPages_251 ?_
      exact sa_zret X.1 X.2.2.2.1 X.2.2.2.2 hR hS (Or.inr rfl) hw dX10_laysPages_252
    · have hw := hw.2 hc
      refine lv_aload_n X.1.1 X.1.2.1 dX10_laysPages_58 rfl (lv_at hl 0 rfl) ?_
      refine gt_11_38 X hR (okf X.2.2.1 rfl) kw_1567 dX10_laysPages_59 ?_
      refine lv_iload X.1.1 X.1.2.1 dX10_laysPages_62 (lv_at hl 4 rfl) ?_
      have c18 := hw.1
      have hw := hw.2
      refine ra_87 X hR (okf X.2.2.1 rfl) c18 dX10_laysPages_64 ?_
      have r19 := hR.r 87 0 y4
      refine lv_iload X.1.1 X.1.2.1 dX10_laysPages_65 (lv_at hl 5 rfl) ?_
      have c20 := hw.1
      have hw := hw.2
      refine sa_isub X.1 dX10_laysPages_67 ?_
      refine lv_istore (lv' := [(6, .int (Int32.ofInt ((M 87 0 y4) - y5))), (0, .ref (α 11 0)), (1, .int (Int32.ofInt y1)), (2, .int (Int32.ofInt y2)), (3, .int (Int32.ofInt y3)), (4, .int (Int32.ofInt y4)), (5, .int (Int32.ofInt y5))]) X.1.1 X.1.2.1 dX10_laysPages_68 hl (by decide) rfl (fun ls hl => ?_)
      refine lv_iload X.1.1 X.1.2.1 dX10_laysPages_70 (lv_at hl 6 rfl) ?_
      have s22 := hw.1
      have hw := hw.2
      have r23 := inR_ite (c := y5 ≤ 0) (hR.r 88 0 y4) (inR_c (a := 0) rfl)
      refine cut_j (A := ∀ v24 : Int, v24 = (if y5 ≤ 0 then (M 88 0 y4) else 0) → WI p l e 7 s m args below meth c G e0 α κ B Qm H locs 86 ls [.int (Int32.ofInt v24)]) (fun J25 => ?_) ?_
      · refine sa_if_le (tgt := 79) X.1 hy5 dX10_laysPages_72 (by decide) (fun hc => ?_) (fun hc => ?_)
        · have hw := s22 hc
          refine lv_aload_n X.1.1 X.1.2.1 dX10_laysPages_79 rfl (lv_at hl 1 rfl) ?_
          refine gt_11_39 X hR (okf X.2.2.1 rfl) kw_1568 dX10_laysPages_80 ?_
          refine lv_iload X.1.1 X.1.2.1 dX10_laysPages_83 (lv_at hl 5 rfl) ?_
          have c21 := hw.1
          have hw := hw.2
          refine ra_88 X hR (okf X.2.2.1 rfl) c21 dX10_laysPages_85 ?_
          exact J25 ((M 88 0 y4)) (if_pos (c := y5 ≤ 0) hc).symm
        · skip
          refine sa_const X.1 dX10_laysPages_75 ?_
          refine lv_goto (tgt := 86) X.1.1 X.1.2.1 dX10_laysPages_76 (by decide) ?_
          exact J25 (0) (if_neg (c := y5 ≤ 0) (Int.not_le.mpr hc)).symm
      intro v24 hv24
      subst hv24
      refine lv_istore (lv' := [(7, .int (Int32.ofInt (if y5 ≤ 0 then (M 88 0 y4) else 0))), (6, .int (Int32.ofInt ((M 87 0 y4) - y5))), (0, .ref (α 11 0)), (1, .int (Int32.ofInt y1)), (2, .int (Int32.ofInt y2)), (3, .int (Int32.ofInt y3)), (4, .int (Int32.ofInt y4)), (5, .int (Int32.ofInt y5))]) X.1.1 X.1.2.1 dX10_laysPages_86 hl (by decide) rfl (fun ls hl => ?_)
      refine lv_iload_n X.1.1 X.1.2.1 dX10_laysPages_88 rfl (lv_at hl 4 rfl) ?_
      refine lv_iload_n X.1.1 X.1.2.1 dX10_laysPages_89 rfl (lv_at hl 3 rfl) ?_
      have c26 := hw.1
      have hw := hw.2
      refine sa_isub X.1 dX10_laysPages_90 ?_
      refine lv_iload X.1.1 X.1.2.1 dX10_laysPages_91 (lv_at hl 0 rfl) ?_
      have c27 := hw.1
      have hw := hw.2
      refine sa_isub X.1 dX10_laysPages_93 ?_
      refine lv_istore (lv' := [(8, .int (Int32.ofInt ((y2 - y1) - (if y5 ≤ 0 then (M 88 0 y4) else 0)))), (7, .int (Int32.ofInt (if y5 ≤ 0 then (M 88 0 y4) else 0))), (6, .int (Int32.ofInt ((M 87 0 y4) - y5))), (0, .ref (α 11 0)), (1, .int (Int32.ofInt y1)), (2, .int (Int32.ofInt y2)), (3, .int (Int32.ofInt y3)), (4, .int (Int32.ofInt y4)), (5, .int (Int32.ofInt y5))]) X.1.1 X.1.2.1 dX10_laysPages_94 hl (by decide) rfl (fun ls hl => ?_)
      refine lv_iload X.1.1 X.1.2.1 dX10_laysPages_96 (lv_at hl 2 rfl) ?_
      refine lv_iload X.1.1 X.1.2.1 dX10_laysPages_98 (lv_at hl 1 rfl) ?_
      have c28 := hw.1
      have hw := hw.2
      refine sa_iadd X.1 dX10_laysPages_100 ?_
      refine lv_iload_n X.1.1 X.1.2.1 dX10_laysPages_101 rfl (lv_at hl 5 rfl) ?_
      refine lv_iload X.1.1 X.1.2.1 dX10_laysPages_102 (lv_at hl 7 rfl) ?_
      refine sa_const X.1 dX10_laysPages_104 ?_
      have c29 := hw.1
      have hw := hw.2
      refine sa_iadd X.1 dX10_laysPages_105 ?_
      refine lv_aload_n X.1.1 X.1.2.1 dX10_laysPages_106 rfl (lv_at hl 3 rfl) ?_
      refine gt_11_41 X hR (okf X.2.2.1 rfl) kw_1570 dX10_laysPages_107 ?_
      have r30 := hR.r 11 0 41
      have r31 := inR_ite (c := (M 11 0 41) ≤ (y4 + 1)) (inR_c (a := 0) rfl) hy1
      refine cut_j (A := ∀ v32 : Int, v32 = (if (M 11 0 41) ≤ (y4 + 1) then (0 : Int) else y1) → WI p l e 7 s m args below meth c G e0 α κ B Qm H locs 118 ls [.int (Int32.ofInt v32), .int (Int32.ofInt y2), .int (Int32.ofInt (((M 87 0 y4) - y5) + (if y5 ≤ 0 then (M 88 0 y4) else 0)))]) (fun J33 => ?_) ?_
      · refine sa_icmp_ge (tgt := 117) X.1 c29 r30 dX10_laysPages_110 (by decide) (fun hc => ?_) (fun hc => ?_)
        · skip
          refine sa_const X.1 dX10_laysPages_117 ?_
          exact J33 (0) (if_pos (c := (M 11 0 41) ≤ (y4 + 1)) hc).symm
        · skip
          refine lv_iload_n X.1.1 X.1.2.1 dX10_laysPages_113 rfl (lv_at hl 4 rfl) ?_
          refine lv_goto (tgt := 118) X.1.1 X.1.2.1 dX10_laysPages_114 (by decide) ?_
          exact J33 (y1) (if_neg (c := (M 11 0 41) ≤ (y4 + 1)) (Int.not_le.mpr hc)).symm
      intro v32 hv32
      subst hv32
      have c34 := hw.1
      have hw := hw.2
      refine sa_isub X.1 dX10_laysPages_118 ?_
      refine sa_icmp_gt (tgt := 153) X.1 c28 c34 dX10_laysPages_119 (by decide) (fun hc => ?_) (fun hc => ?_)
      · have hw := hw.1 hc
        refine lv_aload_n X.1.1 X.1.2.1 dX10_laysPages_153 rfl (lv_at hl 3 rfl) ?_
        refine gt_11_40 X hR (okf X.2.2.1 rfl) kw_1569 dX10_laysPages_154 ?_
        refine lv_iload X.1.1 X.1.2.1 dX10_laysPages_157 (lv_at hl 7 rfl) ?_
        have c35 := hw.1
        have hw := hw.2
        refine ra_89 X hR (okf X.2.2.1 rfl) c35 dX10_laysPages_159 ?_
        have r36 := hR.r 89 0 y4
        refine sa_if_ne (tgt := 167) X.1 r36 dX10_laysPages_160 (by decide) (fun hc => ?_) (fun hc => ?_)
        · have hw := hw.1 hc
          exact t_X10_laysPages_167 X ih _ _ _ _ _ _ _ hw hy1 hy3 hy4 hy5 r23 c27 _ _ hR hS _ (lv_sub hl [3, 4, 6, 7, 8, 1, 0] rfl)
        · have hw := hw.2 hc
          refine lv_iload_n X.1.1 X.1.2.1 dX10_laysPages_163 rfl (lv_at hl 6 rfl) ?_
          refine sa_if_ne (tgt := 212) X.1 hy3 dX10_laysPages_164 (by decide) (fun hc => ?_) (fun hc => ?_)
          · have hw := hw.1 hc
            exact t_X10_laysPages_212 X ih _ _ _ _ _ hw hy1 hy3 hy4 hy5 _ _ hR hS _ (lv_sub hl [3, 4, 6, 7, 8] rfl)
          · have hw := hw.2 hc
            exact t_X10_laysPages_167 X ih _ _ _ _ _ _ _ hw hy1 hy3 hy4 hy5 r23 c27 _ _ hR hS _ (lv_sub hl [3, 4, 6, 7, 8, 1, 0] rfl)
      · have hw := hw.2 hc
        refine lv_aload_n X.1.1 X.1.2.1 dX10_laysPages_122 rfl (lv_at hl 3 rfl) ?_
        refine lv_iload X.1.1 X.1.2.1 dX10_laysPages_123 (lv_at hl 7 rfl) ?_
        refine lv_iload X.1.1 X.1.2.1 dX10_laysPages_125 (lv_at hl 8 rfl) ?_
        refine lv_iload X.1.1 X.1.2.1 dX10_laysPages_127 (lv_at hl 2 rfl) ?_
        refine lv_iload X.1.1 X.1.2.1 dX10_laysPages_129 (lv_at hl 1 rfl) ?_
        refine cs_X10_puts X hy4 hy5 c20 r23 (kc := 7) rmL_ok rm_c (by decide) hR hS kw_2001 hl.1 dX10_laysPages_131 (Nat.le_of_ble_eq_true rfl) hw (fun M55 H locs hw hR hS => ?_)
        refine lv_iload_n X.1.1 X.1.2.1 dX10_laysPages_134 rfl (lv_at hl 5 rfl) ?_
        refine lv_iload X.1.1 X.1.2.1 dX10_laysPages_135 (lv_at hl 2 rfl) ?_
        refine lv_iload X.1.1 X.1.2.1 dX10_laysPages_137 (lv_at hl 1 rfl) ?_
        have c56 := hw.1
        have hw := hw.2
        refine sa_iadd X.1 dX10_laysPages_139 ?_
        have c57 := hw.1
        have hw := hw.2
        refine sa_isub X.1 dX10_laysPages_140 ?_
        refine lv_istore_n (lv' := [(2, .int (Int32.ofInt (y2 - (((M 87 0 y4) - y5) + (if y5 ≤ 0 then (M 88 0 y4) else 0))))), (8, .int (Int32.ofInt ((y2 - y1) - (if y5 ≤ 0 then (M 88 0 y4) else 0)))), (7, .int (Int32.ofInt (if y5 ≤ 0 then (M 88 0 y4) else 0))), (6, .int (Int32.ofInt ((M 87 0 y4) - y5))), (0, .ref (α 11 0)), (1, .int (Int32.ofInt y1)), (3, .int (Int32.ofInt y3)), (4, .int (Int32.ofInt y4)), (5, .int (Int32.ofInt y5))]) X.1.1 X.1.2.1 dX10_laysPages_141 rfl hl (by decide) rfl (fun ls hl => ?_)
        refine sa_const X.1 dX10_laysPages_142 ?_
        refine lv_istore_n (lv' := [(3, .int (Int32.ofInt 1)), (2, .int (Int32.ofInt (y2 - (((M 87 0 y4) - y5) + (if y5 ≤ 0 then (M 88 0 y4) else 0))))), (8, .int (Int32.ofInt ((y2 - y1) - (if y5 ≤ 0 then (M 88 0 y4) else 0)))), (7, .int (Int32.ofInt (if y5 ≤ 0 then (M 88 0 y4) else 0))), (6, .int (Int32.ofInt ((M 87 0 y4) - y5))), (0, .ref (α 11 0)), (1, .int (Int32.ofInt y1)), (4, .int (Int32.ofInt y4)), (5, .int (Int32.ofInt y5))]) X.1.1 X.1.2.1 dX10_laysPages_143 rfl hl (by decide) rfl (fun ls hl => ?_)
        refine sa_const X.1 dX10_laysPages_144 ?_
        refine lv_istore (lv' := [(5, .int (Int32.ofInt 0)), (3, .int (Int32.ofInt 1)), (2, .int (Int32.ofInt (y2 - (((M 87 0 y4) - y5) + (if y5 ≤ 0 then (M 88 0 y4) else 0))))), (8, .int (Int32.ofInt ((y2 - y1) - (if y5 ≤ 0 then (M 88 0 y4) else 0)))), (7, .int (Int32.ofInt (if y5 ≤ 0 then (M 88 0 y4) else 0))), (6, .int (Int32.ofInt ((M 87 0 y4) - y5))), (0, .ref (α 11 0)), (1, .int (Int32.ofInt y1)), (4, .int (Int32.ofInt y4))]) X.1.1 X.1.2.1 dX10_laysPages_145 hl (by decide) rfl (fun ls hl => ?_)
        have c58 := hw.1
        have hw := hw.2
        refine lv_iinc (v := Int32.ofInt (y4 + 1)) (lv' := [(4, .int (Int32.ofInt (y4 + 1))), (5, .int (Int32.ofInt 0)), (3, .int (Int32.ofInt 1)), (2, .int (Int32.ofInt (y2 - (((M 87 0 y4) - y5) + (if y5 ≤ 0 then (M 88 0 y4) else 0))))), (8, .int (Int32.ofInt ((y2 - y1) - (if y5 ≤ 0 then (M 88 0 y4) else 0)))), (7, .int (Int32.ofInt (if y5 ≤ 0 then (M 88 0 y4) else 0))), (6, .int (Int32.ofInt ((M 87 0 y4) - y5))), (0, .ref (α 11 0)), (1, .int (Int32.ofInt y1))]) X.1.1 X.1.2.1 dX10_laysPages_147 hl (k := 8) rfl (Int32.ofInt_add _ _).symm (by decide) rfl (fun ls hl => ?_)
        refine lv_goto (tgt := 248) X.1.1 X.1.2.1 dX10_laysPages_150 (by decide) ?_
        exact t_X10_laysPages_248 X ih _ _ _ _ _ _ hw hy1 c57 (inR_c (a := 1) rfl) c58 (inR_c (a := 0) rfl) _ _ hR hS _ (lv_sub hl [7, 8, 3, 2, 0, 1] rfl)
set_option maxHeartbeats 4000000 in
set_option maxRecDepth 100000 in
theorem t_X10_laysPages (X : CX p m c cX10_laysPages 9 s args RX10 G B κ meth (some .boolean)) {M : Mem} {Qm : Int → Mem → Prop} (hw : wp_X10_laysPages M Qm) (H : Heap) (locs : List Loc) (hR : Rp G e0 α κ B M H) (hS : va_S (fun q => B ≤ q) s.heap H locs) (ls : Array Slot) (hl : lv_has ls 9 [(0, .ref (α 11 0))]) : WI p l e 7 s m args below meth c G e0 α κ B Qm H locs 0 ls [] := by
  have hw : wp_X10_laysHeights M fun (M1 : Mem) => wp_X10_laysItems M1 fun (M2 : Mem) => wp_X10_isAnyTotalled M2 fun (x4 : Int) (M3 : Mem) => ∀ M9 : Mem, M9 = up M3 11 0 46 0 → ∀ M11 : Mem, M11 = up M9 11 0 49 0 → wp_X10_begins1 M11 fun (M13 : Mem) => wp_X10_roomOf 0 M13 fun (x15 : Int) (M14 : Mem) => (∃ n59 : Nat, wp_X10_laysPages_49 Qm n59 (if x4 = 0 then (0 : Int) else 1) x15 0 0 0 M14) := hw
  refine lv_aload_n X.1.1 X.1.2.1 dX10_laysPages_0 rfl (lv_at hl 0 rfl) ?_
  refine cs_X10_laysHeights X  (kc := 7) rmL_ok rm_c (by decide) hR hS kw_1917 hl.1 dX10_laysPages_1 (Nat.le_of_ble_eq_true rfl) hw (fun M1 H locs hw hR hS => ?_)
  refine lv_aload_n X.1.1 X.1.2.1 dX10_laysPages_4 rfl (lv_at hl 0 rfl) ?_
  refine cs_X10_laysItems X  (kc := 7) rmL_ok rm_c (by decide) hR hS kw_1977 hl.1 dX10_laysPages_5 (Nat.le_of_ble_eq_true rfl) hw (fun M2 H locs hw hR hS => ?_)
  refine lv_aload_n X.1.1 X.1.2.1 dX10_laysPages_8 rfl (lv_at hl 0 rfl) ?_
  refine cs_X10_isAnyTotalled X  (kc := 7) rmL_ok rm_c (by decide) hR hS kw_1981 hl.1 dX10_laysPages_9 (Nat.le_of_ble_eq_true rfl) hw (fun x4 M3 H locs hw r5 hR hS => ?_)
  have r6 := inR_ite (c := x4 = 0) (inR_c (a := 0) rfl) (inR_c (a := 1) rfl)
  refine cut_j (A := ∀ v7 : Int, v7 = (if x4 = 0 then (0 : Int) else 1) → WI p l e 7 s m args below meth c G e0 α κ B Qm H locs 20 ls [.int (Int32.ofInt v7)]) (fun J8 => ?_) ?_
  · refine sa_if_eq (tgt := 19) X.1 r5 dX10_laysPages_12 (by decide) (fun hc => ?_) (fun hc => ?_)
    · skip
      refine sa_const X.1 dX10_laysPages_19 ?_
      exact J8 (0) (if_pos (c := x4 = 0) hc).symm
    · skip
      refine sa_const X.1 dX10_laysPages_15 ?_
      refine lv_goto (tgt := 20) X.1.1 X.1.2.1 dX10_laysPages_16 (by decide) ?_
      exact J8 (1) (if_neg (c := x4 = 0) hc).symm
  intro v7 hv7
  subst hv7
  refine lv_istore_n (lv' := [(1, .int (Int32.ofInt (if x4 = 0 then (0 : Int) else 1))), (0, .ref (α 11 0))]) X.1.1 X.1.2.1 dX10_laysPages_20 rfl hl (by decide) rfl (fun ls hl => ?_)
  refine lv_aload_n X.1.1 X.1.2.1 dX10_laysPages_21 rfl (lv_at hl 1 rfl) ?_
  refine sa_const X.1 dX10_laysPages_22 ?_
  refine pt_11_46 X hR hS (okf X.2.2.1 rfl) (inR_c (a := 0) rfl) kw_1575 dX10_laysPages_23 (fun H locs hR hS => ?_)
  obtain ⟨M9, e10⟩ : ∃ z : Mem, z = up M3 11 0 46 0 := ⟨_, rfl⟩
  rw [← e10] at hR
  have hw := hw M9 e10
  refine lv_aload_n X.1.1 X.1.2.1 dX10_laysPages_26 rfl (lv_at hl 1 rfl) ?_
  refine sa_const X.1 dX10_laysPages_27 ?_
  refine pt_11_49 X hR hS (okf X.2.2.1 rfl) (inR_c (a := 0) rfl) kw_1578 dX10_laysPages_28 (fun H locs hR hS => ?_)
  obtain ⟨M11, e12⟩ : ∃ z : Mem, z = up M9 11 0 49 0 := ⟨_, rfl⟩
  rw [← e12] at hR
  have hw := hw M11 e12
  refine lv_aload_n X.1.1 X.1.2.1 dX10_laysPages_31 rfl (lv_at hl 1 rfl) ?_
  refine cs_X10_begins1 X  (kc := 7) rmL_ok rm_c (by decide) hR hS kw_1993 hl.1 dX10_laysPages_32 (Nat.le_of_ble_eq_true rfl) hw (fun M13 H locs hw hR hS => ?_)
  refine lv_aload_n X.1.1 X.1.2.1 dX10_laysPages_35 rfl (lv_at hl 1 rfl) ?_
  refine sa_const X.1 dX10_laysPages_36 ?_
  refine cs_X10_roomOf X (inR_c (a := 0) rfl) (kc := 7) rmL_ok rm_c (by decide) hR hS kw_1997 hl.1 dX10_laysPages_37 (Nat.le_of_ble_eq_true rfl) hw (fun x15 M14 H locs hw r16 hR hS => ?_)
  refine lv_istore_n (lv' := [(2, .int (Int32.ofInt x15)), (1, .int (Int32.ofInt (if x4 = 0 then (0 : Int) else 1))), (0, .ref (α 11 0))]) X.1.1 X.1.2.1 dX10_laysPages_40 rfl hl (by decide) rfl (fun ls hl => ?_)
  refine sa_const X.1 dX10_laysPages_41 ?_
  refine lv_istore_n (lv' := [(3, .int (Int32.ofInt 0)), (2, .int (Int32.ofInt x15)), (1, .int (Int32.ofInt (if x4 = 0 then (0 : Int) else 1))), (0, .ref (α 11 0))]) X.1.1 X.1.2.1 dX10_laysPages_42 rfl hl (by decide) rfl (fun ls hl => ?_)
  refine sa_const X.1 dX10_laysPages_43 ?_
  refine lv_istore (lv' := [(4, .int (Int32.ofInt 0)), (3, .int (Int32.ofInt 0)), (2, .int (Int32.ofInt x15)), (1, .int (Int32.ofInt (if x4 = 0 then (0 : Int) else 1))), (0, .ref (α 11 0))]) X.1.1 X.1.2.1 dX10_laysPages_44 hl (by decide) rfl (fun ls hl => ?_)
  refine sa_const X.1 dX10_laysPages_46 ?_
  refine lv_istore (lv' := [(5, .int (Int32.ofInt 0)), (4, .int (Int32.ofInt 0)), (3, .int (Int32.ofInt 0)), (2, .int (Int32.ofInt x15)), (1, .int (Int32.ofInt (if x4 = 0 then (0 : Int) else 1))), (0, .ref (α 11 0))]) X.1.1 X.1.2.1 dX10_laysPages_47 hl (by decide) rfl (fun ls hl => ?_)
  obtain ⟨n59, hw⟩ := hw
  exact t_X10_laysPages_49 X n59 _ _ _ _ _ _ hw r6 r16 (inR_c (a := 0) rfl) (inR_c (a := 0) rfl) (inR_c (a := 0) rfl) _ _ hR hS _ (lv_sub hl [5, 4, 3, 2, 1, 0] rfl)
theorem m_X10_laysPages {l : Launch} {G : Gx} {e0 : Nat} {α : Ax} {κ : Nat → Int} {B : Nat} (hκ : kOK κ) {M : Mem} {Qm : Int → Mem → Prop} (hw : wp_X10_laysPages M Qm) : CI l yX10_laysPages (Cond.code yX10_laysPages cX10_laysPages 9 (some .boolean)) 7 G e0 α κ B [.ref (α 11 0)] M Qm :=
  CI.mk hκ (by decide +kernel) rfl (Nat.le_of_ble_eq_true rfl) (lv := [(0, .ref (α 11 0))]) rfl (fun p e s m args below meth c ls X hR hS hl => t_X10_laysPages X hw _ _ hR hS ls hl)
theorem cs_X10_laysPages {cc : ByteArray} {nL : Nat} {own : String} {ret : Option FieldType} {idx pc : Nat} (X : CX p m c cc nL s args own G B κ meth ret) {kc : Nat} {R : Room} {cells slots : Nat} (hRr : RmOK R kc) (hcel : cells ≤ R.cells ∧ slots ≤ R.slots) (hk : 7 + 1 ≤ kc) {M : Mem} {H : Heap} {locs : List Loc} (hR : Rp G e0 α κ B M H) (hS : va_S (fun q => B ≤ q) s.heap H locs) (k1 : Cond.methodLink own idx yX10_laysPages ∈ gw) {ls : Array Slot} (hml : ls.size = nL) {rest : List Value} (hd : decode cc pc = .ok (.invokevirtual idx, 3)) (hrest : (rest.map fun v => v.category).sum ≤ 8) {Q : State → Prop} {Qm : Int → Mem → Prop} (hw : wp_X10_laysPages M Qm) (kk : ∀ (r : Int) (M1 : Mem) (H1 : Heap) (locs1 : List Loc), Qm r M1 → inR r → Rp G e0 α κ B M1 H1 → va_S (fun q => B ≤ q) s.heap H1 locs1 → W p l e R s m args below meth c H1 locs1 cells slots Q (F0 m (pc + 3) ls (.int (Int32.ofInt r) :: rest))) : W p l e R s m args below meth c H locs cells slots Q (F0 m pc ls (.ref (α 11 0) :: rest)) :=
  sa_callVI 7 (n := 0) (As := []) (rest := rest) X.1 X.2.1 hR hS (m_X10_laysPages X.2.2.1 hw) k1 kw_1975 kw_75 kw_104 kw_1976 ⟨rfl, by decide +kernel, by decide +kernel, by decide +kernel⟩ (rm_ok hRr hk (by decide)) (rc_11 X hR (okf X.2.2.1 rfl)) rfl rfl hrest hml hd hcel kk
def wp_X10_pages (M : Mem) (Qm : Int → Mem → Prop) : Prop := wp_X10_laysPages M fun (x2 : Int) (M1 : Mem) => wp_X10_goes x2 1 1 M1 fun (x5 : Int) (M4 : Mem) => Qm (if x5 = 0 then (0 : Int) else (M4 11 0 49)) M4
set_option maxHeartbeats 4000000 in
set_option maxRecDepth 100000 in
theorem t_X10_pages (X : CX p m c cX10_pages 1 s args RX10 G B κ meth (some .int)) {M : Mem} {Qm : Int → Mem → Prop} (hw : wp_X10_pages M Qm) (H : Heap) (locs : List Loc) (hR : Rp G e0 α κ B M H) (hS : va_S (fun q => B ≤ q) s.heap H locs) (ls : Array Slot) (hl : lv_has ls 1 [(0, .ref (α 11 0))]) : WI p l e 8 s m args below meth c G e0 α κ B Qm H locs 0 ls [] := by
  have hw : wp_X10_laysPages M fun (x2 : Int) (M1 : Mem) => wp_X10_goes x2 1 1 M1 fun (x5 : Int) (M4 : Mem) => Qm (if x5 = 0 then (0 : Int) else (M4 11 0 49)) M4 := hw
  refine lv_aload_n X.1.1 X.1.2.1 dX10_pages_0 rfl (lv_at hl 0 rfl) ?_
  refine lv_aload_n X.1.1 X.1.2.1 dX10_pages_1 rfl (lv_at hl 0 rfl) ?_
  refine cs_X10_laysPages X  (kc := 8) rmL_ok rm_c (by decide) hR hS kw_1973 hl.1 dX10_pages_2 (Nat.le_of_ble_eq_true rfl) hw (fun x2 M1 H locs hw r3 hR hS => ?_)
  refine sa_const X.1 dX10_pages_5 ?_
  refine sa_const X.1 dX10_pages_6 ?_
  refine cs_X10_goes X r3 (inR_c (a := 1) rfl) (inR_c (a := 1) rfl) (kc := 8) rmL_ok rm_c (by decide) hR hS kw_1721 hl.1 dX10_pages_7 (Nat.le_of_ble_eq_true rfl) hw (fun x5 M4 H locs hw r6 hR hS => ?_)
  have r7 := inR_ite (c := x5 = 0) (inR_c (a := 0) rfl) (hR.r 11 0 49)
  refine cut_j (A := ∀ v8 : Int, v8 = (if x5 = 0 then (0 : Int) else (M4 11 0 49)) → WI p l e 8 s m args below meth c G e0 α κ B Qm H locs 21 ls [.int (Int32.ofInt v8)]) (fun J9 => ?_) ?_
  · refine sa_if_eq (tgt := 20) X.1 r6 dX10_pages_10 (by decide) (fun hc => ?_) (fun hc => ?_)
    · skip
      refine sa_const X.1 dX10_pages_20 ?_
      exact J9 (0) (if_pos (c := x5 = 0) hc).symm
    · skip
      refine lv_aload_n X.1.1 X.1.2.1 dX10_pages_13 rfl (lv_at hl 0 rfl) ?_
      refine gt_11_49 X hR (okf X.2.2.1 rfl) kw_1578 dX10_pages_14 ?_
      refine lv_goto (tgt := 21) X.1.1 X.1.2.1 dX10_pages_17 (by decide) ?_
      exact J9 ((M4 11 0 49)) (if_neg (c := x5 = 0) hc).symm
  intro v8 hv8
  subst hv8
  exact sa_iret X.1 X.2.2.2.1 X.2.2.2.2 hR hS r7 hw dX10_pages_21
theorem m_X10_pages {l : Launch} {G : Gx} {e0 : Nat} {α : Ax} {κ : Nat → Int} {B : Nat} (hκ : kOK κ) {M : Mem} {Qm : Int → Mem → Prop} (hw : wp_X10_pages M Qm) : CI l yX10_pages (Cond.code yX10_pages cX10_pages 1 (some .int)) 8 G e0 α κ B [.ref (α 11 0)] M Qm :=
  CI.mk hκ (by decide +kernel) rfl (Nat.le_of_ble_eq_true rfl) (lv := [(0, .ref (α 11 0))]) rfl (fun p e s m args below meth c ls X hR hS hl => t_X10_pages X hw _ _ hR hS ls hl)
theorem cs_X10_pages {cc : ByteArray} {nL : Nat} {own : String} {ret : Option FieldType} {idx pc : Nat} (X : CX p m c cc nL s args own G B κ meth ret) {kc : Nat} {R : Room} {cells slots : Nat} (hRr : RmOK R kc) (hcel : cells ≤ R.cells ∧ slots ≤ R.slots) (hk : 8 + 1 ≤ kc) {M : Mem} {H : Heap} {locs : List Loc} (hR : Rp G e0 α κ B M H) (hS : va_S (fun q => B ≤ q) s.heap H locs) (k1 : Cond.methodLink own idx yX10_pages ∈ gw) {ls : Array Slot} (hml : ls.size = nL) {rest : List Value} (hd : decode cc pc = .ok (.invokevirtual idx, 3)) (hrest : (rest.map fun v => v.category).sum ≤ 8) {Q : State → Prop} {Qm : Int → Mem → Prop} (hw : wp_X10_pages M Qm) (kk : ∀ (r : Int) (M1 : Mem) (H1 : Heap) (locs1 : List Loc), Qm r M1 → inR r → Rp G e0 α κ B M1 H1 → va_S (fun q => B ≤ q) s.heap H1 locs1 → W p l e R s m args below meth c H1 locs1 cells slots Q (F0 m (pc + 3) ls (.int (Int32.ofInt r) :: rest))) : W p l e R s m args below meth c H locs cells slots Q (F0 m pc ls (.ref (α 11 0) :: rest)) :=
  sa_callVI 8 (n := 0) (As := []) (rest := rest) X.1 X.2.1 hR hS (m_X10_pages X.2.2.1 hw) k1 kw_1970 kw_1971 kw_104 kw_1972 ⟨rfl, by decide +kernel, by decide +kernel, by decide +kernel⟩ (rm_ok hRr hk (by decide)) (rc_11 X hR (okf X.2.2.1 rfl)) rfl rfl hrest hml hd hcel kk
def wp_X10_isBody (p1 : Int) (M : Mem) (Qm : Int → Mem → Prop) : Prop := wp_X10_isRow p1 M fun (x2 : Int) (M1 : Mem) => (¬ x2 = 0 → (0 ≤ p1 ∧ p1 < 29) ∧ True) ∧ (bit (if x2 = 0 then (0 : Int) else (if ¬ (M1 60 0 p1) = 1 then (0 : Int) else 1))) ∧ Qm (if x2 = 0 then (0 : Int) else (if ¬ (M1 60 0 p1) = 1 then (0 : Int) else 1)) M1
set_option maxHeartbeats 4000000 in
set_option maxRecDepth 100000 in
theorem t_X10_isBody {p1 : Int} (X : CX p m c cX10_isBody 2 s args RX10 G B κ meth (some .boolean)) (hp1 : inR p1) {M : Mem} {Qm : Int → Mem → Prop} (hw : wp_X10_isBody p1 M Qm) (H : Heap) (locs : List Loc) (hR : Rp G e0 α κ B M H) (hS : va_S (fun q => B ≤ q) s.heap H locs) (ls : Array Slot) (hl : lv_has ls 2 [(0, .ref (α 11 0)), (1, .int (Int32.ofInt p1))]) : WI p l e 2 s m args below meth c G e0 α κ B Qm H locs 0 ls [] := by
  have hw : wp_X10_isRow p1 M fun (x2 : Int) (M1 : Mem) => (¬ x2 = 0 → (0 ≤ p1 ∧ p1 < 29) ∧ True) ∧ (bit (if x2 = 0 then (0 : Int) else (if ¬ (M1 60 0 p1) = 1 then (0 : Int) else 1))) ∧ Qm (if x2 = 0 then (0 : Int) else (if ¬ (M1 60 0 p1) = 1 then (0 : Int) else 1)) M1 := hw
  refine lv_aload_n X.1.1 X.1.2.1 dX10_isBody_0 rfl (lv_at hl 0 rfl) ?_
  refine lv_iload_n X.1.1 X.1.2.1 dX10_isBody_1 rfl (lv_at hl 1 rfl) ?_
  refine cs_X10_isRow X hp1 (kc := 2) rmL_ok rm_c (by decide) hR hS kw_1733 hl.1 dX10_isBody_2 (Nat.le_of_ble_eq_true rfl) hw (fun x2 M1 H locs hw r3 hR hS => ?_)
  have s7 := hw.1
  have hw := hw.2
  have r8 := inR_ite (c := x2 = 0) (inR_c (a := 0) rfl) (inR_ite (c := ¬ (M1 60 0 p1) = 1) (inR_c (a := 0) rfl) (inR_c (a := 1) rfl))
  refine cut_j (A := ∀ v9 : Int, v9 = (if x2 = 0 then (0 : Int) else (if ¬ (M1 60 0 p1) = 1 then (0 : Int) else 1)) → WI p l e 2 s m args below meth c G e0 α κ B Qm H locs 23 ls [.int (Int32.ofInt v9)]) (fun J10 => ?_) ?_
  · refine sa_if_eq (tgt := 22) X.1 r3 dX10_isBody_5 (by decide) (fun hc => ?_) (fun hc => ?_)
    · skip
      refine sa_const X.1 dX10_isBody_22 ?_
      exact J10 (0) (if_pos (c := x2 = 0) hc).symm
    · have hw := s7 hc
      refine lv_aload_n X.1.1 X.1.2.1 dX10_isBody_8 rfl (lv_at hl 0 rfl) ?_
      refine gt_11_5 X hR (okf X.2.2.1 rfl) kw_1534 dX10_isBody_9 ?_
      refine lv_iload_n X.1.1 X.1.2.1 dX10_isBody_12 rfl (lv_at hl 1 rfl) ?_
      have c4 := hw.1
      have hw := hw.2
      refine ra_60 X hR (okf X.2.2.1 rfl) c4 dX10_isBody_13 ?_
      refine sa_const X.1 dX10_isBody_14 ?_
      refine cut_j (A := ∀ v5 : Int, v5 = (if ¬ (M1 60 0 p1) = 1 then (0 : Int) else 1) → WI p l e 2 s m args below meth c G e0 α κ B Qm H locs 23 ls [.int (Int32.ofInt v5)]) (fun J6 => ?_) ?_
      · refine sa_icmp_ne (tgt := 22) X.1 (hR.r 60 0 p1) (inR_c (a := 1) rfl) dX10_isBody_15 (by decide) (fun hc => ?_) (fun hc => ?_)
        · skip
          refine sa_const X.1 dX10_isBody_22 ?_
          exact J6 (0) (if_pos (c := ¬ (M1 60 0 p1) = 1) hc).symm
        · skip
          refine sa_const X.1 dX10_isBody_18 ?_
          refine lv_goto (tgt := 23) X.1.1 X.1.2.1 dX10_isBody_19 (by decide) ?_
          exact J6 (1) (if_neg (c := ¬ (M1 60 0 p1) = 1) (fun z => z hc)).symm
      intro v5 hv5
      subst hv5
      exact J10 ((if ¬ (M1 60 0 p1) = 1 then (0 : Int) else 1)) (if_neg (c := x2 = 0) hc).symm
  intro v9 hv9
  subst hv9
  have c11 := hw.1
  have hw := hw.2
  exact sa_zret X.1 X.2.2.2.1 X.2.2.2.2 hR hS c11 hw dX10_isBody_23
theorem m_X10_isBody {l : Launch} {G : Gx} {e0 : Nat} {α : Ax} {κ : Nat → Int} {B : Nat} {p1 : Int} (hκ : kOK κ) (hp1 : inR p1) {M : Mem} {Qm : Int → Mem → Prop} (hw : wp_X10_isBody p1 M Qm) : CI l yX10_isBody (Cond.code yX10_isBody cX10_isBody 2 (some .boolean)) 2 G e0 α κ B [.ref (α 11 0), .int (Int32.ofInt p1)] M Qm :=
  CI.mk hκ (by decide +kernel) rfl (Nat.le_of_ble_eq_true rfl) (lv := [(0, .ref (α 11 0)), (1, .int (Int32.ofInt p1))]) rfl (fun p e s m args below meth c ls X hR hS hl => t_X10_isBody X hp1 hw _ _ hR hS ls hl)
theorem cs_X10_isBody {cc : ByteArray} {nL : Nat} {own : String} {ret : Option FieldType} {idx pc : Nat} {p1 : Int} (X : CX p m c cc nL s args own G B κ meth ret) (hp1 : inR p1) {kc : Nat} {R : Room} {cells slots : Nat} (hRr : RmOK R kc) (hcel : cells ≤ R.cells ∧ slots ≤ R.slots) (hk : 2 + 1 ≤ kc) {M : Mem} {H : Heap} {locs : List Loc} (hR : Rp G e0 α κ B M H) (hS : va_S (fun q => B ≤ q) s.heap H locs) (k1 : Cond.methodLink own idx yX10_isBody ∈ gw) {ls : Array Slot} (hml : ls.size = nL) {rest : List Value} (hd : decode cc pc = .ok (.invokevirtual idx, 3)) (hrest : (rest.map fun v => v.category).sum ≤ 8) {Q : State → Prop} {Qm : Int → Mem → Prop} (hw : wp_X10_isBody p1 M Qm) (kk : ∀ (r : Int) (M1 : Mem) (H1 : Heap) (locs1 : List Loc), Qm r M1 → inR r → Rp G e0 α κ B M1 H1 → va_S (fun q => B ≤ q) s.heap H1 locs1 → W p l e R s m args below meth c H1 locs1 cells slots Q (F0 m (pc + 3) ls (.int (Int32.ofInt r) :: rest))) : W p l e R s m args below meth c H locs cells slots Q (F0 m pc ls (.int (Int32.ofInt p1) :: .ref (α 11 0) :: rest)) :=
  sa_callVI 2 (n := 1) (As := [.int (Int32.ofInt p1)]) (rest := rest) X.1 X.2.1 hR hS (m_X10_isBody X.2.2.1 hp1 hw) k1 kw_2011 kw_83 kw_104 kw_2012 ⟨rfl, by decide +kernel, by decide +kernel, by decide +kernel⟩ (rm_ok hRr hk (by decide)) (rc_11 X hR (okf X.2.2.1 rfl)) rfl rfl hrest hml hd hcel kk
def wp_X10_firstPage_2 (p1 : Int) (Qm : Int → Mem → Prop) : Nat → Int → Mem → Prop
  | 0 => fun _ _ => False
  | n + 1 => fun y2 M => (0 ≤ y2 ∧ y2 < 1100) ∧ (((M 90 0 y2) = p1 → (0 ≤ y2 ∧ y2 < 1100) ∧ Qm (M 91 0 y2) M) ∧ (¬ (M 90 0 y2) = p1 → (inR (y2 + 1)) ∧ wp_X10_firstPage_2 p1 Qm n (y2 + 1) M))
def wp_X10_firstPage (p1 : Int) (M : Mem) (Qm : Int → Mem → Prop) : Prop := (∃ n6 : Nat, wp_X10_firstPage_2 p1 Qm n6 0 M)
set_option maxHeartbeats 4000000 in
set_option maxRecDepth 100000 in
theorem t_X10_firstPage_2 {p1 : Int} (X : CX p m c cX10_firstPage 3 s args RX10 G B κ meth (some .int)) (hp1 : inR p1) {Qm : Int → Mem → Prop} : ∀ n : Nat, ∀ y2 : Int, ∀ M : Mem, wp_X10_firstPage_2 p1 Qm n y2 M → inR y2 → ∀ (H : Heap) (locs : List Loc), Rp G e0 α κ B M H → va_S (fun q => B ≤ q) s.heap H locs → ∀ (ls : Array Slot), lv_has ls 3 [(0, .ref (α 11 0)), (1, .int (Int32.ofInt p1)), (2, .int (Int32.ofInt y2))] → WI p l e 0 s m args below meth c G e0 α κ B Qm H locs 2 ls [] := by
  intro n
  induction n with
  | zero =>
    intro y2 M hw hy2 H locs hR hS ls hl
    exact hw.elim
  | succ n ih =>
    intro y2 M hw hy2 H locs hR hS ls hl
    have hw : (0 ≤ y2 ∧ y2 < 1100) ∧ (((M 90 0 y2) = p1 → (0 ≤ y2 ∧ y2 < 1100) ∧ Qm (M 91 0 y2) M) ∧ (¬ (M 90 0 y2) = p1 → (inR (y2 + 1)) ∧ wp_X10_firstPage_2 p1 Qm n (y2 + 1) M)) := hw
    refine lv_aload_n X.1.1 X.1.2.1 dX10_firstPage_2 rfl (lv_at hl 0 rfl) ?_
    refine gt_11_42 X hR (okf X.2.2.1 rfl) kw_1571 dX10_firstPage_3 ?_
    refine lv_iload_n X.1.1 X.1.2.1 dX10_firstPage_6 rfl (lv_at hl 2 rfl) ?_
    have c1 := hw.1
    have hw := hw.2
    refine ra_90 X hR (okf X.2.2.1 rfl) c1 dX10_firstPage_7 ?_
    have r2 := hR.r 90 0 y2
    refine lv_iload_n X.1.1 X.1.2.1 dX10_firstPage_8 rfl (lv_at hl 1 rfl) ?_
    refine sa_icmp_eq (tgt := 18) X.1 r2 hp1 dX10_firstPage_9 (by decide) (fun hc => ?_) (fun hc => ?_)
    · have hw := hw.1 hc
      refine lv_aload_n X.1.1 X.1.2.1 dX10_firstPage_18 rfl (lv_at hl 0 rfl) ?_
      refine gt_11_43 X hR (okf X.2.2.1 rfl) kw_1572 dX10_firstPage_19 ?_
      refine lv_iload_n X.1.1 X.1.2.1 dX10_firstPage_22 rfl (lv_at hl 2 rfl) ?_
      have c3 := hw.1
      have hw := hw.2
      refine ra_91 X hR (okf X.2.2.1 rfl) c3 dX10_firstPage_23 ?_
      have r4 := hR.r 91 0 y2
      exact sa_iret X.1 X.2.2.2.1 X.2.2.2.2 hR hS r4 hw dX10_firstPage_24
    · have hw := hw.2 hc
      have c5 := hw.1
      have hw := hw.2
      refine lv_iinc (v := Int32.ofInt (y2 + 1)) (lv' := [(2, .int (Int32.ofInt (y2 + 1))), (0, .ref (α 11 0)), (1, .int (Int32.ofInt p1))]) X.1.1 X.1.2.1 dX10_firstPage_12 hl (k := 2) rfl (Int32.ofInt_add _ _).symm (by decide) rfl (fun ls hl => ?_)
      refine lv_goto (tgt := 2) X.1.1 X.1.2.1 dX10_firstPage_15 (by decide) ?_
      exact ih _ _ hw c5 _ _ hR hS _ (lv_sub hl [1, 2, 0] rfl)
set_option maxHeartbeats 4000000 in
set_option maxRecDepth 100000 in
theorem t_X10_firstPage {p1 : Int} (X : CX p m c cX10_firstPage 3 s args RX10 G B κ meth (some .int)) (hp1 : inR p1) {M : Mem} {Qm : Int → Mem → Prop} (hw : wp_X10_firstPage p1 M Qm) (H : Heap) (locs : List Loc) (hR : Rp G e0 α κ B M H) (hS : va_S (fun q => B ≤ q) s.heap H locs) (ls : Array Slot) (hl : lv_has ls 3 [(0, .ref (α 11 0)), (1, .int (Int32.ofInt p1))]) : WI p l e 0 s m args below meth c G e0 α κ B Qm H locs 0 ls [] := by
  have hw : (∃ n6 : Nat, wp_X10_firstPage_2 p1 Qm n6 0 M) := hw
  refine sa_const X.1 dX10_firstPage_0 ?_
  refine lv_istore_n (lv' := [(2, .int (Int32.ofInt 0)), (0, .ref (α 11 0)), (1, .int (Int32.ofInt p1))]) X.1.1 X.1.2.1 dX10_firstPage_1 rfl hl (by decide) rfl (fun ls hl => ?_)
  obtain ⟨n6, hw⟩ := hw
  exact t_X10_firstPage_2 X hp1 n6 _ _ hw (inR_c (a := 0) rfl) _ _ hR hS _ (lv_sub hl [1, 2, 0] rfl)
theorem m_X10_firstPage {l : Launch} {G : Gx} {e0 : Nat} {α : Ax} {κ : Nat → Int} {B : Nat} {p1 : Int} (hκ : kOK κ) (hp1 : inR p1) {M : Mem} {Qm : Int → Mem → Prop} (hw : wp_X10_firstPage p1 M Qm) : CI l yX10_firstPage (Cond.code yX10_firstPage cX10_firstPage 3 (some .int)) 0 G e0 α κ B [.ref (α 11 0), .int (Int32.ofInt p1)] M Qm :=
  CI.mk hκ (by decide +kernel) rfl (Nat.le_of_ble_eq_true rfl) (lv := [(0, .ref (α 11 0)), (1, .int (Int32.ofInt p1))]) rfl (fun p e s m args below meth c ls X hR hS hl => t_X10_firstPage X hp1 hw _ _ hR hS ls hl)
theorem cs_X10_firstPage {cc : ByteArray} {nL : Nat} {own : String} {ret : Option FieldType} {idx pc : Nat} {p1 : Int} (X : CX p m c cc nL s args own G B κ meth ret) (hp1 : inR p1) {kc : Nat} {R : Room} {cells slots : Nat} (hRr : RmOK R kc) (hcel : cells ≤ R.cells ∧ slots ≤ R.slots) (hk : 0 + 1 ≤ kc) {M : Mem} {H : Heap} {locs : List Loc} (hR : Rp G e0 α κ B M H) (hS : va_S (fun q => B ≤ q) s.heap H locs) (k1 : Cond.methodLink own idx yX10_firstPage ∈ gw) {ls : Array Slot} (hml : ls.size = nL) {rest : List Value} (hd : decode cc pc = .ok (.invokevirtual idx, 3)) (hrest : (rest.map fun v => v.category).sum ≤ 8) {Q : State → Prop} {Qm : Int → Mem → Prop} (hw : wp_X10_firstPage p1 M Qm) (kk : ∀ (r : Int) (M1 : Mem) (H1 : Heap) (locs1 : List Loc), Qm r M1 → inR r → Rp G e0 α κ B M1 H1 → va_S (fun q => B ≤ q) s.heap H1 locs1 → W p l e R s m args below meth c H1 locs1 cells slots Q (F0 m (pc + 3) ls (.int (Int32.ofInt r) :: rest))) : W p l e R s m args below meth c H locs cells slots Q (F0 m pc ls (.int (Int32.ofInt p1) :: .ref (α 11 0) :: rest)) :=
  sa_callVI 0 (n := 1) (As := [.int (Int32.ofInt p1)]) (rest := rest) X.1 X.2.1 hR hS (m_X10_firstPage X.2.2.1 hp1 hw) k1 kw_2015 kw_84 kw_104 kw_2016 ⟨rfl, by decide +kernel, by decide +kernel, by decide +kernel⟩ (rm_ok hRr hk (by decide)) (rc_11 X hR (okf X.2.2.1 rfl)) rfl rfl hrest hml hd hcel kk
def wp_X10_pageOf_44 (p1 : Int) (Qm : Int → Mem → Prop) (z0 : Int) (M : Mem) : Prop := Qm z0 M
def wp_X10_pageOf_28 (p1 : Int) (Qm : Int → Mem → Prop) (z0 : Int) (z1 : Int) (M : Mem) : Prop := wp_X10_goes z1 z0 0 M fun (x8 : Int) (M7 : Mem) => ((x8 = 0 → wp_X10_pageOf_44 p1 Qm 0 M7) ∧ (¬ x8 = 0 → wp_X10_firstPage p1 M7 fun (x11 : Int) (M10 : Mem) => wp_X10_pageOf_44 p1 Qm x11 M10))
def wp_X10_pageOf (p1 : Int) (M : Mem) (Qm : Int → Mem → Prop) : Prop := wp_X10_isBody p1 M fun (x2 : Int) (M1 : Mem) => wp_X10_isRow p1 M1 fun (x5 : Int) (M4 : Mem) => ((x2 = 0 → wp_X10_pageOf_28 p1 Qm x2 x5 M4) ∧ (¬ x2 = 0 → wp_X10_laysPages M4 fun (x14 : Int) (M13 : Mem) => wp_X10_goes x5 x2 (if x14 = 0 then (0 : Int) else 1) M13 fun (x20 : Int) (M19 : Mem) => ((x20 = 0 → wp_X10_pageOf_44 p1 Qm 0 M19) ∧ (¬ x20 = 0 → wp_X10_firstPage p1 M19 fun (x23 : Int) (M22 : Mem) => wp_X10_pageOf_44 p1 Qm x23 M22))))
set_option maxHeartbeats 4000000 in
set_option maxRecDepth 100000 in
theorem t_X10_pageOf_44 {p1 : Int} (X : CX p m c cX10_pageOf 3 s args RX10 G B κ meth (some .int)) (hp1 : inR p1) {Qm : Int → Mem → Prop} : ∀ z0 : Int, ∀ M : Mem, wp_X10_pageOf_44 p1 Qm z0 M → inR z0 → ∀ (H : Heap) (locs : List Loc), Rp G e0 α κ B M H → va_S (fun q => B ≤ q) s.heap H locs → ∀ (ls : Array Slot), lv_has ls 3 [] → WI p l e 8 s m args below meth c G e0 α κ B Qm H locs 44 ls [.int (Int32.ofInt z0)] := by
  intro z0 M hw hz0 H locs hR hS ls hl
  have hw : Qm z0 M := hw
  exact sa_iret X.1 X.2.2.2.1 X.2.2.2.2 hR hS hz0 hw dX10_pageOf_44
set_option maxHeartbeats 4000000 in
set_option maxRecDepth 100000 in
theorem t_X10_pageOf_28 {p1 : Int} (X : CX p m c cX10_pageOf 3 s args RX10 G B κ meth (some .int)) (hp1 : inR p1) {Qm : Int → Mem → Prop} : ∀ z0 : Int, ∀ z1 : Int, ∀ M : Mem, wp_X10_pageOf_28 p1 Qm z0 z1 M → inR z0 → inR z1 → ∀ (H : Heap) (locs : List Loc), Rp G e0 α κ B M H → va_S (fun q => B ≤ q) s.heap H locs → ∀ (ls : Array Slot), lv_has ls 3 [(0, .ref (α 11 0)), (1, .int (Int32.ofInt p1))] → WI p l e 8 s m args below meth c G e0 α κ B Qm H locs 28 ls [.int (Int32.ofInt z0), .int (Int32.ofInt z1), .ref (α 11 0)] := by
  intro z0 z1 M hw hz0 hz1 H locs hR hS ls hl
  have hw : wp_X10_goes z1 z0 0 M fun (x8 : Int) (M7 : Mem) => ((x8 = 0 → wp_X10_pageOf_44 p1 Qm 0 M7) ∧ (¬ x8 = 0 → wp_X10_firstPage p1 M7 fun (x11 : Int) (M10 : Mem) => wp_X10_pageOf_44 p1 Qm x11 M10)) := hw
  refine sa_const X.1 dX10_pageOf_28 ?_
  refine cs_X10_goes X hz1 hz0 (inR_c (a := 0) rfl) (kc := 8) rmL_ok rm_c (by decide) hR hS kw_1721 hl.1 dX10_pageOf_29 (Nat.le_of_ble_eq_true rfl) hw (fun x8 M7 H locs hw r9 hR hS => ?_)
  refine sa_if_eq (tgt := 43) X.1 r9 dX10_pageOf_32 (by decide) (fun hc => ?_) (fun hc => ?_)
  · have hw := hw.1 hc
    refine sa_const X.1 dX10_pageOf_43 ?_
    exact t_X10_pageOf_44 X hp1 _ _ hw (inR_c (a := 0) rfl) _ _ hR hS _ (lv_sub hl [] rfl)
  · have hw := hw.2 hc
    refine lv_aload_n X.1.1 X.1.2.1 dX10_pageOf_35 rfl (lv_at hl 0 rfl) ?_
    refine lv_iload_n X.1.1 X.1.2.1 dX10_pageOf_36 rfl (lv_at hl 1 rfl) ?_
    refine cs_X10_firstPage X hp1 (kc := 8) rmL_ok rm_c (by decide) hR hS kw_2013 hl.1 dX10_pageOf_37 (Nat.le_of_ble_eq_true rfl) hw (fun x11 M10 H locs hw r12 hR hS => ?_)
    refine lv_goto (tgt := 44) X.1.1 X.1.2.1 dX10_pageOf_40 (by decide) ?_
    exact t_X10_pageOf_44 X hp1 _ _ hw r12 _ _ hR hS _ (lv_sub hl [] rfl)
set_option maxHeartbeats 4000000 in
set_option maxRecDepth 100000 in
theorem t_X10_pageOf {p1 : Int} (X : CX p m c cX10_pageOf 3 s args RX10 G B κ meth (some .int)) (hp1 : inR p1) {M : Mem} {Qm : Int → Mem → Prop} (hw : wp_X10_pageOf p1 M Qm) (H : Heap) (locs : List Loc) (hR : Rp G e0 α κ B M H) (hS : va_S (fun q => B ≤ q) s.heap H locs) (ls : Array Slot) (hl : lv_has ls 3 [(0, .ref (α 11 0)), (1, .int (Int32.ofInt p1))]) : WI p l e 8 s m args below meth c G e0 α κ B Qm H locs 0 ls [] := by
  have hw : wp_X10_isBody p1 M fun (x2 : Int) (M1 : Mem) => wp_X10_isRow p1 M1 fun (x5 : Int) (M4 : Mem) => ((x2 = 0 → wp_X10_pageOf_28 p1 Qm x2 x5 M4) ∧ (¬ x2 = 0 → wp_X10_laysPages M4 fun (x14 : Int) (M13 : Mem) => wp_X10_goes x5 x2 (if x14 = 0 then (0 : Int) else 1) M13 fun (x20 : Int) (M19 : Mem) => ((x20 = 0 → wp_X10_pageOf_44 p1 Qm 0 M19) ∧ (¬ x20 = 0 → wp_X10_firstPage p1 M19 fun (x23 : Int) (M22 : Mem) => wp_X10_pageOf_44 p1 Qm x23 M22)))) := hw
  refine lv_aload_n X.1.1 X.1.2.1 dX10_pageOf_0 rfl (lv_at hl 0 rfl) ?_
  refine lv_iload_n X.1.1 X.1.2.1 dX10_pageOf_1 rfl (lv_at hl 1 rfl) ?_
  refine cs_X10_isBody X hp1 (kc := 8) rmL_ok rm_c (by decide) hR hS kw_2009 hl.1 dX10_pageOf_2 (Nat.le_of_ble_eq_true rfl) hw (fun x2 M1 H locs hw r3 hR hS => ?_)
  refine lv_istore_n (lv' := [(2, .int (Int32.ofInt x2)), (0, .ref (α 11 0)), (1, .int (Int32.ofInt p1))]) X.1.1 X.1.2.1 dX10_pageOf_5 rfl hl (by decide) rfl (fun ls hl => ?_)
  refine lv_aload_n X.1.1 X.1.2.1 dX10_pageOf_6 rfl (lv_at hl 1 rfl) ?_
  refine lv_aload_n X.1.1 X.1.2.1 dX10_pageOf_7 rfl (lv_at hl 1 rfl) ?_
  refine lv_iload_n X.1.1 X.1.2.1 dX10_pageOf_8 rfl (lv_at hl 2 rfl) ?_
  refine cs_X10_isRow X hp1 (kc := 8) rmL_ok rm_c (by decide) hR hS kw_1733 hl.1 dX10_pageOf_9 (Nat.le_of_ble_eq_true rfl) hw (fun x5 M4 H locs hw r6 hR hS => ?_)
  refine lv_iload_n X.1.1 X.1.2.1 dX10_pageOf_12 rfl (lv_at hl 0 rfl) ?_
  refine lv_iload_n X.1.1 X.1.2.1 dX10_pageOf_13 rfl (lv_at hl 0 rfl) ?_
  refine sa_if_eq (tgt := 28) X.1 r3 dX10_pageOf_14 (by decide) (fun hc => ?_) (fun hc => ?_)
  · have hw := hw.1 hc
    exact t_X10_pageOf_28 X hp1 _ _ _ hw r3 r6 _ _ hR hS _ (lv_sub hl [1, 2] rfl)
  · have hw := hw.2 hc
    refine lv_aload_n X.1.1 X.1.2.1 dX10_pageOf_17 rfl (lv_at hl 1 rfl) ?_
    refine cs_X10_laysPages X  (kc := 8) rmL_ok rm_c (by decide) hR hS kw_1973 hl.1 dX10_pageOf_18 (Nat.le_of_ble_eq_true rfl) hw (fun x14 M13 H locs hw r15 hR hS => ?_)
    have r16 := inR_ite (c := x14 = 0) (inR_c (a := 0) rfl) (inR_c (a := 1) rfl)
    refine cut_j (A := ∀ v17 : Int, v17 = (if x14 = 0 then (0 : Int) else 1) → WI p l e 8 s m args below meth c G e0 α κ B Qm H locs 29 ls [.int (Int32.ofInt v17), .int (Int32.ofInt x2), .int (Int32.ofInt x5), .ref (α 11 0)]) (fun J18 => ?_) ?_
    · refine sa_if_eq (tgt := 28) X.1 r15 dX10_pageOf_21 (by decide) (fun hc => ?_) (fun hc => ?_)
      · skip
        refine sa_const X.1 dX10_pageOf_28 ?_
        exact J18 (0) (if_pos (c := x14 = 0) hc).symm
      · skip
        refine sa_const X.1 dX10_pageOf_24 ?_
        refine lv_goto (tgt := 29) X.1.1 X.1.2.1 dX10_pageOf_25 (by decide) ?_
        exact J18 (1) (if_neg (c := x14 = 0) hc).symm
    intro v17 hv17
    subst hv17
    refine cs_X10_goes X r6 r3 r16 (kc := 8) rmL_ok rm_c (by decide) hR hS kw_1721 hl.1 dX10_pageOf_29 (Nat.le_of_ble_eq_true rfl) hw (fun x20 M19 H locs hw r21 hR hS => ?_)
    refine sa_if_eq (tgt := 43) X.1 r21 dX10_pageOf_32 (by decide) (fun hc => ?_) (fun hc => ?_)
    · have hw := hw.1 hc
      refine sa_const X.1 dX10_pageOf_43 ?_
      exact t_X10_pageOf_44 X hp1 _ _ hw (inR_c (a := 0) rfl) _ _ hR hS _ (lv_sub hl [] rfl)
    · have hw := hw.2 hc
      refine lv_aload_n X.1.1 X.1.2.1 dX10_pageOf_35 rfl (lv_at hl 1 rfl) ?_
      refine lv_iload_n X.1.1 X.1.2.1 dX10_pageOf_36 rfl (lv_at hl 2 rfl) ?_
      refine cs_X10_firstPage X hp1 (kc := 8) rmL_ok rm_c (by decide) hR hS kw_2013 hl.1 dX10_pageOf_37 (Nat.le_of_ble_eq_true rfl) hw (fun x23 M22 H locs hw r24 hR hS => ?_)
      refine lv_goto (tgt := 44) X.1.1 X.1.2.1 dX10_pageOf_40 (by decide) ?_
      exact t_X10_pageOf_44 X hp1 _ _ hw r24 _ _ hR hS _ (lv_sub hl [] rfl)
theorem m_X10_pageOf {l : Launch} {G : Gx} {e0 : Nat} {α : Ax} {κ : Nat → Int} {B : Nat} {p1 : Int} (hκ : kOK κ) (hp1 : inR p1) {M : Mem} {Qm : Int → Mem → Prop} (hw : wp_X10_pageOf p1 M Qm) : CI l yX10_pageOf (Cond.code yX10_pageOf cX10_pageOf 3 (some .int)) 8 G e0 α κ B [.ref (α 11 0), .int (Int32.ofInt p1)] M Qm :=
  CI.mk hκ (by decide +kernel) rfl (Nat.le_of_ble_eq_true rfl) (lv := [(0, .ref (α 11 0)), (1, .int (Int32.ofInt p1))]) rfl (fun p e s m args below meth c ls X hR hS hl => t_X10_pageOf X hp1 hw _ _ hR hS ls hl)
theorem cs_X10_pageOf {cc : ByteArray} {nL : Nat} {own : String} {ret : Option FieldType} {idx pc : Nat} {p1 : Int} (X : CX p m c cc nL s args own G B κ meth ret) (hp1 : inR p1) {kc : Nat} {R : Room} {cells slots : Nat} (hRr : RmOK R kc) (hcel : cells ≤ R.cells ∧ slots ≤ R.slots) (hk : 8 + 1 ≤ kc) {M : Mem} {H : Heap} {locs : List Loc} (hR : Rp G e0 α κ B M H) (hS : va_S (fun q => B ≤ q) s.heap H locs) (k1 : Cond.methodLink own idx yX10_pageOf ∈ gw) {ls : Array Slot} (hml : ls.size = nL) {rest : List Value} (hd : decode cc pc = .ok (.invokevirtual idx, 3)) (hrest : (rest.map fun v => v.category).sum ≤ 8) {Q : State → Prop} {Qm : Int → Mem → Prop} (hw : wp_X10_pageOf p1 M Qm) (kk : ∀ (r : Int) (M1 : Mem) (H1 : Heap) (locs1 : List Loc), Qm r M1 → inR r → Rp G e0 α κ B M1 H1 → va_S (fun q => B ≤ q) s.heap H1 locs1 → W p l e R s m args below meth c H1 locs1 cells slots Q (F0 m (pc + 3) ls (.int (Int32.ofInt r) :: rest))) : W p l e R s m args below meth c H locs cells slots Q (F0 m pc ls (.int (Int32.ofInt p1) :: .ref (α 11 0) :: rest)) :=
  sa_callVI 8 (n := 1) (As := [.int (Int32.ofInt p1)]) (rest := rest) X.1 X.2.1 hR hS (m_X10_pageOf X.2.2.1 hp1 hw) k1 kw_2006 kw_2007 kw_104 kw_2008 ⟨rfl, by decide +kernel, by decide +kernel, by decide +kernel⟩ (rm_ok hRr hk (by decide)) (rc_11 X hR (okf X.2.2.1 rfl)) rfl rfl hrest hml hd hcel kk
def wp_X10_linesAt_5 (p1 : Int) (p2 : Int) (Qm : Int → Mem → Prop) : Nat → Int → Int → Mem → Prop
  | 0 => fun _ _ _ => False
  | n + 1 => fun y3 y4 M => (((M 11 0 46) ≤ y4 → Qm y3 M) ∧ (y4 < (M 11 0 46) → (0 ≤ y4 ∧ y4 < 1100) ∧ ((M 90 0 y4) = p1 → (0 ≤ y4 ∧ y4 < 1100) ∧ ((M 91 0 y4) = p2 → (0 ≤ y4 ∧ y4 < 1100) ∧ True) ∧ True) ∧ (inR (y3 + (if ¬ (M 90 0 y4) = p1 then (0 : Int) else (if ¬ (M 91 0 y4) = p2 then (0 : Int) else (M 93 0 y4))))) ∧ (inR (y4 + 1)) ∧ wp_X10_linesAt_5 p1 p2 Qm n (y3 + (if ¬ (M 90 0 y4) = p1 then (0 : Int) else (if ¬ (M 91 0 y4) = p2 then (0 : Int) else (M 93 0 y4)))) (y4 + 1) M))
def wp_X10_linesAt (p1 : Int) (p2 : Int) (M : Mem) (Qm : Int → Mem → Prop) : Prop := (∃ n15 : Nat, wp_X10_linesAt_5 p1 p2 Qm n15 0 0 M)
set_option maxHeartbeats 4000000 in
set_option maxRecDepth 100000 in
theorem t_X10_linesAt_5 {p1 : Int} {p2 : Int} (X : CX p m c cX10_linesAt 5 s args RX10 G B κ meth (some .int)) (hp1 : inR p1) (hp2 : inR p2) {Qm : Int → Mem → Prop} : ∀ n : Nat, ∀ y3 : Int, ∀ y4 : Int, ∀ M : Mem, wp_X10_linesAt_5 p1 p2 Qm n y3 y4 M → inR y3 → inR y4 → ∀ (H : Heap) (locs : List Loc), Rp G e0 α κ B M H → va_S (fun q => B ≤ q) s.heap H locs → ∀ (ls : Array Slot), lv_has ls 5 [(0, .ref (α 11 0)), (1, .int (Int32.ofInt p1)), (2, .int (Int32.ofInt p2)), (3, .int (Int32.ofInt y3)), (4, .int (Int32.ofInt y4))] → WI p l e 0 s m args below meth c G e0 α κ B Qm H locs 5 ls [] := by
  intro n
  induction n with
  | zero =>
    intro y3 y4 M hw hy3 hy4 H locs hR hS ls hl
    exact hw.elim
  | succ n ih =>
    intro y3 y4 M hw hy3 hy4 H locs hR hS ls hl
    have hw : (((M 11 0 46) ≤ y4 → Qm y3 M) ∧ (y4 < (M 11 0 46) → (0 ≤ y4 ∧ y4 < 1100) ∧ ((M 90 0 y4) = p1 → (0 ≤ y4 ∧ y4 < 1100) ∧ ((M 91 0 y4) = p2 → (0 ≤ y4 ∧ y4 < 1100) ∧ True) ∧ True) ∧ (inR (y3 + (if ¬ (M 90 0 y4) = p1 then (0 : Int) else (if ¬ (M 91 0 y4) = p2 then (0 : Int) else (M 93 0 y4))))) ∧ (inR (y4 + 1)) ∧ wp_X10_linesAt_5 p1 p2 Qm n (y3 + (if ¬ (M 90 0 y4) = p1 then (0 : Int) else (if ¬ (M 91 0 y4) = p2 then (0 : Int) else (M 93 0 y4)))) (y4 + 1) M)) := hw
    refine lv_iload X.1.1 X.1.2.1 dX10_linesAt_5 (lv_at hl 4 rfl) ?_
    refine lv_aload_n X.1.1 X.1.2.1 dX10_linesAt_7 rfl (lv_at hl 0 rfl) ?_
    refine gt_11_46 X hR (okf X.2.2.1 rfl) kw_1575 dX10_linesAt_8 ?_
    have r1 := hR.r 11 0 46
    refine sa_icmp_ge (tgt := 56) X.1 hy4 r1 dX10_linesAt_11 (by decide) (fun hc => ?_) (fun hc => ?_)
    · have hw := hw.1 hc
      refine lv_iload_n X.1.1 X.1.2.1 dX10_linesAt_56 rfl (lv_at hl 3 rfl) ?_
      exact sa_iret X.1 X.2.2.2.1 X.2.2.2.2 hR hS hy3 hw dX10_linesAt_57
    · have hw := hw.2 hc
      refine lv_iload_n X.1.1 X.1.2.1 dX10_linesAt_14 rfl (lv_at hl 3 rfl) ?_
      refine lv_aload_n X.1.1 X.1.2.1 dX10_linesAt_15 rfl (lv_at hl 0 rfl) ?_
      refine gt_11_42 X hR (okf X.2.2.1 rfl) kw_1571 dX10_linesAt_16 ?_
      refine lv_iload X.1.1 X.1.2.1 dX10_linesAt_19 (lv_at hl 4 rfl) ?_
      have c2 := hw.1
      have hw := hw.2
      refine ra_90 X hR (okf X.2.2.1 rfl) c2 dX10_linesAt_21 ?_
      have r3 := hR.r 90 0 y4
      refine lv_iload_n X.1.1 X.1.2.1 dX10_linesAt_22 rfl (lv_at hl 1 rfl) ?_
      have s9 := hw.1
      have hw := hw.2
      have r10 := inR_ite (c := ¬ (M 90 0 y4) = p1) (inR_c (a := 0) rfl) (inR_ite (c := ¬ (M 91 0 y4) = p2) (inR_c (a := 0) rfl) (hR.r 93 0 y4))
      refine cut_j (A := ∀ v11 : Int, v11 = (if ¬ (M 90 0 y4) = p1 then (0 : Int) else (if ¬ (M 91 0 y4) = p2 then (0 : Int) else (M 93 0 y4))) → WI p l e 0 s m args below meth c G e0 α κ B Qm H locs 48 ls [.int (Int32.ofInt v11), .int (Int32.ofInt y3)]) (fun J12 => ?_) ?_
      · refine sa_icmp_ne (tgt := 47) X.1 r3 hp1 dX10_linesAt_23 (by decide) (fun hc => ?_) (fun hc => ?_)
        · skip
          refine sa_const X.1 dX10_linesAt_47 ?_
          exact J12 (0) (if_pos (c := ¬ (M 90 0 y4) = p1) hc).symm
        · have hw := s9 hc
          refine lv_aload_n X.1.1 X.1.2.1 dX10_linesAt_26 rfl (lv_at hl 0 rfl) ?_
          refine gt_11_43 X hR (okf X.2.2.1 rfl) kw_1572 dX10_linesAt_27 ?_
          refine lv_iload X.1.1 X.1.2.1 dX10_linesAt_30 (lv_at hl 4 rfl) ?_
          have c4 := hw.1
          have hw := hw.2
          refine ra_91 X hR (okf X.2.2.1 rfl) c4 dX10_linesAt_32 ?_
          refine lv_iload_n X.1.1 X.1.2.1 dX10_linesAt_33 rfl (lv_at hl 2 rfl) ?_
          have s6 := hw.1
          have hw := hw.2
          refine cut_j (A := ∀ v7 : Int, v7 = (if ¬ (M 91 0 y4) = p2 then (0 : Int) else (M 93 0 y4)) → WI p l e 0 s m args below meth c G e0 α κ B Qm H locs 48 ls [.int (Int32.ofInt v7), .int (Int32.ofInt y3)]) (fun J8 => ?_) ?_
          · refine sa_icmp_ne (tgt := 47) X.1 (hR.r 91 0 y4) hp2 dX10_linesAt_34 (by decide) (fun hc => ?_) (fun hc => ?_)
            · skip
              refine sa_const X.1 dX10_linesAt_47 ?_
              exact J8 (0) (if_pos (c := ¬ (M 91 0 y4) = p2) hc).symm
            · have hw := s6 hc
              refine lv_aload_n X.1.1 X.1.2.1 dX10_linesAt_37 rfl (lv_at hl 0 rfl) ?_
              refine gt_11_45 X hR (okf X.2.2.1 rfl) kw_1574 dX10_linesAt_38 ?_
              refine lv_iload X.1.1 X.1.2.1 dX10_linesAt_41 (lv_at hl 4 rfl) ?_
              have c5 := hw.1
              have hw := hw.2
              refine ra_93 X hR (okf X.2.2.1 rfl) c5 dX10_linesAt_43 ?_
              refine lv_goto (tgt := 48) X.1.1 X.1.2.1 dX10_linesAt_44 (by decide) ?_
              exact J8 ((M 93 0 y4)) (if_neg (c := ¬ (M 91 0 y4) = p2) (fun z => z hc)).symm
          intro v7 hv7
          subst hv7
          exact J12 ((if ¬ (M 91 0 y4) = p2 then (0 : Int) else (M 93 0 y4))) (if_neg (c := ¬ (M 90 0 y4) = p1) (fun z => z hc)).symm
      intro v11 hv11
      subst hv11
      have c13 := hw.1
      have hw := hw.2
      refine sa_iadd X.1 dX10_linesAt_48 ?_
      refine lv_istore_n (lv' := [(3, .int (Int32.ofInt (y3 + (if ¬ (M 90 0 y4) = p1 then (0 : Int) else (if ¬ (M 91 0 y4) = p2 then (0 : Int) else (M 93 0 y4)))))), (0, .ref (α 11 0)), (1, .int (Int32.ofInt p1)), (2, .int (Int32.ofInt p2)), (4, .int (Int32.ofInt y4))]) X.1.1 X.1.2.1 dX10_linesAt_49 rfl hl (by decide) rfl (fun ls hl => ?_)
      have c14 := hw.1
      have hw := hw.2
      refine lv_iinc (v := Int32.ofInt (y4 + 1)) (lv' := [(4, .int (Int32.ofInt (y4 + 1))), (3, .int (Int32.ofInt (y3 + (if ¬ (M 90 0 y4) = p1 then (0 : Int) else (if ¬ (M 91 0 y4) = p2 then (0 : Int) else (M 93 0 y4)))))), (0, .ref (α 11 0)), (1, .int (Int32.ofInt p1)), (2, .int (Int32.ofInt p2))]) X.1.1 X.1.2.1 dX10_linesAt_50 hl (k := 4) rfl (Int32.ofInt_add _ _).symm (by decide) rfl (fun ls hl => ?_)
      refine lv_goto (tgt := 5) X.1.1 X.1.2.1 dX10_linesAt_53 (by decide) ?_
      exact ih _ _ _ hw c13 c14 _ _ hR hS _ (lv_sub hl [2, 3, 4, 1, 0] rfl)
set_option maxHeartbeats 4000000 in
set_option maxRecDepth 100000 in
theorem t_X10_linesAt {p1 : Int} {p2 : Int} (X : CX p m c cX10_linesAt 5 s args RX10 G B κ meth (some .int)) (hp1 : inR p1) (hp2 : inR p2) {M : Mem} {Qm : Int → Mem → Prop} (hw : wp_X10_linesAt p1 p2 M Qm) (H : Heap) (locs : List Loc) (hR : Rp G e0 α κ B M H) (hS : va_S (fun q => B ≤ q) s.heap H locs) (ls : Array Slot) (hl : lv_has ls 5 [(0, .ref (α 11 0)), (1, .int (Int32.ofInt p1)), (2, .int (Int32.ofInt p2))]) : WI p l e 0 s m args below meth c G e0 α κ B Qm H locs 0 ls [] := by
  have hw : (∃ n15 : Nat, wp_X10_linesAt_5 p1 p2 Qm n15 0 0 M) := hw
  refine sa_const X.1 dX10_linesAt_0 ?_
  refine lv_istore_n (lv' := [(3, .int (Int32.ofInt 0)), (0, .ref (α 11 0)), (1, .int (Int32.ofInt p1)), (2, .int (Int32.ofInt p2))]) X.1.1 X.1.2.1 dX10_linesAt_1 rfl hl (by decide) rfl (fun ls hl => ?_)
  refine sa_const X.1 dX10_linesAt_2 ?_
  refine lv_istore (lv' := [(4, .int (Int32.ofInt 0)), (3, .int (Int32.ofInt 0)), (0, .ref (α 11 0)), (1, .int (Int32.ofInt p1)), (2, .int (Int32.ofInt p2))]) X.1.1 X.1.2.1 dX10_linesAt_3 hl (by decide) rfl (fun ls hl => ?_)
  obtain ⟨n15, hw⟩ := hw
  exact t_X10_linesAt_5 X hp1 hp2 n15 _ _ _ hw (inR_c (a := 0) rfl) (inR_c (a := 0) rfl) _ _ hR hS _ (lv_sub hl [2, 3, 4, 1, 0] rfl)
theorem m_X10_linesAt {l : Launch} {G : Gx} {e0 : Nat} {α : Ax} {κ : Nat → Int} {B : Nat} {p1 : Int} {p2 : Int} (hκ : kOK κ) (hp1 : inR p1) (hp2 : inR p2) {M : Mem} {Qm : Int → Mem → Prop} (hw : wp_X10_linesAt p1 p2 M Qm) : CI l yX10_linesAt (Cond.code yX10_linesAt cX10_linesAt 5 (some .int)) 0 G e0 α κ B [.ref (α 11 0), .int (Int32.ofInt p1), .int (Int32.ofInt p2)] M Qm :=
  CI.mk hκ (by decide +kernel) rfl (Nat.le_of_ble_eq_true rfl) (lv := [(0, .ref (α 11 0)), (1, .int (Int32.ofInt p1)), (2, .int (Int32.ofInt p2))]) rfl (fun p e s m args below meth c ls X hR hS hl => t_X10_linesAt X hp1 hp2 hw _ _ hR hS ls hl)
theorem cs_X10_linesAt {cc : ByteArray} {nL : Nat} {own : String} {ret : Option FieldType} {idx pc : Nat} {p1 : Int} {p2 : Int} (X : CX p m c cc nL s args own G B κ meth ret) (hp1 : inR p1) (hp2 : inR p2) {kc : Nat} {R : Room} {cells slots : Nat} (hRr : RmOK R kc) (hcel : cells ≤ R.cells ∧ slots ≤ R.slots) (hk : 0 + 1 ≤ kc) {M : Mem} {H : Heap} {locs : List Loc} (hR : Rp G e0 α κ B M H) (hS : va_S (fun q => B ≤ q) s.heap H locs) (k1 : Cond.methodLink own idx yX10_linesAt ∈ gw) {ls : Array Slot} (hml : ls.size = nL) {rest : List Value} (hd : decode cc pc = .ok (.invokevirtual idx, 3)) (hrest : (rest.map fun v => v.category).sum ≤ 8) {Q : State → Prop} {Qm : Int → Mem → Prop} (hw : wp_X10_linesAt p1 p2 M Qm) (kk : ∀ (r : Int) (M1 : Mem) (H1 : Heap) (locs1 : List Loc), Qm r M1 → inR r → Rp G e0 α κ B M1 H1 → va_S (fun q => B ≤ q) s.heap H1 locs1 → W p l e R s m args below meth c H1 locs1 cells slots Q (F0 m (pc + 3) ls (.int (Int32.ofInt r) :: rest))) : W p l e R s m args below meth c H locs cells slots Q (F0 m pc ls (.int (Int32.ofInt p2) :: .int (Int32.ofInt p1) :: .ref (α 11 0) :: rest)) :=
  sa_callVI 0 (n := 2) (As := [.int (Int32.ofInt p1), .int (Int32.ofInt p2)]) (rest := rest) X.1 X.2.1 hR hS (m_X10_linesAt X.2.2.1 hp1 hp2 hw) k1 kw_2023 kw_85 kw_104 kw_2024 ⟨rfl, by decide +kernel, by decide +kernel, by decide +kernel⟩ (rm_ok hRr hk (by decide)) (rc_11 X hR (okf X.2.2.1 rfl)) rfl rfl hrest hml hd hcel kk
def wp_X10_linesOn_57 (p1 : Int) (p2 : Int) (Qm : Int → Mem → Prop) (z0 : Int) (M : Mem) : Prop := Qm z0 M
def wp_X10_linesOn_40 (p1 : Int) (p2 : Int) (Qm : Int → Mem → Prop) (z0 : Int) (z1 : Int) (M : Mem) : Prop := wp_X10_goes z1 z0 0 M fun (x13 : Int) (M12 : Mem) => ((x13 = 0 → wp_X10_linesOn_57 p1 p2 Qm 0 M12) ∧ (¬ x13 = 0 → wp_X10_linesAt p1 p2 M12 fun (x16 : Int) (M15 : Mem) => wp_X10_linesOn_57 p1 p2 Qm x16 M15))
def wp_X10_linesOn (p1 : Int) (p2 : Int) (M : Mem) (Qm : Int → Mem → Prop) : Prop := wp_X10_isBody p1 M fun (x2 : Int) (M1 : Mem) => wp_X10_isRow p1 M1 fun (x10 : Int) (M9 : Mem) => (((if x2 = 0 then (0 : Int) else (if p2 < 0 then (0 : Int) else 1)) = 0 → wp_X10_linesOn_40 p1 p2 Qm (if x2 = 0 then (0 : Int) else (if p2 < 0 then (0 : Int) else 1)) x10 M9) ∧ (¬ (if x2 = 0 then (0 : Int) else (if p2 < 0 then (0 : Int) else 1)) = 0 → wp_X10_laysPages M9 fun (x19 : Int) (M18 : Mem) => wp_X10_goes x10 (if x2 = 0 then (0 : Int) else (if p2 < 0 then (0 : Int) else 1)) (if x19 = 0 then (0 : Int) else 1) M18 fun (x25 : Int) (M24 : Mem) => ((x25 = 0 → wp_X10_linesOn_57 p1 p2 Qm 0 M24) ∧ (¬ x25 = 0 → wp_X10_linesAt p1 p2 M24 fun (x28 : Int) (M27 : Mem) => wp_X10_linesOn_57 p1 p2 Qm x28 M27))))
set_option maxHeartbeats 4000000 in
set_option maxRecDepth 100000 in
theorem t_X10_linesOn_57 {p1 : Int} {p2 : Int} (X : CX p m c cX10_linesOn 4 s args RX10 G B κ meth (some .int)) (hp1 : inR p1) (hp2 : inR p2) {Qm : Int → Mem → Prop} : ∀ z0 : Int, ∀ M : Mem, wp_X10_linesOn_57 p1 p2 Qm z0 M → inR z0 → ∀ (H : Heap) (locs : List Loc), Rp G e0 α κ B M H → va_S (fun q => B ≤ q) s.heap H locs → ∀ (ls : Array Slot), lv_has ls 4 [] → WI p l e 8 s m args below meth c G e0 α κ B Qm H locs 57 ls [.int (Int32.ofInt z0)] := by
  intro z0 M hw hz0 H locs hR hS ls hl
  have hw : Qm z0 M := hw
  exact sa_iret X.1 X.2.2.2.1 X.2.2.2.2 hR hS hz0 hw dX10_linesOn_57
set_option maxHeartbeats 4000000 in
set_option maxRecDepth 100000 in
theorem t_X10_linesOn_40 {p1 : Int} {p2 : Int} (X : CX p m c cX10_linesOn 4 s args RX10 G B κ meth (some .int)) (hp1 : inR p1) (hp2 : inR p2) {Qm : Int → Mem → Prop} : ∀ z0 : Int, ∀ z1 : Int, ∀ M : Mem, wp_X10_linesOn_40 p1 p2 Qm z0 z1 M → inR z0 → inR z1 → ∀ (H : Heap) (locs : List Loc), Rp G e0 α κ B M H → va_S (fun q => B ≤ q) s.heap H locs → ∀ (ls : Array Slot), lv_has ls 4 [(0, .ref (α 11 0)), (1, .int (Int32.ofInt p1)), (2, .int (Int32.ofInt p2))] → WI p l e 8 s m args below meth c G e0 α κ B Qm H locs 40 ls [.int (Int32.ofInt z0), .int (Int32.ofInt z1), .ref (α 11 0)] := by
  intro z0 z1 M hw hz0 hz1 H locs hR hS ls hl
  have hw : wp_X10_goes z1 z0 0 M fun (x13 : Int) (M12 : Mem) => ((x13 = 0 → wp_X10_linesOn_57 p1 p2 Qm 0 M12) ∧ (¬ x13 = 0 → wp_X10_linesAt p1 p2 M12 fun (x16 : Int) (M15 : Mem) => wp_X10_linesOn_57 p1 p2 Qm x16 M15)) := hw
  refine sa_const X.1 dX10_linesOn_40 ?_
  refine cs_X10_goes X hz1 hz0 (inR_c (a := 0) rfl) (kc := 8) rmL_ok rm_c (by decide) hR hS kw_1721 hl.1 dX10_linesOn_41 (Nat.le_of_ble_eq_true rfl) hw (fun x13 M12 H locs hw r14 hR hS => ?_)
  refine sa_if_eq (tgt := 56) X.1 r14 dX10_linesOn_44 (by decide) (fun hc => ?_) (fun hc => ?_)
  · have hw := hw.1 hc
    refine sa_const X.1 dX10_linesOn_56 ?_
    exact t_X10_linesOn_57 X hp1 hp2 _ _ hw (inR_c (a := 0) rfl) _ _ hR hS _ (lv_sub hl [] rfl)
  · have hw := hw.2 hc
    refine lv_aload_n X.1.1 X.1.2.1 dX10_linesOn_47 rfl (lv_at hl 0 rfl) ?_
    refine lv_iload_n X.1.1 X.1.2.1 dX10_linesOn_48 rfl (lv_at hl 1 rfl) ?_
    refine lv_iload_n X.1.1 X.1.2.1 dX10_linesOn_49 rfl (lv_at hl 2 rfl) ?_
    refine cs_X10_linesAt X hp1 hp2 (kc := 8) rmL_ok rm_c (by decide) hR hS kw_2021 hl.1 dX10_linesOn_50 (Nat.le_of_ble_eq_true rfl) hw (fun x16 M15 H locs hw r17 hR hS => ?_)
    refine lv_goto (tgt := 57) X.1.1 X.1.2.1 dX10_linesOn_53 (by decide) ?_
    exact t_X10_linesOn_57 X hp1 hp2 _ _ hw r17 _ _ hR hS _ (lv_sub hl [] rfl)
set_option maxHeartbeats 4000000 in
set_option maxRecDepth 100000 in
theorem t_X10_linesOn {p1 : Int} {p2 : Int} (X : CX p m c cX10_linesOn 4 s args RX10 G B κ meth (some .int)) (hp1 : inR p1) (hp2 : inR p2) {M : Mem} {Qm : Int → Mem → Prop} (hw : wp_X10_linesOn p1 p2 M Qm) (H : Heap) (locs : List Loc) (hR : Rp G e0 α κ B M H) (hS : va_S (fun q => B ≤ q) s.heap H locs) (ls : Array Slot) (hl : lv_has ls 4 [(0, .ref (α 11 0)), (1, .int (Int32.ofInt p1)), (2, .int (Int32.ofInt p2))]) : WI p l e 8 s m args below meth c G e0 α κ B Qm H locs 0 ls [] := by
  have hw : wp_X10_isBody p1 M fun (x2 : Int) (M1 : Mem) => wp_X10_isRow p1 M1 fun (x10 : Int) (M9 : Mem) => (((if x2 = 0 then (0 : Int) else (if p2 < 0 then (0 : Int) else 1)) = 0 → wp_X10_linesOn_40 p1 p2 Qm (if x2 = 0 then (0 : Int) else (if p2 < 0 then (0 : Int) else 1)) x10 M9) ∧ (¬ (if x2 = 0 then (0 : Int) else (if p2 < 0 then (0 : Int) else 1)) = 0 → wp_X10_laysPages M9 fun (x19 : Int) (M18 : Mem) => wp_X10_goes x10 (if x2 = 0 then (0 : Int) else (if p2 < 0 then (0 : Int) else 1)) (if x19 = 0 then (0 : Int) else 1) M18 fun (x25 : Int) (M24 : Mem) => ((x25 = 0 → wp_X10_linesOn_57 p1 p2 Qm 0 M24) ∧ (¬ x25 = 0 → wp_X10_linesAt p1 p2 M24 fun (x28 : Int) (M27 : Mem) => wp_X10_linesOn_57 p1 p2 Qm x28 M27)))) := hw
  refine lv_aload_n X.1.1 X.1.2.1 dX10_linesOn_0 rfl (lv_at hl 0 rfl) ?_
  refine lv_iload_n X.1.1 X.1.2.1 dX10_linesOn_1 rfl (lv_at hl 1 rfl) ?_
  refine cs_X10_isBody X hp1 (kc := 8) rmL_ok rm_c (by decide) hR hS kw_2009 hl.1 dX10_linesOn_2 (Nat.le_of_ble_eq_true rfl) hw (fun x2 M1 H locs hw r3 hR hS => ?_)
  have r6 := inR_ite (c := x2 = 0) (inR_c (a := 0) rfl) (inR_ite (c := p2 < 0) (inR_c (a := 0) rfl) (inR_c (a := 1) rfl))
  refine cut_j (A := ∀ v7 : Int, v7 = (if x2 = 0 then (0 : Int) else (if p2 < 0 then (0 : Int) else 1)) → WI p l e 8 s m args below meth c G e0 α κ B Qm H locs 17 ls [.int (Int32.ofInt v7)]) (fun J8 => ?_) ?_
  · refine sa_if_eq (tgt := 16) X.1 r3 dX10_linesOn_5 (by decide) (fun hc => ?_) (fun hc => ?_)
    · skip
      refine sa_const X.1 dX10_linesOn_16 ?_
      exact J8 (0) (if_pos (c := x2 = 0) hc).symm
    · skip
      refine lv_iload_n X.1.1 X.1.2.1 dX10_linesOn_8 rfl (lv_at hl 2 rfl) ?_
      refine cut_j (A := ∀ v4 : Int, v4 = (if p2 < 0 then (0 : Int) else 1) → WI p l e 8 s m args below meth c G e0 α κ B Qm H locs 17 ls [.int (Int32.ofInt v4)]) (fun J5 => ?_) ?_
      · refine sa_if_lt (tgt := 16) X.1 hp2 dX10_linesOn_9 (by decide) (fun hc => ?_) (fun hc => ?_)
        · skip
          refine sa_const X.1 dX10_linesOn_16 ?_
          exact J5 (0) (if_pos (c := p2 < 0) hc).symm
        · skip
          refine sa_const X.1 dX10_linesOn_12 ?_
          refine lv_goto (tgt := 17) X.1.1 X.1.2.1 dX10_linesOn_13 (by decide) ?_
          exact J5 (1) (if_neg (c := p2 < 0) (Int.not_lt.mpr hc)).symm
      intro v4 hv4
      subst hv4
      exact J8 ((if p2 < 0 then (0 : Int) else 1)) (if_neg (c := x2 = 0) hc).symm
  intro v7 hv7
  subst hv7
  refine lv_istore_n (lv' := [(3, .int (Int32.ofInt (if x2 = 0 then (0 : Int) else (if p2 < 0 then (0 : Int) else 1)))), (0, .ref (α 11 0)), (1, .int (Int32.ofInt p1)), (2, .int (Int32.ofInt p2))]) X.1.1 X.1.2.1 dX10_linesOn_17 rfl hl (by decide) rfl (fun ls hl => ?_)
  refine lv_aload_n X.1.1 X.1.2.1 dX10_linesOn_18 rfl (lv_at hl 1 rfl) ?_
  refine lv_aload_n X.1.1 X.1.2.1 dX10_linesOn_19 rfl (lv_at hl 1 rfl) ?_
  refine lv_iload_n X.1.1 X.1.2.1 dX10_linesOn_20 rfl (lv_at hl 2 rfl) ?_
  refine cs_X10_isRow X hp1 (kc := 8) rmL_ok rm_c (by decide) hR hS kw_1733 hl.1 dX10_linesOn_21 (Nat.le_of_ble_eq_true rfl) hw (fun x10 M9 H locs hw r11 hR hS => ?_)
  refine lv_iload_n X.1.1 X.1.2.1 dX10_linesOn_24 rfl (lv_at hl 0 rfl) ?_
  refine lv_iload_n X.1.1 X.1.2.1 dX10_linesOn_25 rfl (lv_at hl 0 rfl) ?_
  refine sa_if_eq (tgt := 40) X.1 r6 dX10_linesOn_26 (by decide) (fun hc => ?_) (fun hc => ?_)
  · have hw := hw.1 hc
    exact t_X10_linesOn_40 X hp1 hp2 _ _ _ hw r6 r11 _ _ hR hS _ (lv_sub hl [1, 2, 3] rfl)
  · have hw := hw.2 hc
    refine lv_aload_n X.1.1 X.1.2.1 dX10_linesOn_29 rfl (lv_at hl 1 rfl) ?_
    refine cs_X10_laysPages X  (kc := 8) rmL_ok rm_c (by decide) hR hS kw_1973 hl.1 dX10_linesOn_30 (Nat.le_of_ble_eq_true rfl) hw (fun x19 M18 H locs hw r20 hR hS => ?_)
    have r21 := inR_ite (c := x19 = 0) (inR_c (a := 0) rfl) (inR_c (a := 1) rfl)
    refine cut_j (A := ∀ v22 : Int, v22 = (if x19 = 0 then (0 : Int) else 1) → WI p l e 8 s m args below meth c G e0 α κ B Qm H locs 41 ls [.int (Int32.ofInt v22), .int (Int32.ofInt (if x2 = 0 then (0 : Int) else (if p2 < 0 then (0 : Int) else 1))), .int (Int32.ofInt x10), .ref (α 11 0)]) (fun J23 => ?_) ?_
    · refine sa_if_eq (tgt := 40) X.1 r20 dX10_linesOn_33 (by decide) (fun hc => ?_) (fun hc => ?_)
      · skip
        refine sa_const X.1 dX10_linesOn_40 ?_
        exact J23 (0) (if_pos (c := x19 = 0) hc).symm
      · skip
        refine sa_const X.1 dX10_linesOn_36 ?_
        refine lv_goto (tgt := 41) X.1.1 X.1.2.1 dX10_linesOn_37 (by decide) ?_
        exact J23 (1) (if_neg (c := x19 = 0) hc).symm
    intro v22 hv22
    subst hv22
    refine cs_X10_goes X r11 r6 r21 (kc := 8) rmL_ok rm_c (by decide) hR hS kw_1721 hl.1 dX10_linesOn_41 (Nat.le_of_ble_eq_true rfl) hw (fun x25 M24 H locs hw r26 hR hS => ?_)
    refine sa_if_eq (tgt := 56) X.1 r26 dX10_linesOn_44 (by decide) (fun hc => ?_) (fun hc => ?_)
    · have hw := hw.1 hc
      refine sa_const X.1 dX10_linesOn_56 ?_
      exact t_X10_linesOn_57 X hp1 hp2 _ _ hw (inR_c (a := 0) rfl) _ _ hR hS _ (lv_sub hl [] rfl)
    · have hw := hw.2 hc
      refine lv_aload_n X.1.1 X.1.2.1 dX10_linesOn_47 rfl (lv_at hl 1 rfl) ?_
      refine lv_iload_n X.1.1 X.1.2.1 dX10_linesOn_48 rfl (lv_at hl 2 rfl) ?_
      refine lv_iload_n X.1.1 X.1.2.1 dX10_linesOn_49 rfl (lv_at hl 3 rfl) ?_
      refine cs_X10_linesAt X hp1 hp2 (kc := 8) rmL_ok rm_c (by decide) hR hS kw_2021 hl.1 dX10_linesOn_50 (Nat.le_of_ble_eq_true rfl) hw (fun x28 M27 H locs hw r29 hR hS => ?_)
      refine lv_goto (tgt := 57) X.1.1 X.1.2.1 dX10_linesOn_53 (by decide) ?_
      exact t_X10_linesOn_57 X hp1 hp2 _ _ hw r29 _ _ hR hS _ (lv_sub hl [] rfl)
theorem m_X10_linesOn {l : Launch} {G : Gx} {e0 : Nat} {α : Ax} {κ : Nat → Int} {B : Nat} {p1 : Int} {p2 : Int} (hκ : kOK κ) (hp1 : inR p1) (hp2 : inR p2) {M : Mem} {Qm : Int → Mem → Prop} (hw : wp_X10_linesOn p1 p2 M Qm) : CI l yX10_linesOn (Cond.code yX10_linesOn cX10_linesOn 4 (some .int)) 8 G e0 α κ B [.ref (α 11 0), .int (Int32.ofInt p1), .int (Int32.ofInt p2)] M Qm :=
  CI.mk hκ (by decide +kernel) rfl (Nat.le_of_ble_eq_true rfl) (lv := [(0, .ref (α 11 0)), (1, .int (Int32.ofInt p1)), (2, .int (Int32.ofInt p2))]) rfl (fun p e s m args below meth c ls X hR hS hl => t_X10_linesOn X hp1 hp2 hw _ _ hR hS ls hl)
theorem cs_X10_linesOn {cc : ByteArray} {nL : Nat} {own : String} {ret : Option FieldType} {idx pc : Nat} {p1 : Int} {p2 : Int} (X : CX p m c cc nL s args own G B κ meth ret) (hp1 : inR p1) (hp2 : inR p2) {kc : Nat} {R : Room} {cells slots : Nat} (hRr : RmOK R kc) (hcel : cells ≤ R.cells ∧ slots ≤ R.slots) (hk : 8 + 1 ≤ kc) {M : Mem} {H : Heap} {locs : List Loc} (hR : Rp G e0 α κ B M H) (hS : va_S (fun q => B ≤ q) s.heap H locs) (k1 : Cond.methodLink own idx yX10_linesOn ∈ gw) {ls : Array Slot} (hml : ls.size = nL) {rest : List Value} (hd : decode cc pc = .ok (.invokevirtual idx, 3)) (hrest : (rest.map fun v => v.category).sum ≤ 8) {Q : State → Prop} {Qm : Int → Mem → Prop} (hw : wp_X10_linesOn p1 p2 M Qm) (kk : ∀ (r : Int) (M1 : Mem) (H1 : Heap) (locs1 : List Loc), Qm r M1 → inR r → Rp G e0 α κ B M1 H1 → va_S (fun q => B ≤ q) s.heap H1 locs1 → W p l e R s m args below meth c H1 locs1 cells slots Q (F0 m (pc + 3) ls (.int (Int32.ofInt r) :: rest))) : W p l e R s m args below meth c H locs cells slots Q (F0 m pc ls (.int (Int32.ofInt p2) :: .int (Int32.ofInt p1) :: .ref (α 11 0) :: rest)) :=
  sa_callVI 8 (n := 2) (As := [.int (Int32.ofInt p1), .int (Int32.ofInt p2)]) (rest := rest) X.1 X.2.1 hR hS (m_X10_linesOn X.2.2.1 hp1 hp2 hw) k1 kw_2018 kw_2019 kw_104 kw_2020 ⟨rfl, by decide +kernel, by decide +kernel, by decide +kernel⟩ (rm_ok hRr hk (by decide)) (rc_11 X hR (okf X.2.2.1 rfl)) rfl rfl hrest hml hd hcel kk
def wp_X10_shown_168 (p1 : Int) (p2 : Int) (Qm : Int → Mem → Prop) (y6 : Int) (M : Mem) : Prop := Qm (if (M 11 0 49) ≤ p2 then (0 : Int) else y6) M
def wp_X10_shown_99 (p1 : Int) (p2 : Int) (Qm : Int → Mem → Prop) (K78 : Int → Int → Int → Mem → Prop) : Nat → Int → Int → Int → Int → Mem → Prop
  | 0 => fun _ _ _ _ _ => False
  | n + 1 => fun y5 y6 y7 y8 M => (0 ≤ p1 ∧ p1 < 100) ∧ (((M 67 0 p1) ≤ y8 → (inR (y5 - (if y5 ≤ y6 then y5 else y6))) ∧ (inR (y7 + 1)) ∧ K78 (y5 - (if y5 ≤ y6 then y5 else y6)) (if y5 ≤ y6 then y5 else y6) (y7 + 1) M) ∧ (y8 < (M 67 0 p1) → (0 ≤ p1 ∧ p1 < 100) ∧ wp_X10_below (M 65 0 p1) y8 M fun (x35 : Int) (M34 : Mem) => wp_X10_linesAt x35 y7 M34 fun (x38 : Int) (M37 : Mem) => (inR (y6 + x38)) ∧ (inR (y8 + 1)) ∧ wp_X10_shown_99 p1 p2 Qm K78 n y5 (y6 + x38) y7 (y8 + 1) M37))
def wp_X10_shown_78 (p1 : Int) (p2 : Int) (Qm : Int → Mem → Prop) : Nat → Int → Int → Int → Mem → Prop
  | 0 => fun _ _ _ _ => False
  | n + 1 => fun y5 y6 y7 M => ((p2 < y7 → wp_X10_shown_168 p1 p2 Qm y6 M) ∧ (y7 ≤ p2 → (((M 11 0 49) ≤ y7 → wp_X10_shown_168 p1 p2 Qm y6 M) ∧ (y7 < (M 11 0 49) → (∃ n42 : Nat, wp_X10_shown_99 p1 p2 Qm (wp_X10_shown_78 p1 p2 Qm n) n42 y5 0 y7 0 M)))))
def wp_X10_shown_56 (p1 : Int) (p2 : Int) (Qm : Int → Mem → Prop) (z0 : Int) (z1 : Int) (M : Mem) : Prop := wp_X10_goes z1 z0 0 M fun (x15 : Int) (M14 : Mem) => ((¬ x15 = 0 → wp_X10_linesOf p1 M14 fun (x18 : Int) (M17 : Mem) => (∃ n43 : Nat, wp_X10_shown_78 p1 p2 Qm n43 x18 0 0 M17)) ∧ (x15 = 0 → Qm 0 M14))
def wp_X10_shown (p1 : Int) (p2 : Int) (M : Mem) (Qm : Int → Mem → Prop) : Prop := wp_X10_isCell p1 M fun (x2 : Int) (M1 : Mem) => (¬ x2 = 0 → (0 ≤ p1 ∧ p1 < 100) ∧ (0 ≤ (M1 65 0 p1) ∧ (M1 65 0 p1) < 29) ∧ True) ∧ (((if x2 = 0 then (0 : Int) else (if ¬ (M1 60 0 (M1 65 0 p1)) = 1 then (0 : Int) else (if p2 < 0 then (0 : Int) else 1))) = 0 → wp_X10_shown_56 p1 p2 Qm (if x2 = 0 then (0 : Int) else (if ¬ (M1 60 0 (M1 65 0 p1)) = 1 then (0 : Int) else (if p2 < 0 then (0 : Int) else 1))) x2 M1) ∧ (¬ (if x2 = 0 then (0 : Int) else (if ¬ (M1 60 0 (M1 65 0 p1)) = 1 then (0 : Int) else (if p2 < 0 then (0 : Int) else 1))) = 0 → wp_X10_laysPages M1 fun (x45 : Int) (M44 : Mem) => wp_X10_goes x2 (if x2 = 0 then (0 : Int) else (if ¬ (M1 60 0 (M1 65 0 p1)) = 1 then (0 : Int) else (if p2 < 0 then (0 : Int) else 1))) (if x45 = 0 then (0 : Int) else 1) M44 fun (x51 : Int) (M50 : Mem) => ((¬ x51 = 0 → wp_X10_linesOf p1 M50 fun (x54 : Int) (M53 : Mem) => (∃ n56 : Nat, wp_X10_shown_78 p1 p2 Qm n56 x54 0 0 M53)) ∧ (x51 = 0 → Qm 0 M50))))
set_option maxHeartbeats 4000000 in
set_option maxRecDepth 100000 in
theorem t_X10_shown_168 {p1 : Int} {p2 : Int} (X : CX p m c cX10_shown 9 s args RX10 G B κ meth (some .int)) (hp1 : inR p1) (hp2 : inR p2) {Qm : Int → Mem → Prop} : ∀ y6 : Int, ∀ M : Mem, wp_X10_shown_168 p1 p2 Qm y6 M → inR y6 → ∀ (H : Heap) (locs : List Loc), Rp G e0 α κ B M H → va_S (fun q => B ≤ q) s.heap H locs → ∀ (ls : Array Slot), lv_has ls 9 [(0, .ref (α 11 0)), (2, .int (Int32.ofInt p2)), (6, .int (Int32.ofInt y6))] → WI p l e 8 s m args below meth c G e0 α κ B Qm H locs 168 ls [] := by
  intro y6 M hw hy6 H locs hR hS ls hl
  have hw : Qm (if (M 11 0 49) ≤ p2 then (0 : Int) else y6) M := hw
  refine lv_iload_n X.1.1 X.1.2.1 dX10_shown_168 rfl (lv_at hl 1 rfl) ?_
  refine lv_aload_n X.1.1 X.1.2.1 dX10_shown_169 rfl (lv_at hl 0 rfl) ?_
  refine gt_11_49 X hR (okf X.2.2.1 rfl) kw_1578 dX10_shown_170 ?_
  have r20 := hR.r 11 0 49
  have r21 := inR_ite (c := (M 11 0 49) ≤ p2) (inR_c (a := 0) rfl) hy6
  refine cut_j (A := ∀ v22 : Int, v22 = (if (M 11 0 49) ≤ p2 then (0 : Int) else y6) → WI p l e 8 s m args below meth c G e0 α κ B Qm H locs 182 ls [.int (Int32.ofInt v22)]) (fun J23 => ?_) ?_
  · refine sa_icmp_ge (tgt := 181) X.1 hp2 r20 dX10_shown_173 (by decide) (fun hc => ?_) (fun hc => ?_)
    · skip
      refine sa_const X.1 dX10_shown_181 ?_
      exact J23 (0) (if_pos (c := (M 11 0 49) ≤ p2) hc).symm
    · skip
      refine lv_iload X.1.1 X.1.2.1 dX10_shown_176 (lv_at hl 2 rfl) ?_
      refine lv_goto (tgt := 182) X.1.1 X.1.2.1 dX10_shown_178 (by decide) ?_
      exact J23 (y6) (if_neg (c := (M 11 0 49) ≤ p2) (Int.not_le.mpr hc)).symm
  intro v22 hv22
  subst hv22
  exact sa_iret X.1 X.2.2.2.1 X.2.2.2.2 hR hS r21 hw dX10_shown_182
set_option maxHeartbeats 4000000 in
set_option maxRecDepth 100000 in
theorem t_X10_shown_99 {p1 : Int} {p2 : Int} (X : CX p m c cX10_shown 9 s args RX10 G B κ meth (some .int)) (hp1 : inR p1) (hp2 : inR p2) {Qm : Int → Mem → Prop} {K78 : Int → Int → Int → Mem → Prop} (hK78 : ∀ y5 : Int, ∀ y6 : Int, ∀ y7 : Int, ∀ M : Mem, K78 y5 y6 y7 M → inR y5 → inR y6 → inR y7 → ∀ (H : Heap) (locs : List Loc), Rp G e0 α κ B M H → va_S (fun q => B ≤ q) s.heap H locs → ∀ (ls : Array Slot), lv_has ls 9 [(0, .ref (α 11 0)), (1, .int (Int32.ofInt p1)), (2, .int (Int32.ofInt p2)), (5, .int (Int32.ofInt y5)), (6, .int (Int32.ofInt y6)), (7, .int (Int32.ofInt y7))] → WI p l e 8 s m args below meth c G e0 α κ B Qm H locs 78 ls []) : ∀ n : Nat, ∀ y5 : Int, ∀ y6 : Int, ∀ y7 : Int, ∀ y8 : Int, ∀ M : Mem, wp_X10_shown_99 p1 p2 Qm K78 n y5 y6 y7 y8 M → inR y5 → inR y6 → inR y7 → inR y8 → ∀ (H : Heap) (locs : List Loc), Rp G e0 α κ B M H → va_S (fun q => B ≤ q) s.heap H locs → ∀ (ls : Array Slot), lv_has ls 9 [(0, .ref (α 11 0)), (1, .int (Int32.ofInt p1)), (2, .int (Int32.ofInt p2)), (5, .int (Int32.ofInt y5)), (6, .int (Int32.ofInt y6)), (7, .int (Int32.ofInt y7)), (8, .int (Int32.ofInt y8))] → WI p l e 8 s m args below meth c G e0 α κ B Qm H locs 99 ls [] := by
  intro n
  induction n with
  | zero =>
    intro y5 y6 y7 y8 M hw hy5 hy6 hy7 hy8 H locs hR hS ls hl
    exact hw.elim
  | succ n ih =>
    intro y5 y6 y7 y8 M hw hy5 hy6 hy7 hy8 H locs hR hS ls hl
    have hw : (0 ≤ p1 ∧ p1 < 100) ∧ (((M 67 0 p1) ≤ y8 → (inR (y5 - (if y5 ≤ y6 then y5 else y6))) ∧ (inR (y7 + 1)) ∧ K78 (y5 - (if y5 ≤ y6 then y5 else y6)) (if y5 ≤ y6 then y5 else y6) (y7 + 1) M) ∧ (y8 < (M 67 0 p1) → (0 ≤ p1 ∧ p1 < 100) ∧ wp_X10_below (M 65 0 p1) y8 M fun (x35 : Int) (M34 : Mem) => wp_X10_linesAt x35 y7 M34 fun (x38 : Int) (M37 : Mem) => (inR (y6 + x38)) ∧ (inR (y8 + 1)) ∧ wp_X10_shown_99 p1 p2 Qm K78 n y5 (y6 + x38) y7 (y8 + 1) M37)) := hw
    refine lv_iload X.1.1 X.1.2.1 dX10_shown_99 (lv_at hl 6 rfl) ?_
    refine lv_aload_n X.1.1 X.1.2.1 dX10_shown_101 rfl (lv_at hl 0 rfl) ?_
    refine gt_11_13 X hR (okf X.2.2.1 rfl) kw_1542 dX10_shown_102 ?_
    refine lv_iload_n X.1.1 X.1.2.1 dX10_shown_105 rfl (lv_at hl 1 rfl) ?_
    have c25 := hw.1
    have hw := hw.2
    refine ra_67 X hR (okf X.2.2.1 rfl) c25 dX10_shown_106 ?_
    have r26 := hR.r 67 0 p1
    refine sa_icmp_ge (tgt := 139) X.1 hy8 r26 dX10_shown_107 (by decide) (fun hc => ?_) (fun hc => ?_)
    · have hw := hw.1 hc
      refine lv_iload X.1.1 X.1.2.1 dX10_shown_139 (lv_at hl 4 rfl) ?_
      refine lv_iload X.1.1 X.1.2.1 dX10_shown_141 (lv_at hl 3 rfl) ?_
      have r27 := inR_ite (c := y5 ≤ y6) hy5 hy6
      refine cut_j (A := ∀ v28 : Int, v28 = (if y5 ≤ y6 then y5 else y6) → WI p l e 8 s m args below meth c G e0 α κ B Qm H locs 153 ls [.int (Int32.ofInt v28)]) (fun J29 => ?_) ?_
      · refine sa_icmp_ge (tgt := 151) X.1 hy6 hy5 dX10_shown_143 (by decide) (fun hc => ?_) (fun hc => ?_)
        · skip
          refine lv_iload X.1.1 X.1.2.1 dX10_shown_151 (lv_at hl 3 rfl) ?_
          exact J29 (y5) (if_pos (c := y5 ≤ y6) hc).symm
        · skip
          refine lv_iload X.1.1 X.1.2.1 dX10_shown_146 (lv_at hl 4 rfl) ?_
          refine lv_goto (tgt := 153) X.1.1 X.1.2.1 dX10_shown_148 (by decide) ?_
          exact J29 (y6) (if_neg (c := y5 ≤ y6) (Int.not_le.mpr hc)).symm
      intro v28 hv28
      subst hv28
      refine lv_istore (lv' := [(6, .int (Int32.ofInt (if y5 ≤ y6 then y5 else y6))), (0, .ref (α 11 0)), (1, .int (Int32.ofInt p1)), (2, .int (Int32.ofInt p2)), (5, .int (Int32.ofInt y5)), (7, .int (Int32.ofInt y7)), (8, .int (Int32.ofInt y8))]) X.1.1 X.1.2.1 dX10_shown_153 hl (by decide) rfl (fun ls hl => ?_)
      refine lv_iload X.1.1 X.1.2.1 dX10_shown_155 (lv_at hl 4 rfl) ?_
      refine lv_iload X.1.1 X.1.2.1 dX10_shown_157 (lv_at hl 0 rfl) ?_
      have c30 := hw.1
      have hw := hw.2
      refine sa_isub X.1 dX10_shown_159 ?_
      refine lv_istore (lv' := [(5, .int (Int32.ofInt (y5 - (if y5 ≤ y6 then y5 else y6)))), (6, .int (Int32.ofInt (if y5 ≤ y6 then y5 else y6))), (0, .ref (α 11 0)), (1, .int (Int32.ofInt p1)), (2, .int (Int32.ofInt p2)), (7, .int (Int32.ofInt y7)), (8, .int (Int32.ofInt y8))]) X.1.1 X.1.2.1 dX10_shown_160 hl (by decide) rfl (fun ls hl => ?_)
      have c31 := hw.1
      have hw := hw.2
      refine lv_iinc (v := Int32.ofInt (y7 + 1)) (lv' := [(7, .int (Int32.ofInt (y7 + 1))), (5, .int (Int32.ofInt (y5 - (if y5 ≤ y6 then y5 else y6)))), (6, .int (Int32.ofInt (if y5 ≤ y6 then y5 else y6))), (0, .ref (α 11 0)), (1, .int (Int32.ofInt p1)), (2, .int (Int32.ofInt p2)), (8, .int (Int32.ofInt y8))]) X.1.1 X.1.2.1 dX10_shown_162 hl (k := 5) rfl (Int32.ofInt_add _ _).symm (by decide) rfl (fun ls hl => ?_)
      refine lv_goto (tgt := 78) X.1.1 X.1.2.1 dX10_shown_165 (by decide) ?_
      exact hK78 _ _ _ _ hw c30 r27 c31 _ _ hR hS _ (lv_sub hl [3, 4, 5, 1, 2, 0] rfl)
    · have hw := hw.2 hc
      refine lv_iload X.1.1 X.1.2.1 dX10_shown_110 (lv_at hl 4 rfl) ?_
      refine lv_aload_n X.1.1 X.1.2.1 dX10_shown_112 rfl (lv_at hl 0 rfl) ?_
      refine lv_aload_n X.1.1 X.1.2.1 dX10_shown_113 rfl (lv_at hl 0 rfl) ?_
      refine lv_aload_n X.1.1 X.1.2.1 dX10_shown_114 rfl (lv_at hl 0 rfl) ?_
      refine gt_11_11 X hR (okf X.2.2.1 rfl) kw_1540 dX10_shown_115 ?_
      refine lv_iload_n X.1.1 X.1.2.1 dX10_shown_118 rfl (lv_at hl 1 rfl) ?_
      have c32 := hw.1
      have hw := hw.2
      refine ra_65 X hR (okf X.2.2.1 rfl) c32 dX10_shown_119 ?_
      have r33 := hR.r 65 0 p1
      refine lv_iload X.1.1 X.1.2.1 dX10_shown_120 (lv_at hl 6 rfl) ?_
      refine cs_X10_below X r33 hy8 (kc := 8) rmL_ok rm_c (by decide) hR hS kw_1745 hl.1 dX10_shown_122 (Nat.le_of_ble_eq_true rfl) hw (fun x35 M34 H locs hw r36 hR hS => ?_)
      refine lv_iload X.1.1 X.1.2.1 dX10_shown_125 (lv_at hl 5 rfl) ?_
      refine cs_X10_linesAt X r36 hy7 (kc := 8) rmL_ok rm_c (by decide) hR hS kw_2021 hl.1 dX10_shown_127 (Nat.le_of_ble_eq_true rfl) hw (fun x38 M37 H locs hw r39 hR hS => ?_)
      have c40 := hw.1
      have hw := hw.2
      refine sa_iadd X.1 dX10_shown_130 ?_
      refine lv_istore (lv' := [(6, .int (Int32.ofInt (y6 + x38))), (0, .ref (α 11 0)), (1, .int (Int32.ofInt p1)), (2, .int (Int32.ofInt p2)), (5, .int (Int32.ofInt y5)), (7, .int (Int32.ofInt y7)), (8, .int (Int32.ofInt y8))]) X.1.1 X.1.2.1 dX10_shown_131 hl (by decide) rfl (fun ls hl => ?_)
      have c41 := hw.1
      have hw := hw.2
      refine lv_iinc (v := Int32.ofInt (y8 + 1)) (lv' := [(8, .int (Int32.ofInt (y8 + 1))), (6, .int (Int32.ofInt (y6 + x38))), (0, .ref (α 11 0)), (1, .int (Int32.ofInt p1)), (2, .int (Int32.ofInt p2)), (5, .int (Int32.ofInt y5)), (7, .int (Int32.ofInt y7))]) X.1.1 X.1.2.1 dX10_shown_133 hl (k := 6) rfl (Int32.ofInt_add _ _).symm (by decide) rfl (fun ls hl => ?_)
      refine lv_goto (tgt := 99) X.1.1 X.1.2.1 dX10_shown_136 (by decide) ?_
      exact ih _ _ _ _ _ hw hy5 c40 hy7 c41 _ _ hR hS _ (lv_sub hl [2, 3, 4, 5, 1, 6, 0] rfl)
set_option maxHeartbeats 4000000 in
set_option maxRecDepth 100000 in
theorem t_X10_shown_78 {p1 : Int} {p2 : Int} (X : CX p m c cX10_shown 9 s args RX10 G B κ meth (some .int)) (hp1 : inR p1) (hp2 : inR p2) {Qm : Int → Mem → Prop} : ∀ n : Nat, ∀ y5 : Int, ∀ y6 : Int, ∀ y7 : Int, ∀ M : Mem, wp_X10_shown_78 p1 p2 Qm n y5 y6 y7 M → inR y5 → inR y6 → inR y7 → ∀ (H : Heap) (locs : List Loc), Rp G e0 α κ B M H → va_S (fun q => B ≤ q) s.heap H locs → ∀ (ls : Array Slot), lv_has ls 9 [(0, .ref (α 11 0)), (1, .int (Int32.ofInt p1)), (2, .int (Int32.ofInt p2)), (5, .int (Int32.ofInt y5)), (6, .int (Int32.ofInt y6)), (7, .int (Int32.ofInt y7))] → WI p l e 8 s m args below meth c G e0 α κ B Qm H locs 78 ls [] := by
  intro n
  induction n with
  | zero =>
    intro y5 y6 y7 M hw hy5 hy6 hy7 H locs hR hS ls hl
    exact hw.elim
  | succ n ih =>
    intro y5 y6 y7 M hw hy5 hy6 hy7 H locs hR hS ls hl
    have hw : ((p2 < y7 → wp_X10_shown_168 p1 p2 Qm y6 M) ∧ (y7 ≤ p2 → (((M 11 0 49) ≤ y7 → wp_X10_shown_168 p1 p2 Qm y6 M) ∧ (y7 < (M 11 0 49) → (∃ n42 : Nat, wp_X10_shown_99 p1 p2 Qm (wp_X10_shown_78 p1 p2 Qm n) n42 y5 0 y7 0 M))))) := hw
    refine lv_iload X.1.1 X.1.2.1 dX10_shown_78 (lv_at hl 5 rfl) ?_
    refine lv_iload_n X.1.1 X.1.2.1 dX10_shown_80 rfl (lv_at hl 2 rfl) ?_
    refine sa_icmp_gt (tgt := 168) X.1 hy7 hp2 dX10_shown_81 (by decide) (fun hc => ?_) (fun hc => ?_)
    · have hw := hw.1 hc
      exact t_X10_shown_168 X hp1 hp2 _ _ hw hy6 _ _ hR hS _ (lv_sub hl [0, 2, 4] rfl)
    · have hw := hw.2 hc
      refine lv_iload X.1.1 X.1.2.1 dX10_shown_84 (lv_at hl 5 rfl) ?_
      refine lv_aload_n X.1.1 X.1.2.1 dX10_shown_86 rfl (lv_at hl 0 rfl) ?_
      refine gt_11_49 X hR (okf X.2.2.1 rfl) kw_1578 dX10_shown_87 ?_
      have r24 := hR.r 11 0 49
      refine sa_icmp_ge (tgt := 168) X.1 hy7 r24 dX10_shown_90 (by decide) (fun hc => ?_) (fun hc => ?_)
      · have hw := hw.1 hc
        exact t_X10_shown_168 X hp1 hp2 _ _ hw hy6 _ _ hR hS _ (lv_sub hl [0, 2, 4] rfl)
      · have hw := hw.2 hc
        refine sa_const X.1 dX10_shown_93 ?_
        refine lv_istore (lv' := [(6, .int (Int32.ofInt 0)), (0, .ref (α 11 0)), (1, .int (Int32.ofInt p1)), (2, .int (Int32.ofInt p2)), (5, .int (Int32.ofInt y5)), (7, .int (Int32.ofInt y7))]) X.1.1 X.1.2.1 dX10_shown_94 hl (by decide) rfl (fun ls hl => ?_)
        refine sa_const X.1 dX10_shown_96 ?_
        refine lv_istore (lv' := [(8, .int (Int32.ofInt 0)), (6, .int (Int32.ofInt 0)), (0, .ref (α 11 0)), (1, .int (Int32.ofInt p1)), (2, .int (Int32.ofInt p2)), (5, .int (Int32.ofInt y5)), (7, .int (Int32.ofInt y7))]) X.1.1 X.1.2.1 dX10_shown_97 hl (by decide) rfl (fun ls hl => ?_)
        obtain ⟨n42, hw⟩ := hw
        exact t_X10_shown_99 X hp1 hp2 ih n42 _ _ _ _ _ hw hy5 (inR_c (a := 0) rfl) hy7 (inR_c (a := 0) rfl) _ _ hR hS _ (lv_sub hl [2, 3, 4, 5, 1, 6, 0] rfl)
set_option maxHeartbeats 4000000 in
set_option maxRecDepth 100000 in
theorem t_X10_shown_56 {p1 : Int} {p2 : Int} (X : CX p m c cX10_shown 9 s args RX10 G B κ meth (some .int)) (hp1 : inR p1) (hp2 : inR p2) {Qm : Int → Mem → Prop} : ∀ z0 : Int, ∀ z1 : Int, ∀ M : Mem, wp_X10_shown_56 p1 p2 Qm z0 z1 M → inR z0 → inR z1 → ∀ (H : Heap) (locs : List Loc), Rp G e0 α κ B M H → va_S (fun q => B ≤ q) s.heap H locs → ∀ (ls : Array Slot), lv_has ls 9 [(0, .ref (α 11 0)), (1, .int (Int32.ofInt p1)), (2, .int (Int32.ofInt p2))] → WI p l e 8 s m args below meth c G e0 α κ B Qm H locs 56 ls [.int (Int32.ofInt z0), .int (Int32.ofInt z1), .ref (α 11 0)] := by
  intro z0 z1 M hw hz0 hz1 H locs hR hS ls hl
  have hw : wp_X10_goes z1 z0 0 M fun (x15 : Int) (M14 : Mem) => ((¬ x15 = 0 → wp_X10_linesOf p1 M14 fun (x18 : Int) (M17 : Mem) => (∃ n43 : Nat, wp_X10_shown_78 p1 p2 Qm n43 x18 0 0 M17)) ∧ (x15 = 0 → Qm 0 M14)) := hw
  refine sa_const X.1 dX10_shown_56 ?_
  refine cs_X10_goes X hz1 hz0 (inR_c (a := 0) rfl) (kc := 8) rmL_ok rm_c (by decide) hR hS kw_1721 hl.1 dX10_shown_57 (Nat.le_of_ble_eq_true rfl) hw (fun x15 M14 H locs hw r16 hR hS => ?_)
  refine sa_if_ne (tgt := 65) X.1 r16 dX10_shown_60 (by decide) (fun hc => ?_) (fun hc => ?_)
  · have hw := hw.1 hc
    refine lv_aload_n X.1.1 X.1.2.1 dX10_shown_65 rfl (lv_at hl 0 rfl) ?_
    refine lv_iload_n X.1.1 X.1.2.1 dX10_shown_66 rfl (lv_at hl 1 rfl) ?_
    refine cs_X10_linesOf X hp1 (kc := 8) rmL_ok rm_c (by decide) hR hS kw_1905 hl.1 dX10_shown_67 (Nat.le_of_ble_eq_true rfl) hw (fun x18 M17 H locs hw r19 hR hS => ?_)
    refine lv_istore (lv' := [(5, .int (Int32.ofInt x18)), (0, .ref (α 11 0)), (1, .int (Int32.ofInt p1)), (2, .int (Int32.ofInt p2))]) X.1.1 X.1.2.1 dX10_shown_70 hl (by decide) rfl (fun ls hl => ?_)
    refine sa_const X.1 dX10_shown_72 ?_
    refine lv_istore (lv' := [(6, .int (Int32.ofInt 0)), (5, .int (Int32.ofInt x18)), (0, .ref (α 11 0)), (1, .int (Int32.ofInt p1)), (2, .int (Int32.ofInt p2))]) X.1.1 X.1.2.1 dX10_shown_73 hl (by decide) rfl (fun ls hl => ?_)
    refine sa_const X.1 dX10_shown_75 ?_
    refine lv_istore (lv' := [(7, .int (Int32.ofInt 0)), (6, .int (Int32.ofInt 0)), (5, .int (Int32.ofInt x18)), (0, .ref (α 11 0)), (1, .int (Int32.ofInt p1)), (2, .int (Int32.ofInt p2))]) X.1.1 X.1.2.1 dX10_shown_76 hl (by decide) rfl (fun ls hl => ?_)
    obtain ⟨n43, hw⟩ := hw
    exact t_X10_shown_78 X hp1 hp2 n43 _ _ _ _ hw r19 (inR_c (a := 0) rfl) (inR_c (a := 0) rfl) _ _ hR hS _ (lv_sub hl [3, 4, 5, 2, 1, 0] rfl)
  · have hw := hw.2 hc
    refine sa_const X.1 dX10_shown_63 ?_
    exact sa_iret X.1 X.2.2.2.1 X.2.2.2.2 hR hS (inR_c (a := 0) rfl) hw dX10_shown_64
set_option maxHeartbeats 4000000 in
set_option maxRecDepth 100000 in
theorem t_X10_shown {p1 : Int} {p2 : Int} (X : CX p m c cX10_shown 9 s args RX10 G B κ meth (some .int)) (hp1 : inR p1) (hp2 : inR p2) {M : Mem} {Qm : Int → Mem → Prop} (hw : wp_X10_shown p1 p2 M Qm) (H : Heap) (locs : List Loc) (hR : Rp G e0 α κ B M H) (hS : va_S (fun q => B ≤ q) s.heap H locs) (ls : Array Slot) (hl : lv_has ls 9 [(0, .ref (α 11 0)), (1, .int (Int32.ofInt p1)), (2, .int (Int32.ofInt p2))]) : WI p l e 8 s m args below meth c G e0 α κ B Qm H locs 0 ls [] := by
  have hw : wp_X10_isCell p1 M fun (x2 : Int) (M1 : Mem) => (¬ x2 = 0 → (0 ≤ p1 ∧ p1 < 100) ∧ (0 ≤ (M1 65 0 p1) ∧ (M1 65 0 p1) < 29) ∧ True) ∧ (((if x2 = 0 then (0 : Int) else (if ¬ (M1 60 0 (M1 65 0 p1)) = 1 then (0 : Int) else (if p2 < 0 then (0 : Int) else 1))) = 0 → wp_X10_shown_56 p1 p2 Qm (if x2 = 0 then (0 : Int) else (if ¬ (M1 60 0 (M1 65 0 p1)) = 1 then (0 : Int) else (if p2 < 0 then (0 : Int) else 1))) x2 M1) ∧ (¬ (if x2 = 0 then (0 : Int) else (if ¬ (M1 60 0 (M1 65 0 p1)) = 1 then (0 : Int) else (if p2 < 0 then (0 : Int) else 1))) = 0 → wp_X10_laysPages M1 fun (x45 : Int) (M44 : Mem) => wp_X10_goes x2 (if x2 = 0 then (0 : Int) else (if ¬ (M1 60 0 (M1 65 0 p1)) = 1 then (0 : Int) else (if p2 < 0 then (0 : Int) else 1))) (if x45 = 0 then (0 : Int) else 1) M44 fun (x51 : Int) (M50 : Mem) => ((¬ x51 = 0 → wp_X10_linesOf p1 M50 fun (x54 : Int) (M53 : Mem) => (∃ n56 : Nat, wp_X10_shown_78 p1 p2 Qm n56 x54 0 0 M53)) ∧ (x51 = 0 → Qm 0 M50)))) := hw
  refine lv_aload_n X.1.1 X.1.2.1 dX10_shown_0 rfl (lv_at hl 0 rfl) ?_
  refine lv_iload_n X.1.1 X.1.2.1 dX10_shown_1 rfl (lv_at hl 1 rfl) ?_
  refine cs_X10_isCell X hp1 (kc := 8) rmL_ok rm_c (by decide) hR hS kw_1753 hl.1 dX10_shown_2 (Nat.le_of_ble_eq_true rfl) hw (fun x2 M1 H locs hw r3 hR hS => ?_)
  refine lv_istore_n (lv' := [(3, .int (Int32.ofInt x2)), (0, .ref (α 11 0)), (1, .int (Int32.ofInt p1)), (2, .int (Int32.ofInt p2))]) X.1.1 X.1.2.1 dX10_shown_5 rfl hl (by decide) rfl (fun ls hl => ?_)
  refine lv_iload_n X.1.1 X.1.2.1 dX10_shown_6 rfl (lv_at hl 0 rfl) ?_
  have s10 := hw.1
  have hw := hw.2
  have r11 := inR_ite (c := x2 = 0) (inR_c (a := 0) rfl) (inR_ite (c := ¬ (M1 60 0 (M1 65 0 p1)) = 1) (inR_c (a := 0) rfl) (inR_ite (c := p2 < 0) (inR_c (a := 0) rfl) (inR_c (a := 1) rfl)))
  refine cut_j (A := ∀ v12 : Int, v12 = (if x2 = 0 then (0 : Int) else (if ¬ (M1 60 0 (M1 65 0 p1)) = 1 then (0 : Int) else (if p2 < 0 then (0 : Int) else 1))) → WI p l e 8 s m args below meth c G e0 α κ B Qm H locs 34 ls [.int (Int32.ofInt v12)]) (fun J13 => ?_) ?_
  · refine sa_if_eq (tgt := 33) X.1 r3 dX10_shown_7 (by decide) (fun hc => ?_) (fun hc => ?_)
    · skip
      refine sa_const X.1 dX10_shown_33 ?_
      exact J13 (0) (if_pos (c := x2 = 0) hc).symm
    · have hw := s10 hc
      refine lv_aload_n X.1.1 X.1.2.1 dX10_shown_10 rfl (lv_at hl 1 rfl) ?_
      refine gt_11_5 X hR (okf X.2.2.1 rfl) kw_1534 dX10_shown_11 ?_
      refine lv_aload_n X.1.1 X.1.2.1 dX10_shown_14 rfl (lv_at hl 1 rfl) ?_
      refine gt_11_11 X hR (okf X.2.2.1 rfl) kw_1540 dX10_shown_15 ?_
      refine lv_iload_n X.1.1 X.1.2.1 dX10_shown_18 rfl (lv_at hl 2 rfl) ?_
      have c4 := hw.1
      have hw := hw.2
      refine ra_65 X hR (okf X.2.2.1 rfl) c4 dX10_shown_19 ?_
      have c5 := hw.1
      have hw := hw.2
      refine ra_60 X hR (okf X.2.2.1 rfl) c5 dX10_shown_20 ?_
      refine sa_const X.1 dX10_shown_21 ?_
      refine cut_j (A := ∀ v8 : Int, v8 = (if ¬ (M1 60 0 (M1 65 0 p1)) = 1 then (0 : Int) else (if p2 < 0 then (0 : Int) else 1)) → WI p l e 8 s m args below meth c G e0 α κ B Qm H locs 34 ls [.int (Int32.ofInt v8)]) (fun J9 => ?_) ?_
      · refine sa_icmp_ne (tgt := 33) X.1 (hR.r 60 0 (M1 65 0 p1)) (inR_c (a := 1) rfl) dX10_shown_22 (by decide) (fun hc => ?_) (fun hc => ?_)
        · skip
          refine sa_const X.1 dX10_shown_33 ?_
          exact J9 (0) (if_pos (c := ¬ (M1 60 0 (M1 65 0 p1)) = 1) hc).symm
        · skip
          refine lv_iload_n X.1.1 X.1.2.1 dX10_shown_25 rfl (lv_at hl 3 rfl) ?_
          refine cut_j (A := ∀ v6 : Int, v6 = (if p2 < 0 then (0 : Int) else 1) → WI p l e 8 s m args below meth c G e0 α κ B Qm H locs 34 ls [.int (Int32.ofInt v6)]) (fun J7 => ?_) ?_
          · refine sa_if_lt (tgt := 33) X.1 hp2 dX10_shown_26 (by decide) (fun hc => ?_) (fun hc => ?_)
            · skip
              refine sa_const X.1 dX10_shown_33 ?_
              exact J7 (0) (if_pos (c := p2 < 0) hc).symm
            · skip
              refine sa_const X.1 dX10_shown_29 ?_
              refine lv_goto (tgt := 34) X.1.1 X.1.2.1 dX10_shown_30 (by decide) ?_
              exact J7 (1) (if_neg (c := p2 < 0) (Int.not_lt.mpr hc)).symm
          intro v6 hv6
          subst hv6
          exact J9 ((if p2 < 0 then (0 : Int) else 1)) (if_neg (c := ¬ (M1 60 0 (M1 65 0 p1)) = 1) (fun z => z hc)).symm
      intro v8 hv8
      subst hv8
      exact J13 ((if ¬ (M1 60 0 (M1 65 0 p1)) = 1 then (0 : Int) else (if p2 < 0 then (0 : Int) else 1))) (if_neg (c := x2 = 0) hc).symm
  intro v12 hv12
  subst hv12
  refine lv_istore (lv' := [(4, .int (Int32.ofInt (if x2 = 0 then (0 : Int) else (if ¬ (M1 60 0 (M1 65 0 p1)) = 1 then (0 : Int) else (if p2 < 0 then (0 : Int) else 1))))), (3, .int (Int32.ofInt x2)), (0, .ref (α 11 0)), (1, .int (Int32.ofInt p1)), (2, .int (Int32.ofInt p2))]) X.1.1 X.1.2.1 dX10_shown_34 hl (by decide) rfl (fun ls hl => ?_)
  refine lv_aload_n X.1.1 X.1.2.1 dX10_shown_36 rfl (lv_at hl 2 rfl) ?_
  refine lv_iload_n X.1.1 X.1.2.1 dX10_shown_37 rfl (lv_at hl 1 rfl) ?_
  refine lv_iload X.1.1 X.1.2.1 dX10_shown_38 (lv_at hl 0 rfl) ?_
  refine lv_iload X.1.1 X.1.2.1 dX10_shown_40 (lv_at hl 0 rfl) ?_
  refine sa_if_eq (tgt := 56) X.1 r11 dX10_shown_42 (by decide) (fun hc => ?_) (fun hc => ?_)
  · have hw := hw.1 hc
    exact t_X10_shown_56 X hp1 hp2 _ _ _ hw r11 r3 _ _ hR hS _ (lv_sub hl [2, 3, 4] rfl)
  · have hw := hw.2 hc
    refine lv_aload_n X.1.1 X.1.2.1 dX10_shown_45 rfl (lv_at hl 2 rfl) ?_
    refine cs_X10_laysPages X  (kc := 8) rmL_ok rm_c (by decide) hR hS kw_1973 hl.1 dX10_shown_46 (Nat.le_of_ble_eq_true rfl) hw (fun x45 M44 H locs hw r46 hR hS => ?_)
    have r47 := inR_ite (c := x45 = 0) (inR_c (a := 0) rfl) (inR_c (a := 1) rfl)
    refine cut_j (A := ∀ v48 : Int, v48 = (if x45 = 0 then (0 : Int) else 1) → WI p l e 8 s m args below meth c G e0 α κ B Qm H locs 57 ls [.int (Int32.ofInt v48), .int (Int32.ofInt (if x2 = 0 then (0 : Int) else (if ¬ (M1 60 0 (M1 65 0 p1)) = 1 then (0 : Int) else (if p2 < 0 then (0 : Int) else 1)))), .int (Int32.ofInt x2), .ref (α 11 0)]) (fun J49 => ?_) ?_
    · refine sa_if_eq (tgt := 56) X.1 r46 dX10_shown_49 (by decide) (fun hc => ?_) (fun hc => ?_)
      · skip
        refine sa_const X.1 dX10_shown_56 ?_
        exact J49 (0) (if_pos (c := x45 = 0) hc).symm
      · skip
        refine sa_const X.1 dX10_shown_52 ?_
        refine lv_goto (tgt := 57) X.1.1 X.1.2.1 dX10_shown_53 (by decide) ?_
        exact J49 (1) (if_neg (c := x45 = 0) hc).symm
    intro v48 hv48
    subst hv48
    refine cs_X10_goes X r3 r11 r47 (kc := 8) rmL_ok rm_c (by decide) hR hS kw_1721 hl.1 dX10_shown_57 (Nat.le_of_ble_eq_true rfl) hw (fun x51 M50 H locs hw r52 hR hS => ?_)
    refine sa_if_ne (tgt := 65) X.1 r52 dX10_shown_60 (by decide) (fun hc => ?_) (fun hc => ?_)
    · have hw := hw.1 hc
      refine lv_aload_n X.1.1 X.1.2.1 dX10_shown_65 rfl (lv_at hl 2 rfl) ?_
      refine lv_iload_n X.1.1 X.1.2.1 dX10_shown_66 rfl (lv_at hl 3 rfl) ?_
      refine cs_X10_linesOf X hp1 (kc := 8) rmL_ok rm_c (by decide) hR hS kw_1905 hl.1 dX10_shown_67 (Nat.le_of_ble_eq_true rfl) hw (fun x54 M53 H locs hw r55 hR hS => ?_)
      refine lv_istore (lv' := [(5, .int (Int32.ofInt x54)), (4, .int (Int32.ofInt (if x2 = 0 then (0 : Int) else (if ¬ (M1 60 0 (M1 65 0 p1)) = 1 then (0 : Int) else (if p2 < 0 then (0 : Int) else 1))))), (3, .int (Int32.ofInt x2)), (0, .ref (α 11 0)), (1, .int (Int32.ofInt p1)), (2, .int (Int32.ofInt p2))]) X.1.1 X.1.2.1 dX10_shown_70 hl (by decide) rfl (fun ls hl => ?_)
      refine sa_const X.1 dX10_shown_72 ?_
      refine lv_istore (lv' := [(6, .int (Int32.ofInt 0)), (5, .int (Int32.ofInt x54)), (4, .int (Int32.ofInt (if x2 = 0 then (0 : Int) else (if ¬ (M1 60 0 (M1 65 0 p1)) = 1 then (0 : Int) else (if p2 < 0 then (0 : Int) else 1))))), (3, .int (Int32.ofInt x2)), (0, .ref (α 11 0)), (1, .int (Int32.ofInt p1)), (2, .int (Int32.ofInt p2))]) X.1.1 X.1.2.1 dX10_shown_73 hl (by decide) rfl (fun ls hl => ?_)
      refine sa_const X.1 dX10_shown_75 ?_
      refine lv_istore (lv' := [(7, .int (Int32.ofInt 0)), (6, .int (Int32.ofInt 0)), (5, .int (Int32.ofInt x54)), (4, .int (Int32.ofInt (if x2 = 0 then (0 : Int) else (if ¬ (M1 60 0 (M1 65 0 p1)) = 1 then (0 : Int) else (if p2 < 0 then (0 : Int) else 1))))), (3, .int (Int32.ofInt x2)), (0, .ref (α 11 0)), (1, .int (Int32.ofInt p1)), (2, .int (Int32.ofInt p2))]) X.1.1 X.1.2.1 dX10_shown_76 hl (by decide) rfl (fun ls hl => ?_)
      obtain ⟨n56, hw⟩ := hw
      exact t_X10_shown_78 X hp1 hp2 n56 _ _ _ _ hw r55 (inR_c (a := 0) rfl) (inR_c (a := 0) rfl) _ _ hR hS _ (lv_sub hl [5, 6, 7, 2, 1, 0] rfl)
    · have hw := hw.2 hc
      refine sa_const X.1 dX10_shown_63 ?_
      exact sa_iret X.1 X.2.2.2.1 X.2.2.2.2 hR hS (inR_c (a := 0) rfl) hw dX10_shown_64
theorem m_X10_shown {l : Launch} {G : Gx} {e0 : Nat} {α : Ax} {κ : Nat → Int} {B : Nat} {p1 : Int} {p2 : Int} (hκ : kOK κ) (hp1 : inR p1) (hp2 : inR p2) {M : Mem} {Qm : Int → Mem → Prop} (hw : wp_X10_shown p1 p2 M Qm) : CI l yX10_shown (Cond.code yX10_shown cX10_shown 9 (some .int)) 8 G e0 α κ B [.ref (α 11 0), .int (Int32.ofInt p1), .int (Int32.ofInt p2)] M Qm :=
  CI.mk hκ (by decide +kernel) rfl (Nat.le_of_ble_eq_true rfl) (lv := [(0, .ref (α 11 0)), (1, .int (Int32.ofInt p1)), (2, .int (Int32.ofInt p2))]) rfl (fun p e s m args below meth c ls X hR hS hl => t_X10_shown X hp1 hp2 hw _ _ hR hS ls hl)
theorem cs_X10_shown {cc : ByteArray} {nL : Nat} {own : String} {ret : Option FieldType} {idx pc : Nat} {p1 : Int} {p2 : Int} (X : CX p m c cc nL s args own G B κ meth ret) (hp1 : inR p1) (hp2 : inR p2) {kc : Nat} {R : Room} {cells slots : Nat} (hRr : RmOK R kc) (hcel : cells ≤ R.cells ∧ slots ≤ R.slots) (hk : 8 + 1 ≤ kc) {M : Mem} {H : Heap} {locs : List Loc} (hR : Rp G e0 α κ B M H) (hS : va_S (fun q => B ≤ q) s.heap H locs) (k1 : Cond.methodLink own idx yX10_shown ∈ gw) {ls : Array Slot} (hml : ls.size = nL) {rest : List Value} (hd : decode cc pc = .ok (.invokevirtual idx, 3)) (hrest : (rest.map fun v => v.category).sum ≤ 8) {Q : State → Prop} {Qm : Int → Mem → Prop} (hw : wp_X10_shown p1 p2 M Qm) (kk : ∀ (r : Int) (M1 : Mem) (H1 : Heap) (locs1 : List Loc), Qm r M1 → inR r → Rp G e0 α κ B M1 H1 → va_S (fun q => B ≤ q) s.heap H1 locs1 → W p l e R s m args below meth c H1 locs1 cells slots Q (F0 m (pc + 3) ls (.int (Int32.ofInt r) :: rest))) : W p l e R s m args below meth c H locs cells slots Q (F0 m pc ls (.int (Int32.ofInt p2) :: .int (Int32.ofInt p1) :: .ref (α 11 0) :: rest)) :=
  sa_callVI 8 (n := 2) (As := [.int (Int32.ofInt p1), .int (Int32.ofInt p2)]) (rest := rest) X.1 X.2.1 hR hS (m_X10_shown X.2.2.1 hp1 hp2 hw) k1 kw_2026 kw_2027 kw_104 kw_2028 ⟨rfl, by decide +kernel, by decide +kernel, by decide +kernel⟩ (rm_ok hRr hk (by decide)) (rc_11 X hR (okf X.2.2.1 rfl)) rfl rfl hrest hml hd hcel kk
def wp_X10_isPage (p1 : Int) (M : Mem) (Qm : Int → Mem → Prop) : Prop := (inR ((M 11 0 49) - 1)) ∧ wp_X10_in p1 0 ((M 11 0 49) - 1) M fun (x4 : Int) (M3 : Mem) => (bit x4) ∧ Qm x4 M3
set_option maxHeartbeats 4000000 in
set_option maxRecDepth 100000 in
theorem t_X10_isPage {p1 : Int} (X : CX p m c cX10_isPage 2 s args RX10 G B κ meth (some .boolean)) (hp1 : inR p1) {M : Mem} {Qm : Int → Mem → Prop} (hw : wp_X10_isPage p1 M Qm) (H : Heap) (locs : List Loc) (hR : Rp G e0 α κ B M H) (hS : va_S (fun q => B ≤ q) s.heap H locs) (ls : Array Slot) (hl : lv_has ls 2 [(0, .ref (α 11 0)), (1, .int (Int32.ofInt p1))]) : WI p l e 1 s m args below meth c G e0 α κ B Qm H locs 0 ls [] := by
  have hw : (inR ((M 11 0 49) - 1)) ∧ wp_X10_in p1 0 ((M 11 0 49) - 1) M fun (x4 : Int) (M3 : Mem) => (bit x4) ∧ Qm x4 M3 := hw
  refine lv_iload_n X.1.1 X.1.2.1 dX10_isPage_0 rfl (lv_at hl 1 rfl) ?_
  refine sa_const X.1 dX10_isPage_1 ?_
  refine lv_aload_n X.1.1 X.1.2.1 dX10_isPage_2 rfl (lv_at hl 0 rfl) ?_
  refine gt_11_49 X hR (okf X.2.2.1 rfl) kw_1578 dX10_isPage_3 ?_
  have r1 := hR.r 11 0 49
  refine sa_const X.1 dX10_isPage_6 ?_
  have c2 := hw.1
  have hw := hw.2
  refine sa_isub X.1 dX10_isPage_7 ?_
  refine cs_X10_in X hp1 (inR_c (a := 0) rfl) c2 (kc := 1) rmL_ok rm_c (by decide) hR hS kw_1718 hl.1 dX10_isPage_8 (Nat.le_of_ble_eq_true rfl) hw (fun x4 M3 H locs hw r5 hR hS => ?_)
  have c6 := hw.1
  have hw := hw.2
  exact sa_zret X.1 X.2.2.2.1 X.2.2.2.2 hR hS c6 hw dX10_isPage_11
theorem m_X10_isPage {l : Launch} {G : Gx} {e0 : Nat} {α : Ax} {κ : Nat → Int} {B : Nat} {p1 : Int} (hκ : kOK κ) (hp1 : inR p1) {M : Mem} {Qm : Int → Mem → Prop} (hw : wp_X10_isPage p1 M Qm) : CI l yX10_isPage (Cond.code yX10_isPage cX10_isPage 2 (some .boolean)) 1 G e0 α κ B [.ref (α 11 0), .int (Int32.ofInt p1)] M Qm :=
  CI.mk hκ (by decide +kernel) rfl (Nat.le_of_ble_eq_true rfl) (lv := [(0, .ref (α 11 0)), (1, .int (Int32.ofInt p1))]) rfl (fun p e s m args below meth c ls X hR hS hl => t_X10_isPage X hp1 hw _ _ hR hS ls hl)
theorem cs_X10_isPage {cc : ByteArray} {nL : Nat} {own : String} {ret : Option FieldType} {idx pc : Nat} {p1 : Int} (X : CX p m c cc nL s args own G B κ meth ret) (hp1 : inR p1) {kc : Nat} {R : Room} {cells slots : Nat} (hRr : RmOK R kc) (hcel : cells ≤ R.cells ∧ slots ≤ R.slots) (hk : 1 + 1 ≤ kc) {M : Mem} {H : Heap} {locs : List Loc} (hR : Rp G e0 α κ B M H) (hS : va_S (fun q => B ≤ q) s.heap H locs) (k1 : Cond.methodLink own idx yX10_isPage ∈ gw) {ls : Array Slot} (hml : ls.size = nL) {rest : List Value} (hd : decode cc pc = .ok (.invokevirtual idx, 3)) (hrest : (rest.map fun v => v.category).sum ≤ 8) {Q : State → Prop} {Qm : Int → Mem → Prop} (hw : wp_X10_isPage p1 M Qm) (kk : ∀ (r : Int) (M1 : Mem) (H1 : Heap) (locs1 : List Loc), Qm r M1 → inR r → Rp G e0 α κ B M1 H1 → va_S (fun q => B ≤ q) s.heap H1 locs1 → W p l e R s m args below meth c H1 locs1 cells slots Q (F0 m (pc + 3) ls (.int (Int32.ofInt r) :: rest))) : W p l e R s m args below meth c H locs cells slots Q (F0 m pc ls (.int (Int32.ofInt p1) :: .ref (α 11 0) :: rest)) :=
  sa_callVI 1 (n := 1) (As := [.int (Int32.ofInt p1)]) (rest := rest) X.1 X.2.1 hR hS (m_X10_isPage X.2.2.1 hp1 hw) k1 kw_2035 kw_86 kw_104 kw_2036 ⟨rfl, by decide +kernel, by decide +kernel, by decide +kernel⟩ (rm_ok hRr hk (by decide)) (rc_11 X hR (okf X.2.2.1 rfl)) rfl rfl hrest hml hd hcel kk
def wp_X10_restOfNotes (p1 : Int) (M : Mem) (Qm : Int → Mem → Prop) : Prop := ((M 11 0 26) = 0 → (0 ≤ p1 ∧ p1 < 1000) ∧ True) ∧ Qm (if (M 11 0 26) = 0 then (M 94 0 p1) else 0) M
set_option maxHeartbeats 4000000 in
set_option maxRecDepth 100000 in
theorem t_X10_restOfNotes {p1 : Int} (X : CX p m c cX10_restOfNotes 2 s args RX10 G B κ meth (some .int)) (hp1 : inR p1) {M : Mem} {Qm : Int → Mem → Prop} (hw : wp_X10_restOfNotes p1 M Qm) (H : Heap) (locs : List Loc) (hR : Rp G e0 α κ B M H) (hS : va_S (fun q => B ≤ q) s.heap H locs) (ls : Array Slot) (hl : lv_has ls 2 [(0, .ref (α 11 0)), (1, .int (Int32.ofInt p1))]) : WI p l e 0 s m args below meth c G e0 α κ B Qm H locs 0 ls [] := by
  have hw : ((M 11 0 26) = 0 → (0 ≤ p1 ∧ p1 < 1000) ∧ True) ∧ Qm (if (M 11 0 26) = 0 then (M 94 0 p1) else 0) M := hw
  refine lv_aload_n X.1.1 X.1.2.1 dX10_restOfNotes_0 rfl (lv_at hl 0 rfl) ?_
  refine gt_11_26 X hR (okf X.2.2.1 rfl) kw_1555 dX10_restOfNotes_1 ?_
  have r1 := hR.r 11 0 26
  have s3 := hw.1
  have hw := hw.2
  have r4 := inR_ite (c := (M 11 0 26) = 0) (hR.r 94 0 p1) (inR_c (a := 0) rfl)
  refine cut_j (A := ∀ v5 : Int, v5 = (if (M 11 0 26) = 0 then (M 94 0 p1) else 0) → WI p l e 0 s m args below meth c G e0 α κ B Qm H locs 17 ls [.int (Int32.ofInt v5)]) (fun J6 => ?_) ?_
  · refine sa_if_eq (tgt := 11) X.1 r1 dX10_restOfNotes_4 (by decide) (fun hc => ?_) (fun hc => ?_)
    · have hw := s3 hc
      refine lv_aload_n X.1.1 X.1.2.1 dX10_restOfNotes_11 rfl (lv_at hl 0 rfl) ?_
      refine gt_11_47 X hR (okf X.2.2.1 rfl) kw_1576 dX10_restOfNotes_12 ?_
      refine lv_iload_n X.1.1 X.1.2.1 dX10_restOfNotes_15 rfl (lv_at hl 1 rfl) ?_
      have c2 := hw.1
      have hw := hw.2
      refine ra_94 X hR (okf X.2.2.1 rfl) c2 dX10_restOfNotes_16 ?_
      exact J6 ((M 94 0 p1)) (if_pos (c := (M 11 0 26) = 0) hc).symm
    · skip
      refine sa_const X.1 dX10_restOfNotes_7 ?_
      refine lv_goto (tgt := 17) X.1.1 X.1.2.1 dX10_restOfNotes_8 (by decide) ?_
      exact J6 (0) (if_neg (c := (M 11 0 26) = 0) hc).symm
  intro v5 hv5
  subst hv5
  exact sa_iret X.1 X.2.2.2.1 X.2.2.2.2 hR hS r4 hw dX10_restOfNotes_17
theorem m_X10_restOfNotes {l : Launch} {G : Gx} {e0 : Nat} {α : Ax} {κ : Nat → Int} {B : Nat} {p1 : Int} (hκ : kOK κ) (hp1 : inR p1) {M : Mem} {Qm : Int → Mem → Prop} (hw : wp_X10_restOfNotes p1 M Qm) : CI l yX10_restOfNotes (Cond.code yX10_restOfNotes cX10_restOfNotes 2 (some .int)) 0 G e0 α κ B [.ref (α 11 0), .int (Int32.ofInt p1)] M Qm :=
  CI.mk hκ (by decide +kernel) rfl (Nat.le_of_ble_eq_true rfl) (lv := [(0, .ref (α 11 0)), (1, .int (Int32.ofInt p1))]) rfl (fun p e s m args below meth c ls X hR hS hl => t_X10_restOfNotes X hp1 hw _ _ hR hS ls hl)
theorem cs_X10_restOfNotes {cc : ByteArray} {nL : Nat} {own : String} {ret : Option FieldType} {idx pc : Nat} {p1 : Int} (X : CX p m c cc nL s args own G B κ meth ret) (hp1 : inR p1) {kc : Nat} {R : Room} {cells slots : Nat} (hRr : RmOK R kc) (hcel : cells ≤ R.cells ∧ slots ≤ R.slots) (hk : 0 + 1 ≤ kc) {M : Mem} {H : Heap} {locs : List Loc} (hR : Rp G e0 α κ B M H) (hS : va_S (fun q => B ≤ q) s.heap H locs) (k1 : Cond.methodLink own idx yX10_restOfNotes ∈ gw) {ls : Array Slot} (hml : ls.size = nL) {rest : List Value} (hd : decode cc pc = .ok (.invokevirtual idx, 3)) (hrest : (rest.map fun v => v.category).sum ≤ 8) {Q : State → Prop} {Qm : Int → Mem → Prop} (hw : wp_X10_restOfNotes p1 M Qm) (kk : ∀ (r : Int) (M1 : Mem) (H1 : Heap) (locs1 : List Loc), Qm r M1 → inR r → Rp G e0 α κ B M1 H1 → va_S (fun q => B ≤ q) s.heap H1 locs1 → W p l e R s m args below meth c H1 locs1 cells slots Q (F0 m (pc + 3) ls (.int (Int32.ofInt r) :: rest))) : W p l e R s m args below meth c H locs cells slots Q (F0 m pc ls (.int (Int32.ofInt p1) :: .ref (α 11 0) :: rest)) :=
  sa_callVI 0 (n := 1) (As := [.int (Int32.ofInt p1)]) (rest := rest) X.1 X.2.1 hR hS (m_X10_restOfNotes X.2.2.1 hp1 hw) k1 kw_2039 kw_87 kw_104 kw_2040 ⟨rfl, by decide +kernel, by decide +kernel, by decide +kernel⟩ (rm_ok hRr hk (by decide)) (rc_11 X hR (okf X.2.2.1 rfl)) rfl rfl hrest hml hd hcel kk
def wp_X10_notesOn_23 (p1 : Int) (Qm : Int → Mem → Prop) (z0 : Int) (M : Mem) : Prop := wp_X10_goes z0 0 1 M fun (x5 : Int) (M4 : Mem) => (¬ x5 = 0 → (0 ≤ p1 ∧ p1 < 1000) ∧ True) ∧ Qm (if x5 = 0 then (0 : Int) else (M4 94 0 p1)) M4
def wp_X10_notesOn (p1 : Int) (M : Mem) (Qm : Int → Mem → Prop) : Prop := wp_X10_laysPages M fun (x2 : Int) (M1 : Mem) => ((x2 = 0 → wp_X10_notesOn_23 p1 Qm x2 M1) ∧ (¬ x2 = 0 → wp_X10_isPage p1 M1 fun (x13 : Int) (M12 : Mem) => wp_X10_goes x2 (if x13 = 0 then (0 : Int) else 1) 1 M12 fun (x19 : Int) (M18 : Mem) => (¬ x19 = 0 → (0 ≤ p1 ∧ p1 < 1000) ∧ True) ∧ Qm (if x19 = 0 then (0 : Int) else (M18 94 0 p1)) M18))
set_option maxHeartbeats 4000000 in
set_option maxRecDepth 100000 in
theorem t_X10_notesOn_23 {p1 : Int} (X : CX p m c cX10_notesOn 3 s args RX10 G B κ meth (some .int)) (hp1 : inR p1) {Qm : Int → Mem → Prop} : ∀ z0 : Int, ∀ M : Mem, wp_X10_notesOn_23 p1 Qm z0 M → inR z0 → ∀ (H : Heap) (locs : List Loc), Rp G e0 α κ B M H → va_S (fun q => B ≤ q) s.heap H locs → ∀ (ls : Array Slot), lv_has ls 3 [(0, .ref (α 11 0)), (1, .int (Int32.ofInt p1))] → WI p l e 8 s m args below meth c G e0 α κ B Qm H locs 23 ls [.int (Int32.ofInt z0), .ref (α 11 0)] := by
  intro z0 M hw hz0 H locs hR hS ls hl
  have hw : wp_X10_goes z0 0 1 M fun (x5 : Int) (M4 : Mem) => (¬ x5 = 0 → (0 ≤ p1 ∧ p1 < 1000) ∧ True) ∧ Qm (if x5 = 0 then (0 : Int) else (M4 94 0 p1)) M4 := hw
  refine sa_const X.1 dX10_notesOn_23 ?_
  refine sa_const X.1 dX10_notesOn_24 ?_
  refine cs_X10_goes X hz0 (inR_c (a := 0) rfl) (inR_c (a := 1) rfl) (kc := 8) rmL_ok rm_c (by decide) hR hS kw_1721 hl.1 dX10_notesOn_25 (Nat.le_of_ble_eq_true rfl) hw (fun x5 M4 H locs hw r6 hR hS => ?_)
  have s8 := hw.1
  have hw := hw.2
  have r9 := inR_ite (c := x5 = 0) (inR_c (a := 0) rfl) (hR.r 94 0 p1)
  refine cut_j (A := ∀ v10 : Int, v10 = (if x5 = 0 then (0 : Int) else (M4 94 0 p1)) → WI p l e 8 s m args below meth c G e0 α κ B Qm H locs 41 ls [.int (Int32.ofInt v10)]) (fun J11 => ?_) ?_
  · refine sa_if_eq (tgt := 40) X.1 r6 dX10_notesOn_28 (by decide) (fun hc => ?_) (fun hc => ?_)
    · skip
      refine sa_const X.1 dX10_notesOn_40 ?_
      exact J11 (0) (if_pos (c := x5 = 0) hc).symm
    · have hw := s8 hc
      refine lv_aload_n X.1.1 X.1.2.1 dX10_notesOn_31 rfl (lv_at hl 0 rfl) ?_
      refine gt_11_47 X hR (okf X.2.2.1 rfl) kw_1576 dX10_notesOn_32 ?_
      refine lv_iload_n X.1.1 X.1.2.1 dX10_notesOn_35 rfl (lv_at hl 1 rfl) ?_
      have c7 := hw.1
      have hw := hw.2
      refine ra_94 X hR (okf X.2.2.1 rfl) c7 dX10_notesOn_36 ?_
      refine lv_goto (tgt := 41) X.1.1 X.1.2.1 dX10_notesOn_37 (by decide) ?_
      exact J11 ((M4 94 0 p1)) (if_neg (c := x5 = 0) hc).symm
  intro v10 hv10
  subst hv10
  exact sa_iret X.1 X.2.2.2.1 X.2.2.2.2 hR hS r9 hw dX10_notesOn_41
set_option maxHeartbeats 4000000 in
set_option maxRecDepth 100000 in
theorem t_X10_notesOn {p1 : Int} (X : CX p m c cX10_notesOn 3 s args RX10 G B κ meth (some .int)) (hp1 : inR p1) {M : Mem} {Qm : Int → Mem → Prop} (hw : wp_X10_notesOn p1 M Qm) (H : Heap) (locs : List Loc) (hR : Rp G e0 α κ B M H) (hS : va_S (fun q => B ≤ q) s.heap H locs) (ls : Array Slot) (hl : lv_has ls 3 [(0, .ref (α 11 0)), (1, .int (Int32.ofInt p1))]) : WI p l e 8 s m args below meth c G e0 α κ B Qm H locs 0 ls [] := by
  have hw : wp_X10_laysPages M fun (x2 : Int) (M1 : Mem) => ((x2 = 0 → wp_X10_notesOn_23 p1 Qm x2 M1) ∧ (¬ x2 = 0 → wp_X10_isPage p1 M1 fun (x13 : Int) (M12 : Mem) => wp_X10_goes x2 (if x13 = 0 then (0 : Int) else 1) 1 M12 fun (x19 : Int) (M18 : Mem) => (¬ x19 = 0 → (0 ≤ p1 ∧ p1 < 1000) ∧ True) ∧ Qm (if x19 = 0 then (0 : Int) else (M18 94 0 p1)) M18)) := hw
  refine lv_aload_n X.1.1 X.1.2.1 dX10_notesOn_0 rfl (lv_at hl 0 rfl) ?_
  refine cs_X10_laysPages X  (kc := 8) rmL_ok rm_c (by decide) hR hS kw_1973 hl.1 dX10_notesOn_1 (Nat.le_of_ble_eq_true rfl) hw (fun x2 M1 H locs hw r3 hR hS => ?_)
  refine lv_istore_n (lv' := [(2, .int (Int32.ofInt x2)), (0, .ref (α 11 0)), (1, .int (Int32.ofInt p1))]) X.1.1 X.1.2.1 dX10_notesOn_4 rfl hl (by decide) rfl (fun ls hl => ?_)
  refine lv_aload_n X.1.1 X.1.2.1 dX10_notesOn_5 rfl (lv_at hl 1 rfl) ?_
  refine lv_iload_n X.1.1 X.1.2.1 dX10_notesOn_6 rfl (lv_at hl 0 rfl) ?_
  refine lv_iload_n X.1.1 X.1.2.1 dX10_notesOn_7 rfl (lv_at hl 0 rfl) ?_
  refine sa_if_eq (tgt := 23) X.1 r3 dX10_notesOn_8 (by decide) (fun hc => ?_) (fun hc => ?_)
  · have hw := hw.1 hc
    exact t_X10_notesOn_23 X hp1 _ _ hw r3 _ _ hR hS _ (lv_sub hl [1, 2] rfl)
  · have hw := hw.2 hc
    refine lv_aload_n X.1.1 X.1.2.1 dX10_notesOn_11 rfl (lv_at hl 1 rfl) ?_
    refine lv_iload_n X.1.1 X.1.2.1 dX10_notesOn_12 rfl (lv_at hl 2 rfl) ?_
    refine cs_X10_isPage X hp1 (kc := 8) rmL_ok rm_c (by decide) hR hS kw_2033 hl.1 dX10_notesOn_13 (Nat.le_of_ble_eq_true rfl) hw (fun x13 M12 H locs hw r14 hR hS => ?_)
    have r15 := inR_ite (c := x13 = 0) (inR_c (a := 0) rfl) (inR_c (a := 1) rfl)
    refine cut_j (A := ∀ v16 : Int, v16 = (if x13 = 0 then (0 : Int) else 1) → WI p l e 8 s m args below meth c G e0 α κ B Qm H locs 24 ls [.int (Int32.ofInt v16), .int (Int32.ofInt x2), .ref (α 11 0)]) (fun J17 => ?_) ?_
    · refine sa_if_eq (tgt := 23) X.1 r14 dX10_notesOn_16 (by decide) (fun hc => ?_) (fun hc => ?_)
      · skip
        refine sa_const X.1 dX10_notesOn_23 ?_
        exact J17 (0) (if_pos (c := x13 = 0) hc).symm
      · skip
        refine sa_const X.1 dX10_notesOn_19 ?_
        refine lv_goto (tgt := 24) X.1.1 X.1.2.1 dX10_notesOn_20 (by decide) ?_
        exact J17 (1) (if_neg (c := x13 = 0) hc).symm
    intro v16 hv16
    subst hv16
    refine sa_const X.1 dX10_notesOn_24 ?_
    refine cs_X10_goes X r3 r15 (inR_c (a := 1) rfl) (kc := 8) rmL_ok rm_c (by decide) hR hS kw_1721 hl.1 dX10_notesOn_25 (Nat.le_of_ble_eq_true rfl) hw (fun x19 M18 H locs hw r20 hR hS => ?_)
    have s22 := hw.1
    have hw := hw.2
    have r23 := inR_ite (c := x19 = 0) (inR_c (a := 0) rfl) (hR.r 94 0 p1)
    refine cut_j (A := ∀ v24 : Int, v24 = (if x19 = 0 then (0 : Int) else (M18 94 0 p1)) → WI p l e 8 s m args below meth c G e0 α κ B Qm H locs 41 ls [.int (Int32.ofInt v24)]) (fun J25 => ?_) ?_
    · refine sa_if_eq (tgt := 40) X.1 r20 dX10_notesOn_28 (by decide) (fun hc => ?_) (fun hc => ?_)
      · skip
        refine sa_const X.1 dX10_notesOn_40 ?_
        exact J25 (0) (if_pos (c := x19 = 0) hc).symm
      · have hw := s22 hc
        refine lv_aload_n X.1.1 X.1.2.1 dX10_notesOn_31 rfl (lv_at hl 1 rfl) ?_
        refine gt_11_47 X hR (okf X.2.2.1 rfl) kw_1576 dX10_notesOn_32 ?_
        refine lv_iload_n X.1.1 X.1.2.1 dX10_notesOn_35 rfl (lv_at hl 2 rfl) ?_
        have c21 := hw.1
        have hw := hw.2
        refine ra_94 X hR (okf X.2.2.1 rfl) c21 dX10_notesOn_36 ?_
        refine lv_goto (tgt := 41) X.1.1 X.1.2.1 dX10_notesOn_37 (by decide) ?_
        exact J25 ((M18 94 0 p1)) (if_neg (c := x19 = 0) hc).symm
    intro v24 hv24
    subst hv24
    exact sa_iret X.1 X.2.2.2.1 X.2.2.2.2 hR hS r23 hw dX10_notesOn_41
theorem m_X10_notesOn {l : Launch} {G : Gx} {e0 : Nat} {α : Ax} {κ : Nat → Int} {B : Nat} {p1 : Int} (hκ : kOK κ) (hp1 : inR p1) {M : Mem} {Qm : Int → Mem → Prop} (hw : wp_X10_notesOn p1 M Qm) : CI l yX10_notesOn (Cond.code yX10_notesOn cX10_notesOn 3 (some .int)) 8 G e0 α κ B [.ref (α 11 0), .int (Int32.ofInt p1)] M Qm :=
  CI.mk hκ (by decide +kernel) rfl (Nat.le_of_ble_eq_true rfl) (lv := [(0, .ref (α 11 0)), (1, .int (Int32.ofInt p1))]) rfl (fun p e s m args below meth c ls X hR hS hl => t_X10_notesOn X hp1 hw _ _ hR hS ls hl)
theorem cs_X10_notesOn {cc : ByteArray} {nL : Nat} {own : String} {ret : Option FieldType} {idx pc : Nat} {p1 : Int} (X : CX p m c cc nL s args own G B κ meth ret) (hp1 : inR p1) {kc : Nat} {R : Room} {cells slots : Nat} (hRr : RmOK R kc) (hcel : cells ≤ R.cells ∧ slots ≤ R.slots) (hk : 8 + 1 ≤ kc) {M : Mem} {H : Heap} {locs : List Loc} (hR : Rp G e0 α κ B M H) (hS : va_S (fun q => B ≤ q) s.heap H locs) (k1 : Cond.methodLink own idx yX10_notesOn ∈ gw) {ls : Array Slot} (hml : ls.size = nL) {rest : List Value} (hd : decode cc pc = .ok (.invokevirtual idx, 3)) (hrest : (rest.map fun v => v.category).sum ≤ 8) {Q : State → Prop} {Qm : Int → Mem → Prop} (hw : wp_X10_notesOn p1 M Qm) (kk : ∀ (r : Int) (M1 : Mem) (H1 : Heap) (locs1 : List Loc), Qm r M1 → inR r → Rp G e0 α κ B M1 H1 → va_S (fun q => B ≤ q) s.heap H1 locs1 → W p l e R s m args below meth c H1 locs1 cells slots Q (F0 m (pc + 3) ls (.int (Int32.ofInt r) :: rest))) : W p l e R s m args below meth c H locs cells slots Q (F0 m pc ls (.int (Int32.ofInt p1) :: .ref (α 11 0) :: rest)) :=
  sa_callVI 8 (n := 1) (As := [.int (Int32.ofInt p1)]) (rest := rest) X.1 X.2.1 hR hS (m_X10_notesOn X.2.2.1 hp1 hw) k1 kw_2042 kw_2043 kw_104 kw_2044 ⟨rfl, by decide +kernel, by decide +kernel, by decide +kernel⟩ (rm_ok hRr hk (by decide)) (rc_11 X hR (okf X.2.2.1 rfl)) rfl rfl hrest hml hd hcel kk
end
