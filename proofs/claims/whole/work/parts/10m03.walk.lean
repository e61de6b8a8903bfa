theorem dX10_spreads_0 : decode cX10_spreads 0 = .ok (.iconst 2, 1) := by decide +kernel
theorem dX10_spreads_1 : decode cX10_spreads 1 = .ok (.istore_n 3, 1) := by decide +kernel
theorem dX10_spreads_2 : decode cX10_spreads 2 = .ok (.iload_n 3, 1) := by decide +kernel
theorem dX10_spreads_3 : decode cX10_spreads 3 = .ok (.bipush 6, 2) := by decide +kernel
theorem dX10_spreads_5 : decode cX10_spreads 5 = .ok (.if_icmp .gt 95, 3) := by decide +kernel
theorem dX10_spreads_8 : decode cX10_spreads 8 = .ok (.iconst 0, 1) := by decide +kernel
theorem dX10_spreads_9 : decode cX10_spreads 9 = .ok (.istore 4, 2) := by decide +kernel
theorem dX10_spreads_11 : decode cX10_spreads 11 = .ok (.iload 4, 2) := by decide +kernel
theorem dX10_spreads_13 : decode cX10_spreads 13 = .ok (.aload_n 0, 1) := by decide +kernel
theorem dX10_spreads_14 : decode cX10_spreads 14 = .ok (.getfield 172, 3) := by decide +kernel
theorem dX10_spreads_17 : decode cX10_spreads 17 = .ok (.if_icmp .ge 77, 3) := by decide +kernel
theorem dX10_spreads_20 : decode cX10_spreads 20 = .ok (.aload_n 0, 1) := by decide +kernel
theorem dX10_spreads_21 : decode cX10_spreads 21 = .ok (.iload 4, 2) := by decide +kernel
theorem dX10_spreads_23 : decode cX10_spreads 23 = .ok (.invokevirtual 223, 3) := by decide +kernel
theorem dX10_spreads_26 : decode cX10_spreads 26 = .ok (.iload_n 3, 1) := by decide +kernel
theorem dX10_spreads_27 : decode cX10_spreads 27 = .ok (.if_icmp .eq 7, 3) := by decide +kernel
theorem dX10_spreads_30 : decode cX10_spreads 30 = .ok (.iconst 0, 1) := by decide +kernel
theorem dX10_spreads_31 : decode cX10_spreads 31 = .ok (.goto 22, 3) := by decide +kernel
theorem dX10_spreads_34 : decode cX10_spreads 34 = .ok (.iload_n 2, 1) := by decide +kernel
theorem dX10_spreads_35 : decode cX10_spreads 35 = .ok (.ifCond .eq 12, 3) := by decide +kernel
theorem dX10_spreads_38 : decode cX10_spreads 38 = .ok (.aload_n 0, 1) := by decide +kernel
theorem dX10_spreads_39 : decode cX10_spreads 39 = .ok (.iload 4, 2) := by decide +kernel
theorem dX10_spreads_41 : decode cX10_spreads 41 = .ok (.invokevirtual 226, 3) := by decide +kernel
theorem dX10_spreads_44 : decode cX10_spreads 44 = .ok (.goto 9, 3) := by decide +kernel
theorem dX10_spreads_47 : decode cX10_spreads 47 = .ok (.aload_n 0, 1) := by decide +kernel
theorem dX10_spreads_48 : decode cX10_spreads 48 = .ok (.iload 4, 2) := by decide +kernel
theorem dX10_spreads_50 : decode cX10_spreads 50 = .ok (.invokevirtual 229, 3) := by decide +kernel
theorem dX10_spreads_53 : decode cX10_spreads 53 = .ok (.istore 5, 2) := by decide +kernel
theorem dX10_spreads_55 : decode cX10_spreads 55 = .ok (.iload 5, 2) := by decide +kernel
theorem dX10_spreads_57 : decode cX10_spreads 57 = .ok (.ifCond .le 31, 3) := by decide +kernel
theorem dX10_spreads_60 : decode cX10_spreads 60 = .ok (.aload_n 0, 1) := by decide +kernel
theorem dX10_spreads_61 : decode cX10_spreads 61 = .ok (.iload 4, 2) := by decide +kernel
theorem dX10_spreads_63 : decode cX10_spreads 63 = .ok (.aload_n 1, 1) := by decide +kernel
theorem dX10_spreads_64 : decode cX10_spreads 64 = .ok (.invokevirtual 232, 3) := by decide +kernel
theorem dX10_spreads_67 : decode cX10_spreads 67 = .ok (.iload 5, 2) := by decide +kernel
theorem dX10_spreads_69 : decode cX10_spreads 69 = .ok (.if_icmp .ge 19, 3) := by decide +kernel
theorem dX10_spreads_72 : decode cX10_spreads 72 = .ok (.aload_n 1, 1) := by decide +kernel
theorem dX10_spreads_73 : decode cX10_spreads 73 = .ok (.aload_n 0, 1) := by decide +kernel
theorem dX10_spreads_74 : decode cX10_spreads 74 = .ok (.iload 4, 2) := by decide +kernel
theorem dX10_spreads_76 : decode cX10_spreads 76 = .ok (.aload_n 1, 1) := by decide +kernel
theorem dX10_spreads_77 : decode cX10_spreads 77 = .ok (.invokevirtual 236, 3) := by decide +kernel
theorem dX10_spreads_80 : decode cX10_spreads 80 = .ok (.dup2, 1) := by decide +kernel
theorem dX10_spreads_81 : decode cX10_spreads 81 = .ok (.iaload, 1) := by decide +kernel
theorem dX10_spreads_82 : decode cX10_spreads 82 = .ok (.iconst 1, 1) := by decide +kernel
theorem dX10_spreads_83 : decode cX10_spreads 83 = .ok (.iadd, 1) := by decide +kernel
theorem dX10_spreads_84 : decode cX10_spreads 84 = .ok (.iastore, 1) := by decide +kernel
theorem dX10_spreads_85 : decode cX10_spreads 85 = .ok (.goto (-30), 3) := by decide +kernel
theorem dX10_spreads_88 : decode cX10_spreads 88 = .ok (.iinc 4 1, 3) := by decide +kernel
theorem dX10_spreads_91 : decode cX10_spreads 91 = .ok (.goto (-80), 3) := by decide +kernel
theorem dX10_spreads_94 : decode cX10_spreads 94 = .ok (.iinc 3 1, 3) := by decide +kernel
theorem dX10_spreads_97 : decode cX10_spreads 97 = .ok (.goto (-95), 3) := by decide +kernel
theorem dX10_spreads_100 : decode cX10_spreads 100 = .ok (.return_, 1) := by decide +kernel
theorem dX10_laysLeasts_0 : decode cX10_laysLeasts 0 = .ok (.iconst 0, 1) := by decide +kernel
theorem dX10_laysLeasts_1 : decode cX10_laysLeasts 1 = .ok (.istore_n 1, 1) := by decide +kernel
theorem dX10_laysLeasts_2 : decode cX10_laysLeasts 2 = .ok (.iload_n 1, 1) := by decide +kernel
theorem dX10_laysLeasts_3 : decode cX10_laysLeasts 3 = .ok (.aload_n 0, 1) := by decide +kernel
theorem dX10_laysLeasts_4 : decode cX10_laysLeasts 4 = .ok (.getfield 162, 3) := by decide +kernel
theorem dX10_laysLeasts_7 : decode cX10_laysLeasts 7 = .ok (.if_icmp .ge 45, 3) := by decide +kernel
theorem dX10_laysLeasts_10 : decode cX10_laysLeasts 10 = .ok (.aload_n 0, 1) := by decide +kernel
theorem dX10_laysLeasts_11 : decode cX10_laysLeasts 11 = .ok (.iload_n 1, 1) := by decide +kernel
theorem dX10_laysLeasts_12 : decode cX10_laysLeasts 12 = .ok (.invokevirtual 239, 3) := by decide +kernel
theorem dX10_laysLeasts_15 : decode cX10_laysLeasts 15 = .ok (.aload_n 0, 1) := by decide +kernel
theorem dX10_laysLeasts_16 : decode cX10_laysLeasts 16 = .ok (.getfield 96, 3) := by decide +kernel
theorem dX10_laysLeasts_19 : decode cX10_laysLeasts 19 = .ok (.iload_n 1, 1) := by decide +kernel
theorem dX10_laysLeasts_20 : decode cX10_laysLeasts 20 = .ok (.aload_n 0, 1) := by decide +kernel
theorem dX10_laysLeasts_21 : decode cX10_laysLeasts 21 = .ok (.getfield 90, 3) := by decide +kernel
theorem dX10_laysLeasts_24 : decode cX10_laysLeasts 24 = .ok (.iload_n 1, 1) := by decide +kernel
theorem dX10_laysLeasts_25 : decode cX10_laysLeasts 25 = .ok (.iaload, 1) := by decide +kernel
theorem dX10_laysLeasts_26 : decode cX10_laysLeasts 26 = .ok (.aload_n 0, 1) := by decide +kernel
theorem dX10_laysLeasts_27 : decode cX10_laysLeasts 27 = .ok (.getfield 93, 3) := by decide +kernel
theorem dX10_laysLeasts_30 : decode cX10_laysLeasts 30 = .ok (.iload_n 1, 1) := by decide +kernel
theorem dX10_laysLeasts_31 : decode cX10_laysLeasts 31 = .ok (.iaload, 1) := by decide +kernel
theorem dX10_laysLeasts_32 : decode cX10_laysLeasts 32 = .ok (.iadd, 1) := by decide +kernel
theorem dX10_laysLeasts_33 : decode cX10_laysLeasts 33 = .ok (.iastore, 1) := by decide +kernel
theorem dX10_laysLeasts_34 : decode cX10_laysLeasts 34 = .ok (.aload_n 0, 1) := by decide +kernel
theorem dX10_laysLeasts_35 : decode cX10_laysLeasts 35 = .ok (.getfield 99, 3) := by decide +kernel
theorem dX10_laysLeasts_38 : decode cX10_laysLeasts 38 = .ok (.iload_n 1, 1) := by decide +kernel
theorem dX10_laysLeasts_39 : decode cX10_laysLeasts 39 = .ok (.aload_n 0, 1) := by decide +kernel
theorem dX10_laysLeasts_40 : decode cX10_laysLeasts 40 = .ok (.getfield 96, 3) := by decide +kernel
theorem dX10_laysLeasts_43 : decode cX10_laysLeasts 43 = .ok (.iload_n 1, 1) := by decide +kernel
theorem dX10_laysLeasts_44 : decode cX10_laysLeasts 44 = .ok (.iaload, 1) := by decide +kernel
theorem dX10_laysLeasts_45 : decode cX10_laysLeasts 45 = .ok (.iastore, 1) := by decide +kernel
theorem dX10_laysLeasts_46 : decode cX10_laysLeasts 46 = .ok (.iinc 1 1, 3) := by decide +kernel
theorem dX10_laysLeasts_49 : decode cX10_laysLeasts 49 = .ok (.goto (-47), 3) := by decide +kernel
theorem dX10_laysLeasts_52 : decode cX10_laysLeasts 52 = .ok (.iconst 0, 1) := by decide +kernel
theorem dX10_laysLeasts_53 : decode cX10_laysLeasts 53 = .ok (.istore_n 1, 1) := by decide +kernel
theorem dX10_laysLeasts_54 : decode cX10_laysLeasts 54 = .ok (.iload_n 1, 1) := by decide +kernel
theorem dX10_laysLeasts_55 : decode cX10_laysLeasts 55 = .ok (.aload_n 0, 1) := by decide +kernel
theorem dX10_laysLeasts_56 : decode cX10_laysLeasts 56 = .ok (.getfield 172, 3) := by decide +kernel
theorem dX10_laysLeasts_59 : decode cX10_laysLeasts 59 = .ok (.if_icmp .ge 68, 3) := by decide +kernel
theorem dX10_laysLeasts_62 : decode cX10_laysLeasts 62 = .ok (.aload_n 0, 1) := by decide +kernel
theorem dX10_laysLeasts_63 : decode cX10_laysLeasts 63 = .ok (.iload_n 1, 1) := by decide +kernel
theorem dX10_laysLeasts_64 : decode cX10_laysLeasts 64 = .ok (.invokevirtual 223, 3) := by decide +kernel
theorem dX10_laysLeasts_67 : decode cX10_laysLeasts 67 = .ok (.iconst 1, 1) := by decide +kernel
theorem dX10_laysLeasts_68 : decode cX10_laysLeasts 68 = .ok (.if_icmp .ne 53, 3) := by decide +kernel
theorem dX10_laysLeasts_71 : decode cX10_laysLeasts 71 = .ok (.aload_n 0, 1) := by decide +kernel
theorem dX10_laysLeasts_72 : decode cX10_laysLeasts 72 = .ok (.iload_n 1, 1) := by decide +kernel
theorem dX10_laysLeasts_73 : decode cX10_laysLeasts 73 = .ok (.aload_n 0, 1) := by decide +kernel
theorem dX10_laysLeasts_74 : decode cX10_laysLeasts 74 = .ok (.getfield 96, 3) := by decide +kernel
theorem dX10_laysLeasts_77 : decode cX10_laysLeasts 77 = .ok (.invokevirtual 236, 3) := by decide +kernel
theorem dX10_laysLeasts_80 : decode cX10_laysLeasts 80 = .ok (.istore_n 2, 1) := by decide +kernel
theorem dX10_laysLeasts_81 : decode cX10_laysLeasts 81 = .ok (.aload_n 0, 1) := by decide +kernel
theorem dX10_laysLeasts_82 : decode cX10_laysLeasts 82 = .ok (.getfield 96, 3) := by decide +kernel
theorem dX10_laysLeasts_85 : decode cX10_laysLeasts 85 = .ok (.iload_n 2, 1) := by decide +kernel
theorem dX10_laysLeasts_86 : decode cX10_laysLeasts 86 = .ok (.aload_n 0, 1) := by decide +kernel
theorem dX10_laysLeasts_87 : decode cX10_laysLeasts 87 = .ok (.getfield 96, 3) := by decide +kernel
theorem dX10_laysLeasts_90 : decode cX10_laysLeasts 90 = .ok (.iload_n 2, 1) := by decide +kernel
theorem dX10_laysLeasts_91 : decode cX10_laysLeasts 91 = .ok (.iaload, 1) := by decide +kernel
theorem dX10_laysLeasts_92 : decode cX10_laysLeasts 92 = .ok (.aload_n 0, 1) := by decide +kernel
theorem dX10_laysLeasts_93 : decode cX10_laysLeasts 93 = .ok (.iload_n 1, 1) := by decide +kernel
theorem dX10_laysLeasts_94 : decode cX10_laysLeasts 94 = .ok (.invokevirtual 229, 3) := by decide +kernel
theorem dX10_laysLeasts_97 : decode cX10_laysLeasts 97 = .ok (.invokestatic 217, 3) := by decide +kernel
theorem dX10_laysLeasts_100 : decode cX10_laysLeasts 100 = .ok (.iastore, 1) := by decide +kernel
theorem dX10_laysLeasts_101 : decode cX10_laysLeasts 101 = .ok (.aload_n 0, 1) := by decide +kernel
theorem dX10_laysLeasts_102 : decode cX10_laysLeasts 102 = .ok (.getfield 99, 3) := by decide +kernel
theorem dX10_laysLeasts_105 : decode cX10_laysLeasts 105 = .ok (.iload_n 2, 1) := by decide +kernel
theorem dX10_laysLeasts_106 : decode cX10_laysLeasts 106 = .ok (.aload_n 0, 1) := by decide +kernel
theorem dX10_laysLeasts_107 : decode cX10_laysLeasts 107 = .ok (.getfield 99, 3) := by decide +kernel
theorem dX10_laysLeasts_110 : decode cX10_laysLeasts 110 = .ok (.iload_n 2, 1) := by decide +kernel
theorem dX10_laysLeasts_111 : decode cX10_laysLeasts 111 = .ok (.iaload, 1) := by decide +kernel
theorem dX10_laysLeasts_112 : decode cX10_laysLeasts 112 = .ok (.aload_n 0, 1) := by decide +kernel
theorem dX10_laysLeasts_113 : decode cX10_laysLeasts 113 = .ok (.iload_n 1, 1) := by decide +kernel
theorem dX10_laysLeasts_114 : decode cX10_laysLeasts 114 = .ok (.invokevirtual 226, 3) := by decide +kernel
theorem dX10_laysLeasts_117 : decode cX10_laysLeasts 117 = .ok (.invokestatic 217, 3) := by decide +kernel
theorem dX10_laysLeasts_120 : decode cX10_laysLeasts 120 = .ok (.iastore, 1) := by decide +kernel
theorem dX10_laysLeasts_121 : decode cX10_laysLeasts 121 = .ok (.iinc 1 1, 3) := by decide +kernel
theorem dX10_laysLeasts_124 : decode cX10_laysLeasts 124 = .ok (.goto (-70), 3) := by decide +kernel
theorem dX10_laysLeasts_127 : decode cX10_laysLeasts 127 = .ok (.aload_n 0, 1) := by decide +kernel
theorem dX10_laysLeasts_128 : decode cX10_laysLeasts 128 = .ok (.aload_n 0, 1) := by decide +kernel
theorem dX10_laysLeasts_129 : decode cX10_laysLeasts 129 = .ok (.getfield 96, 3) := by decide +kernel
theorem dX10_laysLeasts_132 : decode cX10_laysLeasts 132 = .ok (.iconst 0, 1) := by decide +kernel
theorem dX10_laysLeasts_133 : decode cX10_laysLeasts 133 = .ok (.invokevirtual 243, 3) := by decide +kernel
theorem dX10_laysLeasts_136 : decode cX10_laysLeasts 136 = .ok (.aload_n 0, 1) := by decide +kernel
theorem dX10_laysLeasts_137 : decode cX10_laysLeasts 137 = .ok (.aload_n 0, 1) := by decide +kernel
theorem dX10_laysLeasts_138 : decode cX10_laysLeasts 138 = .ok (.getfield 99, 3) := by decide +kernel
theorem dX10_laysLeasts_141 : decode cX10_laysLeasts 141 = .ok (.iconst 1, 1) := by decide +kernel
theorem dX10_laysLeasts_142 : decode cX10_laysLeasts 142 = .ok (.invokevirtual 243, 3) := by decide +kernel
theorem dX10_laysLeasts_145 : decode cX10_laysLeasts 145 = .ok (.iconst 0, 1) := by decide +kernel
theorem dX10_laysLeasts_146 : decode cX10_laysLeasts 146 = .ok (.istore_n 1, 1) := by decide +kernel
theorem dX10_laysLeasts_147 : decode cX10_laysLeasts 147 = .ok (.iload_n 1, 1) := by decide +kernel
theorem dX10_laysLeasts_148 : decode cX10_laysLeasts 148 = .ok (.aload_n 0, 1) := by decide +kernel
theorem dX10_laysLeasts_149 : decode cX10_laysLeasts 149 = .ok (.getfield 162, 3) := by decide +kernel
theorem dX10_laysLeasts_152 : decode cX10_laysLeasts 152 = .ok (.if_icmp .ge 80, 3) := by decide +kernel
theorem dX10_laysLeasts_155 : decode cX10_laysLeasts 155 = .ok (.aload_n 0, 1) := by decide +kernel
theorem dX10_laysLeasts_156 : decode cX10_laysLeasts 156 = .ok (.getfield 99, 3) := by decide +kernel
theorem dX10_laysLeasts_159 : decode cX10_laysLeasts 159 = .ok (.iload_n 1, 1) := by decide +kernel
theorem dX10_laysLeasts_160 : decode cX10_laysLeasts 160 = .ok (.aload_n 0, 1) := by decide +kernel
theorem dX10_laysLeasts_161 : decode cX10_laysLeasts 161 = .ok (.getfield 99, 3) := by decide +kernel
theorem dX10_laysLeasts_164 : decode cX10_laysLeasts 164 = .ok (.iload_n 1, 1) := by decide +kernel
theorem dX10_laysLeasts_165 : decode cX10_laysLeasts 165 = .ok (.iaload, 1) := by decide +kernel
theorem dX10_laysLeasts_166 : decode cX10_laysLeasts 166 = .ok (.aload_n 0, 1) := by decide +kernel
theorem dX10_laysLeasts_167 : decode cX10_laysLeasts 167 = .ok (.getfield 96, 3) := by decide +kernel
theorem dX10_laysLeasts_170 : decode cX10_laysLeasts 170 = .ok (.iload_n 1, 1) := by decide +kernel
theorem dX10_laysLeasts_171 : decode cX10_laysLeasts 171 = .ok (.iaload, 1) := by decide +kernel
theorem dX10_laysLeasts_172 : decode cX10_laysLeasts 172 = .ok (.invokestatic 217, 3) := by decide +kernel
theorem dX10_laysLeasts_175 : decode cX10_laysLeasts 175 = .ok (.iastore, 1) := by decide +kernel
theorem dX10_laysLeasts_176 : decode cX10_laysLeasts 176 = .ok (.aload_n 0, 1) := by decide +kernel
theorem dX10_laysLeasts_177 : decode cX10_laysLeasts 177 = .ok (.getfield 96, 3) := by decide +kernel
theorem dX10_laysLeasts_180 : decode cX10_laysLeasts 180 = .ok (.iload_n 1, 1) := by decide +kernel
theorem dX10_laysLeasts_181 : decode cX10_laysLeasts 181 = .ok (.aload_n 0, 1) := by decide +kernel
theorem dX10_laysLeasts_182 : decode cX10_laysLeasts 182 = .ok (.getfield 20, 3) := by decide +kernel
theorem dX10_laysLeasts_185 : decode cX10_laysLeasts 185 = .ok (.iload_n 1, 1) := by decide +kernel
theorem dX10_laysLeasts_186 : decode cX10_laysLeasts 186 = .ok (.baload, 1) := by decide +kernel
theorem dX10_laysLeasts_187 : decode cX10_laysLeasts 187 = .ok (.ifCond .eq 7, 3) := by decide +kernel
theorem dX10_laysLeasts_190 : decode cX10_laysLeasts 190 = .ok (.iconst 0, 1) := by decide +kernel
theorem dX10_laysLeasts_191 : decode cX10_laysLeasts 191 = .ok (.goto 9, 3) := by decide +kernel
theorem dX10_laysLeasts_194 : decode cX10_laysLeasts 194 = .ok (.aload_n 0, 1) := by decide +kernel
theorem dX10_laysLeasts_195 : decode cX10_laysLeasts 195 = .ok (.getfield 96, 3) := by decide +kernel
theorem dX10_laysLeasts_198 : decode cX10_laysLeasts 198 = .ok (.iload_n 1, 1) := by decide +kernel
theorem dX10_laysLeasts_199 : decode cX10_laysLeasts 199 = .ok (.iaload, 1) := by decide +kernel
theorem dX10_laysLeasts_200 : decode cX10_laysLeasts 200 = .ok (.iastore, 1) := by decide +kernel
theorem dX10_laysLeasts_201 : decode cX10_laysLeasts 201 = .ok (.aload_n 0, 1) := by decide +kernel
theorem dX10_laysLeasts_202 : decode cX10_laysLeasts 202 = .ok (.getfield 99, 3) := by decide +kernel
theorem dX10_laysLeasts_205 : decode cX10_laysLeasts 205 = .ok (.iload_n 1, 1) := by decide +kernel
theorem dX10_laysLeasts_206 : decode cX10_laysLeasts 206 = .ok (.aload_n 0, 1) := by decide +kernel
theorem dX10_laysLeasts_207 : decode cX10_laysLeasts 207 = .ok (.getfield 20, 3) := by decide +kernel
theorem dX10_laysLeasts_210 : decode cX10_laysLeasts 210 = .ok (.iload_n 1, 1) := by decide +kernel
theorem dX10_laysLeasts_211 : decode cX10_laysLeasts 211 = .ok (.baload, 1) := by decide +kernel
theorem dX10_laysLeasts_212 : decode cX10_laysLeasts 212 = .ok (.ifCond .eq 7, 3) := by decide +kernel
theorem dX10_laysLeasts_215 : decode cX10_laysLeasts 215 = .ok (.iconst 0, 1) := by decide +kernel
theorem dX10_laysLeasts_216 : decode cX10_laysLeasts 216 = .ok (.goto 9, 3) := by decide +kernel
theorem dX10_laysLeasts_219 : decode cX10_laysLeasts 219 = .ok (.aload_n 0, 1) := by decide +kernel
theorem dX10_laysLeasts_220 : decode cX10_laysLeasts 220 = .ok (.getfield 99, 3) := by decide +kernel
theorem dX10_laysLeasts_223 : decode cX10_laysLeasts 223 = .ok (.iload_n 1, 1) := by decide +kernel
theorem dX10_laysLeasts_224 : decode cX10_laysLeasts 224 = .ok (.iaload, 1) := by decide +kernel
theorem dX10_laysLeasts_225 : decode cX10_laysLeasts 225 = .ok (.iastore, 1) := by decide +kernel
theorem dX10_laysLeasts_226 : decode cX10_laysLeasts 226 = .ok (.iinc 1 1, 3) := by decide +kernel
theorem dX10_laysLeasts_229 : decode cX10_laysLeasts 229 = .ok (.goto (-82), 3) := by decide +kernel
theorem dX10_laysLeasts_232 : decode cX10_laysLeasts 232 = .ok (.return_, 1) := by decide +kernel
theorem dX10_between_0 : decode cX10_between 0 = .ok (.aload_n 0, 1) := by decide +kernel
theorem dX10_between_1 : decode cX10_between 1 = .ok (.invokevirtual 203, 3) := by decide +kernel
theorem dX10_between_4 : decode cX10_between 4 = .ok (.iconst 1, 1) := by decide +kernel
theorem dX10_between_5 : decode cX10_between 5 = .ok (.isub, 1) := by decide +kernel
theorem dX10_between_6 : decode cX10_between 6 = .ok (.ireturn, 1) := by decide +kernel
theorem dX10_part_0 : decode cX10_part 0 = .ok (.iload_n 0, 1) := by decide +kernel
theorem dX10_part_1 : decode cX10_part 1 = .ok (.iload_n 1, 1) := by decide +kernel
theorem dX10_part_2 : decode cX10_part 2 = .ok (.imul, 1) := by decide +kernel
theorem dX10_part_3 : decode cX10_part 3 = .ok (.istore_n 2, 1) := by decide +kernel
theorem dX10_part_4 : decode cX10_part 4 = .ok (.iload_n 2, 1) := by decide +kernel
theorem dX10_part_5 : decode cX10_part 5 = .ok (.ifCond .lt 10, 3) := by decide +kernel
theorem dX10_part_8 : decode cX10_part 8 = .ok (.iload_n 2, 1) := by decide +kernel
theorem dX10_part_9 : decode cX10_part 9 = .ok (.bipush 100, 2) := by decide +kernel
theorem dX10_part_11 : decode cX10_part 11 = .ok (.idiv, 1) := by decide +kernel
theorem dX10_part_12 : decode cX10_part 12 = .ok (.goto 12, 3) := by decide +kernel
theorem dX10_part_15 : decode cX10_part 15 = .ok (.iload_n 2, 1) := by decide +kernel
theorem dX10_part_16 : decode cX10_part 16 = .ok (.ineg, 1) := by decide +kernel
theorem dX10_part_17 : decode cX10_part 17 = .ok (.bipush 99, 2) := by decide +kernel
theorem dX10_part_19 : decode cX10_part 19 = .ok (.iadd, 1) := by decide +kernel
theorem dX10_part_20 : decode cX10_part 20 = .ok (.bipush 100, 2) := by decide +kernel
theorem dX10_part_22 : decode cX10_part 22 = .ok (.idiv, 1) := by decide +kernel
theorem dX10_part_23 : decode cX10_part 23 = .ok (.ineg, 1) := by decide +kernel
theorem dX10_part_24 : decode cX10_part 24 = .ok (.ireturn, 1) := by decide +kernel
theorem dX10_sumOfWidths_0 : decode cX10_sumOfWidths 0 = .ok (.aload_n 0, 1) := by decide +kernel
theorem dX10_sumOfWidths_1 : decode cX10_sumOfWidths 1 = .ok (.getfield 162, 3) := by decide +kernel
theorem dX10_sumOfWidths_4 : decode cX10_sumOfWidths 4 = .ok (.ifCond .le 10, 3) := by decide +kernel
theorem dX10_sumOfWidths_7 : decode cX10_sumOfWidths 7 = .ok (.aload_n 0, 1) := by decide +kernel
theorem dX10_sumOfWidths_8 : decode cX10_sumOfWidths 8 = .ok (.invokevirtual 247, 3) := by decide +kernel
theorem dX10_sumOfWidths_11 : decode cX10_sumOfWidths 11 = .ok (.goto 4, 3) := by decide +kernel
theorem dX10_sumOfWidths_14 : decode cX10_sumOfWidths 14 = .ok (.iconst 0, 1) := by decide +kernel
theorem dX10_sumOfWidths_15 : decode cX10_sumOfWidths 15 = .ok (.istore_n 1, 1) := by decide +kernel
theorem dX10_sumOfWidths_16 : decode cX10_sumOfWidths 16 = .ok (.iconst 0, 1) := by decide +kernel
theorem dX10_sumOfWidths_17 : decode cX10_sumOfWidths 17 = .ok (.istore_n 2, 1) := by decide +kernel
theorem dX10_sumOfWidths_18 : decode cX10_sumOfWidths 18 = .ok (.iload_n 2, 1) := by decide +kernel
theorem dX10_sumOfWidths_19 : decode cX10_sumOfWidths 19 = .ok (.aload_n 0, 1) := by decide +kernel
theorem dX10_sumOfWidths_20 : decode cX10_sumOfWidths 20 = .ok (.getfield 162, 3) := by decide +kernel
theorem dX10_sumOfWidths_23 : decode cX10_sumOfWidths 23 = .ok (.if_icmp .ge 18, 3) := by decide +kernel
theorem dX10_sumOfWidths_26 : decode cX10_sumOfWidths 26 = .ok (.iload_n 1, 1) := by decide +kernel
theorem dX10_sumOfWidths_27 : decode cX10_sumOfWidths 27 = .ok (.aload_n 0, 1) := by decide +kernel
theorem dX10_sumOfWidths_28 : decode cX10_sumOfWidths 28 = .ok (.getfield 102, 3) := by decide +kernel
theorem dX10_sumOfWidths_31 : decode cX10_sumOfWidths 31 = .ok (.iload_n 2, 1) := by decide +kernel
theorem dX10_sumOfWidths_32 : decode cX10_sumOfWidths 32 = .ok (.iaload, 1) := by decide +kernel
theorem dX10_sumOfWidths_33 : decode cX10_sumOfWidths 33 = .ok (.iadd, 1) := by decide +kernel
theorem dX10_sumOfWidths_34 : decode cX10_sumOfWidths 34 = .ok (.istore_n 1, 1) := by decide +kernel
theorem dX10_sumOfWidths_35 : decode cX10_sumOfWidths 35 = .ok (.iinc 2 1, 3) := by decide +kernel
theorem dX10_sumOfWidths_38 : decode cX10_sumOfWidths 38 = .ok (.goto (-20), 3) := by decide +kernel
theorem dX10_sumOfWidths_41 : decode cX10_sumOfWidths 41 = .ok (.iload_n 1, 1) := by decide +kernel
theorem dX10_sumOfWidths_42 : decode cX10_sumOfWidths 42 = .ok (.ireturn, 1) := by decide +kernel
theorem dX10_laysNarrow_0 : decode cX10_laysNarrow 0 = .ok (.aload_n 0, 1) := by decide +kernel
theorem dX10_laysNarrow_1 : decode cX10_laysNarrow 1 = .ok (.invokevirtual 250, 3) := by decide +kernel
theorem dX10_laysNarrow_4 : decode cX10_laysNarrow 4 = .ok (.iconst 0, 1) := by decide +kernel
theorem dX10_laysNarrow_5 : decode cX10_laysNarrow 5 = .ok (.istore_n 1, 1) := by decide +kernel
theorem dX10_laysNarrow_6 : decode cX10_laysNarrow 6 = .ok (.iload_n 1, 1) := by decide +kernel
theorem dX10_laysNarrow_7 : decode cX10_laysNarrow 7 = .ok (.aload_n 0, 1) := by decide +kernel
theorem dX10_laysNarrow_8 : decode cX10_laysNarrow 8 = .ok (.getfield 162, 3) := by decide +kernel
theorem dX10_laysNarrow_11 : decode cX10_laysNarrow 11 = .ok (.if_icmp .ge 90, 3) := by decide +kernel
theorem dX10_laysNarrow_14 : decode cX10_laysNarrow 14 = .ok (.aload_n 0, 1) := by decide +kernel
theorem dX10_laysNarrow_15 : decode cX10_laysNarrow 15 = .ok (.getfield 7, 3) := by decide +kernel
theorem dX10_laysNarrow_18 : decode cX10_laysNarrow 18 = .ok (.iload_n 1, 1) := by decide +kernel
theorem dX10_laysNarrow_19 : decode cX10_laysNarrow 19 = .ok (.iaload, 1) := by decide +kernel
theorem dX10_laysNarrow_20 : decode cX10_laysNarrow 20 = .ok (.iconst 1, 1) := by decide +kernel
theorem dX10_laysNarrow_21 : decode cX10_laysNarrow 21 = .ok (.if_icmp .ne 12, 3) := by decide +kernel
theorem dX10_laysNarrow_24 : decode cX10_laysNarrow 24 = .ok (.aload_n 0, 1) := by decide +kernel
theorem dX10_laysNarrow_25 : decode cX10_laysNarrow 25 = .ok (.getfield 13, 3) := by decide +kernel
theorem dX10_laysNarrow_28 : decode cX10_laysNarrow 28 = .ok (.iload_n 1, 1) := by decide +kernel
theorem dX10_laysNarrow_29 : decode cX10_laysNarrow 29 = .ok (.iaload, 1) := by decide +kernel
theorem dX10_laysNarrow_30 : decode cX10_laysNarrow 30 = .ok (.goto 35, 3) := by decide +kernel
theorem dX10_laysNarrow_33 : decode cX10_laysNarrow 33 = .ok (.aload_n 0, 1) := by decide +kernel
theorem dX10_laysNarrow_34 : decode cX10_laysNarrow 34 = .ok (.getfield 7, 3) := by decide +kernel
theorem dX10_laysNarrow_37 : decode cX10_laysNarrow 37 = .ok (.iload_n 1, 1) := by decide +kernel
theorem dX10_laysNarrow_38 : decode cX10_laysNarrow 38 = .ok (.iaload, 1) := by decide +kernel
theorem dX10_laysNarrow_39 : decode cX10_laysNarrow 39 = .ok (.iconst 2, 1) := by decide +kernel
theorem dX10_laysNarrow_40 : decode cX10_laysNarrow 40 = .ok (.if_icmp .ne 24, 3) := by decide +kernel
theorem dX10_laysNarrow_43 : decode cX10_laysNarrow 43 = .ok (.aload_n 0, 1) := by decide +kernel
theorem dX10_laysNarrow_44 : decode cX10_laysNarrow 44 = .ok (.getfield 74, 3) := by decide +kernel
theorem dX10_laysNarrow_47 : decode cX10_laysNarrow 47 = .ok (.aload_n 0, 1) := by decide +kernel
theorem dX10_laysNarrow_48 : decode cX10_laysNarrow 48 = .ok (.invokevirtual 247, 3) := by decide +kernel
theorem dX10_laysNarrow_51 : decode cX10_laysNarrow 51 = .ok (.isub, 1) := by decide +kernel
theorem dX10_laysNarrow_52 : decode cX10_laysNarrow 52 = .ok (.aload_n 0, 1) := by decide +kernel
theorem dX10_laysNarrow_53 : decode cX10_laysNarrow 53 = .ok (.getfield 13, 3) := by decide +kernel
theorem dX10_laysNarrow_56 : decode cX10_laysNarrow 56 = .ok (.iload_n 1, 1) := by decide +kernel
theorem dX10_laysNarrow_57 : decode cX10_laysNarrow 57 = .ok (.iaload, 1) := by decide +kernel
theorem dX10_laysNarrow_58 : decode cX10_laysNarrow 58 = .ok (.invokestatic 253, 3) := by decide +kernel
theorem dX10_laysNarrow_61 : decode cX10_laysNarrow 61 = .ok (.goto 4, 3) := by decide +kernel
theorem dX10_laysNarrow_64 : decode cX10_laysNarrow 64 = .ok (.iconst 0, 1) := by decide +kernel
theorem dX10_laysNarrow_65 : decode cX10_laysNarrow 65 = .ok (.istore_n 2, 1) := by decide +kernel
theorem dX10_laysNarrow_66 : decode cX10_laysNarrow 66 = .ok (.aload_n 0, 1) := by decide +kernel
theorem dX10_laysNarrow_67 : decode cX10_laysNarrow 67 = .ok (.getfield 102, 3) := by decide +kernel
theorem dX10_laysNarrow_70 : decode cX10_laysNarrow 70 = .ok (.iload_n 1, 1) := by decide +kernel
theorem dX10_laysNarrow_71 : decode cX10_laysNarrow 71 = .ok (.aload_n 0, 1) := by decide +kernel
theorem dX10_laysNarrow_72 : decode cX10_laysNarrow 72 = .ok (.getfield 20, 3) := by decide +kernel
theorem dX10_laysNarrow_75 : decode cX10_laysNarrow 75 = .ok (.iload_n 1, 1) := by decide +kernel
theorem dX10_laysNarrow_76 : decode cX10_laysNarrow 76 = .ok (.baload, 1) := by decide +kernel
theorem dX10_laysNarrow_77 : decode cX10_laysNarrow 77 = .ok (.ifCond .eq 7, 3) := by decide +kernel
theorem dX10_laysNarrow_80 : decode cX10_laysNarrow 80 = .ok (.iconst 0, 1) := by decide +kernel
theorem dX10_laysNarrow_81 : decode cX10_laysNarrow 81 = .ok (.goto 13, 3) := by decide +kernel
theorem dX10_laysNarrow_84 : decode cX10_laysNarrow 84 = .ok (.iload_n 2, 1) := by decide +kernel
theorem dX10_laysNarrow_85 : decode cX10_laysNarrow 85 = .ok (.aload_n 0, 1) := by decide +kernel
theorem dX10_laysNarrow_86 : decode cX10_laysNarrow 86 = .ok (.getfield 96, 3) := by decide +kernel
theorem dX10_laysNarrow_89 : decode cX10_laysNarrow 89 = .ok (.iload_n 1, 1) := by decide +kernel
theorem dX10_laysNarrow_90 : decode cX10_laysNarrow 90 = .ok (.iaload, 1) := by decide +kernel
theorem dX10_laysNarrow_91 : decode cX10_laysNarrow 91 = .ok (.invokestatic 217, 3) := by decide +kernel
theorem dX10_laysNarrow_94 : decode cX10_laysNarrow 94 = .ok (.iastore, 1) := by decide +kernel
theorem dX10_laysNarrow_95 : decode cX10_laysNarrow 95 = .ok (.iinc 1 1, 3) := by decide +kernel
theorem dX10_laysNarrow_98 : decode cX10_laysNarrow 98 = .ok (.goto (-92), 3) := by decide +kernel
theorem dX10_laysNarrow_101 : decode cX10_laysNarrow 101 = .ok (.return_, 1) := by decide +kernel
theorem dX10_isOpen_0 : decode cX10_isOpen 0 = .ok (.aload_n 0, 1) := by decide +kernel
theorem dX10_isOpen_1 : decode cX10_isOpen 1 = .ok (.getfield 20, 3) := by decide +kernel
theorem dX10_isOpen_4 : decode cX10_isOpen 4 = .ok (.iload_n 1, 1) := by decide +kernel
theorem dX10_isOpen_5 : decode cX10_isOpen 5 = .ok (.baload, 1) := by decide +kernel
theorem dX10_isOpen_6 : decode cX10_isOpen 6 = .ok (.ifCond .ne 16, 3) := by decide +kernel
theorem dX10_isOpen_9 : decode cX10_isOpen 9 = .ok (.aload_n 0, 1) := by decide +kernel
theorem dX10_isOpen_10 : decode cX10_isOpen 10 = .ok (.getfield 7, 3) := by decide +kernel
theorem dX10_isOpen_13 : decode cX10_isOpen 13 = .ok (.iload_n 1, 1) := by decide +kernel
theorem dX10_isOpen_14 : decode cX10_isOpen 14 = .ok (.iaload, 1) := by decide +kernel
theorem dX10_isOpen_15 : decode cX10_isOpen 15 = .ok (.ifCond .ne 7, 3) := by decide +kernel
theorem dX10_isOpen_18 : decode cX10_isOpen 18 = .ok (.iconst 1, 1) := by decide +kernel
theorem dX10_isOpen_19 : decode cX10_isOpen 19 = .ok (.goto 4, 3) := by decide +kernel
theorem dX10_isOpen_22 : decode cX10_isOpen 22 = .ok (.iconst 0, 1) := by decide +kernel
theorem dX10_isOpen_23 : decode cX10_isOpen 23 = .ok (.ireturn, 1) := by decide +kernel
theorem dX10_laysWidths_0 : decode cX10_laysWidths 0 = .ok (.aload_n 0, 1) := by decide +kernel
theorem dX10_laysWidths_1 : decode cX10_laysWidths 1 = .ok (.invokevirtual 256, 3) := by decide +kernel
theorem dX10_laysWidths_4 : decode cX10_laysWidths 4 = .ok (.aload_n 0, 1) := by decide +kernel
theorem dX10_laysWidths_5 : decode cX10_laysWidths 5 = .ok (.getfield 74, 3) := by decide +kernel
theorem dX10_laysWidths_8 : decode cX10_laysWidths 8 = .ok (.aload_n 0, 1) := by decide +kernel
theorem dX10_laysWidths_9 : decode cX10_laysWidths 9 = .ok (.invokevirtual 259, 3) := by decide +kernel
theorem dX10_laysWidths_12 : decode cX10_laysWidths 12 = .ok (.isub, 1) := by decide +kernel
theorem dX10_laysWidths_13 : decode cX10_laysWidths 13 = .ok (.istore_n 1, 1) := by decide +kernel
theorem dX10_laysWidths_14 : decode cX10_laysWidths 14 = .ok (.iconst 0, 1) := by decide +kernel
theorem dX10_laysWidths_15 : decode cX10_laysWidths 15 = .ok (.istore_n 2, 1) := by decide +kernel
theorem dX10_laysWidths_16 : decode cX10_laysWidths 16 = .ok (.iconst 0, 1) := by decide +kernel
theorem dX10_laysWidths_17 : decode cX10_laysWidths 17 = .ok (.istore_n 3, 1) := by decide +kernel
theorem dX10_laysWidths_18 : decode cX10_laysWidths 18 = .ok (.iload_n 3, 1) := by decide +kernel
theorem dX10_laysWidths_19 : decode cX10_laysWidths 19 = .ok (.aload_n 0, 1) := by decide +kernel
theorem dX10_laysWidths_20 : decode cX10_laysWidths 20 = .ok (.getfield 162, 3) := by decide +kernel
theorem dX10_laysWidths_23 : decode cX10_laysWidths 23 = .ok (.if_icmp .ge 37, 3) := by decide +kernel
theorem dX10_laysWidths_26 : decode cX10_laysWidths 26 = .ok (.iload_n 2, 1) := by decide +kernel
theorem dX10_laysWidths_27 : decode cX10_laysWidths 27 = .ok (.aload_n 0, 1) := by decide +kernel
theorem dX10_laysWidths_28 : decode cX10_laysWidths 28 = .ok (.iload_n 3, 1) := by decide +kernel
theorem dX10_laysWidths_29 : decode cX10_laysWidths 29 = .ok (.invokevirtual 262, 3) := by decide +kernel
theorem dX10_laysWidths_32 : decode cX10_laysWidths 32 = .ok (.ifCond .eq 19, 3) := by decide +kernel
theorem dX10_laysWidths_35 : decode cX10_laysWidths 35 = .ok (.aload_n 0, 1) := by decide +kernel
theorem dX10_laysWidths_36 : decode cX10_laysWidths 36 = .ok (.getfield 99, 3) := by decide +kernel
theorem dX10_laysWidths_39 : decode cX10_laysWidths 39 = .ok (.iload_n 3, 1) := by decide +kernel
theorem dX10_laysWidths_40 : decode cX10_laysWidths 40 = .ok (.iaload, 1) := by decide +kernel
theorem dX10_laysWidths_41 : decode cX10_laysWidths 41 = .ok (.aload_n 0, 1) := by decide +kernel
theorem dX10_laysWidths_42 : decode cX10_laysWidths 42 = .ok (.getfield 96, 3) := by decide +kernel
theorem dX10_laysWidths_45 : decode cX10_laysWidths 45 = .ok (.iload_n 3, 1) := by decide +kernel
theorem dX10_laysWidths_46 : decode cX10_laysWidths 46 = .ok (.iaload, 1) := by decide +kernel
theorem dX10_laysWidths_47 : decode cX10_laysWidths 47 = .ok (.isub, 1) := by decide +kernel
theorem dX10_laysWidths_48 : decode cX10_laysWidths 48 = .ok (.goto 4, 3) := by decide +kernel
theorem dX10_laysWidths_51 : decode cX10_laysWidths 51 = .ok (.iconst 0, 1) := by decide +kernel
theorem dX10_laysWidths_52 : decode cX10_laysWidths 52 = .ok (.iadd, 1) := by decide +kernel
theorem dX10_laysWidths_53 : decode cX10_laysWidths 53 = .ok (.istore_n 2, 1) := by decide +kernel
theorem dX10_laysWidths_54 : decode cX10_laysWidths 54 = .ok (.iinc 3 1, 3) := by decide +kernel
theorem dX10_laysWidths_57 : decode cX10_laysWidths 57 = .ok (.goto (-39), 3) := by decide +kernel
theorem dX10_laysWidths_60 : decode cX10_laysWidths 60 = .ok (.iconst 0, 1) := by decide +kernel
theorem dX10_laysWidths_61 : decode cX10_laysWidths 61 = .ok (.istore_n 3, 1) := by decide +kernel
theorem dX10_laysWidths_62 : decode cX10_laysWidths 62 = .ok (.iconst 0, 1) := by decide +kernel
theorem dX10_laysWidths_63 : decode cX10_laysWidths 63 = .ok (.istore 4, 2) := by decide +kernel
theorem dX10_laysWidths_65 : decode cX10_laysWidths 65 = .ok (.iload 4, 2) := by decide +kernel
theorem dX10_laysWidths_67 : decode cX10_laysWidths 67 = .ok (.aload_n 0, 1) := by decide +kernel
theorem dX10_laysWidths_68 : decode cX10_laysWidths 68 = .ok (.getfield 162, 3) := by decide +kernel
theorem dX10_laysWidths_71 : decode cX10_laysWidths 71 = .ok (.if_icmp .ge 87, 3) := by decide +kernel
theorem dX10_laysWidths_74 : decode cX10_laysWidths 74 = .ok (.iload_n 1, 1) := by decide +kernel
theorem dX10_laysWidths_75 : decode cX10_laysWidths 75 = .ok (.ifCond .le 83, 3) := by decide +kernel
theorem dX10_laysWidths_78 : decode cX10_laysWidths 78 = .ok (.aload_n 0, 1) := by decide +kernel
theorem dX10_laysWidths_79 : decode cX10_laysWidths 79 = .ok (.iload 4, 2) := by decide +kernel
theorem dX10_laysWidths_81 : decode cX10_laysWidths 81 = .ok (.invokevirtual 262, 3) := by decide +kernel
theorem dX10_laysWidths_84 : decode cX10_laysWidths 84 = .ok (.ifCond .ne 7, 3) := by decide +kernel
theorem dX10_laysWidths_87 : decode cX10_laysWidths 87 = .ok (.iconst 0, 1) := by decide +kernel
theorem dX10_laysWidths_88 : decode cX10_laysWidths 88 = .ok (.goto 45, 3) := by decide +kernel
theorem dX10_laysWidths_91 : decode cX10_laysWidths 91 = .ok (.iload_n 2, 1) := by decide +kernel
theorem dX10_laysWidths_92 : decode cX10_laysWidths 92 = .ok (.iload_n 1, 1) := by decide +kernel
theorem dX10_laysWidths_93 : decode cX10_laysWidths 93 = .ok (.if_icmp .ge 21, 3) := by decide +kernel
theorem dX10_laysWidths_96 : decode cX10_laysWidths 96 = .ok (.aload_n 0, 1) := by decide +kernel
theorem dX10_laysWidths_97 : decode cX10_laysWidths 97 = .ok (.getfield 99, 3) := by decide +kernel
theorem dX10_laysWidths_100 : decode cX10_laysWidths 100 = .ok (.iload 4, 2) := by decide +kernel
theorem dX10_laysWidths_102 : decode cX10_laysWidths 102 = .ok (.iaload, 1) := by decide +kernel
theorem dX10_laysWidths_103 : decode cX10_laysWidths 103 = .ok (.aload_n 0, 1) := by decide +kernel
theorem dX10_laysWidths_104 : decode cX10_laysWidths 104 = .ok (.getfield 96, 3) := by decide +kernel
theorem dX10_laysWidths_107 : decode cX10_laysWidths 107 = .ok (.iload 4, 2) := by decide +kernel
theorem dX10_laysWidths_109 : decode cX10_laysWidths 109 = .ok (.iaload, 1) := by decide +kernel
theorem dX10_laysWidths_110 : decode cX10_laysWidths 110 = .ok (.isub, 1) := by decide +kernel
theorem dX10_laysWidths_111 : decode cX10_laysWidths 111 = .ok (.goto 22, 3) := by decide +kernel
theorem dX10_laysWidths_114 : decode cX10_laysWidths 114 = .ok (.iload_n 1, 1) := by decide +kernel
theorem dX10_laysWidths_115 : decode cX10_laysWidths 115 = .ok (.aload_n 0, 1) := by decide +kernel
theorem dX10_laysWidths_116 : decode cX10_laysWidths 116 = .ok (.getfield 99, 3) := by decide +kernel
theorem dX10_laysWidths_119 : decode cX10_laysWidths 119 = .ok (.iload 4, 2) := by decide +kernel
theorem dX10_laysWidths_121 : decode cX10_laysWidths 121 = .ok (.iaload, 1) := by decide +kernel
theorem dX10_laysWidths_122 : decode cX10_laysWidths 122 = .ok (.aload_n 0, 1) := by decide +kernel
theorem dX10_laysWidths_123 : decode cX10_laysWidths 123 = .ok (.getfield 96, 3) := by decide +kernel
theorem dX10_laysWidths_126 : decode cX10_laysWidths 126 = .ok (.iload 4, 2) := by decide +kernel
theorem dX10_laysWidths_128 : decode cX10_laysWidths 128 = .ok (.iaload, 1) := by decide +kernel
theorem dX10_laysWidths_129 : decode cX10_laysWidths 129 = .ok (.isub, 1) := by decide +kernel
theorem dX10_laysWidths_130 : decode cX10_laysWidths 130 = .ok (.imul, 1) := by decide +kernel
theorem dX10_laysWidths_131 : decode cX10_laysWidths 131 = .ok (.iload_n 2, 1) := by decide +kernel
theorem dX10_laysWidths_132 : decode cX10_laysWidths 132 = .ok (.idiv, 1) := by decide +kernel
theorem dX10_laysWidths_133 : decode cX10_laysWidths 133 = .ok (.istore 5, 2) := by decide +kernel
theorem dX10_laysWidths_135 : decode cX10_laysWidths 135 = .ok (.aload_n 0, 1) := by decide +kernel
theorem dX10_laysWidths_136 : decode cX10_laysWidths 136 = .ok (.getfield 102, 3) := by decide +kernel
theorem dX10_laysWidths_139 : decode cX10_laysWidths 139 = .ok (.iload 4, 2) := by decide +kernel
theorem dX10_laysWidths_141 : decode cX10_laysWidths 141 = .ok (.dup2, 1) := by decide +kernel
theorem dX10_laysWidths_142 : decode cX10_laysWidths 142 = .ok (.iaload, 1) := by decide +kernel
theorem dX10_laysWidths_143 : decode cX10_laysWidths 143 = .ok (.iload 5, 2) := by decide +kernel
theorem dX10_laysWidths_145 : decode cX10_laysWidths 145 = .ok (.iadd, 1) := by decide +kernel
theorem dX10_laysWidths_146 : decode cX10_laysWidths 146 = .ok (.iastore, 1) := by decide +kernel
theorem dX10_laysWidths_147 : decode cX10_laysWidths 147 = .ok (.iload_n 3, 1) := by decide +kernel
theorem dX10_laysWidths_148 : decode cX10_laysWidths 148 = .ok (.iload 5, 2) := by decide +kernel
theorem dX10_laysWidths_150 : decode cX10_laysWidths 150 = .ok (.iadd, 1) := by decide +kernel
theorem dX10_laysWidths_151 : decode cX10_laysWidths 151 = .ok (.istore_n 3, 1) := by decide +kernel
theorem dX10_laysWidths_152 : decode cX10_laysWidths 152 = .ok (.iinc 4 1, 3) := by decide +kernel
theorem dX10_laysWidths_155 : decode cX10_laysWidths 155 = .ok (.goto (-90), 3) := by decide +kernel
theorem dX10_laysWidths_158 : decode cX10_laysWidths 158 = .ok (.iconst 0, 1) := by decide +kernel
theorem dX10_laysWidths_159 : decode cX10_laysWidths 159 = .ok (.istore 4, 2) := by decide +kernel
theorem dX10_laysWidths_161 : decode cX10_laysWidths 161 = .ok (.iload 4, 2) := by decide +kernel
theorem dX10_laysWidths_163 : decode cX10_laysWidths 163 = .ok (.aload_n 0, 1) := by decide +kernel
theorem dX10_laysWidths_164 : decode cX10_laysWidths 164 = .ok (.getfield 162, 3) := by decide +kernel
theorem dX10_laysWidths_167 : decode cX10_laysWidths 167 = .ok (.if_icmp .ge 63, 3) := by decide +kernel
theorem dX10_laysWidths_170 : decode cX10_laysWidths 170 = .ok (.iload_n 1, 1) := by decide +kernel
theorem dX10_laysWidths_171 : decode cX10_laysWidths 171 = .ok (.ifCond .le 59, 3) := by decide +kernel
theorem dX10_laysWidths_174 : decode cX10_laysWidths 174 = .ok (.iload_n 2, 1) := by decide +kernel
theorem dX10_laysWidths_175 : decode cX10_laysWidths 175 = .ok (.iload_n 1, 1) := by decide +kernel
theorem dX10_laysWidths_176 : decode cX10_laysWidths 176 = .ok (.if_icmp .lt 54, 3) := by decide +kernel
theorem dX10_laysWidths_179 : decode cX10_laysWidths 179 = .ok (.aload_n 0, 1) := by decide +kernel
theorem dX10_laysWidths_180 : decode cX10_laysWidths 180 = .ok (.iload 4, 2) := by decide +kernel
theorem dX10_laysWidths_182 : decode cX10_laysWidths 182 = .ok (.invokevirtual 262, 3) := by decide +kernel
theorem dX10_laysWidths_185 : decode cX10_laysWidths 185 = .ok (.ifCond .eq 39, 3) := by decide +kernel
theorem dX10_laysWidths_188 : decode cX10_laysWidths 188 = .ok (.iload_n 3, 1) := by decide +kernel
theorem dX10_laysWidths_189 : decode cX10_laysWidths 189 = .ok (.iload_n 1, 1) := by decide +kernel
theorem dX10_laysWidths_190 : decode cX10_laysWidths 190 = .ok (.if_icmp .ge 34, 3) := by decide +kernel
theorem dX10_laysWidths_193 : decode cX10_laysWidths 193 = .ok (.aload_n 0, 1) := by decide +kernel
theorem dX10_laysWidths_194 : decode cX10_laysWidths 194 = .ok (.getfield 102, 3) := by decide +kernel
theorem dX10_laysWidths_197 : decode cX10_laysWidths 197 = .ok (.iload 4, 2) := by decide +kernel
theorem dX10_laysWidths_199 : decode cX10_laysWidths 199 = .ok (.iaload, 1) := by decide +kernel
theorem dX10_laysWidths_200 : decode cX10_laysWidths 200 = .ok (.aload_n 0, 1) := by decide +kernel
theorem dX10_laysWidths_201 : decode cX10_laysWidths 201 = .ok (.getfield 99, 3) := by decide +kernel
theorem dX10_laysWidths_204 : decode cX10_laysWidths 204 = .ok (.iload 4, 2) := by decide +kernel
theorem dX10_laysWidths_206 : decode cX10_laysWidths 206 = .ok (.iaload, 1) := by decide +kernel
theorem dX10_laysWidths_207 : decode cX10_laysWidths 207 = .ok (.if_icmp .ge 17, 3) := by decide +kernel
theorem dX10_laysWidths_210 : decode cX10_laysWidths 210 = .ok (.aload_n 0, 1) := by decide +kernel
theorem dX10_laysWidths_211 : decode cX10_laysWidths 211 = .ok (.getfield 102, 3) := by decide +kernel
theorem dX10_laysWidths_214 : decode cX10_laysWidths 214 = .ok (.iload 4, 2) := by decide +kernel
theorem dX10_laysWidths_216 : decode cX10_laysWidths 216 = .ok (.dup2, 1) := by decide +kernel
theorem dX10_laysWidths_217 : decode cX10_laysWidths 217 = .ok (.iaload, 1) := by decide +kernel
theorem dX10_laysWidths_218 : decode cX10_laysWidths 218 = .ok (.iconst 1, 1) := by decide +kernel
theorem dX10_laysWidths_219 : decode cX10_laysWidths 219 = .ok (.iadd, 1) := by decide +kernel
theorem dX10_laysWidths_220 : decode cX10_laysWidths 220 = .ok (.iastore, 1) := by decide +kernel
theorem dX10_laysWidths_221 : decode cX10_laysWidths 221 = .ok (.iinc 3 1, 3) := by decide +kernel
theorem dX10_laysWidths_224 : decode cX10_laysWidths 224 = .ok (.iinc 4 1, 3) := by decide +kernel
theorem dX10_laysWidths_227 : decode cX10_laysWidths 227 = .ok (.goto (-66), 3) := by decide +kernel
theorem dX10_laysWidths_230 : decode cX10_laysWidths 230 = .ok (.return_, 1) := by decide +kernel
theorem dX10_least_0 : decode cX10_least 0 = .ok (.aload_n 0, 1) := by decide +kernel
theorem dX10_least_1 : decode cX10_least 1 = .ok (.aload_n 0, 1) := by decide +kernel
theorem dX10_least_2 : decode cX10_least 2 = .ok (.iload_n 1, 1) := by decide +kernel
theorem dX10_least_3 : decode cX10_least 3 = .ok (.invokevirtual 187, 3) := by decide +kernel
theorem dX10_least_6 : decode cX10_least 6 = .ok (.iconst 1, 1) := by decide +kernel
theorem dX10_least_7 : decode cX10_least 7 = .ok (.iconst 1, 1) := by decide +kernel
theorem dX10_least_8 : decode cX10_least 8 = .ok (.invokevirtual 175, 3) := by decide +kernel
theorem dX10_least_11 : decode cX10_least 11 = .ok (.ifCond .ne 5, 3) := by decide +kernel
theorem dX10_least_14 : decode cX10_least 14 = .ok (.iconst 0, 1) := by decide +kernel
theorem dX10_least_15 : decode cX10_least 15 = .ok (.ireturn, 1) := by decide +kernel
theorem dX10_least_16 : decode cX10_least 16 = .ok (.aload_n 0, 1) := by decide +kernel
theorem dX10_least_17 : decode cX10_least 17 = .ok (.invokevirtual 250, 3) := by decide +kernel
theorem dX10_least_20 : decode cX10_least 20 = .ok (.aload_n 0, 1) := by decide +kernel
theorem dX10_least_21 : decode cX10_least 21 = .ok (.getfield 96, 3) := by decide +kernel
theorem dX10_least_24 : decode cX10_least 24 = .ok (.iload_n 1, 1) := by decide +kernel
theorem dX10_least_25 : decode cX10_least 25 = .ok (.iaload, 1) := by decide +kernel
theorem dX10_least_26 : decode cX10_least 26 = .ok (.ireturn, 1) := by decide +kernel
theorem dX10_most_0 : decode cX10_most 0 = .ok (.aload_n 0, 1) := by decide +kernel
theorem dX10_most_1 : decode cX10_most 1 = .ok (.aload_n 0, 1) := by decide +kernel
theorem dX10_most_2 : decode cX10_most 2 = .ok (.iload_n 1, 1) := by decide +kernel
theorem dX10_most_3 : decode cX10_most 3 = .ok (.invokevirtual 187, 3) := by decide +kernel
theorem dX10_most_6 : decode cX10_most 6 = .ok (.iconst 1, 1) := by decide +kernel
theorem dX10_most_7 : decode cX10_most 7 = .ok (.iconst 1, 1) := by decide +kernel
theorem dX10_most_8 : decode cX10_most 8 = .ok (.invokevirtual 175, 3) := by decide +kernel
theorem dX10_most_11 : decode cX10_most 11 = .ok (.ifCond .ne 5, 3) := by decide +kernel
theorem dX10_most_14 : decode cX10_most 14 = .ok (.iconst 0, 1) := by decide +kernel
theorem dX10_most_15 : decode cX10_most 15 = .ok (.ireturn, 1) := by decide +kernel
theorem dX10_most_16 : decode cX10_most 16 = .ok (.aload_n 0, 1) := by decide +kernel
theorem dX10_most_17 : decode cX10_most 17 = .ok (.invokevirtual 250, 3) := by decide +kernel
theorem dX10_most_20 : decode cX10_most 20 = .ok (.aload_n 0, 1) := by decide +kernel
theorem dX10_most_21 : decode cX10_most 21 = .ok (.getfield 99, 3) := by decide +kernel
theorem dX10_most_24 : decode cX10_most 24 = .ok (.iload_n 1, 1) := by decide +kernel
theorem dX10_most_25 : decode cX10_most 25 = .ok (.iaload, 1) := by decide +kernel
theorem dX10_most_26 : decode cX10_most 26 = .ok (.ireturn, 1) := by decide +kernel
theorem dX10_width_0 : decode cX10_width 0 = .ok (.aload_n 0, 1) := by decide +kernel
theorem dX10_width_1 : decode cX10_width 1 = .ok (.aload_n 0, 1) := by decide +kernel
theorem dX10_width_2 : decode cX10_width 2 = .ok (.iload_n 1, 1) := by decide +kernel
theorem dX10_width_3 : decode cX10_width 3 = .ok (.invokevirtual 187, 3) := by decide +kernel
theorem dX10_width_6 : decode cX10_width 6 = .ok (.iconst 1, 1) := by decide +kernel
theorem dX10_width_7 : decode cX10_width 7 = .ok (.iconst 1, 1) := by decide +kernel
theorem dX10_width_8 : decode cX10_width 8 = .ok (.invokevirtual 175, 3) := by decide +kernel
theorem dX10_width_11 : decode cX10_width 11 = .ok (.ifCond .ne 5, 3) := by decide +kernel
theorem dX10_width_14 : decode cX10_width 14 = .ok (.iconst 0, 1) := by decide +kernel
theorem dX10_width_15 : decode cX10_width 15 = .ok (.ireturn, 1) := by decide +kernel
theorem dX10_width_16 : decode cX10_width 16 = .ok (.aload_n 0, 1) := by decide +kernel
theorem dX10_width_17 : decode cX10_width 17 = .ok (.invokevirtual 265, 3) := by decide +kernel
theorem dX10_width_20 : decode cX10_width 20 = .ok (.aload_n 0, 1) := by decide +kernel
theorem dX10_width_21 : decode cX10_width 21 = .ok (.getfield 102, 3) := by decide +kernel
theorem dX10_width_24 : decode cX10_width 24 = .ok (.iload_n 1, 1) := by decide +kernel
theorem dX10_width_25 : decode cX10_width 25 = .ok (.iaload, 1) := by decide +kernel
theorem dX10_width_26 : decode cX10_width 26 = .ok (.ireturn, 1) := by decide +kernel
theorem dX10_over_0 : decode cX10_over 0 = .ok (.aload_n 0, 1) := by decide +kernel
theorem dX10_over_1 : decode cX10_over 1 = .ok (.iconst 0, 1) := by decide +kernel
theorem dX10_over_2 : decode cX10_over 2 = .ok (.putfield 159, 3) := by decide +kernel
theorem dX10_over_5 : decode cX10_over 5 = .ok (.aload_n 0, 1) := by decide +kernel
theorem dX10_over_6 : decode cX10_over 6 = .ok (.invokevirtual 265, 3) := by decide +kernel
theorem dX10_over_9 : decode cX10_over 9 = .ok (.iconst 0, 1) := by decide +kernel
theorem dX10_over_10 : decode cX10_over 10 = .ok (.aload_n 0, 1) := by decide +kernel
theorem dX10_over_11 : decode cX10_over 11 = .ok (.invokevirtual 259, 3) := by decide +kernel
theorem dX10_over_14 : decode cX10_over 14 = .ok (.aload_n 0, 1) := by decide +kernel
theorem dX10_over_15 : decode cX10_over 15 = .ok (.getfield 74, 3) := by decide +kernel
theorem dX10_over_18 : decode cX10_over 18 = .ok (.isub, 1) := by decide +kernel
theorem dX10_over_19 : decode cX10_over 19 = .ok (.invokestatic 217, 3) := by decide +kernel
theorem dX10_over_22 : decode cX10_over 22 = .ok (.ireturn, 1) := by decide +kernel
theorem dX10_hasPoint_0 : decode cX10_hasPoint 0 = .ok (.aload_n 0, 1) := by decide +kernel
theorem dX10_hasPoint_1 : decode cX10_hasPoint 1 = .ok (.getfield 62, 3) := by decide +kernel
theorem dX10_hasPoint_4 : decode cX10_hasPoint 4 = .ok (.iload_n 1, 1) := by decide +kernel
theorem dX10_hasPoint_5 : decode cX10_hasPoint 5 = .ok (.baload, 1) := by decide +kernel
theorem dX10_hasPoint_6 : decode cX10_hasPoint 6 = .ok (.ifCond .eq 15, 3) := by decide +kernel
theorem dX10_hasPoint_9 : decode cX10_hasPoint 9 = .ok (.aload_n 0, 1) := by decide +kernel
theorem dX10_hasPoint_10 : decode cX10_hasPoint 10 = .ok (.iload_n 1, 1) := by decide +kernel
theorem dX10_hasPoint_11 : decode cX10_hasPoint 11 = .ok (.invokevirtual 223, 3) := by decide +kernel
theorem dX10_hasPoint_14 : decode cX10_hasPoint 14 = .ok (.ifCond .le 7, 3) := by decide +kernel
theorem dX10_hasPoint_17 : decode cX10_hasPoint 17 = .ok (.iconst 1, 1) := by decide +kernel
theorem dX10_hasPoint_18 : decode cX10_hasPoint 18 = .ok (.goto 4, 3) := by decide +kernel
theorem dX10_hasPoint_21 : decode cX10_hasPoint 21 = .ok (.iconst 0, 1) := by decide +kernel
theorem dX10_hasPoint_22 : decode cX10_hasPoint 22 = .ok (.ireturn, 1) := by decide +kernel
theorem dX10_point_0 : decode cX10_point 0 = .ok (.aload_n 0, 1) := by decide +kernel
theorem dX10_point_1 : decode cX10_point 1 = .ok (.iload_n 1, 1) := by decide +kernel
theorem dX10_point_2 : decode cX10_point 2 = .ok (.invokevirtual 194, 3) := by decide +kernel
theorem dX10_point_5 : decode cX10_point 5 = .ok (.istore_n 2, 1) := by decide +kernel
theorem dX10_point_6 : decode cX10_point 6 = .ok (.aload_n 0, 1) := by decide +kernel
theorem dX10_point_7 : decode cX10_point 7 = .ok (.iload_n 2, 1) := by decide +kernel
theorem dX10_point_8 : decode cX10_point 8 = .ok (.iload_n 2, 1) := by decide +kernel
theorem dX10_point_9 : decode cX10_point 9 = .ok (.ifCond .eq 15, 3) := by decide +kernel
theorem dX10_point_12 : decode cX10_point 12 = .ok (.aload_n 0, 1) := by decide +kernel
theorem dX10_point_13 : decode cX10_point 13 = .ok (.iload_n 1, 1) := by decide +kernel
theorem dX10_point_14 : decode cX10_point 14 = .ok (.invokevirtual 268, 3) := by decide +kernel
theorem dX10_point_17 : decode cX10_point 17 = .ok (.ifCond .eq 7, 3) := by decide +kernel
theorem dX10_point_20 : decode cX10_point 20 = .ok (.iconst 1, 1) := by decide +kernel
theorem dX10_point_21 : decode cX10_point 21 = .ok (.goto 4, 3) := by decide +kernel
theorem dX10_point_24 : decode cX10_point 24 = .ok (.iconst 0, 1) := by decide +kernel
theorem dX10_point_25 : decode cX10_point 25 = .ok (.iconst 1, 1) := by decide +kernel
theorem dX10_point_26 : decode cX10_point 26 = .ok (.invokevirtual 175, 3) := by decide +kernel
theorem dX10_point_29 : decode cX10_point 29 = .ok (.ifCond .ne 5, 3) := by decide +kernel
theorem dX10_point_32 : decode cX10_point 32 = .ok (.iconst 0, 1) := by decide +kernel
theorem dX10_point_33 : decode cX10_point 33 = .ok (.ireturn, 1) := by decide +kernel
theorem dX10_point_34 : decode cX10_point 34 = .ok (.aload_n 0, 1) := by decide +kernel
theorem dX10_point_35 : decode cX10_point 35 = .ok (.invokevirtual 265, 3) := by decide +kernel
theorem dX10_point_38 : decode cX10_point 38 = .ok (.aload_n 0, 1) := by decide +kernel
theorem dX10_point_39 : decode cX10_point 39 = .ok (.getfield 102, 3) := by decide +kernel
theorem dX10_point_42 : decode cX10_point 42 = .ok (.aload_n 0, 1) := by decide +kernel
theorem dX10_point_43 : decode cX10_point 43 = .ok (.getfield 41, 3) := by decide +kernel
theorem dX10_point_46 : decode cX10_point 46 = .ok (.iload_n 1, 1) := by decide +kernel
theorem dX10_point_47 : decode cX10_point 47 = .ok (.iaload, 1) := by decide +kernel
theorem dX10_point_48 : decode cX10_point 48 = .ok (.iaload, 1) := by decide +kernel
theorem dX10_point_49 : decode cX10_point 49 = .ok (.aload_n 0, 1) := by decide +kernel
theorem dX10_point_50 : decode cX10_point 50 = .ok (.getfield 93, 3) := by decide +kernel
theorem dX10_point_53 : decode cX10_point 53 = .ok (.aload_n 0, 1) := by decide +kernel
theorem dX10_point_54 : decode cX10_point 54 = .ok (.getfield 41, 3) := by decide +kernel
theorem dX10_point_57 : decode cX10_point 57 = .ok (.iload_n 1, 1) := by decide +kernel
theorem dX10_point_58 : decode cX10_point 58 = .ok (.iaload, 1) := by decide +kernel
theorem dX10_point_59 : decode cX10_point 59 = .ok (.iaload, 1) := by decide +kernel
theorem dX10_point_60 : decode cX10_point 60 = .ok (.isub, 1) := by decide +kernel
theorem dX10_point_61 : decode cX10_point 61 = .ok (.ireturn, 1) := by decide +kernel
theorem dX10_begins_0 : decode cX10_begins 0 = .ok (.aload_n 0, 1) := by decide +kernel
theorem dX10_begins_1 : decode cX10_begins 1 = .ok (.iload_n 1, 1) := by decide +kernel
theorem dX10_begins_2 : decode cX10_begins 2 = .ok (.invokevirtual 271, 3) := by decide +kernel
theorem dX10_begins_5 : decode cX10_begins 5 = .ok (.istore_n 2, 1) := by decide +kernel
theorem dX10_begins_6 : decode cX10_begins 6 = .ok (.aload_n 0, 1) := by decide +kernel
theorem dX10_begins_7 : decode cX10_begins 7 = .ok (.getfield 159, 3) := by decide +kernel
theorem dX10_begins_10 : decode cX10_begins 10 = .ok (.ifCond .ne 17, 3) := by decide +kernel
theorem dX10_begins_13 : decode cX10_begins 13 = .ok (.iload_n 2, 1) := by decide +kernel
theorem dX10_begins_14 : decode cX10_begins 14 = .ok (.aload_n 0, 1) := by decide +kernel
theorem dX10_begins_15 : decode cX10_begins 15 = .ok (.getfield 65, 3) := by decide +kernel
theorem dX10_begins_18 : decode cX10_begins 18 = .ok (.iload_n 1, 1) := by decide +kernel
theorem dX10_begins_19 : decode cX10_begins 19 = .ok (.iaload, 1) := by decide +kernel
theorem dX10_begins_20 : decode cX10_begins 20 = .ok (.invokestatic 214, 3) := by decide +kernel
theorem dX10_begins_23 : decode cX10_begins 23 = .ok (.isub, 1) := by decide +kernel
theorem dX10_begins_24 : decode cX10_begins 24 = .ok (.goto 4, 3) := by decide +kernel
theorem dX10_begins_27 : decode cX10_begins 27 = .ok (.iconst 0, 1) := by decide +kernel
theorem dX10_begins_28 : decode cX10_begins 28 = .ok (.ireturn, 1) := by decide +kernel
theorem dX10_wordLines_0 : decode cX10_wordLines 0 = .ok (.iconst 0, 1) := by decide +kernel
theorem dX10_wordLines_1 : decode cX10_wordLines 1 = .ok (.istore_n 3, 1) := by decide +kernel
theorem dX10_wordLines_2 : decode cX10_wordLines 2 = .ok (.iconst 0, 1) := by decide +kernel
theorem dX10_wordLines_3 : decode cX10_wordLines 3 = .ok (.istore 4, 2) := by decide +kernel
theorem dX10_wordLines_5 : decode cX10_wordLines 5 = .ok (.bipush 12, 2) := by decide +kernel
theorem dX10_wordLines_7 : decode cX10_wordLines 7 = .ok (.iload_n 1, 1) := by decide +kernel
theorem dX10_wordLines_8 : decode cX10_wordLines 8 = .ok (.imul, 1) := by decide +kernel
theorem dX10_wordLines_9 : decode cX10_wordLines 9 = .ok (.istore 5, 2) := by decide +kernel
theorem dX10_wordLines_11 : decode cX10_wordLines 11 = .ok (.iload 5, 2) := by decide +kernel
theorem dX10_wordLines_13 : decode cX10_wordLines 13 = .ok (.bipush 12, 2) := by decide +kernel
theorem dX10_wordLines_15 : decode cX10_wordLines 15 = .ok (.iload_n 1, 1) := by decide +kernel
theorem dX10_wordLines_16 : decode cX10_wordLines 16 = .ok (.imul, 1) := by decide +kernel
theorem dX10_wordLines_17 : decode cX10_wordLines 17 = .ok (.aload_n 0, 1) := by decide +kernel
theorem dX10_wordLines_18 : decode cX10_wordLines 18 = .ok (.getfield 59, 3) := by decide +kernel
theorem dX10_wordLines_21 : decode cX10_wordLines 21 = .ok (.iload_n 1, 1) := by decide +kernel
theorem dX10_wordLines_22 : decode cX10_wordLines 22 = .ok (.iaload, 1) := by decide +kernel
theorem dX10_wordLines_23 : decode cX10_wordLines 23 = .ok (.iadd, 1) := by decide +kernel
theorem dX10_wordLines_24 : decode cX10_wordLines 24 = .ok (.if_icmp .ge 151, 3) := by decide +kernel
theorem dX10_wordLines_27 : decode cX10_wordLines 27 = .ok (.aload_n 0, 1) := by decide +kernel
theorem dX10_wordLines_28 : decode cX10_wordLines 28 = .ok (.getfield 53, 3) := by decide +kernel
theorem dX10_wordLines_31 : decode cX10_wordLines 31 = .ok (.iload 5, 2) := by decide +kernel
theorem dX10_wordLines_33 : decode cX10_wordLines 33 = .ok (.iaload, 1) := by decide +kernel
theorem dX10_wordLines_34 : decode cX10_wordLines 34 = .ok (.istore 6, 2) := by decide +kernel
theorem dX10_wordLines_36 : decode cX10_wordLines 36 = .ok (.aload_n 0, 1) := by decide +kernel
theorem dX10_wordLines_37 : decode cX10_wordLines 37 = .ok (.getfield 56, 3) := by decide +kernel
theorem dX10_wordLines_40 : decode cX10_wordLines 40 = .ok (.iload 5, 2) := by decide +kernel
theorem dX10_wordLines_42 : decode cX10_wordLines 42 = .ok (.iaload, 1) := by decide +kernel
theorem dX10_wordLines_43 : decode cX10_wordLines 43 = .ok (.istore 7, 2) := by decide +kernel
theorem dX10_wordLines_45 : decode cX10_wordLines 45 = .ok (.iload 6, 2) := by decide +kernel
theorem dX10_wordLines_47 : decode cX10_wordLines 47 = .ok (.ifCond .le 122, 3) := by decide +kernel
theorem dX10_wordLines_50 : decode cX10_wordLines 50 = .ok (.iload 4, 2) := by decide +kernel
theorem dX10_wordLines_52 : decode cX10_wordLines 52 = .ok (.ifCond .ne 7, 3) := by decide +kernel
theorem dX10_wordLines_55 : decode cX10_wordLines 55 = .ok (.iconst 0, 1) := by decide +kernel
theorem dX10_wordLines_56 : decode cX10_wordLines 56 = .ok (.goto 7, 3) := by decide +kernel
theorem dX10_wordLines_59 : decode cX10_wordLines 59 = .ok (.iload 4, 2) := by decide +kernel
theorem dX10_wordLines_61 : decode cX10_wordLines 61 = .ok (.iconst 1, 1) := by decide +kernel
theorem dX10_wordLines_62 : decode cX10_wordLines 62 = .ok (.iadd, 1) := by decide +kernel
theorem dX10_wordLines_63 : decode cX10_wordLines 63 = .ok (.istore 8, 2) := by decide +kernel
theorem dX10_wordLines_65 : decode cX10_wordLines 65 = .ok (.iload 8, 2) := by decide +kernel
theorem dX10_wordLines_67 : decode cX10_wordLines 67 = .ok (.iload 6, 2) := by decide +kernel
theorem dX10_wordLines_69 : decode cX10_wordLines 69 = .ok (.iadd, 1) := by decide +kernel
theorem dX10_wordLines_70 : decode cX10_wordLines 70 = .ok (.iload_n 2, 1) := by decide +kernel
theorem dX10_wordLines_71 : decode cX10_wordLines 71 = .ok (.if_icmp .gt 29, 3) := by decide +kernel
theorem dX10_wordLines_74 : decode cX10_wordLines 74 = .ok (.iload_n 3, 1) := by decide +kernel
theorem dX10_wordLines_75 : decode cX10_wordLines 75 = .ok (.iload 4, 2) := by decide +kernel
theorem dX10_wordLines_77 : decode cX10_wordLines 77 = .ok (.ifCond .ne 7, 3) := by decide +kernel
theorem dX10_wordLines_80 : decode cX10_wordLines 80 = .ok (.iconst 1, 1) := by decide +kernel
theorem dX10_wordLines_81 : decode cX10_wordLines 81 = .ok (.goto 4, 3) := by decide +kernel
theorem dX10_wordLines_84 : decode cX10_wordLines 84 = .ok (.iconst 0, 1) := by decide +kernel
theorem dX10_wordLines_85 : decode cX10_wordLines 85 = .ok (.iadd, 1) := by decide +kernel
theorem dX10_wordLines_86 : decode cX10_wordLines 86 = .ok (.istore_n 3, 1) := by decide +kernel
theorem dX10_wordLines_87 : decode cX10_wordLines 87 = .ok (.iload 8, 2) := by decide +kernel
theorem dX10_wordLines_89 : decode cX10_wordLines 89 = .ok (.iload 6, 2) := by decide +kernel
theorem dX10_wordLines_91 : decode cX10_wordLines 91 = .ok (.iadd, 1) := by decide +kernel
theorem dX10_wordLines_92 : decode cX10_wordLines 92 = .ok (.istore 4, 2) := by decide +kernel
theorem dX10_wordLines_94 : decode cX10_wordLines 94 = .ok (.iconst 0, 1) := by decide +kernel
theorem dX10_wordLines_95 : decode cX10_wordLines 95 = .ok (.istore 6, 2) := by decide +kernel
theorem dX10_wordLines_97 : decode cX10_wordLines 97 = .ok (.goto 69, 3) := by decide +kernel
theorem dX10_wordLines_100 : decode cX10_wordLines 100 = .ok (.iload 7, 2) := by decide +kernel
theorem dX10_wordLines_102 : decode cX10_wordLines 102 = .ok (.ifCond .le 43, 3) := by decide +kernel
theorem dX10_wordLines_105 : decode cX10_wordLines 105 = .ok (.iload 8, 2) := by decide +kernel
theorem dX10_wordLines_107 : decode cX10_wordLines 107 = .ok (.iload 7, 2) := by decide +kernel
theorem dX10_wordLines_109 : decode cX10_wordLines 109 = .ok (.iadd, 1) := by decide +kernel
theorem dX10_wordLines_110 : decode cX10_wordLines 110 = .ok (.iconst 1, 1) := by decide +kernel
theorem dX10_wordLines_111 : decode cX10_wordLines 111 = .ok (.iadd, 1) := by decide +kernel
theorem dX10_wordLines_112 : decode cX10_wordLines 112 = .ok (.iload_n 2, 1) := by decide +kernel
theorem dX10_wordLines_113 : decode cX10_wordLines 113 = .ok (.if_icmp .gt 32, 3) := by decide +kernel
theorem dX10_wordLines_116 : decode cX10_wordLines 116 = .ok (.iload_n 3, 1) := by decide +kernel
theorem dX10_wordLines_117 : decode cX10_wordLines 117 = .ok (.iload 4, 2) := by decide +kernel
theorem dX10_wordLines_119 : decode cX10_wordLines 119 = .ok (.ifCond .ne 7, 3) := by decide +kernel
theorem dX10_wordLines_122 : decode cX10_wordLines 122 = .ok (.iconst 1, 1) := by decide +kernel
theorem dX10_wordLines_123 : decode cX10_wordLines 123 = .ok (.goto 4, 3) := by decide +kernel
theorem dX10_wordLines_126 : decode cX10_wordLines 126 = .ok (.iconst 0, 1) := by decide +kernel
theorem dX10_wordLines_127 : decode cX10_wordLines 127 = .ok (.iadd, 1) := by decide +kernel
theorem dX10_wordLines_128 : decode cX10_wordLines 128 = .ok (.istore_n 3, 1) := by decide +kernel
theorem dX10_wordLines_129 : decode cX10_wordLines 129 = .ok (.iconst 0, 1) := by decide +kernel
theorem dX10_wordLines_130 : decode cX10_wordLines 130 = .ok (.istore 4, 2) := by decide +kernel
theorem dX10_wordLines_132 : decode cX10_wordLines 132 = .ok (.iload 6, 2) := by decide +kernel
theorem dX10_wordLines_134 : decode cX10_wordLines 134 = .ok (.iload 7, 2) := by decide +kernel
theorem dX10_wordLines_136 : decode cX10_wordLines 136 = .ok (.isub, 1) := by decide +kernel
theorem dX10_wordLines_137 : decode cX10_wordLines 137 = .ok (.istore 6, 2) := by decide +kernel
theorem dX10_wordLines_139 : decode cX10_wordLines 139 = .ok (.iconst 0, 1) := by decide +kernel
theorem dX10_wordLines_140 : decode cX10_wordLines 140 = .ok (.istore 7, 2) := by decide +kernel
theorem dX10_wordLines_142 : decode cX10_wordLines 142 = .ok (.goto 24, 3) := by decide +kernel
theorem dX10_wordLines_145 : decode cX10_wordLines 145 = .ok (.iload 4, 2) := by decide +kernel
theorem dX10_wordLines_147 : decode cX10_wordLines 147 = .ok (.ifCond .le 9, 3) := by decide +kernel
theorem dX10_wordLines_150 : decode cX10_wordLines 150 = .ok (.iconst 0, 1) := by decide +kernel
theorem dX10_wordLines_151 : decode cX10_wordLines 151 = .ok (.istore 4, 2) := by decide +kernel
theorem dX10_wordLines_153 : decode cX10_wordLines 153 = .ok (.goto 13, 3) := by decide +kernel
theorem dX10_wordLines_156 : decode cX10_wordLines 156 = .ok (.iinc 3 1, 3) := by decide +kernel
theorem dX10_wordLines_159 : decode cX10_wordLines 159 = .ok (.iload 6, 2) := by decide +kernel
theorem dX10_wordLines_161 : decode cX10_wordLines 161 = .ok (.istore 4, 2) := by decide +kernel
theorem dX10_wordLines_163 : decode cX10_wordLines 163 = .ok (.iconst 0, 1) := by decide +kernel
theorem dX10_wordLines_164 : decode cX10_wordLines 164 = .ok (.istore 6, 2) := by decide +kernel
theorem dX10_wordLines_166 : decode cX10_wordLines 166 = .ok (.goto (-121), 3) := by decide +kernel
theorem dX10_wordLines_169 : decode cX10_wordLines 169 = .ok (.iinc 5 1, 3) := by decide +kernel
theorem dX10_wordLines_172 : decode cX10_wordLines 172 = .ok (.goto (-161), 3) := by decide +kernel
theorem dX10_wordLines_175 : decode cX10_wordLines 175 = .ok (.iload_n 3, 1) := by decide +kernel
theorem dX10_wordLines_176 : decode cX10_wordLines 176 = .ok (.ireturn, 1) := by decide +kernel
theorem dX10_linesOf_0 : decode cX10_linesOf 0 = .ok (.aload_n 0, 1) := by decide +kernel
theorem dX10_linesOf_1 : decode cX10_linesOf 1 = .ok (.iload_n 1, 1) := by decide +kernel
theorem dX10_linesOf_2 : decode cX10_linesOf 2 = .ok (.invokevirtual 223, 3) := by decide +kernel
theorem dX10_linesOf_5 : decode cX10_linesOf 5 = .ok (.ifCond .ne 7, 3) := by decide +kernel
theorem dX10_linesOf_8 : decode cX10_linesOf 8 = .ok (.iconst 0, 1) := by decide +kernel
theorem dX10_linesOf_9 : decode cX10_linesOf 9 = .ok (.goto 30, 3) := by decide +kernel
theorem dX10_linesOf_12 : decode cX10_linesOf 12 = .ok (.aload_n 0, 1) := by decide +kernel
theorem dX10_linesOf_13 : decode cX10_linesOf 13 = .ok (.getfield 62, 3) := by decide +kernel
theorem dX10_linesOf_16 : decode cX10_linesOf 16 = .ok (.iload_n 1, 1) := by decide +kernel
theorem dX10_linesOf_17 : decode cX10_linesOf 17 = .ok (.baload, 1) := by decide +kernel
theorem dX10_linesOf_18 : decode cX10_linesOf 18 = .ok (.ifCond .eq 7, 3) := by decide +kernel
theorem dX10_linesOf_21 : decode cX10_linesOf 21 = .ok (.iconst 1, 1) := by decide +kernel
theorem dX10_linesOf_22 : decode cX10_linesOf 22 = .ok (.goto 17, 3) := by decide +kernel
theorem dX10_linesOf_25 : decode cX10_linesOf 25 = .ok (.aload_n 0, 1) := by decide +kernel
theorem dX10_linesOf_26 : decode cX10_linesOf 26 = .ok (.iload_n 1, 1) := by decide +kernel
theorem dX10_linesOf_27 : decode cX10_linesOf 27 = .ok (.aload_n 0, 1) := by decide +kernel
theorem dX10_linesOf_28 : decode cX10_linesOf 28 = .ok (.iload_n 1, 1) := by decide +kernel
theorem dX10_linesOf_29 : decode cX10_linesOf 29 = .ok (.aload_n 0, 1) := by decide +kernel
theorem dX10_linesOf_30 : decode cX10_linesOf 30 = .ok (.getfield 102, 3) := by decide +kernel
theorem dX10_linesOf_33 : decode cX10_linesOf 33 = .ok (.invokevirtual 232, 3) := by decide +kernel
theorem dX10_linesOf_36 : decode cX10_linesOf 36 = .ok (.invokevirtual 274, 3) := by decide +kernel
theorem dX10_linesOf_39 : decode cX10_linesOf 39 = .ok (.ireturn, 1) := by decide +kernel
theorem dX10_laysRows_0 : decode cX10_laysRows 0 = .ok (.iconst 0, 1) := by decide +kernel
theorem dX10_laysRows_1 : decode cX10_laysRows 1 = .ok (.istore_n 1, 1) := by decide +kernel
theorem dX10_laysRows_2 : decode cX10_laysRows 2 = .ok (.iload_n 1, 1) := by decide +kernel
theorem dX10_laysRows_3 : decode cX10_laysRows 3 = .ok (.aload_n 0, 1) := by decide +kernel
theorem dX10_laysRows_4 : decode cX10_laysRows 4 = .ok (.getfield 169, 3) := by decide +kernel
theorem dX10_laysRows_7 : decode cX10_laysRows 7 = .ok (.if_icmp .ge 16, 3) := by decide +kernel
theorem dX10_laysRows_10 : decode cX10_laysRows 10 = .ok (.aload_n 0, 1) := by decide +kernel
theorem dX10_laysRows_11 : decode cX10_laysRows 11 = .ok (.getfield 105, 3) := by decide +kernel
theorem dX10_laysRows_14 : decode cX10_laysRows 14 = .ok (.iload_n 1, 1) := by decide +kernel
theorem dX10_laysRows_15 : decode cX10_laysRows 15 = .ok (.iconst 1, 1) := by decide +kernel
theorem dX10_laysRows_16 : decode cX10_laysRows 16 = .ok (.iastore, 1) := by decide +kernel
theorem dX10_laysRows_17 : decode cX10_laysRows 17 = .ok (.iinc 1 1, 3) := by decide +kernel
theorem dX10_laysRows_20 : decode cX10_laysRows 20 = .ok (.goto (-18), 3) := by decide +kernel
theorem dX10_laysRows_23 : decode cX10_laysRows 23 = .ok (.iconst 0, 1) := by decide +kernel
theorem dX10_laysRows_24 : decode cX10_laysRows 24 = .ok (.istore_n 1, 1) := by decide +kernel
theorem dX10_laysRows_25 : decode cX10_laysRows 25 = .ok (.iload_n 1, 1) := by decide +kernel
theorem dX10_laysRows_26 : decode cX10_laysRows 26 = .ok (.aload_n 0, 1) := by decide +kernel
theorem dX10_laysRows_27 : decode cX10_laysRows 27 = .ok (.getfield 172, 3) := by decide +kernel
theorem dX10_laysRows_30 : decode cX10_laysRows 30 = .ok (.if_icmp .ge 49, 3) := by decide +kernel
theorem dX10_laysRows_33 : decode cX10_laysRows 33 = .ok (.aload_n 0, 1) := by decide +kernel
theorem dX10_laysRows_34 : decode cX10_laysRows 34 = .ok (.getfield 44, 3) := by decide +kernel
theorem dX10_laysRows_37 : decode cX10_laysRows 37 = .ok (.iload_n 1, 1) := by decide +kernel
theorem dX10_laysRows_38 : decode cX10_laysRows 38 = .ok (.iaload, 1) := by decide +kernel
theorem dX10_laysRows_39 : decode cX10_laysRows 39 = .ok (.iconst 1, 1) := by decide +kernel
theorem dX10_laysRows_40 : decode cX10_laysRows 40 = .ok (.if_icmp .ne 33, 3) := by decide +kernel
theorem dX10_laysRows_43 : decode cX10_laysRows 43 = .ok (.aload_n 0, 1) := by decide +kernel
theorem dX10_laysRows_44 : decode cX10_laysRows 44 = .ok (.getfield 105, 3) := by decide +kernel
theorem dX10_laysRows_47 : decode cX10_laysRows 47 = .ok (.aload_n 0, 1) := by decide +kernel
theorem dX10_laysRows_48 : decode cX10_laysRows 48 = .ok (.getfield 38, 3) := by decide +kernel
theorem dX10_laysRows_51 : decode cX10_laysRows 51 = .ok (.iload_n 1, 1) := by decide +kernel
theorem dX10_laysRows_52 : decode cX10_laysRows 52 = .ok (.iaload, 1) := by decide +kernel
theorem dX10_laysRows_53 : decode cX10_laysRows 53 = .ok (.aload_n 0, 1) := by decide +kernel
theorem dX10_laysRows_54 : decode cX10_laysRows 54 = .ok (.getfield 105, 3) := by decide +kernel
theorem dX10_laysRows_57 : decode cX10_laysRows 57 = .ok (.aload_n 0, 1) := by decide +kernel
theorem dX10_laysRows_58 : decode cX10_laysRows 58 = .ok (.getfield 38, 3) := by decide +kernel
theorem dX10_laysRows_61 : decode cX10_laysRows 61 = .ok (.iload_n 1, 1) := by decide +kernel
theorem dX10_laysRows_62 : decode cX10_laysRows 62 = .ok (.iaload, 1) := by decide +kernel
theorem dX10_laysRows_63 : decode cX10_laysRows 63 = .ok (.iaload, 1) := by decide +kernel
theorem dX10_laysRows_64 : decode cX10_laysRows 64 = .ok (.aload_n 0, 1) := by decide +kernel
theorem dX10_laysRows_65 : decode cX10_laysRows 65 = .ok (.iload_n 1, 1) := by decide +kernel
theorem dX10_laysRows_66 : decode cX10_laysRows 66 = .ok (.invokevirtual 277, 3) := by decide +kernel
theorem dX10_laysRows_69 : decode cX10_laysRows 69 = .ok (.invokestatic 217, 3) := by decide +kernel
theorem dX10_laysRows_72 : decode cX10_laysRows 72 = .ok (.iastore, 1) := by decide +kernel
theorem dX10_laysRows_73 : decode cX10_laysRows 73 = .ok (.iinc 1 1, 3) := by decide +kernel
theorem dX10_laysRows_76 : decode cX10_laysRows 76 = .ok (.goto (-51), 3) := by decide +kernel
theorem dX10_laysRows_79 : decode cX10_laysRows 79 = .ok (.iconst 2, 1) := by decide +kernel
theorem dX10_laysRows_80 : decode cX10_laysRows 80 = .ok (.istore_n 1, 1) := by decide +kernel
theorem dX10_laysRows_81 : decode cX10_laysRows 81 = .ok (.iload_n 1, 1) := by decide +kernel
theorem dX10_laysRows_82 : decode cX10_laysRows 82 = .ok (.iconst 4, 1) := by decide +kernel
theorem dX10_laysRows_83 : decode cX10_laysRows 83 = .ok (.if_icmp .gt 104, 3) := by decide +kernel
theorem dX10_laysRows_86 : decode cX10_laysRows 86 = .ok (.iconst 0, 1) := by decide +kernel
theorem dX10_laysRows_87 : decode cX10_laysRows 87 = .ok (.istore_n 2, 1) := by decide +kernel
theorem dX10_laysRows_88 : decode cX10_laysRows 88 = .ok (.iload_n 2, 1) := by decide +kernel
theorem dX10_laysRows_89 : decode cX10_laysRows 89 = .ok (.aload_n 0, 1) := by decide +kernel
theorem dX10_laysRows_90 : decode cX10_laysRows 90 = .ok (.getfield 172, 3) := by decide +kernel
theorem dX10_laysRows_93 : decode cX10_laysRows 93 = .ok (.if_icmp .ge 88, 3) := by decide +kernel
theorem dX10_laysRows_96 : decode cX10_laysRows 96 = .ok (.aload_n 0, 1) := by decide +kernel
theorem dX10_laysRows_97 : decode cX10_laysRows 97 = .ok (.getfield 44, 3) := by decide +kernel
theorem dX10_laysRows_100 : decode cX10_laysRows 100 = .ok (.iload_n 2, 1) := by decide +kernel
theorem dX10_laysRows_101 : decode cX10_laysRows 101 = .ok (.iaload, 1) := by decide +kernel
theorem dX10_laysRows_102 : decode cX10_laysRows 102 = .ok (.iload_n 1, 1) := by decide +kernel
theorem dX10_laysRows_103 : decode cX10_laysRows 103 = .ok (.if_icmp .ne 72, 3) := by decide +kernel
theorem dX10_laysRows_106 : decode cX10_laysRows 106 = .ok (.iconst 0, 1) := by decide +kernel
theorem dX10_laysRows_107 : decode cX10_laysRows 107 = .ok (.istore_n 3, 1) := by decide +kernel
theorem dX10_laysRows_108 : decode cX10_laysRows 108 = .ok (.iconst 0, 1) := by decide +kernel
theorem dX10_laysRows_109 : decode cX10_laysRows 109 = .ok (.istore 4, 2) := by decide +kernel
theorem dX10_laysRows_111 : decode cX10_laysRows 111 = .ok (.iload 4, 2) := by decide +kernel
theorem dX10_laysRows_113 : decode cX10_laysRows 113 = .ok (.iload_n 1, 1) := by decide +kernel
theorem dX10_laysRows_114 : decode cX10_laysRows 114 = .ok (.if_icmp .ge 29, 3) := by decide +kernel
theorem dX10_laysRows_117 : decode cX10_laysRows 117 = .ok (.iload_n 3, 1) := by decide +kernel
theorem dX10_laysRows_118 : decode cX10_laysRows 118 = .ok (.aload_n 0, 1) := by decide +kernel
theorem dX10_laysRows_119 : decode cX10_laysRows 119 = .ok (.getfield 105, 3) := by decide +kernel
theorem dX10_laysRows_122 : decode cX10_laysRows 122 = .ok (.aload_n 0, 1) := by decide +kernel
theorem dX10_laysRows_123 : decode cX10_laysRows 123 = .ok (.aload_n 0, 1) := by decide +kernel
theorem dX10_laysRows_124 : decode cX10_laysRows 124 = .ok (.getfield 38, 3) := by decide +kernel
theorem dX10_laysRows_127 : decode cX10_laysRows 127 = .ok (.iload_n 2, 1) := by decide +kernel
theorem dX10_laysRows_128 : decode cX10_laysRows 128 = .ok (.iaload, 1) := by decide +kernel
theorem dX10_laysRows_129 : decode cX10_laysRows 129 = .ok (.iload 4, 2) := by decide +kernel
theorem dX10_laysRows_131 : decode cX10_laysRows 131 = .ok (.invokevirtual 190, 3) := by decide +kernel
theorem dX10_laysRows_134 : decode cX10_laysRows 134 = .ok (.iaload, 1) := by decide +kernel
theorem dX10_laysRows_135 : decode cX10_laysRows 135 = .ok (.iadd, 1) := by decide +kernel
theorem dX10_laysRows_136 : decode cX10_laysRows 136 = .ok (.istore_n 3, 1) := by decide +kernel
theorem dX10_laysRows_137 : decode cX10_laysRows 137 = .ok (.iinc 4 1, 3) := by decide +kernel
theorem dX10_laysRows_140 : decode cX10_laysRows 140 = .ok (.goto (-29), 3) := by decide +kernel
theorem dX10_laysRows_143 : decode cX10_laysRows 143 = .ok (.aload_n 0, 1) := by decide +kernel
theorem dX10_laysRows_144 : decode cX10_laysRows 144 = .ok (.getfield 105, 3) := by decide +kernel
theorem dX10_laysRows_147 : decode cX10_laysRows 147 = .ok (.aload_n 0, 1) := by decide +kernel
theorem dX10_laysRows_148 : decode cX10_laysRows 148 = .ok (.aload_n 0, 1) := by decide +kernel
theorem dX10_laysRows_149 : decode cX10_laysRows 149 = .ok (.getfield 38, 3) := by decide +kernel
theorem dX10_laysRows_152 : decode cX10_laysRows 152 = .ok (.iload_n 2, 1) := by decide +kernel
theorem dX10_laysRows_153 : decode cX10_laysRows 153 = .ok (.iaload, 1) := by decide +kernel
theorem dX10_laysRows_154 : decode cX10_laysRows 154 = .ok (.iload_n 1, 1) := by decide +kernel
theorem dX10_laysRows_155 : decode cX10_laysRows 155 = .ok (.iconst 1, 1) := by decide +kernel
theorem dX10_laysRows_156 : decode cX10_laysRows 156 = .ok (.isub, 1) := by decide +kernel
theorem dX10_laysRows_157 : decode cX10_laysRows 157 = .ok (.invokevirtual 190, 3) := by decide +kernel
theorem dX10_laysRows_160 : decode cX10_laysRows 160 = .ok (.dup2, 1) := by decide +kernel
theorem dX10_laysRows_161 : decode cX10_laysRows 161 = .ok (.iaload, 1) := by decide +kernel
theorem dX10_laysRows_162 : decode cX10_laysRows 162 = .ok (.iconst 0, 1) := by decide +kernel
theorem dX10_laysRows_163 : decode cX10_laysRows 163 = .ok (.aload_n 0, 1) := by decide +kernel
theorem dX10_laysRows_164 : decode cX10_laysRows 164 = .ok (.iload_n 2, 1) := by decide +kernel
theorem dX10_laysRows_165 : decode cX10_laysRows 165 = .ok (.invokevirtual 277, 3) := by decide +kernel
theorem dX10_laysRows_168 : decode cX10_laysRows 168 = .ok (.iload_n 3, 1) := by decide +kernel
theorem dX10_laysRows_169 : decode cX10_laysRows 169 = .ok (.isub, 1) := by decide +kernel
theorem dX10_laysRows_170 : decode cX10_laysRows 170 = .ok (.invokestatic 217, 3) := by decide +kernel
theorem dX10_laysRows_173 : decode cX10_laysRows 173 = .ok (.iadd, 1) := by decide +kernel
theorem dX10_laysRows_174 : decode cX10_laysRows 174 = .ok (.iastore, 1) := by decide +kernel
theorem dX10_laysRows_175 : decode cX10_laysRows 175 = .ok (.iinc 2 1, 3) := by decide +kernel
theorem dX10_laysRows_178 : decode cX10_laysRows 178 = .ok (.goto (-90), 3) := by decide +kernel
theorem dX10_laysRows_181 : decode cX10_laysRows 181 = .ok (.iinc 1 1, 3) := by decide +kernel
theorem dX10_laysRows_184 : decode cX10_laysRows 184 = .ok (.goto (-103), 3) := by decide +kernel
theorem dX10_laysRows_187 : decode cX10_laysRows 187 = .ok (.return_, 1) := by decide +kernel
section
variable {p : Program} {l : Launch} {e : Env} {s : State} {m : MethodId} {args : Array Value} {below : List Frame} {meth : Method} {c : Code} {G : Gx} {e0 : Nat} {α : Ax} {κ : Nat → Int} {B : Nat}
def wp_X10_spreads_88 (a1 : Nat) (p2 : Int) (Qm : Mem → Prop) (K2 : Int → Mem → Prop) (K11 : Int → Int → Mem → Prop) (y3 : Int) (y4 : Int) (M : Mem) : Prop := (inR (y4 + 1)) ∧ K11 y3 (y4 + 1) M
def wp_X10_spreads_55 (a1 : Nat) (p2 : Int) (Qm : Mem → Prop) (K2 : Int → Mem → Prop) (K11 : Int → Int → Mem → Prop) : Nat → Int → Int → Int → Mem → Prop
  | 0 => fun _ _ _ _ => False
  | n + 1 => fun y3 y4 y5 M => ((y5 ≤ 0 → wp_X10_spreads_88 a1 p2 Qm K2 K11 y3 y4 M) ∧ (0 < y5 → wp_X10_across y4 a1 M fun (x11 : Int) (M10 : Mem) => ((y5 ≤ x11 → wp_X10_spreads_88 a1 p2 Qm K2 K11 y3 y4 M10) ∧ (x11 < y5 → wp_X10_takes y4 a1 M10 fun (x14 : Int) (M13 : Mem) => (0 ≤ x14 ∧ x14 < 6) ∧ (inR ((M13 a1 0 x14) + 1)) ∧ (0 ≤ x14 ∧ x14 < 6) ∧ ∀ M20 : Mem, M20 = up M13 a1 0 x14 ((M13 a1 0 x14) + 1) → wp_X10_spreads_55 a1 p2 Qm K2 K11 n y3 y4 y5 M20))))
def wp_X10_spreads_53 (a1 : Nat) (p2 : Int) (Qm : Mem → Prop) (K2 : Int → Mem → Prop) (K11 : Int → Int → Mem → Prop) (y3 : Int) (y4 : Int) (z0 : Int) (M : Mem) : Prop := (∃ n22 : Nat, wp_X10_spreads_55 a1 p2 Qm K2 K11 n22 y3 y4 z0 M)
def wp_X10_spreads_11 (a1 : Nat) (p2 : Int) (Qm : Mem → Prop) (K2 : Int → Mem → Prop) : Nat → Int → Int → Mem → Prop
  | 0 => fun _ _ _ => False
  | n + 1 => fun y3 y4 M => (((M 11 0 15) ≤ y4 → (inR (y3 + 1)) ∧ K2 (y3 + 1) M) ∧ (y4 < (M 11 0 15) → wp_X10_shows y4 M fun (x4 : Int) (M3 : Mem) => ((x4 = y3 → ((p2 = 0 → wp_X10_leastOf y4 M3 fun (x7 : Int) (M6 : Mem) => wp_X10_spreads_53 a1 p2 Qm K2 (wp_X10_spreads_11 a1 p2 Qm K2 n) y3 y4 x7 M6) ∧ (¬ p2 = 0 → wp_X10_mostOf y4 M3 fun (x24 : Int) (M23 : Mem) => wp_X10_spreads_53 a1 p2 Qm K2 (wp_X10_spreads_11 a1 p2 Qm K2 n) y3 y4 x24 M23))) ∧ (¬ x4 = y3 → wp_X10_spreads_53 a1 p2 Qm K2 (wp_X10_spreads_11 a1 p2 Qm K2 n) y3 y4 0 M3))))
def wp_X10_spreads_2 (a1 : Nat) (p2 : Int) (Qm : Mem → Prop) : Nat → Int → Mem → Prop
  | 0 => fun _ _ => False
  | n + 1 => fun y3 M => ((6 < y3 → Qm M) ∧ (y3 ≤ 6 → (∃ n26 : Nat, wp_X10_spreads_11 a1 p2 Qm (wp_X10_spreads_2 a1 p2 Qm n) n26 y3 0 M)))
def wp_X10_spreads (a1 : Nat) (p2 : Int) (M : Mem) (Qm : Mem → Prop) : Prop := (∃ n27 : Nat, wp_X10_spreads_2 a1 p2 Qm n27 2 M)
set_option maxHeartbeats 4000000 in
set_option maxRecDepth 100000 in
theorem t_X10_spreads_88 {a1 : Nat} {p2 : Int} (X : CX p m c cX10_spreads 6 s args RX10 G B κ meth none) (ha1 : A6 a1) (hoa1 : okk κ a1 0) (hp2 : inR p2) {Qm : Mem → Prop} {K2 : Int → Mem → Prop} {K11 : Int → Int → Mem → Prop} (hK2 : ∀ y3 : Int, ∀ M : Mem, K2 y3 M → inR y3 → ∀ (H : Heap) (locs : List Loc), Rp G e0 α κ B M H → va_S (fun q => B ≤ q) s.heap H locs → ∀ (ls : Array Slot), lv_has ls 6 [(0, .ref (α 11 0)), (1, .ref (α a1 0)), (2, .int (Int32.ofInt p2)), (3, .int (Int32.ofInt y3))] → WV p l e 2 s m args below meth c G e0 α κ B Qm H locs 2 ls []) (hK11 : ∀ y3 : Int, ∀ y4 : Int, ∀ M : Mem, K11 y3 y4 M → inR y3 → inR y4 → ∀ (H : Heap) (locs : List Loc), Rp G e0 α κ B M H → va_S (fun q => B ≤ q) s.heap H locs → ∀ (ls : Array Slot), lv_has ls 6 [(0, .ref (α 11 0)), (1, .ref (α a1 0)), (2, .int (Int32.ofInt p2)), (3, .int (Int32.ofInt y3)), (4, .int (Int32.ofInt y4))] → WV p l e 2 s m args below meth c G e0 α κ B Qm H locs 11 ls []) : ∀ y3 : Int, ∀ y4 : Int, ∀ M : Mem, wp_X10_spreads_88 a1 p2 Qm K2 K11 y3 y4 M → inR y3 → inR y4 → ∀ (H : Heap) (locs : List Loc), Rp G e0 α κ B M H → va_S (fun q => B ≤ q) s.heap H locs → ∀ (ls : Array Slot), lv_has ls 6 [(0, .ref (α 11 0)), (1, .ref (α a1 0)), (2, .int (Int32.ofInt p2)), (3, .int (Int32.ofInt y3)), (4, .int (Int32.ofInt y4))] → WV p l e 2 s m args below meth c G e0 α κ B Qm H locs 88 ls [] := by
  intro y3 y4 M hw hy3 hy4 H locs hR hS ls hl
  have hw : (inR (y4 + 1)) ∧ K11 y3 (y4 + 1) M := hw
  have c9 := hw.1
  have hw := hw.2
  refine lv_iinc (v := Int32.ofInt (y4 + 1)) (lv' := [(4, .int (Int32.ofInt (y4 + 1))), (0, .ref (α 11 0)), (1, .ref (α a1 0)), (2, .int (Int32.ofInt p2)), (3, .int (Int32.ofInt y3))]) X.1.1 X.1.2.1 dX10_spreads_88 hl (k := 4) rfl (Int32.ofInt_add _ _).symm (by decide) rfl (fun ls hl => ?_)
  refine lv_goto (tgt := 11) X.1.1 X.1.2.1 dX10_spreads_91 (by decide) ?_
  exact hK11 _ _ _ hw hy3 c9 _ _ hR hS _ (lv_sub hl [1, 2, 3, 4, 0] rfl)
set_option maxHeartbeats 4000000 in
set_option maxRecDepth 100000 in
theorem t_X10_spreads_55 {a1 : Nat} {p2 : Int} (X : CX p m c cX10_spreads 6 s args RX10 G B κ meth none) (ha1 : A6 a1) (hoa1 : okk κ a1 0) (hp2 : inR p2) {Qm : Mem → Prop} {K2 : Int → Mem → Prop} {K11 : Int → Int → Mem → Prop} (hK2 : ∀ y3 : Int, ∀ M : Mem, K2 y3 M → inR y3 → ∀ (H : Heap) (locs : List Loc), Rp G e0 α κ B M H → va_S (fun q => B ≤ q) s.heap H locs → ∀ (ls : Array Slot), lv_has ls 6 [(0, .ref (α 11 0)), (1, .ref (α a1 0)), (2, .int (Int32.ofInt p2)), (3, .int (Int32.ofInt y3))] → WV p l e 2 s m args below meth c G e0 α κ B Qm H locs 2 ls []) (hK11 : ∀ y3 : Int, ∀ y4 : Int, ∀ M : Mem, K11 y3 y4 M → inR y3 → inR y4 → ∀ (H : Heap) (locs : List Loc), Rp G e0 α κ B M H → va_S (fun q => B ≤ q) s.heap H locs → ∀ (ls : Array Slot), lv_has ls 6 [(0, .ref (α 11 0)), (1, .ref (α a1 0)), (2, .int (Int32.ofInt p2)), (3, .int (Int32.ofInt y3)), (4, .int (Int32.ofInt y4))] → WV p l e 2 s m args below meth c G e0 α κ B Qm H locs 11 ls []) : ∀ n : Nat, ∀ y3 : Int, ∀ y4 : Int, ∀ y5 : Int, ∀ M : Mem, wp_X10_spreads_55 a1 p2 Qm K2 K11 n y3 y4 y5 M → inR y3 → inR y4 → inR y5 → ∀ (H : Heap) (locs : List Loc), Rp G e0 α κ B M H → va_S (fun q => B ≤ q) s.heap H locs → ∀ (ls : Array Slot), lv_has ls 6 [(0, .ref (α 11 0)), (1, .ref (α a1 0)), (2, .int (Int32.ofInt p2)), (3, .int (Int32.ofInt y3)), (4, .int (Int32.ofInt y4)), (5, .int (Int32.ofInt y5))] → WV p l e 2 s m args below meth c G e0 α κ B Qm H locs 55 ls [] := by
  intro n
  induction n with
  | zero =>
    intro y3 y4 y5 M hw hy3 hy4 hy5 H locs hR hS ls hl
    exact hw.elim
  | succ n ih =>
    intro y3 y4 y5 M hw hy3 hy4 hy5 H locs hR hS ls hl
    have hw : ((y5 ≤ 0 → wp_X10_spreads_88 a1 p2 Qm K2 K11 y3 y4 M) ∧ (0 < y5 → wp_X10_across y4 a1 M fun (x11 : Int) (M10 : Mem) => ((y5 ≤ x11 → wp_X10_spreads_88 a1 p2 Qm K2 K11 y3 y4 M10) ∧ (x11 < y5 → wp_X10_takes y4 a1 M10 fun (x14 : Int) (M13 : Mem) => (0 ≤ x14 ∧ x14 < 6) ∧ (inR ((M13 a1 0 x14) + 1)) ∧ (0 ≤ x14 ∧ x14 < 6) ∧ ∀ M20 : Mem, M20 = up M13 a1 0 x14 ((M13 a1 0 x14) + 1) → wp_X10_spreads_55 a1 p2 Qm K2 K11 n y3 y4 y5 M20)))) := hw
    refine lv_iload X.1.1 X.1.2.1 dX10_spreads_55 (lv_at hl 5 rfl) ?_
    refine sa_if_le (tgt := 88) X.1 hy5 dX10_spreads_57 (by decide) (fun hc => ?_) (fun hc => ?_)
    · have hw := hw.1 hc
      exact t_X10_spreads_88 X ha1 hoa1 hp2 hK2 hK11 _ _ _ hw hy3 hy4 _ _ hR hS _ (lv_sub hl [0, 1, 2, 3, 4] rfl)
    · have hw := hw.2 hc
      refine lv_aload_n X.1.1 X.1.2.1 dX10_spreads_60 rfl (lv_at hl 0 rfl) ?_
      refine lv_iload X.1.1 X.1.2.1 dX10_spreads_61 (lv_at hl 4 rfl) ?_
      refine lv_aload_n X.1.1 X.1.2.1 dX10_spreads_63 rfl (lv_at hl 1 rfl) ?_
      refine cs_X10_across X hy4 ha1 hoa1 (kc := 2) rmL_ok rm_c (by decide) hR hS kw_1849 hl.1 dX10_spreads_64 (Nat.le_of_ble_eq_true rfl) hw (fun x11 M10 H locs hw r12 hR hS => ?_)
      refine lv_iload X.1.1 X.1.2.1 dX10_spreads_67 (lv_at hl 5 rfl) ?_
      refine sa_icmp_ge (tgt := 88) X.1 r12 hy5 dX10_spreads_69 (by decide) (fun hc => ?_) (fun hc => ?_)
      · have hw := hw.1 hc
        exact t_X10_spreads_88 X ha1 hoa1 hp2 hK2 hK11 _ _ _ hw hy3 hy4 _ _ hR hS _ (lv_sub hl [0, 1, 2, 3, 4] rfl)
      · have hw := hw.2 hc
        refine lv_aload_n X.1.1 X.1.2.1 dX10_spreads_72 rfl (lv_at hl 1 rfl) ?_
        refine lv_aload_n X.1.1 X.1.2.1 dX10_spreads_73 rfl (lv_at hl 0 rfl) ?_
        refine lv_iload X.1.1 X.1.2.1 dX10_spreads_74 (lv_at hl 4 rfl) ?_
        refine lv_aload_n X.1.1 X.1.2.1 dX10_spreads_76 rfl (lv_at hl 1 rfl) ?_
        refine cs_X10_takes X hy4 ha1 hoa1 (kc := 2) rmL_ok rm_c (by decide) hR hS kw_1833 hl.1 dX10_spreads_77 (Nat.le_of_ble_eq_true rfl) hw (fun x14 M13 H locs hw r15 hR hS => ?_)
        refine lv_dup2_11 X.1.1 X.1.2.1 dX10_spreads_80 rfl rfl ?_
        have c16 := hw.1
        have hw := hw.2
        refine ra_A6 ha1 X hR hoa1 c16 dX10_spreads_81 ?_
        have r17 := hR.r a1 0 x14
        refine sa_const X.1 dX10_spreads_82 ?_
        have c18 := hw.1
        have hw := hw.2
        refine sa_iadd X.1 dX10_spreads_83 ?_
        have c19 := hw.1
        have hw := hw.2
        refine wa_A6 ha1 X hR hS hoa1 c19 c18 dX10_spreads_84 (fun H locs hR hS => ?_)
        obtain ⟨M20, e21⟩ : ∃ z : Mem, z = up M13 a1 0 x14 ((M13 a1 0 x14) + 1) := ⟨_, rfl⟩
        rw [← e21] at hR
        have hw := hw M20 e21
        refine lv_goto (tgt := 55) X.1.1 X.1.2.1 dX10_spreads_85 (by decide) ?_
        exact ih _ _ _ _ hw hy3 hy4 hy5 _ _ hR hS _ (lv_sub hl [0, 1, 2, 3, 4, 5] rfl)
set_option maxHeartbeats 4000000 in
set_option maxRecDepth 100000 in
theorem t_X10_spreads_53 {a1 : Nat} {p2 : Int} (X : CX p m c cX10_spreads 6 s args RX10 G B κ meth none) (ha1 : A6 a1) (hoa1 : okk κ a1 0) (hp2 : inR p2) {Qm : Mem → Prop} {K2 : Int → Mem → Prop} {K11 : Int → Int → Mem → Prop} (hK2 : ∀ y3 : Int, ∀ M : Mem, K2 y3 M → inR y3 → ∀ (H : Heap) (locs : List Loc), Rp G e0 α κ B M H → va_S (fun q => B ≤ q) s.heap H locs → ∀ (ls : Array Slot), lv_has ls 6 [(0, .ref (α 11 0)), (1, .ref (α a1 0)), (2, .int (Int32.ofInt p2)), (3, .int (Int32.ofInt y3))] → WV p l e 2 s m args below meth c G e0 α κ B Qm H locs 2 ls []) (hK11 : ∀ y3 : Int, ∀ y4 : Int, ∀ M : Mem, K11 y3 y4 M → inR y3 → inR y4 → ∀ (H : Heap) (locs : List Loc), Rp G e0 α κ B M H → va_S (fun q => B ≤ q) s.heap H locs → ∀ (ls : Array Slot), lv_has ls 6 [(0, .ref (α 11 0)), (1, .ref (α a1 0)), (2, .int (Int32.ofInt p2)), (3, .int (Int32.ofInt y3)), (4, .int (Int32.ofInt y4))] → WV p l e 2 s m args below meth c G e0 α κ B Qm H locs 11 ls []) : ∀ y3 : Int, ∀ y4 : Int, ∀ z0 : Int, ∀ M : Mem, wp_X10_spreads_53 a1 p2 Qm K2 K11 y3 y4 z0 M → inR y3 → inR y4 → inR z0 → ∀ (H : Heap) (locs : List Loc), Rp G e0 α κ B M H → va_S (fun q => B ≤ q) s.heap H locs → ∀ (ls : Array Slot), lv_has ls 6 [(0, .ref (α 11 0)), (1, .ref (α a1 0)), (2, .int (Int32.ofInt p2)), (3, .int (Int32.ofInt y3)), (4, .int (Int32.ofInt y4))] → WV p l e 2 s m args below meth c G e0 α κ B Qm H locs 53 ls [.int (Int32.ofInt z0)] := by
  intro y3 y4 z0 M hw hy3 hy4 hz0 H locs hR hS ls hl
  have hw : (∃ n22 : Nat, wp_X10_spreads_55 a1 p2 Qm K2 K11 n22 y3 y4 z0 M) := hw
  refine lv_istore (lv' := [(5, .int (Int32.ofInt z0)), (0, .ref (α 11 0)), (1, .ref (α a1 0)), (2, .int (Int32.ofInt p2)), (3, .int (Int32.ofInt y3)), (4, .int (Int32.ofInt y4))]) X.1.1 X.1.2.1 dX10_spreads_53 hl (by decide) rfl (fun ls hl => ?_)
  obtain ⟨n22, hw⟩ := hw
  exact t_X10_spreads_55 X ha1 hoa1 hp2 hK2 hK11 n22 _ _ _ _ hw hy3 hy4 hz0 _ _ hR hS _ (lv_sub hl [1, 2, 3, 4, 5, 0] rfl)
set_option maxHeartbeats 4000000 in
set_option maxRecDepth 100000 in
theorem t_X10_spreads_11 {a1 : Nat} {p2 : Int} (X : CX p m c cX10_spreads 6 s args RX10 G B κ meth none) (ha1 : A6 a1) (hoa1 : okk κ a1 0) (hp2 : inR p2) {Qm : Mem → Prop} {K2 : Int → Mem → Prop} (hK2 : ∀ y3 : Int, ∀ M : Mem, K2 y3 M → inR y3 → ∀ (H : Heap) (locs : List Loc), Rp G e0 α κ B M H → va_S (fun q => B ≤ q) s.heap H locs → ∀ (ls : Array Slot), lv_has ls 6 [(0, .ref (α 11 0)), (1, .ref (α a1 0)), (2, .int (Int32.ofInt p2)), (3, .int (Int32.ofInt y3))] → WV p l e 2 s m args below meth c G e0 α κ B Qm H locs 2 ls []) : ∀ n : Nat, ∀ y3 : Int, ∀ y4 : Int, ∀ M : Mem, wp_X10_spreads_11 a1 p2 Qm K2 n y3 y4 M → inR y3 → inR y4 → ∀ (H : Heap) (locs : List Loc), Rp G e0 α κ B M H → va_S (fun q => B ≤ q) s.heap H locs → ∀ (ls : Array Slot), lv_has ls 6 [(0, .ref (α 11 0)), (1, .ref (α a1 0)), (2, .int (Int32.ofInt p2)), (3, .int (Int32.ofInt y3)), (4, .int (Int32.ofInt y4))] → WV p l e 2 s m args below meth c G e0 α κ B Qm H locs 11 ls [] := by
  intro n
  induction n with
  | zero =>
    intro y3 y4 M hw hy3 hy4 H locs hR hS ls hl
    exact hw.elim
  | succ n ih =>
    intro y3 y4 M hw hy3 hy4 H locs hR hS ls hl
    have hw : (((M 11 0 15) ≤ y4 → (inR (y3 + 1)) ∧ K2 (y3 + 1) M) ∧ (y4 < (M 11 0 15) → wp_X10_shows y4 M fun (x4 : Int) (M3 : Mem) => ((x4 = y3 → ((p2 = 0 → wp_X10_leastOf y4 M3 fun (x7 : Int) (M6 : Mem) => wp_X10_spreads_53 a1 p2 Qm K2 (wp_X10_spreads_11 a1 p2 Qm K2 n) y3 y4 x7 M6) ∧ (¬ p2 = 0 → wp_X10_mostOf y4 M3 fun (x24 : Int) (M23 : Mem) => wp_X10_spreads_53 a1 p2 Qm K2 (wp_X10_spreads_11 a1 p2 Qm K2 n) y3 y4 x24 M23))) ∧ (¬ x4 = y3 → wp_X10_spreads_53 a1 p2 Qm K2 (wp_X10_spreads_11 a1 p2 Qm K2 n) y3 y4 0 M3)))) := hw
    refine lv_iload X.1.1 X.1.2.1 dX10_spreads_11 (lv_at hl 4 rfl) ?_
    refine lv_aload_n X.1.1 X.1.2.1 dX10_spreads_13 rfl (lv_at hl 0 rfl) ?_
    refine gt_11_15 X hR (okf X.2.2.1 rfl) kw_1544 dX10_spreads_14 ?_
    have r1 := hR.r 11 0 15
    refine sa_icmp_ge (tgt := 94) X.1 hy4 r1 dX10_spreads_17 (by decide) (fun hc => ?_) (fun hc => ?_)
    · have hw := hw.1 hc
      have c2 := hw.1
      have hw := hw.2
      refine lv_iinc (v := Int32.ofInt (y3 + 1)) (lv' := [(3, .int (Int32.ofInt (y3 + 1))), (0, .ref (α 11 0)), (1, .ref (α a1 0)), (2, .int (Int32.ofInt p2)), (4, .int (Int32.ofInt y4))]) X.1.1 X.1.2.1 dX10_spreads_94 hl (k := 3) rfl (Int32.ofInt_add _ _).symm (by decide) rfl (fun ls hl => ?_)
      refine lv_goto (tgt := 2) X.1.1 X.1.2.1 dX10_spreads_97 (by decide) ?_
      exact hK2 _ _ hw c2 _ _ hR hS _ (lv_sub hl [1, 2, 3, 0] rfl)
    · have hw := hw.2 hc
      refine lv_aload_n X.1.1 X.1.2.1 dX10_spreads_20 rfl (lv_at hl 0 rfl) ?_
      refine lv_iload X.1.1 X.1.2.1 dX10_spreads_21 (lv_at hl 4 rfl) ?_
      refine cs_X10_shows X hy4 (kc := 2) rmL_ok rm_c (by decide) hR hS kw_1829 hl.1 dX10_spreads_23 (Nat.le_of_ble_eq_true rfl) hw (fun x4 M3 H locs hw r5 hR hS => ?_)
      refine lv_iload_n X.1.1 X.1.2.1 dX10_spreads_26 rfl (lv_at hl 3 rfl) ?_
      refine sa_icmp_eq (tgt := 34) X.1 r5 hy3 dX10_spreads_27 (by decide) (fun hc => ?_) (fun hc => ?_)
      · have hw := hw.1 hc
        refine lv_iload_n X.1.1 X.1.2.1 dX10_spreads_34 rfl (lv_at hl 2 rfl) ?_
        refine sa_if_eq (tgt := 47) X.1 hp2 dX10_spreads_35 (by decide) (fun hc => ?_) (fun hc => ?_)
        · have hw := hw.1 hc
          refine lv_aload_n X.1.1 X.1.2.1 dX10_spreads_47 rfl (lv_at hl 0 rfl) ?_
          refine lv_iload X.1.1 X.1.2.1 dX10_spreads_48 (lv_at hl 4 rfl) ?_
          refine cs_X10_leastOf X hy4 (kc := 2) rmL_ok rm_c (by decide) hR hS kw_1837 hl.1 dX10_spreads_50 (Nat.le_of_ble_eq_true rfl) hw (fun x7 M6 H locs hw r8 hR hS => ?_)
          exact t_X10_spreads_53 X ha1 hoa1 hp2 hK2 ih _ _ _ _ hw hy3 hy4 r8 _ _ hR hS _ (lv_sub hl [0, 1, 2, 3, 4] rfl)
        · have hw := hw.2 hc
          refine lv_aload_n X.1.1 X.1.2.1 dX10_spreads_38 rfl (lv_at hl 0 rfl) ?_
          refine lv_iload X.1.1 X.1.2.1 dX10_spreads_39 (lv_at hl 4 rfl) ?_
          refine cs_X10_mostOf X hy4 (kc := 2) rmL_ok rm_c (by decide) hR hS kw_1841 hl.1 dX10_spreads_41 (Nat.le_of_ble_eq_true rfl) hw (fun x24 M23 H locs hw r25 hR hS => ?_)
          refine lv_goto (tgt := 53) X.1.1 X.1.2.1 dX10_spreads_44 (by decide) ?_
          exact t_X10_spreads_53 X ha1 hoa1 hp2 hK2 ih _ _ _ _ hw hy3 hy4 r25 _ _ hR hS _ (lv_sub hl [0, 1, 2, 3, 4] rfl)
      · have hw := hw.2 hc
        refine sa_const X.1 dX10_spreads_30 ?_
        refine lv_goto (tgt := 53) X.1.1 X.1.2.1 dX10_spreads_31 (by decide) ?_
        exact t_X10_spreads_53 X ha1 hoa1 hp2 hK2 ih _ _ _ _ hw hy3 hy4 (inR_c (a := 0) rfl) _ _ hR hS _ (lv_sub hl [0, 1, 2, 3, 4] rfl)
set_option maxHeartbeats 4000000 in
set_option maxRecDepth 100000 in
theorem t_X10_spreads_2 {a1 : Nat} {p2 : Int} (X : CX p m c cX10_spreads 6 s args RX10 G B κ meth none) (ha1 : A6 a1) (hoa1 : okk κ a1 0) (hp2 : inR p2) {Qm : Mem → Prop} : ∀ n : Nat, ∀ y3 : Int, ∀ M : Mem, wp_X10_spreads_2 a1 p2 Qm n y3 M → inR y3 → ∀ (H : Heap) (locs : List Loc), Rp G e0 α κ B M H → va_S (fun q => B ≤ q) s.heap H locs → ∀ (ls : Array Slot), lv_has ls 6 [(0, .ref (α 11 0)), (1, .ref (α a1 0)), (2, .int (Int32.ofInt p2)), (3, .int (Int32.ofInt y3))] → WV p l e 2 s m args below meth c G e0 α κ B Qm H locs 2 ls [] := by
  intro n
  induction n with
  | zero =>
    intro y3 M hw hy3 H locs hR hS ls hl
    exact hw.elim
  | succ n ih =>
    intro y3 M hw hy3 H locs hR hS ls hl
    have hw : ((6 < y3 → Qm M) ∧ (y3 ≤ 6 → (∃ n26 : Nat, wp_X10_spreads_11 a1 p2 Qm (wp_X10_spreads_2 a1 p2 Qm n) n26 y3 0 M))) := hw
    refine lv_iload_n X.1.1 X.1.2.1 dX10_spreads_2 rfl (lv_at hl 3 rfl) ?_
    refine sa_bipush X.1 dX10_spreads_3 (by decide) ?_
    refine sa_icmp_gt (tgt := 100) X.1 hy3 (inR_c (a := 6) rfl) dX10_spreads_5 (by decide) (fun hc => ?_) (fun hc => ?_)
    · have hw := hw.1 hc
      exact sa_vret X.1 X.2.2.2.1 X.2.2.2.2 hR hS hw dX10_spreads_100
    · have hw := hw.2 hc
      refine sa_const X.1 dX10_spreads_8 ?_
      refine lv_istore (lv' := [(4, .int (Int32.ofInt 0)), (0, .ref (α 11 0)), (1, .ref (α a1 0)), (2, .int (Int32.ofInt p2)), (3, .int (Int32.ofInt y3))]) X.1.1 X.1.2.1 dX10_spreads_9 hl (by decide) rfl (fun ls hl => ?_)
      obtain ⟨n26, hw⟩ := hw
      exact t_X10_spreads_11 X ha1 hoa1 hp2 ih n26 _ _ _ hw hy3 (inR_c (a := 0) rfl) _ _ hR hS _ (lv_sub hl [1, 2, 3, 4, 0] rfl)
set_option maxHeartbeats 4000000 in
set_option maxRecDepth 100000 in
theorem t_X10_spreads {a1 : Nat} {p2 : Int} (X : CX p m c cX10_spreads 6 s args RX10 G B κ meth none) (ha1 : A6 a1) (hoa1 : okk κ a1 0) (hp2 : inR p2) {M : Mem} {Qm : Mem → Prop} (hw : wp_X10_spreads a1 p2 M Qm) (H : Heap) (locs : List Loc) (hR : Rp G e0 α κ B M H) (hS : va_S (fun q => B ≤ q) s.heap H locs) (ls : Array Slot) (hl : lv_has ls 6 [(0, .ref (α 11 0)), (1, .ref (α a1 0)), (2, .int (Int32.ofInt p2))]) : WV p l e 2 s m args below meth c G e0 α κ B Qm H locs 0 ls [] := by
  have hw : (∃ n27 : Nat, wp_X10_spreads_2 a1 p2 Qm n27 2 M) := hw
  refine sa_const X.1 dX10_spreads_0 ?_
  refine lv_istore_n (lv' := [(3, .int (Int32.ofInt 2)), (0, .ref (α 11 0)), (1, .ref (α a1 0)), (2, .int (Int32.ofInt p2))]) X.1.1 X.1.2.1 dX10_spreads_1 rfl hl (by decide) rfl (fun ls hl => ?_)
  obtain ⟨n27, hw⟩ := hw
  exact t_X10_spreads_2 X ha1 hoa1 hp2 n27 _ _ hw (inR_c (a := 2) rfl) _ _ hR hS _ (lv_sub hl [1, 2, 3, 0] rfl)
theorem m_X10_spreads {l : Launch} {G : Gx} {e0 : Nat} {α : Ax} {κ : Nat → Int} {B : Nat} {a1 : Nat} {p2 : Int} (hκ : kOK κ) (ha1 : A6 a1) (hoa1 : okk κ a1 0) (hp2 : inR p2) {M : Mem} {Qm : Mem → Prop} (hw : wp_X10_spreads a1 p2 M Qm) : CV l yX10_spreads (Cond.code yX10_spreads cX10_spreads 6 none) 2 G e0 α κ B [.ref (α 11 0), .ref (α a1 0), .int (Int32.ofInt p2)] M Qm :=
  CV.mk hκ (by decide +kernel) rfl (Nat.le_of_ble_eq_true rfl) (lv := [(0, .ref (α 11 0)), (1, .ref (α a1 0)), (2, .int (Int32.ofInt p2))]) rfl (fun p e s m args below meth c ls X hR hS hl => t_X10_spreads X ha1 hoa1 hp2 hw _ _ hR hS ls hl)
theorem cs_X10_spreads {cc : ByteArray} {nL : Nat} {own : String} {ret : Option FieldType} {idx pc : Nat} {a1 : Nat} {p2 : Int} (X : CX p m c cc nL s args own G B κ meth ret) (ha1 : A6 a1) (hoa1 : okk κ a1 0) (hp2 : inR p2) {kc : Nat} {R : Room} {cells slots : Nat} (hRr : RmOK R kc) (hcel : cells ≤ R.cells ∧ slots ≤ R.slots) (hk : 2 + 1 ≤ kc) {M : Mem} {H : Heap} {locs : List Loc} (hR : Rp G e0 α κ B M H) (hS : va_S (fun q => B ≤ q) s.heap H locs) (k1 : Cond.methodLink own idx yX10_spreads ∈ gw) {ls : Array Slot} (hml : ls.size = nL) {rest : List Value} (hd : decode cc pc = .ok (.invokevirtual idx, 3)) (hrest : (rest.map fun v => v.category).sum ≤ 8) {Q : State → Prop} {Qm : Mem → Prop} (hw : wp_X10_spreads a1 p2 M Qm) (kk : ∀ (M1 : Mem) (H1 : Heap) (locs1 : List Loc), Qm M1 → Rp G e0 α κ B M1 H1 → va_S (fun q => B ≤ q) s.heap H1 locs1 → W p l e R s m args below meth c H1 locs1 cells slots Q (F0 m (pc + 3) ls (rest))) : W p l e R s m args below meth c H locs cells slots Q (F0 m pc ls (.int (Int32.ofInt p2) :: .ref (α a1 0) :: .ref (α 11 0) :: rest)) :=
  sa_callVV 2 (n := 2) (As := [.ref (α a1 0), .int (Int32.ofInt p2)]) (rest := rest) X.1 X.2.1 hR hS (m_X10_spreads X.2.2.1 ha1 hoa1 hp2 hw) k1 kw_1847 kw_58 kw_104 kw_1848 ⟨rfl, by decide +kernel, by decide +kernel, by decide +kernel⟩ (rm_ok hRr hk (by decide)) (rc_11 X hR (okf X.2.2.1 rfl)) rfl rfl hrest hml hd hcel kk
def wp_X10_laysLeasts_147 (Qm : Mem → Prop) : Nat → Int → Mem → Prop
  | 0 => fun _ _ => False
  | n + 1 => fun y1 M => (((M 11 0 4) ≤ y1 → Qm M) ∧ (y1 < (M 11 0 4) → (0 ≤ y1 ∧ y1 < 6) ∧ (0 ≤ y1 ∧ y1 < 6) ∧ wp_X10_greater (M 83 0 y1) (M 82 0 y1) M fun (x11 : Int) (M10 : Mem) => (0 ≤ y1 ∧ y1 < 6) ∧ ∀ M14 : Mem, M14 = up M10 83 0 y1 x11 → (0 ≤ y1 ∧ y1 < 6) ∧ ((M14 59 0 y1) = 0 → (0 ≤ y1 ∧ y1 < 6) ∧ True) ∧ (0 ≤ y1 ∧ y1 < 6) ∧ ∀ M24 : Mem, M24 = up M14 82 0 y1 (if (M14 59 0 y1) = 0 then (M14 82 0 y1) else 0) → (0 ≤ y1 ∧ y1 < 6) ∧ ((M24 59 0 y1) = 0 → (0 ≤ y1 ∧ y1 < 6) ∧ True) ∧ (0 ≤ y1 ∧ y1 < 6) ∧ ∀ M34 : Mem, M34 = up M24 83 0 y1 (if (M24 59 0 y1) = 0 then (M24 83 0 y1) else 0) → (inR (y1 + 1)) ∧ wp_X10_laysLeasts_147 Qm n (y1 + 1) M34))
def wp_X10_laysLeasts_121 (Qm : Mem → Prop) (K54 : Int → Mem → Prop) (y1 : Int) (M : Mem) : Prop := (inR (y1 + 1)) ∧ K54 (y1 + 1) M
def wp_X10_laysLeasts_54 (Qm : Mem → Prop) : Nat → Int → Mem → Prop
  | 0 => fun _ _ => False
  | n + 1 => fun y1 M => (((M 11 0 15) ≤ y1 → wp_X10_spreads 82 0 M fun (M3 : Mem) => wp_X10_spreads 83 1 M3 fun (M4 : Mem) => (∃ n37 : Nat, wp_X10_laysLeasts_147 Qm n37 0 M4)) ∧ (y1 < (M 11 0 15) → wp_X10_shows y1 M fun (x39 : Int) (M38 : Mem) => ((¬ x39 = 1 → wp_X10_laysLeasts_121 Qm (wp_X10_laysLeasts_54 Qm n) y1 M38) ∧ (x39 = 1 → wp_X10_takes y1 82 M38 fun (x43 : Int) (M42 : Mem) => (0 ≤ x43 ∧ x43 < 6) ∧ wp_X10_leastOf y1 M42 fun (x48 : Int) (M47 : Mem) => wp_X10_greater (M42 82 0 x43) x48 M47 fun (x51 : Int) (M50 : Mem) => (0 ≤ x43 ∧ x43 < 6) ∧ ∀ M54 : Mem, M54 = up M50 82 0 x43 x51 → (0 ≤ x43 ∧ x43 < 6) ∧ wp_X10_mostOf y1 M54 fun (x59 : Int) (M58 : Mem) => wp_X10_greater (M54 83 0 x43) x59 M58 fun (x62 : Int) (M61 : Mem) => (0 ≤ x43 ∧ x43 < 6) ∧ ∀ M65 : Mem, M65 = up M61 83 0 x43 x62 → wp_X10_laysLeasts_121 Qm (wp_X10_laysLeasts_54 Qm n) y1 M65))))
def wp_X10_laysLeasts_2 (Qm : Mem → Prop) : Nat → Int → Mem → Prop
  | 0 => fun _ _ => False
  | n + 1 => fun y1 M => (((M 11 0 4) ≤ y1 → (∃ n67 : Nat, wp_X10_laysLeasts_54 Qm n67 0 M)) ∧ (y1 < (M 11 0 4) → wp_X10_laysFigures y1 M fun (M68 : Mem) => (0 ≤ y1 ∧ y1 < 6) ∧ (0 ≤ y1 ∧ y1 < 6) ∧ (inR ((M68 80 0 y1) + (M68 81 0 y1))) ∧ (0 ≤ y1 ∧ y1 < 6) ∧ ∀ M75 : Mem, M75 = up M68 82 0 y1 ((M68 80 0 y1) + (M68 81 0 y1)) → (0 ≤ y1 ∧ y1 < 6) ∧ (0 ≤ y1 ∧ y1 < 6) ∧ ∀ M80 : Mem, M80 = up M75 83 0 y1 (M75 82 0 y1) → (inR (y1 + 1)) ∧ wp_X10_laysLeasts_2 Qm n (y1 + 1) M80))
def wp_X10_laysLeasts (M : Mem) (Qm : Mem → Prop) : Prop := (∃ n83 : Nat, wp_X10_laysLeasts_2 Qm n83 0 M)
set_option maxHeartbeats 4000000 in
set_option maxRecDepth 100000 in
theorem t_X10_laysLeasts_147 (X : CX p m c cX10_laysLeasts 3 s args RX10 G B κ meth none) {Qm : Mem → Prop} : ∀ n : Nat, ∀ y1 : Int, ∀ M : Mem, wp_X10_laysLeasts_147 Qm n y1 M → inR y1 → ∀ (H : Heap) (locs : List Loc), Rp G e0 α κ B M H → va_S (fun q => B ≤ q) s.heap H locs → ∀ (ls : Array Slot), lv_has ls 3 [(0, .ref (α 11 0)), (1, .int (Int32.ofInt y1))] → WV p l e 3 s m args below meth c G e0 α κ B Qm H locs 147 ls [] := by
  intro n
  induction n with
  | zero =>
    intro y1 M hw hy1 H locs hR hS ls hl
    exact hw.elim
  | succ n ih =>
    intro y1 M hw hy1 H locs hR hS ls hl
    have hw : (((M 11 0 4) ≤ y1 → Qm M) ∧ (y1 < (M 11 0 4) → (0 ≤ y1 ∧ y1 < 6) ∧ (0 ≤ y1 ∧ y1 < 6) ∧ wp_X10_greater (M 83 0 y1) (M 82 0 y1) M fun (x11 : Int) (M10 : Mem) => (0 ≤ y1 ∧ y1 < 6) ∧ ∀ M14 : Mem, M14 = up M10 83 0 y1 x11 → (0 ≤ y1 ∧ y1 < 6) ∧ ((M14 59 0 y1) = 0 → (0 ≤ y1 ∧ y1 < 6) ∧ True) ∧ (0 ≤ y1 ∧ y1 < 6) ∧ ∀ M24 : Mem, M24 = up M14 82 0 y1 (if (M14 59 0 y1) = 0 then (M14 82 0 y1) else 0) → (0 ≤ y1 ∧ y1 < 6) ∧ ((M24 59 0 y1) = 0 → (0 ≤ y1 ∧ y1 < 6) ∧ True) ∧ (0 ≤ y1 ∧ y1 < 6) ∧ ∀ M34 : Mem, M34 = up M24 83 0 y1 (if (M24 59 0 y1) = 0 then (M24 83 0 y1) else 0) → (inR (y1 + 1)) ∧ wp_X10_laysLeasts_147 Qm n (y1 + 1) M34)) := hw
    refine lv_iload_n X.1.1 X.1.2.1 dX10_laysLeasts_147 rfl (lv_at hl 1 rfl) ?_
    refine lv_aload_n X.1.1 X.1.2.1 dX10_laysLeasts_148 rfl (lv_at hl 0 rfl) ?_
    refine gt_11_4 X hR (okf X.2.2.1 rfl) kw_1533 dX10_laysLeasts_149 ?_
    have r5 := hR.r 11 0 4
    refine sa_icmp_ge (tgt := 232) X.1 hy1 r5 dX10_laysLeasts_152 (by decide) (fun hc => ?_) (fun hc => ?_)
    · have hw := hw.1 hc
      exact sa_vret X.1 X.2.2.2.1 X.2.2.2.2 hR hS hw dX10_laysLeasts_232
    · have hw := hw.2 hc
      refine lv_aload_n X.1.1 X.1.2.1 dX10_laysLeasts_155 rfl (lv_at hl 0 rfl) ?_
      refine gt_11_34 X hR (okf X.2.2.1 rfl) kw_1563 dX10_laysLeasts_156 ?_
      refine lv_iload_n X.1.1 X.1.2.1 dX10_laysLeasts_159 rfl (lv_at hl 1 rfl) ?_
      refine lv_aload_n X.1.1 X.1.2.1 dX10_laysLeasts_160 rfl (lv_at hl 0 rfl) ?_
      refine gt_11_34 X hR (okf X.2.2.1 rfl) kw_1563 dX10_laysLeasts_161 ?_
      refine lv_iload_n X.1.1 X.1.2.1 dX10_laysLeasts_164 rfl (lv_at hl 1 rfl) ?_
      have c6 := hw.1
      have hw := hw.2
      refine ra_83 X hR (okf X.2.2.1 rfl) c6 dX10_laysLeasts_165 ?_
      have r7 := hR.r 83 0 y1
      refine lv_aload_n X.1.1 X.1.2.1 dX10_laysLeasts_166 rfl (lv_at hl 0 rfl) ?_
      refine gt_11_33 X hR (okf X.2.2.1 rfl) kw_1562 dX10_laysLeasts_167 ?_
      refine lv_iload_n X.1.1 X.1.2.1 dX10_laysLeasts_170 rfl (lv_at hl 1 rfl) ?_
      have c8 := hw.1
      have hw := hw.2
      refine ra_82 X hR (okf X.2.2.1 rfl) c8 dX10_laysLeasts_171 ?_
      have r9 := hR.r 82 0 y1
      refine cs_X10_greater X r7 r9 (kc := 3) rmL_ok rm_c (by decide) hR hS kw_1822 hl.1 dX10_laysLeasts_172 (Nat.le_of_ble_eq_true rfl) hw (fun x11 M10 H locs hw r12 hR hS => ?_)
      have c13 := hw.1
      have hw := hw.2
      refine wa_83 X hR hS (okf X.2.2.1 rfl) c13 r12 dX10_laysLeasts_175 (fun H locs hR hS => ?_)
      obtain ⟨M14, e15⟩ : ∃ z : Mem, z = up M10 83 0 y1 x11 := ⟨_, rfl⟩
      rw [← e15] at hR
      have hw := hw M14 e15
      refine lv_aload_n X.1.1 X.1.2.1 dX10_laysLeasts_176 rfl (lv_at hl 0 rfl) ?_
      refine gt_11_33 X hR (okf X.2.2.1 rfl) kw_1562 dX10_laysLeasts_177 ?_
      refine lv_iload_n X.1.1 X.1.2.1 dX10_laysLeasts_180 rfl (lv_at hl 1 rfl) ?_
      refine lv_aload_n X.1.1 X.1.2.1 dX10_laysLeasts_181 rfl (lv_at hl 0 rfl) ?_
      refine gt_11_3 X hR (okf X.2.2.1 rfl) kw_1532 dX10_laysLeasts_182 ?_
      refine lv_iload_n X.1.1 X.1.2.1 dX10_laysLeasts_185 rfl (lv_at hl 1 rfl) ?_
      have c16 := hw.1
      have hw := hw.2
      refine ra_59 X hR (okf X.2.2.1 rfl) c16 dX10_laysLeasts_186 ?_
      have r17 := hR.r 59 0 y1
      have s19 := hw.1
      have hw := hw.2
      have r20 := inR_ite (c := (M14 59 0 y1) = 0) (hR.r 82 0 y1) (inR_c (a := 0) rfl)
      refine cut_j (A := ∀ v21 : Int, v21 = (if (M14 59 0 y1) = 0 then (M14 82 0 y1) else 0) → WV p l e 3 s m args below meth c G e0 α κ B Qm H locs 200 ls [.int (Int32.ofInt v21), .int (Int32.ofInt y1), .ref (α 82 0)]) (fun J22 => ?_) ?_
      · refine sa_if_eq (tgt := 194) X.1 r17 dX10_laysLeasts_187 (by decide) (fun hc => ?_) (fun hc => ?_)
        · have hw := s19 hc
          refine lv_aload_n X.1.1 X.1.2.1 dX10_laysLeasts_194 rfl (lv_at hl 0 rfl) ?_
          refine gt_11_33 X hR (okf X.2.2.1 rfl) kw_1562 dX10_laysLeasts_195 ?_
          refine lv_iload_n X.1.1 X.1.2.1 dX10_laysLeasts_198 rfl (lv_at hl 1 rfl) ?_
          have c18 := hw.1
          have hw := hw.2
          refine ra_82 X hR (okf X.2.2.1 rfl) c18 dX10_laysLeasts_199 ?_
          exact J22 ((M14 82 0 y1)) (if_pos (c := (M14 59 0 y1) = 0) hc).symm
        · skip
          refine sa_const X.1 dX10_laysLeasts_190 ?_
          refine lv_goto (tgt := 200) X.1.1 X.1.2.1 dX10_laysLeasts_191 (by decide) ?_
          exact J22 (0) (if_neg (c := (M14 59 0 y1) = 0) hc).symm
      intro v21 hv21
      subst hv21
      have c23 := hw.1
      have hw := hw.2
      refine wa_82 X hR hS (okf X.2.2.1 rfl) c23 r20 dX10_laysLeasts_200 (fun H locs hR hS => ?_)
      obtain ⟨M24, e25⟩ : ∃ z : Mem, z = up M14 82 0 y1 (if (M14 59 0 y1) = 0 then (M14 82 0 y1) else 0) := ⟨_, rfl⟩
      rw [← e25] at hR
      have hw := hw M24 e25
      refine lv_aload_n X.1.1 X.1.2.1 dX10_laysLeasts_201 rfl (lv_at hl 0 rfl) ?_
      refine gt_11_34 X hR (okf X.2.2.1 rfl) kw_1563 dX10_laysLeasts_202 ?_
      refine lv_iload_n X.1.1 X.1.2.1 dX10_laysLeasts_205 rfl (lv_at hl 1 rfl) ?_
      refine lv_aload_n X.1.1 X.1.2.1 dX10_laysLeasts_206 rfl (lv_at hl 0 rfl) ?_
      refine gt_11_3 X hR (okf X.2.2.1 rfl) kw_1532 dX10_laysLeasts_207 ?_
      refine lv_iload_n X.1.1 X.1.2.1 dX10_laysLeasts_210 rfl (lv_at hl 1 rfl) ?_
      have c26 := hw.1
      have hw := hw.2
      refine ra_59 X hR (okf X.2.2.1 rfl) c26 dX10_laysLeasts_211 ?_
      have r27 := hR.r 59 0 y1
      have s29 := hw.1
      have hw := hw.2
      have r30 := inR_ite (c := (M24 59 0 y1) = 0) (hR.r 83 0 y1) (inR_c (a := 0) rfl)
      refine cut_j (A := ∀ v31 : Int, v31 = (if (M24 59 0 y1) = 0 then (M24 83 0 y1) else 0) → WV p l e 3 s m args below meth c G e0 α κ B Qm H locs 225 ls [.int (Int32.ofInt v31), .int (Int32.ofInt y1), .ref (α 83 0)]) (fun J32 => ?_) ?_
      · refine sa_if_eq (tgt := 219) X.1 r27 dX10_laysLeasts_212 (by decide) (fun hc => ?_) (fun hc => ?_)
        · have hw := s29 hc
          refine lv_aload_n X.1.1 X.1.2.1 dX10_laysLeasts_219 rfl (lv_at hl 0 rfl) ?_
          refine gt_11_34 X hR (okf X.2.2.1 rfl) kw_1563 dX10_laysLeasts_220 ?_
          refine lv_iload_n X.1.1 X.1.2.1 dX10_laysLeasts_223 rfl (lv_at hl 1 rfl) ?_
          have c28 := hw.1
          have hw := hw.2
          refine ra_83 X hR (okf X.2.2.1 rfl) c28 dX10_laysLeasts_224 ?_
          exact J32 ((M24 83 0 y1)) (if_pos (c := (M24 59 0 y1) = 0) hc).symm
        · skip
          refine sa_const X.1 dX10_laysLeasts_215 ?_
          refine lv_goto (tgt := 225) X.1.1 X.1.2.1 dX10_laysLeasts_216 (by decide) ?_
          exact J32 (0) (if_neg (c := (M24 59 0 y1) = 0) hc).symm
      intro v31 hv31
      subst hv31
      have c33 := hw.1
      have hw := hw.2
      refine wa_83 X hR hS (okf X.2.2.1 rfl) c33 r30 dX10_laysLeasts_225 (fun H locs hR hS => ?_)
      obtain ⟨M34, e35⟩ : ∃ z : Mem, z = up M24 83 0 y1 (if (M24 59 0 y1) = 0 then (M24 83 0 y1) else 0) := ⟨_, rfl⟩
      rw [← e35] at hR
      have hw := hw M34 e35
      have c36 := hw.1
      have hw := hw.2
      refine lv_iinc (v := Int32.ofInt (y1 + 1)) (lv' := [(1, .int (Int32.ofInt (y1 + 1))), (0, .ref (α 11 0))]) X.1.1 X.1.2.1 dX10_laysLeasts_226 hl (k := 1) rfl (Int32.ofInt_add _ _).symm (by decide) rfl (fun ls hl => ?_)
      refine lv_goto (tgt := 147) X.1.1 X.1.2.1 dX10_laysLeasts_229 (by decide) ?_
      exact ih _ _ hw c36 _ _ hR hS _ (lv_sub hl [1, 0] rfl)
set_option maxHeartbeats 4000000 in
set_option maxRecDepth 100000 in
theorem t_X10_laysLeasts_121 (X : CX p m c cX10_laysLeasts 3 s args RX10 G B κ meth none) {Qm : Mem → Prop} {K54 : Int → Mem → Prop} (hK54 : ∀ y1 : Int, ∀ M : Mem, K54 y1 M → inR y1 → ∀ (H : Heap) (locs : List Loc), Rp G e0 α κ B M H → va_S (fun q => B ≤ q) s.heap H locs → ∀ (ls : Array Slot), lv_has ls 3 [(0, .ref (α 11 0)), (1, .int (Int32.ofInt y1))] → WV p l e 3 s m args below meth c G e0 α κ B Qm H locs 54 ls []) : ∀ y1 : Int, ∀ M : Mem, wp_X10_laysLeasts_121 Qm K54 y1 M → inR y1 → ∀ (H : Heap) (locs : List Loc), Rp G e0 α κ B M H → va_S (fun q => B ≤ q) s.heap H locs → ∀ (ls : Array Slot), lv_has ls 3 [(0, .ref (α 11 0)), (1, .int (Int32.ofInt y1))] → WV p l e 3 s m args below meth c G e0 α κ B Qm H locs 121 ls [] := by
  intro y1 M hw hy1 H locs hR hS ls hl
  have hw : (inR (y1 + 1)) ∧ K54 (y1 + 1) M := hw
  have c41 := hw.1
  have hw := hw.2
  refine lv_iinc (v := Int32.ofInt (y1 + 1)) (lv' := [(1, .int (Int32.ofInt (y1 + 1))), (0, .ref (α 11 0))]) X.1.1 X.1.2.1 dX10_laysLeasts_121 hl (k := 1) rfl (Int32.ofInt_add _ _).symm (by decide) rfl (fun ls hl => ?_)
  refine lv_goto (tgt := 54) X.1.1 X.1.2.1 dX10_laysLeasts_124 (by decide) ?_
  exact hK54 _ _ hw c41 _ _ hR hS _ (lv_sub hl [1, 0] rfl)
set_option maxHeartbeats 4000000 in
set_option maxRecDepth 100000 in
theorem t_X10_laysLeasts_54 (X : CX p m c cX10_laysLeasts 3 s args RX10 G B κ meth none) {Qm : Mem → Prop} : ∀ n : Nat, ∀ y1 : Int, ∀ M : Mem, wp_X10_laysLeasts_54 Qm n y1 M → inR y1 → ∀ (H : Heap) (locs : List Loc), Rp G e0 α κ B M H → va_S (fun q => B ≤ q) s.heap H locs → ∀ (ls : Array Slot), lv_has ls 3 [(0, .ref (α 11 0)), (1, .int (Int32.ofInt y1))] → WV p l e 3 s m args below meth c G e0 α κ B Qm H locs 54 ls [] := by
  intro n
  induction n with
  | zero =>
    intro y1 M hw hy1 H locs hR hS ls hl
    exact hw.elim
  | succ n ih =>
    intro y1 M hw hy1 H locs hR hS ls hl
    have hw : (((M 11 0 15) ≤ y1 → wp_X10_spreads 82 0 M fun (M3 : Mem) => wp_X10_spreads 83 1 M3 fun (M4 : Mem) => (∃ n37 : Nat, wp_X10_laysLeasts_147 Qm n37 0 M4)) ∧ (y1 < (M 11 0 15) → wp_X10_shows y1 M fun (x39 : Int) (M38 : Mem) => ((¬ x39 = 1 → wp_X10_laysLeasts_121 Qm (wp_X10_laysLeasts_54 Qm n) y1 M38) ∧ (x39 = 1 → wp_X10_takes y1 82 M38 fun (x43 : Int) (M42 : Mem) => (0 ≤ x43 ∧ x43 < 6) ∧ wp_X10_leastOf y1 M42 fun (x48 : Int) (M47 : Mem) => wp_X10_greater (M42 82 0 x43) x48 M47 fun (x51 : Int) (M50 : Mem) => (0 ≤ x43 ∧ x43 < 6) ∧ ∀ M54 : Mem, M54 = up M50 82 0 x43 x51 → (0 ≤ x43 ∧ x43 < 6) ∧ wp_X10_mostOf y1 M54 fun (x59 : Int) (M58 : Mem) => wp_X10_greater (M54 83 0 x43) x59 M58 fun (x62 : Int) (M61 : Mem) => (0 ≤ x43 ∧ x43 < 6) ∧ ∀ M65 : Mem, M65 = up M61 83 0 x43 x62 → wp_X10_laysLeasts_121 Qm (wp_X10_laysLeasts_54 Qm n) y1 M65)))) := hw
    refine lv_iload_n X.1.1 X.1.2.1 dX10_laysLeasts_54 rfl (lv_at hl 1 rfl) ?_
    refine lv_aload_n X.1.1 X.1.2.1 dX10_laysLeasts_55 rfl (lv_at hl 0 rfl) ?_
    refine gt_11_15 X hR (okf X.2.2.1 rfl) kw_1544 dX10_laysLeasts_56 ?_
    have r2 := hR.r 11 0 15
    refine sa_icmp_ge (tgt := 127) X.1 hy1 r2 dX10_laysLeasts_59 (by decide) (fun hc => ?_) (fun hc => ?_)
    · have hw := hw.1 hc
      refine lv_aload_n X.1.1 X.1.2.1 dX10_laysLeasts_127 rfl (lv_at hl 0 rfl) ?_
      refine lv_aload_n X.1.1 X.1.2.1 dX10_laysLeasts_128 rfl (lv_at hl 0 rfl) ?_
      refine gt_11_33 X hR (okf X.2.2.1 rfl) kw_1562 dX10_laysLeasts_129 ?_
      refine sa_const X.1 dX10_laysLeasts_132 ?_
      refine cs_X10_spreads X hA6_82 (okf X.2.2.1 rfl) (inR_c (a := 0) rfl) (kc := 3) rmL_ok rm_c (by decide) hR hS kw_1845 hl.1 dX10_laysLeasts_133 (Nat.le_of_ble_eq_true rfl) hw (fun M3 H locs hw hR hS => ?_)
      refine lv_aload_n X.1.1 X.1.2.1 dX10_laysLeasts_136 rfl (lv_at hl 0 rfl) ?_
      refine lv_aload_n X.1.1 X.1.2.1 dX10_laysLeasts_137 rfl (lv_at hl 0 rfl) ?_
      refine gt_11_34 X hR (okf X.2.2.1 rfl) kw_1563 dX10_laysLeasts_138 ?_
      refine sa_const X.1 dX10_laysLeasts_141 ?_
      refine cs_X10_spreads X hA6_83 (okf X.2.2.1 rfl) (inR_c (a := 1) rfl) (kc := 3) rmL_ok rm_c (by decide) hR hS kw_1845 hl.1 dX10_laysLeasts_142 (Nat.le_of_ble_eq_true rfl) hw (fun M4 H locs hw hR hS => ?_)
      refine sa_const X.1 dX10_laysLeasts_145 ?_
      refine lv_istore_n (lv' := [(1, .int (Int32.ofInt 0)), (0, .ref (α 11 0))]) X.1.1 X.1.2.1 dX10_laysLeasts_146 rfl hl (by decide) rfl (fun ls hl => ?_)
      obtain ⟨n37, hw⟩ := hw
      exact t_X10_laysLeasts_147 X n37 _ _ hw (inR_c (a := 0) rfl) _ _ hR hS _ (lv_sub hl [1, 0] rfl)
    · have hw := hw.2 hc
      refine lv_aload_n X.1.1 X.1.2.1 dX10_laysLeasts_62 rfl (lv_at hl 0 rfl) ?_
      refine lv_iload_n X.1.1 X.1.2.1 dX10_laysLeasts_63 rfl (lv_at hl 1 rfl) ?_
      refine cs_X10_shows X hy1 (kc := 3) rmL_ok rm_c (by decide) hR hS kw_1829 hl.1 dX10_laysLeasts_64 (Nat.le_of_ble_eq_true rfl) hw (fun x39 M38 H locs hw r40 hR hS => ?_)
      refine sa_const X.1 dX10_laysLeasts_67 ?_
      refine sa_icmp_ne (tgt := 121) X.1 r40 (inR_c (a := 1) rfl) dX10_laysLeasts_68 (by decide) (fun hc => ?_) (fun hc => ?_)
      · have hw := hw.1 hc
        exact t_X10_laysLeasts_121 X ih _ _ hw hy1 _ _ hR hS _ (lv_sub hl [0, 1] rfl)
      · have hw := hw.2 hc
        refine lv_aload_n X.1.1 X.1.2.1 dX10_laysLeasts_71 rfl (lv_at hl 0 rfl) ?_
        refine lv_iload_n X.1.1 X.1.2.1 dX10_laysLeasts_72 rfl (lv_at hl 1 rfl) ?_
        refine lv_aload_n X.1.1 X.1.2.1 dX10_laysLeasts_73 rfl (lv_at hl 0 rfl) ?_
        refine gt_11_33 X hR (okf X.2.2.1 rfl) kw_1562 dX10_laysLeasts_74 ?_
        refine cs_X10_takes X hy1 hA6_82 (okf X.2.2.1 rfl) (kc := 3) rmL_ok rm_c (by decide) hR hS kw_1833 hl.1 dX10_laysLeasts_77 (Nat.le_of_ble_eq_true rfl) hw (fun x43 M42 H locs hw r44 hR hS => ?_)
        refine lv_istore_n (lv' := [(2, .int (Int32.ofInt x43)), (0, .ref (α 11 0)), (1, .int (Int32.ofInt y1))]) X.1.1 X.1.2.1 dX10_laysLeasts_80 rfl hl (by decide) rfl (fun ls hl => ?_)
        refine lv_aload_n X.1.1 X.1.2.1 dX10_laysLeasts_81 rfl (lv_at hl 1 rfl) ?_
        refine gt_11_33 X hR (okf X.2.2.1 rfl) kw_1562 dX10_laysLeasts_82 ?_
        refine lv_iload_n X.1.1 X.1.2.1 dX10_laysLeasts_85 rfl (lv_at hl 0 rfl) ?_
        refine lv_aload_n X.1.1 X.1.2.1 dX10_laysLeasts_86 rfl (lv_at hl 1 rfl) ?_
        refine gt_11_33 X hR (okf X.2.2.1 rfl) kw_1562 dX10_laysLeasts_87 ?_
        refine lv_iload_n X.1.1 X.1.2.1 dX10_laysLeasts_90 rfl (lv_at hl 0 rfl) ?_
        have c45 := hw.1
        have hw := hw.2
        refine ra_82 X hR (okf X.2.2.1 rfl) c45 dX10_laysLeasts_91 ?_
        have r46 := hR.r 82 0 x43
        refine lv_aload_n X.1.1 X.1.2.1 dX10_laysLeasts_92 rfl (lv_at hl 1 rfl) ?_
        refine lv_iload_n X.1.1 X.1.2.1 dX10_laysLeasts_93 rfl (lv_at hl 2 rfl) ?_
        refine cs_X10_leastOf X hy1 (kc := 3) rmL_ok rm_c (by decide) hR hS kw_1837 hl.1 dX10_laysLeasts_94 (Nat.le_of_ble_eq_true rfl) hw (fun x48 M47 H locs hw r49 hR hS => ?_)
        refine cs_X10_greater X r46 r49 (kc := 3) rmL_ok rm_c (by decide) hR hS kw_1822 hl.1 dX10_laysLeasts_97 (Nat.le_of_ble_eq_true rfl) hw (fun x51 M50 H locs hw r52 hR hS => ?_)
        have c53 := hw.1
        have hw := hw.2
        refine wa_82 X hR hS (okf X.2.2.1 rfl) c53 r52 dX10_laysLeasts_100 (fun H locs hR hS => ?_)
        obtain ⟨M54, e55⟩ : ∃ z : Mem, z = up M50 82 0 x43 x51 := ⟨_, rfl⟩
        rw [← e55] at hR
        have hw := hw M54 e55
        refine lv_aload_n X.1.1 X.1.2.1 dX10_laysLeasts_101 rfl (lv_at hl 1 rfl) ?_
        refine gt_11_34 X hR (okf X.2.2.1 rfl) kw_1563 dX10_laysLeasts_102 ?_
        refine lv_iload_n X.1.1 X.1.2.1 dX10_laysLeasts_105 rfl (lv_at hl 0 rfl) ?_
        refine lv_aload_n X.1.1 X.1.2.1 dX10_laysLeasts_106 rfl (lv_at hl 1 rfl) ?_
        refine gt_11_34 X hR (okf X.2.2.1 rfl) kw_1563 dX10_laysLeasts_107 ?_
        refine lv_iload_n X.1.1 X.1.2.1 dX10_laysLeasts_110 rfl (lv_at hl 0 rfl) ?_
        have c56 := hw.1
        have hw := hw.2
        refine ra_83 X hR (okf X.2.2.1 rfl) c56 dX10_laysLeasts_111 ?_
        have r57 := hR.r 83 0 x43
        refine lv_aload_n X.1.1 X.1.2.1 dX10_laysLeasts_112 rfl (lv_at hl 1 rfl) ?_
        refine lv_iload_n X.1.1 X.1.2.1 dX10_laysLeasts_113 rfl (lv_at hl 2 rfl) ?_
        refine cs_X10_mostOf X hy1 (kc := 3) rmL_ok rm_c (by decide) hR hS kw_1841 hl.1 dX10_laysLeasts_114 (Nat.le_of_ble_eq_true rfl) hw (fun x59 M58 H locs hw r60 hR hS => ?_)
        refine cs_X10_greater X r57 r60 (kc := 3) rmL_ok rm_c (by decide) hR hS kw_1822 hl.1 dX10_laysLeasts_117 (Nat.le_of_ble_eq_true rfl) hw (fun x62 M61 H locs hw r63 hR hS => ?_)
        have c64 := hw.1
        have hw := hw.2
        refine wa_83 X hR hS (okf X.2.2.1 rfl) c64 r63 dX10_laysLeasts_120 (fun H locs hR hS => ?_)
        obtain ⟨M65, e66⟩ : ∃ z : Mem, z = up M61 83 0 x43 x62 := ⟨_, rfl⟩
        rw [← e66] at hR
        have hw := hw M65 e66
        exact t_X10_laysLeasts_121 X ih _ _ hw hy1 _ _ hR hS _ (lv_sub hl [1, 2] rfl)
set_option maxHeartbeats 4000000 in
set_option maxRecDepth 100000 in
theorem t_X10_laysLeasts_2 (X : CX p m c cX10_laysLeasts 3 s args RX10 G B κ meth none) {Qm : Mem → Prop} : ∀ n : Nat, ∀ y1 : Int, ∀ M : Mem, wp_X10_laysLeasts_2 Qm n y1 M → inR y1 → ∀ (H : Heap) (locs : List Loc), Rp G e0 α κ B M H → va_S (fun q => B ≤ q) s.heap H locs → ∀ (ls : Array Slot), lv_has ls 3 [(0, .ref (α 11 0)), (1, .int (Int32.ofInt y1))] → WV p l e 3 s m args below meth c G e0 α κ B Qm H locs 2 ls [] := by
  intro n
  induction n with
  | zero =>
    intro y1 M hw hy1 H locs hR hS ls hl
    exact hw.elim
  | succ n ih =>
    intro y1 M hw hy1 H locs hR hS ls hl
    have hw : (((M 11 0 4) ≤ y1 → (∃ n67 : Nat, wp_X10_laysLeasts_54 Qm n67 0 M)) ∧ (y1 < (M 11 0 4) → wp_X10_laysFigures y1 M fun (M68 : Mem) => (0 ≤ y1 ∧ y1 < 6) ∧ (0 ≤ y1 ∧ y1 < 6) ∧ (inR ((M68 80 0 y1) + (M68 81 0 y1))) ∧ (0 ≤ y1 ∧ y1 < 6) ∧ ∀ M75 : Mem, M75 = up M68 82 0 y1 ((M68 80 0 y1) + (M68 81 0 y1)) → (0 ≤ y1 ∧ y1 < 6) ∧ (0 ≤ y1 ∧ y1 < 6) ∧ ∀ M80 : Mem, M80 = up M75 83 0 y1 (M75 82 0 y1) → (inR (y1 + 1)) ∧ wp_X10_laysLeasts_2 Qm n (y1 + 1) M80)) := hw
    refine lv_iload_n X.1.1 X.1.2.1 dX10_laysLeasts_2 rfl (lv_at hl 1 rfl) ?_
    refine lv_aload_n X.1.1 X.1.2.1 dX10_laysLeasts_3 rfl (lv_at hl 0 rfl) ?_
    refine gt_11_4 X hR (okf X.2.2.1 rfl) kw_1533 dX10_laysLeasts_4 ?_
    have r1 := hR.r 11 0 4
    refine sa_icmp_ge (tgt := 52) X.1 hy1 r1 dX10_laysLeasts_7 (by decide) (fun hc => ?_) (fun hc => ?_)
    · have hw := hw.1 hc
      refine sa_const X.1 dX10_laysLeasts_52 ?_
      refine lv_istore_n (lv' := [(1, .int (Int32.ofInt 0)), (0, .ref (α 11 0))]) X.1.1 X.1.2.1 dX10_laysLeasts_53 rfl hl (by decide) rfl (fun ls hl => ?_)
      obtain ⟨n67, hw⟩ := hw
      exact t_X10_laysLeasts_54 X n67 _ _ hw (inR_c (a := 0) rfl) _ _ hR hS _ (lv_sub hl [1, 0] rfl)
    · have hw := hw.2 hc
      refine lv_aload_n X.1.1 X.1.2.1 dX10_laysLeasts_10 rfl (lv_at hl 0 rfl) ?_
      refine lv_iload_n X.1.1 X.1.2.1 dX10_laysLeasts_11 rfl (lv_at hl 1 rfl) ?_
      refine cs_X10_laysFigures X hy1 (kc := 3) rmL_ok rm_c (by decide) hR hS kw_1815 hl.1 dX10_laysLeasts_12 (Nat.le_of_ble_eq_true rfl) hw (fun M68 H locs hw hR hS => ?_)
      refine lv_aload_n X.1.1 X.1.2.1 dX10_laysLeasts_15 rfl (lv_at hl 0 rfl) ?_
      refine gt_11_33 X hR (okf X.2.2.1 rfl) kw_1562 dX10_laysLeasts_16 ?_
      refine lv_iload_n X.1.1 X.1.2.1 dX10_laysLeasts_19 rfl (lv_at hl 1 rfl) ?_
      refine lv_aload_n X.1.1 X.1.2.1 dX10_laysLeasts_20 rfl (lv_at hl 0 rfl) ?_
      refine gt_11_31 X hR (okf X.2.2.1 rfl) kw_1560 dX10_laysLeasts_21 ?_
      refine lv_iload_n X.1.1 X.1.2.1 dX10_laysLeasts_24 rfl (lv_at hl 1 rfl) ?_
      have c69 := hw.1
      have hw := hw.2
      refine ra_80 X hR (okf X.2.2.1 rfl) c69 dX10_laysLeasts_25 ?_
      have r70 := hR.r 80 0 y1
      refine lv_aload_n X.1.1 X.1.2.1 dX10_laysLeasts_26 rfl (lv_at hl 0 rfl) ?_
      refine gt_11_32 X hR (okf X.2.2.1 rfl) kw_1561 dX10_laysLeasts_27 ?_
      refine lv_iload_n X.1.1 X.1.2.1 dX10_laysLeasts_30 rfl (lv_at hl 1 rfl) ?_
      have c71 := hw.1
      have hw := hw.2
      refine ra_81 X hR (okf X.2.2.1 rfl) c71 dX10_laysLeasts_31 ?_
      have r72 := hR.r 81 0 y1
      have c73 := hw.1
      have hw := hw.2
      refine sa_iadd X.1 dX10_laysLeasts_32 ?_
      have c74 := hw.1
      have hw := hw.2
      refine wa_82 X hR hS (okf X.2.2.1 rfl) c74 c73 dX10_laysLeasts_33 (fun H locs hR hS => ?_)
      obtain ⟨M75, e76⟩ : ∃ z : Mem, z = up M68 82 0 y1 ((M68 80 0 y1) + (M68 81 0 y1)) := ⟨_, rfl⟩
      rw [← e76] at hR
      have hw := hw M75 e76
      refine lv_aload_n X.1.1 X.1.2.1 dX10_laysLeasts_34 rfl (lv_at hl 0 rfl) ?_
      refine gt_11_34 X hR (okf X.2.2.1 rfl) kw_1563 dX10_laysLeasts_35 ?_
      refine lv_iload_n X.1.1 X.1.2.1 dX10_laysLeasts_38 rfl (lv_at hl 1 rfl) ?_
      refine lv_aload_n X.1.1 X.1.2.1 dX10_laysLeasts_39 rfl (lv_at hl 0 rfl) ?_
      refine gt_11_33 X hR (okf X.2.2.1 rfl) kw_1562 dX10_laysLeasts_40 ?_
      refine lv_iload_n X.1.1 X.1.2.1 dX10_laysLeasts_43 rfl (lv_at hl 1 rfl) ?_
      have c77 := hw.1
      have hw := hw.2
      refine ra_82 X hR (okf X.2.2.1 rfl) c77 dX10_laysLeasts_44 ?_
      have r78 := hR.r 82 0 y1
      have c79 := hw.1
      have hw := hw.2
      refine wa_83 X hR hS (okf X.2.2.1 rfl) c79 r78 dX10_laysLeasts_45 (fun H locs hR hS => ?_)
      obtain ⟨M80, e81⟩ : ∃ z : Mem, z = up M75 83 0 y1 (M75 82 0 y1) := ⟨_, rfl⟩
      rw [← e81] at hR
      have hw := hw M80 e81
      have c82 := hw.1
      have hw := hw.2
      refine lv_iinc (v := Int32.ofInt (y1 + 1)) (lv' := [(1, .int (Int32.ofInt (y1 + 1))), (0, .ref (α 11 0))]) X.1.1 X.1.2.1 dX10_laysLeasts_46 hl (k := 1) rfl (Int32.ofInt_add _ _).symm (by decide) rfl (fun ls hl => ?_)
      refine lv_goto (tgt := 2) X.1.1 X.1.2.1 dX10_laysLeasts_49 (by decide) ?_
      exact ih _ _ hw c82 _ _ hR hS _ (lv_sub hl [1, 0] rfl)
set_option maxHeartbeats 4000000 in
set_option maxRecDepth 100000 in
theorem t_X10_laysLeasts (X : CX p m c cX10_laysLeasts 3 s args RX10 G B κ meth none) {M : Mem} {Qm : Mem → Prop} (hw : wp_X10_laysLeasts M Qm) (H : Heap) (locs : List Loc) (hR : Rp G e0 α κ B M H) (hS : va_S (fun q => B ≤ q) s.heap H locs) (ls : Array Slot) (hl : lv_has ls 3 [(0, .ref (α 11 0))]) : WV p l e 3 s m args below meth c G e0 α κ B Qm H locs 0 ls [] := by
  have hw : (∃ n83 : Nat, wp_X10_laysLeasts_2 Qm n83 0 M) := hw
  refine sa_const X.1 dX10_laysLeasts_0 ?_
  refine lv_istore_n (lv' := [(1, .int (Int32.ofInt 0)), (0, .ref (α 11 0))]) X.1.1 X.1.2.1 dX10_laysLeasts_1 rfl hl (by decide) rfl (fun ls hl => ?_)
  obtain ⟨n83, hw⟩ := hw
  exact t_X10_laysLeasts_2 X n83 _ _ hw (inR_c (a := 0) rfl) _ _ hR hS _ (lv_sub hl [1, 0] rfl)
theorem m_X10_laysLeasts {l : Launch} {G : Gx} {e0 : Nat} {α : Ax} {κ : Nat → Int} {B : Nat} (hκ : kOK κ) {M : Mem} {Qm : Mem → Prop} (hw : wp_X10_laysLeasts M Qm) : CV l yX10_laysLeasts (Cond.code yX10_laysLeasts cX10_laysLeasts 3 none) 3 G e0 α κ B [.ref (α 11 0)] M Qm :=
  CV.mk hκ (by decide +kernel) rfl (Nat.le_of_ble_eq_true rfl) (lv := [(0, .ref (α 11 0))]) rfl (fun p e s m args below meth c ls X hR hS hl => t_X10_laysLeasts X hw _ _ hR hS ls hl)
theorem cs_X10_laysLeasts {cc : ByteArray} {nL : Nat} {own : String} {ret : Option FieldType} {idx pc : Nat} (X : CX p m c cc nL s args own G B κ meth ret) {kc : Nat} {R : Room} {cells slots : Nat} (hRr : RmOK R kc) (hcel : cells ≤ R.cells ∧ slots ≤ R.slots) (hk : 3 + 1 ≤ kc) {M : Mem} {H : Heap} {locs : List Loc} (hR : Rp G e0 α κ B M H) (hS : va_S (fun q => B ≤ q) s.heap H locs) (k1 : Cond.methodLink own idx yX10_laysLeasts ∈ gw) {ls : Array Slot} (hml : ls.size = nL) {rest : List Value} (hd : decode cc pc = .ok (.invokevirtual idx, 3)) (hrest : (rest.map fun v => v.category).sum ≤ 8) {Q : State → Prop} {Qm : Mem → Prop} (hw : wp_X10_laysLeasts M Qm) (kk : ∀ (M1 : Mem) (H1 : Heap) (locs1 : List Loc), Qm M1 → Rp G e0 α κ B M1 H1 → va_S (fun q => B ≤ q) s.heap H1 locs1 → W p l e R s m args below meth c H1 locs1 cells slots Q (F0 m (pc + 3) ls (rest))) : W p l e R s m args below meth c H locs cells slots Q (F0 m pc ls (.ref (α 11 0) :: rest)) :=
  sa_callVV 3 (n := 0) (As := []) (rest := rest) X.1 X.2.1 hR hS (m_X10_laysLeasts X.2.2.1 hw) k1 kw_1813 kw_51 kw_104 kw_1814 ⟨rfl, by decide +kernel, by decide +kernel, by decide +kernel⟩ (rm_ok hRr hk (by decide)) (rc_11 X hR (okf X.2.2.1 rfl)) rfl rfl hrest hml hd hcel kk
def wp_X10_between (M : Mem) (Qm : Int → Mem → Prop) : Prop := wp_X10_visible M fun (x2 : Int) (M1 : Mem) => (inR (x2 - 1)) ∧ Qm (x2 - 1) M1
set_option maxHeartbeats 4000000 in
set_option maxRecDepth 100000 in
theorem t_X10_between (X : CX p m c cX10_between 1 s args RX10 G B κ meth (some .int)) {M : Mem} {Qm : Int → Mem → Prop} (hw : wp_X10_between M Qm) (H : Heap) (locs : List Loc) (hR : Rp G e0 α κ B M H) (hS : va_S (fun q => B ≤ q) s.heap H locs) (ls : Array Slot) (hl : lv_has ls 1 [(0, .ref (α 11 0))]) : WI p l e 1 s m args below meth c G e0 α κ B Qm H locs 0 ls [] := by
  have hw : wp_X10_visible M fun (x2 : Int) (M1 : Mem) => (inR (x2 - 1)) ∧ Qm (x2 - 1) M1 := hw
  refine lv_aload_n X.1.1 X.1.2.1 dX10_between_0 rfl (lv_at hl 0 rfl) ?_
  refine cs_X10_visible X  (kc := 1) rmL_ok rm_c (by decide) hR hS kw_1791 hl.1 dX10_between_1 (Nat.le_of_ble_eq_true rfl) hw (fun x2 M1 H locs hw r3 hR hS => ?_)
  refine sa_const X.1 dX10_between_4 ?_
  have c4 := hw.1
  have hw := hw.2
  refine sa_isub X.1 dX10_between_5 ?_
  exact sa_iret X.1 X.2.2.2.1 X.2.2.2.2 hR hS c4 hw dX10_between_6
theorem m_X10_between {l : Launch} {G : Gx} {e0 : Nat} {α : Ax} {κ : Nat → Int} {B : Nat} (hκ : kOK κ) {M : Mem} {Qm : Int → Mem → Prop} (hw : wp_X10_between M Qm) : CI l yX10_between (Cond.code yX10_between cX10_between 1 (some .int)) 1 G e0 α κ B [.ref (α 11 0)] M Qm :=
  CI.mk hκ (by decide +kernel) rfl (Nat.le_of_ble_eq_true rfl) (lv := [(0, .ref (α 11 0))]) rfl (fun p e s m args below meth c ls X hR hS hl => t_X10_between X hw _ _ hR hS ls hl)
theorem cs_X10_between {cc : ByteArray} {nL : Nat} {own : String} {ret : Option FieldType} {idx pc : Nat} (X : CX p m c cc nL s args own G B κ meth ret) {kc : Nat} {R : Room} {cells slots : Nat} (hRr : RmOK R kc) (hcel : cells ≤ R.cells ∧ slots ≤ R.slots) (hk : 1 + 1 ≤ kc) {M : Mem} {H : Heap} {locs : List Loc} (hR : Rp G e0 α κ B M H) (hS : va_S (fun q => B ≤ q) s.heap H locs) (k1 : Cond.methodLink own idx yX10_between ∈ gw) {ls : Array Slot} (hml : ls.size = nL) {rest : List Value} (hd : decode cc pc = .ok (.invokevirtual idx, 3)) (hrest : (rest.map fun v => v.category).sum ≤ 8) {Q : State → Prop} {Qm : Int → Mem → Prop} (hw : wp_X10_between M Qm) (kk : ∀ (r : Int) (M1 : Mem) (H1 : Heap) (locs1 : List Loc), Qm r M1 → inR r → Rp G e0 α κ B M1 H1 → va_S (fun q => B ≤ q) s.heap H1 locs1 → W p l e R s m args below meth c H1 locs1 cells slots Q (F0 m (pc + 3) ls (.int (Int32.ofInt r) :: rest))) : W p l e R s m args below meth c H locs cells slots Q (F0 m pc ls (.ref (α 11 0) :: rest)) :=
  sa_callVI 1 (n := 0) (As := []) (rest := rest) X.1 X.2.1 hR hS (m_X10_between X.2.2.1 hw) k1 kw_1871 kw_62 kw_104 kw_1872 ⟨rfl, by decide +kernel, by decide +kernel, by decide +kernel⟩ (rm_ok hRr hk (by decide)) (rc_11 X hR (okf X.2.2.1 rfl)) rfl rfl hrest hml hd hcel kk
def wp_X10_part (p0 : Int) (p1 : Int) (M : Mem) (Qm : Int → Mem → Prop) : Prop := (inR (p0 * p1)) ∧ ((p0 * p1) < 0 → (inR (-(p0 * p1))) ∧ (inR ((-(p0 * p1)) + 99)) ∧ (inR (-(Int.tdiv ((-(p0 * p1)) + 99) 100))) ∧ True) ∧ (inR (if (p0 * p1) < 0 then (-(Int.tdiv ((-(p0 * p1)) + 99) 100)) else (Int.tdiv (p0 * p1) 100))) ∧ Qm (if (p0 * p1) < 0 then (-(Int.tdiv ((-(p0 * p1)) + 99) 100)) else (Int.tdiv (p0 * p1) 100)) M
set_option maxHeartbeats 4000000 in
set_option maxRecDepth 100000 in
theorem t_X10_part {p0 : Int} {p1 : Int} (X : CX p m c cX10_part 3 s args RX10 G B κ meth (some .int)) (hp0 : inR p0) (hp1 : inR p1) {M : Mem} {Qm : Int → Mem → Prop} (hw : wp_X10_part p0 p1 M Qm) (H : Heap) (locs : List Loc) (hR : Rp G e0 α κ B M H) (hS : va_S (fun q => B ≤ q) s.heap H locs) (ls : Array Slot) (hl : lv_has ls 3 [(0, .int (Int32.ofInt p0)), (1, .int (Int32.ofInt p1))]) : WI p l e 0 s m args below meth c G e0 α κ B Qm H locs 0 ls [] := by
  have hw : (inR (p0 * p1)) ∧ ((p0 * p1) < 0 → (inR (-(p0 * p1))) ∧ (inR ((-(p0 * p1)) + 99)) ∧ (inR (-(Int.tdiv ((-(p0 * p1)) + 99) 100))) ∧ True) ∧ (inR (if (p0 * p1) < 0 then (-(Int.tdiv ((-(p0 * p1)) + 99) 100)) else (Int.tdiv (p0 * p1) 100))) ∧ Qm (if (p0 * p1) < 0 then (-(Int.tdiv ((-(p0 * p1)) + 99) 100)) else (Int.tdiv (p0 * p1) 100)) M := hw
  refine lv_iload_n X.1.1 X.1.2.1 dX10_part_0 rfl (lv_at hl 0 rfl) ?_
  refine lv_iload_n X.1.1 X.1.2.1 dX10_part_1 rfl (lv_at hl 1 rfl) ?_
  have c1 := hw.1
  have hw := hw.2
  refine sa_imul X.1 dX10_part_2 ?_
  refine lv_istore_n (lv' := [(2, .int (Int32.ofInt (p0 * p1))), (0, .int (Int32.ofInt p0)), (1, .int (Int32.ofInt p1))]) X.1.1 X.1.2.1 dX10_part_3 rfl hl (by decide) rfl (fun ls hl => ?_)
  refine lv_iload_n X.1.1 X.1.2.1 dX10_part_4 rfl (lv_at hl 0 rfl) ?_
  have s5 := hw.1
  have hw := hw.2
  have c6 := hw.1
  have hw := hw.2
  refine cut_j (A := ∀ v7 : Int, v7 = (if (p0 * p1) < 0 then (-(Int.tdiv ((-(p0 * p1)) + 99) 100)) else (Int.tdiv (p0 * p1) 100)) → WI p l e 0 s m args below meth c G e0 α κ B Qm H locs 24 ls [.int (Int32.ofInt v7)]) (fun J8 => ?_) ?_
  · refine sa_if_lt (tgt := 15) X.1 c1 dX10_part_5 (by decide) (fun hc => ?_) (fun hc => ?_)
    · have hw := s5 hc
      refine lv_iload_n X.1.1 X.1.2.1 dX10_part_15 rfl (lv_at hl 0 rfl) ?_
      have c2 := hw.1
      have hw := hw.2
      refine sa_ineg X.1 dX10_part_16 ?_
      refine sa_bipush X.1 dX10_part_17 (by decide) ?_
      have c3 := hw.1
      have hw := hw.2
      refine sa_iadd X.1 dX10_part_19 ?_
      refine sa_bipush X.1 dX10_part_20 (by decide) ?_
      refine sa_idiv X.1 c3 (inR_c (a := 100) rfl) (Int.ne_of_gt (by decide)) dX10_part_22 ?_
      have c4 := hw.1
      have hw := hw.2
      refine sa_ineg X.1 dX10_part_23 ?_
      exact J8 ((-(Int.tdiv ((-(p0 * p1)) + 99) 100))) (if_pos (c := (p0 * p1) < 0) hc).symm
    · skip
      refine lv_iload_n X.1.1 X.1.2.1 dX10_part_8 rfl (lv_at hl 0 rfl) ?_
      refine sa_bipush X.1 dX10_part_9 (by decide) ?_
      refine sa_idiv X.1 c1 (inR_c (a := 100) rfl) (Int.ne_of_gt (by decide)) dX10_part_11 ?_
      refine lv_goto (tgt := 24) X.1.1 X.1.2.1 dX10_part_12 (by decide) ?_
      exact J8 ((Int.tdiv (p0 * p1) 100)) (if_neg (c := (p0 * p1) < 0) (Int.not_lt.mpr hc)).symm
  intro v7 hv7
  subst hv7
  exact sa_iret X.1 X.2.2.2.1 X.2.2.2.2 hR hS c6 hw dX10_part_24
theorem m_X10_part {l : Launch} {G : Gx} {e0 : Nat} {α : Ax} {κ : Nat → Int} {B : Nat} {p0 : Int} {p1 : Int} (hκ : kOK κ) (hp0 : inR p0) (hp1 : inR p1) {M : Mem} {Qm : Int → Mem → Prop} (hw : wp_X10_part p0 p1 M Qm) : CI l yX10_part (Cond.code yX10_part cX10_part 3 (some .int)) 0 G e0 α κ B [.int (Int32.ofInt p0), .int (Int32.ofInt p1)] M Qm :=
  CI.mk hκ (by decide +kernel) rfl (Nat.le_of_ble_eq_true rfl) (lv := [(0, .int (Int32.ofInt p0)), (1, .int (Int32.ofInt p1))]) rfl (fun p e s m args below meth c ls X hR hS hl => t_X10_part X hp0 hp1 hw _ _ hR hS ls hl)
theorem cs_X10_part {cc : ByteArray} {nL : Nat} {own : String} {ret : Option FieldType} {idx pc : Nat} {p0 : Int} {p1 : Int} (X : CX p m c cc nL s args own G B κ meth ret) (hp0 : inR p0) (hp1 : inR p1) {kc : Nat} {R : Room} {cells slots : Nat} (hRr : RmOK R kc) (hcel : cells ≤ R.cells ∧ slots ≤ R.slots) (hk : 0 + 1 ≤ kc) {M : Mem} {H : Heap} {locs : List Loc} (hR : Rp G e0 α κ B M H) (hS : va_S (fun q => B ≤ q) s.heap H locs) (k1 : Cond.methodLink own idx yX10_part ∈ gw) {ls : Array Slot} (hml : ls.size = nL) {rest : List Value} (hd : decode cc pc = .ok (.invokestatic idx, 3)) (hrest : (rest.map fun v => v.category).sum ≤ 8) {Q : State → Prop} {Qm : Int → Mem → Prop} (hw : wp_X10_part p0 p1 M Qm) (kk : ∀ (r : Int) (M1 : Mem) (H1 : Heap) (locs1 : List Loc), Qm r M1 → inR r → Rp G e0 α κ B M1 H1 → va_S (fun q => B ≤ q) s.heap H1 locs1 → W p l e R s m args below meth c H1 locs1 cells slots Q (F0 m (pc + 3) ls (.int (Int32.ofInt r) :: rest))) : W p l e R s m args below meth c H locs cells slots Q (F0 m pc ls (.int (Int32.ofInt p1) :: .int (Int32.ofInt p0) :: rest)) :=
  sa_callSI 0 (n := 2) (As := [.int (Int32.ofInt p0), .int (Int32.ofInt p1)]) (rest := rest) X.1 X.2.1 hR hS (m_X10_part X.2.2.1 hp0 hp1 hw) k1 kw_1874 kw_104 kw_1875 ⟨by decide +kernel, by decide +kernel, by decide +kernel⟩ (rm_ok hRr hk (by decide)) rfl rfl hrest hml hd hcel kk
def wp_X10_sumOfWidths_18 (Qm : Int → Mem → Prop) : Nat → Int → Int → Mem → Prop
  | 0 => fun _ _ _ => False
  | n + 1 => fun y1 y2 M => (((M 11 0 4) ≤ y2 → Qm y1 M) ∧ (y2 < (M 11 0 4) → (0 ≤ y2 ∧ y2 < 6) ∧ (inR (y1 + (M 84 0 y2))) ∧ (inR (y2 + 1)) ∧ wp_X10_sumOfWidths_18 Qm n (y1 + (M 84 0 y2)) (y2 + 1) M))
def wp_X10_sumOfWidths_15 (Qm : Int → Mem → Prop) (z0 : Int) (M : Mem) : Prop := (∃ n7 : Nat, wp_X10_sumOfWidths_18 Qm n7 z0 0 M)
def wp_X10_sumOfWidths (M : Mem) (Qm : Int → Mem → Prop) : Prop := (((M 11 0 4) ≤ 0 → wp_X10_sumOfWidths_15 Qm 0 M) ∧ (0 < (M 11 0 4) → wp_X10_between M fun (x9 : Int) (M8 : Mem) => wp_X10_sumOfWidths_15 Qm x9 M8))
set_option maxHeartbeats 4000000 in
set_option maxRecDepth 100000 in
theorem t_X10_sumOfWidths_18 (X : CX p m c cX10_sumOfWidths 3 s args RX10 G B κ meth (some .int)) {Qm : Int → Mem → Prop} : ∀ n : Nat, ∀ y1 : Int, ∀ y2 : Int, ∀ M : Mem, wp_X10_sumOfWidths_18 Qm n y1 y2 M → inR y1 → inR y2 → ∀ (H : Heap) (locs : List Loc), Rp G e0 α κ B M H → va_S (fun q => B ≤ q) s.heap H locs → ∀ (ls : Array Slot), lv_has ls 3 [(0, .ref (α 11 0)), (1, .int (Int32.ofInt y1)), (2, .int (Int32.ofInt y2))] → WI p l e 2 s m args below meth c G e0 α κ B Qm H locs 18 ls [] := by
  intro n
  induction n with
  | zero =>
    intro y1 y2 M hw hy1 hy2 H locs hR hS ls hl
    exact hw.elim
  | succ n ih =>
    intro y1 y2 M hw hy1 hy2 H locs hR hS ls hl
    have hw : (((M 11 0 4) ≤ y2 → Qm y1 M) ∧ (y2 < (M 11 0 4) → (0 ≤ y2 ∧ y2 < 6) ∧ (inR (y1 + (M 84 0 y2))) ∧ (inR (y2 + 1)) ∧ wp_X10_sumOfWidths_18 Qm n (y1 + (M 84 0 y2)) (y2 + 1) M)) := hw
    refine lv_iload_n X.1.1 X.1.2.1 dX10_sumOfWidths_18 rfl (lv_at hl 2 rfl) ?_
    refine lv_aload_n X.1.1 X.1.2.1 dX10_sumOfWidths_19 rfl (lv_at hl 0 rfl) ?_
    refine gt_11_4 X hR (okf X.2.2.1 rfl) kw_1533 dX10_sumOfWidths_20 ?_
    have r2 := hR.r 11 0 4
    refine sa_icmp_ge (tgt := 41) X.1 hy2 r2 dX10_sumOfWidths_23 (by decide) (fun hc => ?_) (fun hc => ?_)
    · have hw := hw.1 hc
      refine lv_iload_n X.1.1 X.1.2.1 dX10_sumOfWidths_41 rfl (lv_at hl 1 rfl) ?_
      exact sa_iret X.1 X.2.2.2.1 X.2.2.2.2 hR hS hy1 hw dX10_sumOfWidths_42
    · have hw := hw.2 hc
      refine lv_iload_n X.1.1 X.1.2.1 dX10_sumOfWidths_26 rfl (lv_at hl 1 rfl) ?_
      refine lv_aload_n X.1.1 X.1.2.1 dX10_sumOfWidths_27 rfl (lv_at hl 0 rfl) ?_
      refine gt_11_35 X hR (okf X.2.2.1 rfl) kw_1564 dX10_sumOfWidths_28 ?_
      refine lv_iload_n X.1.1 X.1.2.1 dX10_sumOfWidths_31 rfl (lv_at hl 2 rfl) ?_
      have c3 := hw.1
      have hw := hw.2
      refine ra_84 X hR (okf X.2.2.1 rfl) c3 dX10_sumOfWidths_32 ?_
      have r4 := hR.r 84 0 y2
      have c5 := hw.1
      have hw := hw.2
      refine sa_iadd X.1 dX10_sumOfWidths_33 ?_
      refine lv_istore_n (lv' := [(1, .int (Int32.ofInt (y1 + (M 84 0 y2)))), (0, .ref (α 11 0)), (2, .int (Int32.ofInt y2))]) X.1.1 X.1.2.1 dX10_sumOfWidths_34 rfl hl (by decide) rfl (fun ls hl => ?_)
      have c6 := hw.1
      have hw := hw.2
      refine lv_iinc (v := Int32.ofInt (y2 + 1)) (lv' := [(2, .int (Int32.ofInt (y2 + 1))), (1, .int (Int32.ofInt (y1 + (M 84 0 y2)))), (0, .ref (α 11 0))]) X.1.1 X.1.2.1 dX10_sumOfWidths_35 hl (k := 2) rfl (Int32.ofInt_add _ _).symm (by decide) rfl (fun ls hl => ?_)
      refine lv_goto (tgt := 18) X.1.1 X.1.2.1 dX10_sumOfWidths_38 (by decide) ?_
      exact ih _ _ _ hw c5 c6 _ _ hR hS _ (lv_sub hl [2, 1, 0] rfl)
set_option maxHeartbeats 4000000 in
set_option maxRecDepth 100000 in
theorem t_X10_sumOfWidths_15 (X : CX p m c cX10_sumOfWidths 3 s args RX10 G B κ meth (some .int)) {Qm : Int → Mem → Prop} : ∀ z0 : Int, ∀ M : Mem, wp_X10_sumOfWidths_15 Qm z0 M → inR z0 → ∀ (H : Heap) (locs : List Loc), Rp G e0 α κ B M H → va_S (fun q => B ≤ q) s.heap H locs → ∀ (ls : Array Slot), lv_has ls 3 [(0, .ref (α 11 0))] → WI p l e 2 s m args below meth c G e0 α κ B Qm H locs 15 ls [.int (Int32.ofInt z0)] := by
  intro z0 M hw hz0 H locs hR hS ls hl
  have hw : (∃ n7 : Nat, wp_X10_sumOfWidths_18 Qm n7 z0 0 M) := hw
  refine lv_istore_n (lv' := [(1, .int (Int32.ofInt z0)), (0, .ref (α 11 0))]) X.1.1 X.1.2.1 dX10_sumOfWidths_15 rfl hl (by decide) rfl (fun ls hl => ?_)
  refine sa_const X.1 dX10_sumOfWidths_16 ?_
  refine lv_istore_n (lv' := [(2, .int (Int32.ofInt 0)), (1, .int (Int32.ofInt z0)), (0, .ref (α 11 0))]) X.1.1 X.1.2.1 dX10_sumOfWidths_17 rfl hl (by decide) rfl (fun ls hl => ?_)
  obtain ⟨n7, hw⟩ := hw
  exact t_X10_sumOfWidths_18 X n7 _ _ _ hw hz0 (inR_c (a := 0) rfl) _ _ hR hS _ (lv_sub hl [2, 1, 0] rfl)
set_option maxHeartbeats 4000000 in
set_option maxRecDepth 100000 in
theorem t_X10_sumOfWidths (X : CX p m c cX10_sumOfWidths 3 s args RX10 G B κ meth (some .int)) {M : Mem} {Qm : Int → Mem → Prop} (hw : wp_X10_sumOfWidths M Qm) (H : Heap) (locs : List Loc) (hR : Rp G e0 α κ B M H) (hS : va_S (fun q => B ≤ q) s.heap H locs) (ls : Array Slot) (hl : lv_has ls 3 [(0, .ref (α 11 0))]) : WI p l e 2 s m args below meth c G e0 α κ B Qm H locs 0 ls [] := by
  have hw : (((M 11 0 4) ≤ 0 → wp_X10_sumOfWidths_15 Qm 0 M) ∧ (0 < (M 11 0 4) → wp_X10_between M fun (x9 : Int) (M8 : Mem) => wp_X10_sumOfWidths_15 Qm x9 M8)) := hw
  refine lv_aload_n X.1.1 X.1.2.1 dX10_sumOfWidths_0 rfl (lv_at hl 0 rfl) ?_
  refine gt_11_4 X hR (okf X.2.2.1 rfl) kw_1533 dX10_sumOfWidths_1 ?_
  have r1 := hR.r 11 0 4
  refine sa_if_le (tgt := 14) X.1 r1 dX10_sumOfWidths_4 (by decide) (fun hc => ?_) (fun hc => ?_)
  · have hw := hw.1 hc
    refine sa_const X.1 dX10_sumOfWidths_14 ?_
    exact t_X10_sumOfWidths_15 X _ _ hw (inR_c (a := 0) rfl) _ _ hR hS _ (lv_sub hl [0] rfl)
  · have hw := hw.2 hc
    refine lv_aload_n X.1.1 X.1.2.1 dX10_sumOfWidths_7 rfl (lv_at hl 0 rfl) ?_
    refine cs_X10_between X  (kc := 2) rmL_ok rm_c (by decide) hR hS kw_1869 hl.1 dX10_sumOfWidths_8 (Nat.le_of_ble_eq_true rfl) hw (fun x9 M8 H locs hw r10 hR hS => ?_)
    refine lv_goto (tgt := 15) X.1.1 X.1.2.1 dX10_sumOfWidths_11 (by decide) ?_
    exact t_X10_sumOfWidths_15 X _ _ hw r10 _ _ hR hS _ (lv_sub hl [0] rfl)
theorem m_X10_sumOfWidths {l : Launch} {G : Gx} {e0 : Nat} {α : Ax} {κ : Nat → Int} {B : Nat} (hκ : kOK κ) {M : Mem} {Qm : Int → Mem → Prop} (hw : wp_X10_sumOfWidths M Qm) : CI l yX10_sumOfWidths (Cond.code yX10_sumOfWidths cX10_sumOfWidths 3 (some .int)) 2 G e0 α κ B [.ref (α 11 0)] M Qm :=
  CI.mk hκ (by decide +kernel) rfl (Nat.le_of_ble_eq_true rfl) (lv := [(0, .ref (α 11 0))]) rfl (fun p e s m args below meth c ls X hR hS hl => t_X10_sumOfWidths X hw _ _ hR hS ls hl)
theorem cs_X10_sumOfWidths {cc : ByteArray} {nL : Nat} {own : String} {ret : Option FieldType} {idx pc : Nat} (X : CX p m c cc nL s args own G B κ meth ret) {kc : Nat} {R : Room} {cells slots : Nat} (hRr : RmOK R kc) (hcel : cells ≤ R.cells ∧ slots ≤ R.slots) (hk : 2 + 1 ≤ kc) {M : Mem} {H : Heap} {locs : List Loc} (hR : Rp G e0 α κ B M H) (hS : va_S (fun q => B ≤ q) s.heap H locs) (k1 : Cond.methodLink own idx yX10_sumOfWidths ∈ gw) {ls : Array Slot} (hml : ls.size = nL) {rest : List Value} (hd : decode cc pc = .ok (.invokevirtual idx, 3)) (hrest : (rest.map fun v => v.category).sum ≤ 8) {Q : State → Prop} {Qm : Int → Mem → Prop} (hw : wp_X10_sumOfWidths M Qm) (kk : ∀ (r : Int) (M1 : Mem) (H1 : Heap) (locs1 : List Loc), Qm r M1 → inR r → Rp G e0 α κ B M1 H1 → va_S (fun q => B ≤ q) s.heap H1 locs1 → W p l e R s m args below meth c H1 locs1 cells slots Q (F0 m (pc + 3) ls (.int (Int32.ofInt r) :: rest))) : W p l e R s m args below meth c H locs cells slots Q (F0 m pc ls (.ref (α 11 0) :: rest)) :=
  sa_callVI 2 (n := 0) (As := []) (rest := rest) X.1 X.2.1 hR hS (m_X10_sumOfWidths X.2.2.1 hw) k1 kw_1878 kw_63 kw_104 kw_1879 ⟨rfl, by decide +kernel, by decide +kernel, by decide +kernel⟩ (rm_ok hRr hk (by decide)) (rc_11 X hR (okf X.2.2.1 rfl)) rfl rfl hrest hml hd hcel kk
def wp_X10_laysNarrow_94 (Qm : Mem → Prop) (K6 : Int → Mem → Prop) (y1 : Int) (z0 : Int) (z1 : Int) (M : Mem) : Prop := (0 ≤ z1 ∧ z1 < 6) ∧ ∀ M15 : Mem, M15 = up M 84 0 z1 z0 → (inR (y1 + 1)) ∧ K6 (y1 + 1) M15
def wp_X10_laysNarrow_65 (Qm : Mem → Prop) (K6 : Int → Mem → Prop) (y1 : Int) (z0 : Int) (M : Mem) : Prop := (0 ≤ y1 ∧ y1 < 6) ∧ (((M 59 0 y1) = 0 → (0 ≤ y1 ∧ y1 < 6) ∧ wp_X10_greater z0 (M 82 0 y1) M fun (x12 : Int) (M11 : Mem) => wp_X10_laysNarrow_94 Qm K6 y1 x12 y1 M11) ∧ (¬ (M 59 0 y1) = 0 → wp_X10_laysNarrow_94 Qm K6 y1 0 y1 M))
def wp_X10_laysNarrow_6 (Qm : Mem → Prop) : Nat → Int → Mem → Prop
  | 0 => fun _ _ => False
  | n + 1 => fun y1 M => (((M 11 0 4) ≤ y1 → Qm M) ∧ (y1 < (M 11 0 4) → (0 ≤ y1 ∧ y1 < 6) ∧ ((¬ (M 56 0 y1) = 1 → (0 ≤ y1 ∧ y1 < 6) ∧ ((¬ (M 56 0 y1) = 2 → wp_X10_laysNarrow_65 Qm (wp_X10_laysNarrow_6 Qm n) y1 0 M) ∧ ((M 56 0 y1) = 2 → wp_X10_between M fun (x20 : Int) (M19 : Mem) => (inR ((M 11 0 24) - x20)) ∧ (0 ≤ y1 ∧ y1 < 6) ∧ wp_X10_part ((M 11 0 24) - x20) (M19 57 0 y1) M19 fun (x26 : Int) (M25 : Mem) => wp_X10_laysNarrow_65 Qm (wp_X10_laysNarrow_6 Qm n) y1 x26 M25))) ∧ ((M 56 0 y1) = 1 → (0 ≤ y1 ∧ y1 < 6) ∧ wp_X10_laysNarrow_65 Qm (wp_X10_laysNarrow_6 Qm n) y1 (M 57 0 y1) M))))
def wp_X10_laysNarrow (M : Mem) (Qm : Mem → Prop) : Prop := wp_X10_laysLeasts M fun (M1 : Mem) => (∃ n30 : Nat, wp_X10_laysNarrow_6 Qm n30 0 M1)
set_option maxHeartbeats 4000000 in
set_option maxRecDepth 100000 in
theorem t_X10_laysNarrow_94 (X : CX p m c cX10_laysNarrow 3 s args RX10 G B κ meth none) {Qm : Mem → Prop} {K6 : Int → Mem → Prop} (hK6 : ∀ y1 : Int, ∀ M : Mem, K6 y1 M → inR y1 → ∀ (H : Heap) (locs : List Loc), Rp G e0 α κ B M H → va_S (fun q => B ≤ q) s.heap H locs → ∀ (ls : Array Slot), lv_has ls 3 [(0, .ref (α 11 0)), (1, .int (Int32.ofInt y1))] → WV p l e 4 s m args below meth c G e0 α κ B Qm H locs 6 ls []) : ∀ y1 : Int, ∀ z0 : Int, ∀ z1 : Int, ∀ M : Mem, wp_X10_laysNarrow_94 Qm K6 y1 z0 z1 M → inR y1 → inR z0 → inR z1 → ∀ (H : Heap) (locs : List Loc), Rp G e0 α κ B M H → va_S (fun q => B ≤ q) s.heap H locs → ∀ (ls : Array Slot), lv_has ls 3 [(0, .ref (α 11 0)), (1, .int (Int32.ofInt y1))] → WV p l e 4 s m args below meth c G e0 α κ B Qm H locs 94 ls [.int (Int32.ofInt z0), .int (Int32.ofInt z1), .ref (α 84 0)] := by
  intro y1 z0 z1 M hw hy1 hz0 hz1 H locs hR hS ls hl
  have hw : (0 ≤ z1 ∧ z1 < 6) ∧ ∀ M15 : Mem, M15 = up M 84 0 z1 z0 → (inR (y1 + 1)) ∧ K6 (y1 + 1) M15 := hw
  have c14 := hw.1
  have hw := hw.2
  refine wa_84 X hR hS (okf X.2.2.1 rfl) c14 hz0 dX10_laysNarrow_94 (fun H locs hR hS => ?_)
  obtain ⟨M15, e16⟩ : ∃ z : Mem, z = up M 84 0 z1 z0 := ⟨_, rfl⟩
  rw [← e16] at hR
  have hw := hw M15 e16
  have c17 := hw.1
  have hw := hw.2
  refine lv_iinc (v := Int32.ofInt (y1 + 1)) (lv' := [(1, .int (Int32.ofInt (y1 + 1))), (0, .ref (α 11 0))]) X.1.1 X.1.2.1 dX10_laysNarrow_95 hl (k := 1) rfl (Int32.ofInt_add _ _).symm (by decide) rfl (fun ls hl => ?_)
  refine lv_goto (tgt := 6) X.1.1 X.1.2.1 dX10_laysNarrow_98 (by decide) ?_
  exact hK6 _ _ hw c17 _ _ hR hS _ (lv_sub hl [1, 0] rfl)
set_option maxHeartbeats 4000000 in
set_option maxRecDepth 100000 in
theorem t_X10_laysNarrow_65 (X : CX p m c cX10_laysNarrow 3 s args RX10 G B κ meth none) {Qm : Mem → Prop} {K6 : Int → Mem → Prop} (hK6 : ∀ y1 : Int, ∀ M : Mem, K6 y1 M → inR y1 → ∀ (H : Heap) (locs : List Loc), Rp G e0 α κ B M H → va_S (fun q => B ≤ q) s.heap H locs → ∀ (ls : Array Slot), lv_has ls 3 [(0, .ref (α 11 0)), (1, .int (Int32.ofInt y1))] → WV p l e 4 s m args below meth c G e0 α κ B Qm H locs 6 ls []) : ∀ y1 : Int, ∀ z0 : Int, ∀ M : Mem, wp_X10_laysNarrow_65 Qm K6 y1 z0 M → inR y1 → inR z0 → ∀ (H : Heap) (locs : List Loc), Rp G e0 α κ B M H → va_S (fun q => B ≤ q) s.heap H locs → ∀ (ls : Array Slot), lv_has ls 3 [(0, .ref (α 11 0)), (1, .int (Int32.ofInt y1))] → WV p l e 4 s m args below meth c G e0 α κ B Qm H locs 65 ls [.int (Int32.ofInt z0)] := by
  intro y1 z0 M hw hy1 hz0 H locs hR hS ls hl
  have hw : (0 ≤ y1 ∧ y1 < 6) ∧ (((M 59 0 y1) = 0 → (0 ≤ y1 ∧ y1 < 6) ∧ wp_X10_greater z0 (M 82 0 y1) M fun (x12 : Int) (M11 : Mem) => wp_X10_laysNarrow_94 Qm K6 y1 x12 y1 M11) ∧ (¬ (M 59 0 y1) = 0 → wp_X10_laysNarrow_94 Qm K6 y1 0 y1 M)) := hw
  refine lv_istore_n (lv' := [(2, .int (Int32.ofInt z0)), (0, .ref (α 11 0)), (1, .int (Int32.ofInt y1))]) X.1.1 X.1.2.1 dX10_laysNarrow_65 rfl hl (by decide) rfl (fun ls hl => ?_)
  refine lv_aload_n X.1.1 X.1.2.1 dX10_laysNarrow_66 rfl (lv_at hl 1 rfl) ?_
  refine gt_11_35 X hR (okf X.2.2.1 rfl) kw_1564 dX10_laysNarrow_67 ?_
  refine lv_iload_n X.1.1 X.1.2.1 dX10_laysNarrow_70 rfl (lv_at hl 2 rfl) ?_
  refine lv_aload_n X.1.1 X.1.2.1 dX10_laysNarrow_71 rfl (lv_at hl 1 rfl) ?_
  refine gt_11_3 X hR (okf X.2.2.1 rfl) kw_1532 dX10_laysNarrow_72 ?_
  refine lv_iload_n X.1.1 X.1.2.1 dX10_laysNarrow_75 rfl (lv_at hl 2 rfl) ?_
  have c7 := hw.1
  have hw := hw.2
  refine ra_59 X hR (okf X.2.2.1 rfl) c7 dX10_laysNarrow_76 ?_
  have r8 := hR.r 59 0 y1
  refine sa_if_eq (tgt := 84) X.1 r8 dX10_laysNarrow_77 (by decide) (fun hc => ?_) (fun hc => ?_)
  · have hw := hw.1 hc
    refine lv_iload_n X.1.1 X.1.2.1 dX10_laysNarrow_84 rfl (lv_at hl 0 rfl) ?_
    refine lv_aload_n X.1.1 X.1.2.1 dX10_laysNarrow_85 rfl (lv_at hl 1 rfl) ?_
    refine gt_11_33 X hR (okf X.2.2.1 rfl) kw_1562 dX10_laysNarrow_86 ?_
    refine lv_iload_n X.1.1 X.1.2.1 dX10_laysNarrow_89 rfl (lv_at hl 2 rfl) ?_
    have c9 := hw.1
    have hw := hw.2
    refine ra_82 X hR (okf X.2.2.1 rfl) c9 dX10_laysNarrow_90 ?_
    have r10 := hR.r 82 0 y1
    refine cs_X10_greater X hz0 r10 (kc := 4) rmL_ok rm_c (by decide) hR hS kw_1822 hl.1 dX10_laysNarrow_91 (Nat.le_of_ble_eq_true rfl) hw (fun x12 M11 H locs hw r13 hR hS => ?_)
    exact t_X10_laysNarrow_94 X hK6 _ _ _ _ hw hy1 r13 hy1 _ _ hR hS _ (lv_sub hl [1, 2] rfl)
  · have hw := hw.2 hc
    refine sa_const X.1 dX10_laysNarrow_80 ?_
    refine lv_goto (tgt := 94) X.1.1 X.1.2.1 dX10_laysNarrow_81 (by decide) ?_
    exact t_X10_laysNarrow_94 X hK6 _ _ _ _ hw hy1 (inR_c (a := 0) rfl) hy1 _ _ hR hS _ (lv_sub hl [1, 2] rfl)
set_option maxHeartbeats 4000000 in
set_option maxRecDepth 100000 in
theorem t_X10_laysNarrow_6 (X : CX p m c cX10_laysNarrow 3 s args RX10 G B κ meth none) {Qm : Mem → Prop} : ∀ n : Nat, ∀ y1 : Int, ∀ M : Mem, wp_X10_laysNarrow_6 Qm n y1 M → inR y1 → ∀ (H : Heap) (locs : List Loc), Rp G e0 α κ B M H → va_S (fun q => B ≤ q) s.heap H locs → ∀ (ls : Array Slot), lv_has ls 3 [(0, .ref (α 11 0)), (1, .int (Int32.ofInt y1))] → WV p l e 4 s m args below meth c G e0 α κ B Qm H locs 6 ls [] := by
  intro n
  induction n with
  | zero =>
    intro y1 M hw hy1 H locs hR hS ls hl
    exact hw.elim
  | succ n ih =>
    intro y1 M hw hy1 H locs hR hS ls hl
    have hw : (((M 11 0 4) ≤ y1 → Qm M) ∧ (y1 < (M 11 0 4) → (0 ≤ y1 ∧ y1 < 6) ∧ ((¬ (M 56 0 y1) = 1 → (0 ≤ y1 ∧ y1 < 6) ∧ ((¬ (M 56 0 y1) = 2 → wp_X10_laysNarrow_65 Qm (wp_X10_laysNarrow_6 Qm n) y1 0 M) ∧ ((M 56 0 y1) = 2 → wp_X10_between M fun (x20 : Int) (M19 : Mem) => (inR ((M 11 0 24) - x20)) ∧ (0 ≤ y1 ∧ y1 < 6) ∧ wp_X10_part ((M 11 0 24) - x20) (M19 57 0 y1) M19 fun (x26 : Int) (M25 : Mem) => wp_X10_laysNarrow_65 Qm (wp_X10_laysNarrow_6 Qm n) y1 x26 M25))) ∧ ((M 56 0 y1) = 1 → (0 ≤ y1 ∧ y1 < 6) ∧ wp_X10_laysNarrow_65 Qm (wp_X10_laysNarrow_6 Qm n) y1 (M 57 0 y1) M)))) := hw
    refine lv_iload_n X.1.1 X.1.2.1 dX10_laysNarrow_6 rfl (lv_at hl 1 rfl) ?_
    refine lv_aload_n X.1.1 X.1.2.1 dX10_laysNarrow_7 rfl (lv_at hl 0 rfl) ?_
    refine gt_11_4 X hR (okf X.2.2.1 rfl) kw_1533 dX10_laysNarrow_8 ?_
    have r2 := hR.r 11 0 4
    refine sa_icmp_ge (tgt := 101) X.1 hy1 r2 dX10_laysNarrow_11 (by decide) (fun hc => ?_) (fun hc => ?_)
    · have hw := hw.1 hc
      exact sa_vret X.1 X.2.2.2.1 X.2.2.2.2 hR hS hw dX10_laysNarrow_101
    · have hw := hw.2 hc
      refine lv_aload_n X.1.1 X.1.2.1 dX10_laysNarrow_14 rfl (lv_at hl 0 rfl) ?_
      refine gt_11_0 X hR (okf X.2.2.1 rfl) kw_1529 dX10_laysNarrow_15 ?_
      refine lv_iload_n X.1.1 X.1.2.1 dX10_laysNarrow_18 rfl (lv_at hl 1 rfl) ?_
      have c3 := hw.1
      have hw := hw.2
      refine ra_56 X hR (okf X.2.2.1 rfl) c3 dX10_laysNarrow_19 ?_
      have r4 := hR.r 56 0 y1
      refine sa_const X.1 dX10_laysNarrow_20 ?_
      refine sa_icmp_ne (tgt := 33) X.1 r4 (inR_c (a := 1) rfl) dX10_laysNarrow_21 (by decide) (fun hc => ?_) (fun hc => ?_)
      · have hw := hw.1 hc
        refine lv_aload_n X.1.1 X.1.2.1 dX10_laysNarrow_33 rfl (lv_at hl 0 rfl) ?_
        refine gt_11_0 X hR (okf X.2.2.1 rfl) kw_1529 dX10_laysNarrow_34 ?_
        refine lv_iload_n X.1.1 X.1.2.1 dX10_laysNarrow_37 rfl (lv_at hl 1 rfl) ?_
        have c5 := hw.1
        have hw := hw.2
        refine ra_56 X hR (okf X.2.2.1 rfl) c5 dX10_laysNarrow_38 ?_
        have r6 := hR.r 56 0 y1
        refine sa_const X.1 dX10_laysNarrow_39 ?_
        refine sa_icmp_ne (tgt := 64) X.1 r6 (inR_c (a := 2) rfl) dX10_laysNarrow_40 (by decide) (fun hc => ?_) (fun hc => ?_)
        · have hw := hw.1 hc
          refine sa_const X.1 dX10_laysNarrow_64 ?_
          exact t_X10_laysNarrow_65 X ih _ _ _ hw hy1 (inR_c (a := 0) rfl) _ _ hR hS _ (lv_sub hl [0, 1] rfl)
        · have hw := hw.2 hc
          refine lv_aload_n X.1.1 X.1.2.1 dX10_laysNarrow_43 rfl (lv_at hl 0 rfl) ?_
          refine gt_11_24 X hR (okf X.2.2.1 rfl) kw_1553 dX10_laysNarrow_44 ?_
          have r18 := hR.r 11 0 24
          refine lv_aload_n X.1.1 X.1.2.1 dX10_laysNarrow_47 rfl (lv_at hl 0 rfl) ?_
          refine cs_X10_between X  (kc := 4) rmL_ok rm_c (by decide) hR hS kw_1869 hl.1 dX10_laysNarrow_48 (Nat.le_of_ble_eq_true rfl) hw (fun x20 M19 H locs hw r21 hR hS => ?_)
          have c22 := hw.1
          have hw := hw.2
          refine sa_isub X.1 dX10_laysNarrow_51 ?_
          refine lv_aload_n X.1.1 X.1.2.1 dX10_laysNarrow_52 rfl (lv_at hl 0 rfl) ?_
          refine gt_11_1 X hR (okf X.2.2.1 rfl) kw_1530 dX10_laysNarrow_53 ?_
          refine lv_iload_n X.1.1 X.1.2.1 dX10_laysNarrow_56 rfl (lv_at hl 1 rfl) ?_
          have c23 := hw.1
          have hw := hw.2
          refine ra_57 X hR (okf X.2.2.1 rfl) c23 dX10_laysNarrow_57 ?_
          have r24 := hR.r 57 0 y1
          refine cs_X10_part X c22 r24 (kc := 4) rmL_ok rm_c (by decide) hR hS kw_1873 hl.1 dX10_laysNarrow_58 (Nat.le_of_ble_eq_true rfl) hw (fun x26 M25 H locs hw r27 hR hS => ?_)
          refine lv_goto (tgt := 65) X.1.1 X.1.2.1 dX10_laysNarrow_61 (by decide) ?_
          exact t_X10_laysNarrow_65 X ih _ _ _ hw hy1 r27 _ _ hR hS _ (lv_sub hl [0, 1] rfl)
      · have hw := hw.2 hc
        refine lv_aload_n X.1.1 X.1.2.1 dX10_laysNarrow_24 rfl (lv_at hl 0 rfl) ?_
        refine gt_11_1 X hR (okf X.2.2.1 rfl) kw_1530 dX10_laysNarrow_25 ?_
        refine lv_iload_n X.1.1 X.1.2.1 dX10_laysNarrow_28 rfl (lv_at hl 1 rfl) ?_
        have c28 := hw.1
        have hw := hw.2
        refine ra_57 X hR (okf X.2.2.1 rfl) c28 dX10_laysNarrow_29 ?_
        have r29 := hR.r 57 0 y1
        refine lv_goto (tgt := 65) X.1.1 X.1.2.1 dX10_laysNarrow_30 (by decide) ?_
        exact t_X10_laysNarrow_65 X ih _ _ _ hw hy1 r29 _ _ hR hS _ (lv_sub hl [0, 1] rfl)
set_option maxHeartbeats 4000000 in
set_option maxRecDepth 100000 in
theorem t_X10_laysNarrow (X : CX p m c cX10_laysNarrow 3 s args RX10 G B κ meth none) {M : Mem} {Qm : Mem → Prop} (hw : wp_X10_laysNarrow M Qm) (H : Heap) (locs : List Loc) (hR : Rp G e0 α κ B M H) (hS : va_S (fun q => B ≤ q) s.heap H locs) (ls : Array Slot) (hl : lv_has ls 3 [(0, .ref (α 11 0))]) : WV p l e 4 s m args below meth c G e0 α κ B Qm H locs 0 ls [] := by
  have hw : wp_X10_laysLeasts M fun (M1 : Mem) => (∃ n30 : Nat, wp_X10_laysNarrow_6 Qm n30 0 M1) := hw
  refine lv_aload_n X.1.1 X.1.2.1 dX10_laysNarrow_0 rfl (lv_at hl 0 rfl) ?_
  refine cs_X10_laysLeasts X  (kc := 4) rmL_ok rm_c (by decide) hR hS kw_1811 hl.1 dX10_laysNarrow_1 (Nat.le_of_ble_eq_true rfl) hw (fun M1 H locs hw hR hS => ?_)
  refine sa_const X.1 dX10_laysNarrow_4 ?_
  refine lv_istore_n (lv' := [(1, .int (Int32.ofInt 0)), (0, .ref (α 11 0))]) X.1.1 X.1.2.1 dX10_laysNarrow_5 rfl hl (by decide) rfl (fun ls hl => ?_)
  obtain ⟨n30, hw⟩ := hw
  exact t_X10_laysNarrow_6 X n30 _ _ hw (inR_c (a := 0) rfl) _ _ hR hS _ (lv_sub hl [1, 0] rfl)
theorem m_X10_laysNarrow {l : Launch} {G : Gx} {e0 : Nat} {α : Ax} {κ : Nat → Int} {B : Nat} (hκ : kOK κ) {M : Mem} {Qm : Mem → Prop} (hw : wp_X10_laysNarrow M Qm) : CV l yX10_laysNarrow (Cond.code yX10_laysNarrow cX10_laysNarrow 3 none) 4 G e0 α κ B [.ref (α 11 0)] M Qm :=
  CV.mk hκ (by decide +kernel) rfl (Nat.le_of_ble_eq_true rfl) (lv := [(0, .ref (α 11 0))]) rfl (fun p e s m args below meth c ls X hR hS hl => t_X10_laysNarrow X hw _ _ hR hS ls hl)
theorem cs_X10_laysNarrow {cc : ByteArray} {nL : Nat} {own : String} {ret : Option FieldType} {idx pc : Nat} (X : CX p m c cc nL s args own G B κ meth ret) {kc : Nat} {R : Room} {cells slots : Nat} (hRr : RmOK R kc) (hcel : cells ≤ R.cells ∧ slots ≤ R.slots) (hk : 4 + 1 ≤ kc) {M : Mem} {H : Heap} {locs : List Loc} (hR : Rp G e0 α κ B M H) (hS : va_S (fun q => B ≤ q) s.heap H locs) (k1 : Cond.methodLink own idx yX10_laysNarrow ∈ gw) {ls : Array Slot} (hml : ls.size = nL) {rest : List Value} (hd : decode cc pc = .ok (.invokevirtual idx, 3)) (hrest : (rest.map fun v => v.category).sum ≤ 8) {Q : State → Prop} {Qm : Mem → Prop} (hw : wp_X10_laysNarrow M Qm) (kk : ∀ (M1 : Mem) (H1 : Heap) (locs1 : List Loc), Qm M1 → Rp G e0 α κ B M1 H1 → va_S (fun q => B ≤ q) s.heap H1 locs1 → W p l e R s m args below meth c H1 locs1 cells slots Q (F0 m (pc + 3) ls (rest))) : W p l e R s m args below meth c H locs cells slots Q (F0 m pc ls (.ref (α 11 0) :: rest)) :=
  sa_callVV 4 (n := 0) (As := []) (rest := rest) X.1 X.2.1 hR hS (m_X10_laysNarrow X.2.2.1 hw) k1 kw_1867 kw_61 kw_104 kw_1868 ⟨rfl, by decide +kernel, by decide +kernel, by decide +kernel⟩ (rm_ok hRr hk (by decide)) (rc_11 X hR (okf X.2.2.1 rfl)) rfl rfl hrest hml hd hcel kk
def wp_X10_isOpen (p1 : Int) (M : Mem) (Qm : Int → Mem → Prop) : Prop := (0 ≤ p1 ∧ p1 < 6) ∧ ((M 59 0 p1) = 0 → (0 ≤ p1 ∧ p1 < 6) ∧ True) ∧ (bit (if ¬ (M 59 0 p1) = 0 then (0 : Int) else (if ¬ (M 56 0 p1) = 0 then (0 : Int) else 1))) ∧ Qm (if ¬ (M 59 0 p1) = 0 then (0 : Int) else (if ¬ (M 56 0 p1) = 0 then (0 : Int) else 1)) M
set_option maxHeartbeats 4000000 in
set_option maxRecDepth 100000 in
theorem t_X10_isOpen {p1 : Int} (X : CX p m c cX10_isOpen 2 s args RX10 G B κ meth (some .boolean)) (hp1 : inR p1) {M : Mem} {Qm : Int → Mem → Prop} (hw : wp_X10_isOpen p1 M Qm) (H : Heap) (locs : List Loc) (hR : Rp G e0 α κ B M H) (hS : va_S (fun q => B ≤ q) s.heap H locs) (ls : Array Slot) (hl : lv_has ls 2 [(0, .ref (α 11 0)), (1, .int (Int32.ofInt p1))]) : WI p l e 0 s m args below meth c G e0 α κ B Qm H locs 0 ls [] := by
  have hw : (0 ≤ p1 ∧ p1 < 6) ∧ ((M 59 0 p1) = 0 → (0 ≤ p1 ∧ p1 < 6) ∧ True) ∧ (bit (if ¬ (M 59 0 p1) = 0 then (0 : Int) else (if ¬ (M 56 0 p1) = 0 then (0 : Int) else 1))) ∧ Qm (if ¬ (M 59 0 p1) = 0 then (0 : Int) else (if ¬ (M 56 0 p1) = 0 then (0 : Int) else 1)) M := hw
  refine lv_aload_n X.1.1 X.1.2.1 dX10_isOpen_0 rfl (lv_at hl 0 rfl) ?_
  refine gt_11_3 X hR (okf X.2.2.1 rfl) kw_1532 dX10_isOpen_1 ?_
  refine lv_iload_n X.1.1 X.1.2.1 dX10_isOpen_4 rfl (lv_at hl 1 rfl) ?_
  have c1 := hw.1
  have hw := hw.2
  refine ra_59 X hR (okf X.2.2.1 rfl) c1 dX10_isOpen_5 ?_
  have r2 := hR.r 59 0 p1
  have s6 := hw.1
  have hw := hw.2
  have r7 := inR_ite (c := ¬ (M 59 0 p1) = 0) (inR_c (a := 0) rfl) (inR_ite (c := ¬ (M 56 0 p1) = 0) (inR_c (a := 0) rfl) (inR_c (a := 1) rfl))
  refine cut_j (A := ∀ v8 : Int, v8 = (if ¬ (M 59 0 p1) = 0 then (0 : Int) else (if ¬ (M 56 0 p1) = 0 then (0 : Int) else 1)) → WI p l e 0 s m args below meth c G e0 α κ B Qm H locs 23 ls [.int (Int32.ofInt v8)]) (fun J9 => ?_) ?_
  · refine sa_if_ne (tgt := 22) X.1 r2 dX10_isOpen_6 (by decide) (fun hc => ?_) (fun hc => ?_)
    · skip
      refine sa_const X.1 dX10_isOpen_22 ?_
      exact J9 (0) (if_pos (c := ¬ (M 59 0 p1) = 0) hc).symm
    · have hw := s6 hc
      refine lv_aload_n X.1.1 X.1.2.1 dX10_isOpen_9 rfl (lv_at hl 0 rfl) ?_
      refine gt_11_0 X hR (okf X.2.2.1 rfl) kw_1529 dX10_isOpen_10 ?_
      refine lv_iload_n X.1.1 X.1.2.1 dX10_isOpen_13 rfl (lv_at hl 1 rfl) ?_
      have c3 := hw.1
      have hw := hw.2
      refine ra_56 X hR (okf X.2.2.1 rfl) c3 dX10_isOpen_14 ?_
      refine cut_j (A := ∀ v4 : Int, v4 = (if ¬ (M 56 0 p1) = 0 then (0 : Int) else 1) → WI p l e 0 s m args below meth c G e0 α κ B Qm H locs 23 ls [.int (Int32.ofInt v4)]) (fun J5 => ?_) ?_
      · refine sa_if_ne (tgt := 22) X.1 (hR.r 56 0 p1) dX10_isOpen_15 (by decide) (fun hc => ?_) (fun hc => ?_)
        · skip
          refine sa_const X.1 dX10_isOpen_22 ?_
          exact J5 (0) (if_pos (c := ¬ (M 56 0 p1) = 0) hc).symm
        · skip
          refine sa_const X.1 dX10_isOpen_18 ?_
          refine lv_goto (tgt := 23) X.1.1 X.1.2.1 dX10_isOpen_19 (by decide) ?_
          exact J5 (1) (if_neg (c := ¬ (M 56 0 p1) = 0) (fun z => z hc)).symm
      intro v4 hv4
      subst hv4
      exact J9 ((if ¬ (M 56 0 p1) = 0 then (0 : Int) else 1)) (if_neg (c := ¬ (M 59 0 p1) = 0) (fun z => z hc)).symm
  intro v8 hv8
  subst hv8
  have c10 := hw.1
  have hw := hw.2
  exact sa_zret X.1 X.2.2.2.1 X.2.2.2.2 hR hS c10 hw dX10_isOpen_23
theorem m_X10_isOpen {l : Launch} {G : Gx} {e0 : Nat} {α : Ax} {κ : Nat → Int} {B : Nat} {p1 : Int} (hκ : kOK κ) (hp1 : inR p1) {M : Mem} {Qm : Int → Mem → Prop} (hw : wp_X10_isOpen p1 M Qm) : CI l yX10_isOpen (Cond.code yX10_isOpen cX10_isOpen 2 (some .boolean)) 0 G e0 α κ B [.ref (α 11 0), .int (Int32.ofInt p1)] M Qm :=
  CI.mk hκ (by decide +kernel) rfl (Nat.le_of_ble_eq_true rfl) (lv := [(0, .ref (α 11 0)), (1, .int (Int32.ofInt p1))]) rfl (fun p e s m args below meth c ls X hR hS hl => t_X10_isOpen X hp1 hw _ _ hR hS ls hl)
theorem cs_X10_isOpen {cc : ByteArray} {nL : Nat} {own : String} {ret : Option FieldType} {idx pc : Nat} {p1 : Int} (X : CX p m c cc nL s args own G B κ meth ret) (hp1 : inR p1) {kc : Nat} {R : Room} {cells slots : Nat} (hRr : RmOK R kc) (hcel : cells ≤ R.cells ∧ slots ≤ R.slots) (hk : 0 + 1 ≤ kc) {M : Mem} {H : Heap} {locs : List Loc} (hR : Rp G e0 α κ B M H) (hS : va_S (fun q => B ≤ q) s.heap H locs) (k1 : Cond.methodLink own idx yX10_isOpen ∈ gw) {ls : Array Slot} (hml : ls.size = nL) {rest : List Value} (hd : decode cc pc = .ok (.invokevirtual idx, 3)) (hrest : (rest.map fun v => v.category).sum ≤ 8) {Q : State → Prop} {Qm : Int → Mem → Prop} (hw : wp_X10_isOpen p1 M Qm) (kk : ∀ (r : Int) (M1 : Mem) (H1 : Heap) (locs1 : List Loc), Qm r M1 → inR r → Rp G e0 α κ B M1 H1 → va_S (fun q => B ≤ q) s.heap H1 locs1 → W p l e R s m args below meth c H1 locs1 cells slots Q (F0 m (pc + 3) ls (.int (Int32.ofInt r) :: rest))) : W p l e R s m args below meth c H locs cells slots Q (F0 m pc ls (.int (Int32.ofInt p1) :: .ref (α 11 0) :: rest)) :=
  sa_callVI 0 (n := 1) (As := [.int (Int32.ofInt p1)]) (rest := rest) X.1 X.2.1 hR hS (m_X10_isOpen X.2.2.1 hp1 hw) k1 kw_1882 kw_64 kw_104 kw_1883 ⟨rfl, by decide +kernel, by decide +kernel, by decide +kernel⟩ (rm_ok hRr hk (by decide)) (rc_11 X hR (okf X.2.2.1 rfl)) rfl rfl hrest hml hd hcel kk
def wp_X10_laysWidths_230 (Qm : Mem → Prop) (M : Mem) : Prop := Qm M
def wp_X10_laysWidths_224 (Qm : Mem → Prop) (K161 : Int → Int → Int → Int → Mem → Prop) (y1 : Int) (y2 : Int) (y3 : Int) (y4 : Int) (M : Mem) : Prop := (inR (y4 + 1)) ∧ K161 y1 y2 y3 (y4 + 1) M
def wp_X10_laysWidths_161 (Qm : Mem → Prop) : Nat → Int → Int → Int → Int → Mem → Prop
  | 0 => fun _ _ _ _ _ => False
  | n + 1 => fun y1 y2 y3 y4 M => (((M 11 0 4) ≤ y4 → wp_X10_laysWidths_230 Qm M) ∧ (y4 < (M 11 0 4) → ((y1 ≤ 0 → wp_X10_laysWidths_230 Qm M) ∧ (0 < y1 → ((y2 < y1 → wp_X10_laysWidths_230 Qm M) ∧ (y1 ≤ y2 → wp_X10_isOpen y4 M fun (x11 : Int) (M10 : Mem) => ((x11 = 0 → wp_X10_laysWidths_224 Qm (wp_X10_laysWidths_161 Qm n) y1 y2 y3 y4 M10) ∧ (¬ x11 = 0 → ((y1 ≤ y3 → wp_X10_laysWidths_224 Qm (wp_X10_laysWidths_161 Qm n) y1 y2 y3 y4 M10) ∧ (y3 < y1 → (0 ≤ y4 ∧ y4 < 6) ∧ (0 ≤ y4 ∧ y4 < 6) ∧ (((M10 83 0 y4) ≤ (M10 84 0 y4) → wp_X10_laysWidths_224 Qm (wp_X10_laysWidths_161 Qm n) y1 y2 y3 y4 M10) ∧ ((M10 84 0 y4) < (M10 83 0 y4) → (0 ≤ y4 ∧ y4 < 6) ∧ (inR ((M10 84 0 y4) + 1)) ∧ (0 ≤ y4 ∧ y4 < 6) ∧ ∀ M22 : Mem, M22 = up M10 84 0 y4 ((M10 84 0 y4) + 1) → (inR (y3 + 1)) ∧ wp_X10_laysWidths_224 Qm (wp_X10_laysWidths_161 Qm n) y1 y2 (y3 + 1) y4 M22))))))))))))
def wp_X10_laysWidths_158 (Qm : Mem → Prop) (y1 : Int) (y2 : Int) (y3 : Int) (M : Mem) : Prop := (∃ n25 : Nat, wp_X10_laysWidths_161 Qm n25 y1 y2 y3 0 M)
def wp_X10_laysWidths_65 (Qm : Mem → Prop) : Nat → Int → Int → Int → Int → Mem → Prop
  | 0 => fun _ _ _ _ _ => False
  | n + 1 => fun y1 y2 y3 y4 M => (((M 11 0 4) ≤ y4 → wp_X10_laysWidths_158 Qm y1 y2 y3 M) ∧ (y4 < (M 11 0 4) → ((y1 ≤ 0 → wp_X10_laysWidths_158 Qm y1 y2 y3 M) ∧ (0 < y1 → wp_X10_isOpen y4 M fun (x27 : Int) (M26 : Mem) => (¬ x27 = 0 → (y1 ≤ y2 → (0 ≤ y4 ∧ y4 < 6) ∧ (0 ≤ y4 ∧ y4 < 6) ∧ (inR ((M26 83 0 y4) - (M26 82 0 y4))) ∧ (inR (y1 * ((M26 83 0 y4) - (M26 82 0 y4)))) ∧ (0 < y2) ∧ True) ∧ (y2 < y1 → (0 ≤ y4 ∧ y4 < 6) ∧ (0 ≤ y4 ∧ y4 < 6) ∧ (inR ((M26 83 0 y4) - (M26 82 0 y4))) ∧ True) ∧ (inR (if y1 ≤ y2 then (Int.tdiv (y1 * ((M26 83 0 y4) - (M26 82 0 y4))) y2) else ((M26 83 0 y4) - (M26 82 0 y4)))) ∧ True) ∧ (inR (if ¬ x27 = 0 then (if y1 ≤ y2 then (Int.tdiv (y1 * ((M26 83 0 y4) - (M26 82 0 y4))) y2) else ((M26 83 0 y4) - (M26 82 0 y4))) else 0)) ∧ (0 ≤ y4 ∧ y4 < 6) ∧ (inR ((M26 84 0 y4) + (if ¬ x27 = 0 then (if y1 ≤ y2 then (Int.tdiv (y1 * ((M26 83 0 y4) - (M26 82 0 y4))) y2) else ((M26 83 0 y4) - (M26 82 0 y4))) else 0))) ∧ (0 ≤ y4 ∧ y4 < 6) ∧ ∀ M50 : Mem, M50 = up M26 84 0 y4 ((M26 84 0 y4) + (if ¬ x27 = 0 then (if y1 ≤ y2 then (Int.tdiv (y1 * ((M26 83 0 y4) - (M26 82 0 y4))) y2) else ((M26 83 0 y4) - (M26 82 0 y4))) else 0)) → (inR (y3 + (if ¬ x27 = 0 then (if y1 ≤ y2 then (Int.tdiv (y1 * ((M26 83 0 y4) - (M26 82 0 y4))) y2) else ((M26 83 0 y4) - (M26 82 0 y4))) else 0))) ∧ (inR (y4 + 1)) ∧ wp_X10_laysWidths_65 Qm n y1 y2 (y3 + (if ¬ x27 = 0 then (if y1 ≤ y2 then (Int.tdiv (y1 * ((M26 83 0 y4) - (M26 82 0 y4))) y2) else ((M26 83 0 y4) - (M26 82 0 y4))) else 0)) (y4 + 1) M50))))
def wp_X10_laysWidths_18 (Qm : Mem → Prop) : Nat → Int → Int → Int → Mem → Prop
  | 0 => fun _ _ _ _ => False
  | n + 1 => fun y1 y2 y3 M => (((M 11 0 4) ≤ y3 → (∃ n54 : Nat, wp_X10_laysWidths_65 Qm n54 y1 y2 0 0 M)) ∧ (y3 < (M 11 0 4) → wp_X10_isOpen y3 M fun (x56 : Int) (M55 : Mem) => (¬ x56 = 0 → (0 ≤ y3 ∧ y3 < 6) ∧ (0 ≤ y3 ∧ y3 < 6) ∧ (inR ((M55 83 0 y3) - (M55 82 0 y3))) ∧ True) ∧ (inR (if x56 = 0 then (0 : Int) else ((M55 83 0 y3) - (M55 82 0 y3)))) ∧ (inR (y2 + (if x56 = 0 then (0 : Int) else ((M55 83 0 y3) - (M55 82 0 y3))))) ∧ (inR (y3 + 1)) ∧ wp_X10_laysWidths_18 Qm n y1 (y2 + (if x56 = 0 then (0 : Int) else ((M55 83 0 y3) - (M55 82 0 y3)))) (y3 + 1) M55))
def wp_X10_laysWidths (M : Mem) (Qm : Mem → Prop) : Prop := wp_X10_laysNarrow M fun (M1 : Mem) => wp_X10_sumOfWidths M1 fun (x4 : Int) (M3 : Mem) => (inR ((M1 11 0 24) - x4)) ∧ (∃ n67 : Nat, wp_X10_laysWidths_18 Qm n67 ((M1 11 0 24) - x4) 0 0 M3)
set_option maxHeartbeats 4000000 in
set_option maxRecDepth 100000 in
theorem t_X10_laysWidths_230 (X : CX p m c cX10_laysWidths 6 s args RX10 G B κ meth none) {Qm : Mem → Prop} : ∀ M : Mem, wp_X10_laysWidths_230 Qm M → ∀ (H : Heap) (locs : List Loc), Rp G e0 α κ B M H → va_S (fun q => B ≤ q) s.heap H locs → ∀ (ls : Array Slot), lv_has ls 6 [] → WV p l e 5 s m args below meth c G e0 α κ B Qm H locs 230 ls [] := by
  intro M hw H locs hR hS ls hl
  have hw : Qm M := hw
  exact sa_vret X.1 X.2.2.2.1 X.2.2.2.2 hR hS hw dX10_laysWidths_230
set_option maxHeartbeats 4000000 in
set_option maxRecDepth 100000 in
theorem t_X10_laysWidths_224 (X : CX p m c cX10_laysWidths 6 s args RX10 G B κ meth none) {Qm : Mem → Prop} {K161 : Int → Int → Int → Int → Mem → Prop} (hK161 : ∀ y1 : Int, ∀ y2 : Int, ∀ y3 : Int, ∀ y4 : Int, ∀ M : Mem, K161 y1 y2 y3 y4 M → inR y1 → inR y2 → inR y3 → inR y4 → ∀ (H : Heap) (locs : List Loc), Rp G e0 α κ B M H → va_S (fun q => B ≤ q) s.heap H locs → ∀ (ls : Array Slot), lv_has ls 6 [(0, .ref (α 11 0)), (1, .int (Int32.ofInt y1)), (2, .int (Int32.ofInt y2)), (3, .int (Int32.ofInt y3)), (4, .int (Int32.ofInt y4))] → WV p l e 5 s m args below meth c G e0 α κ B Qm H locs 161 ls []) : ∀ y1 : Int, ∀ y2 : Int, ∀ y3 : Int, ∀ y4 : Int, ∀ M : Mem, wp_X10_laysWidths_224 Qm K161 y1 y2 y3 y4 M → inR y1 → inR y2 → inR y3 → inR y4 → ∀ (H : Heap) (locs : List Loc), Rp G e0 α κ B M H → va_S (fun q => B ≤ q) s.heap H locs → ∀ (ls : Array Slot), lv_has ls 6 [(0, .ref (α 11 0)), (1, .int (Int32.ofInt y1)), (2, .int (Int32.ofInt y2)), (3, .int (Int32.ofInt y3)), (4, .int (Int32.ofInt y4))] → WV p l e 5 s m args below meth c G e0 α κ B Qm H locs 224 ls [] := by
  intro y1 y2 y3 y4 M hw hy1 hy2 hy3 hy4 H locs hR hS ls hl
  have hw : (inR (y4 + 1)) ∧ K161 y1 y2 y3 (y4 + 1) M := hw
  have c13 := hw.1
  have hw := hw.2
  refine lv_iinc (v := Int32.ofInt (y4 + 1)) (lv' := [(4, .int (Int32.ofInt (y4 + 1))), (0, .ref (α 11 0)), (1, .int (Int32.ofInt y1)), (2, .int (Int32.ofInt y2)), (3, .int (Int32.ofInt y3))]) X.1.1 X.1.2.1 dX10_laysWidths_224 hl (k := 4) rfl (Int32.ofInt_add _ _).symm (by decide) rfl (fun ls hl => ?_)
  refine lv_goto (tgt := 161) X.1.1 X.1.2.1 dX10_laysWidths_227 (by decide) ?_
  exact hK161 _ _ _ _ _ hw hy1 hy2 hy3 c13 _ _ hR hS _ (lv_sub hl [1, 2, 3, 4, 0] rfl)
set_option maxHeartbeats 4000000 in
set_option maxRecDepth 100000 in
theorem t_X10_laysWidths_161 (X : CX p m c cX10_laysWidths 6 s args RX10 G B κ meth none) {Qm : Mem → Prop} : ∀ n : Nat, ∀ y1 : Int, ∀ y2 : Int, ∀ y3 : Int, ∀ y4 : Int, ∀ M : Mem, wp_X10_laysWidths_161 Qm n y1 y2 y3 y4 M → inR y1 → inR y2 → inR y3 → inR y4 → ∀ (H : Heap) (locs : List Loc), Rp G e0 α κ B M H → va_S (fun q => B ≤ q) s.heap H locs → ∀ (ls : Array Slot), lv_has ls 6 [(0, .ref (α 11 0)), (1, .int (Int32.ofInt y1)), (2, .int (Int32.ofInt y2)), (3, .int (Int32.ofInt y3)), (4, .int (Int32.ofInt y4))] → WV p l e 5 s m args below meth c G e0 α κ B Qm H locs 161 ls [] := by
  intro n
  induction n with
  | zero =>
    intro y1 y2 y3 y4 M hw hy1 hy2 hy3 hy4 H locs hR hS ls hl
    exact hw.elim
  | succ n ih =>
    intro y1 y2 y3 y4 M hw hy1 hy2 hy3 hy4 H locs hR hS ls hl
    have hw : (((M 11 0 4) ≤ y4 → wp_X10_laysWidths_230 Qm M) ∧ (y4 < (M 11 0 4) → ((y1 ≤ 0 → wp_X10_laysWidths_230 Qm M) ∧ (0 < y1 → ((y2 < y1 → wp_X10_laysWidths_230 Qm M) ∧ (y1 ≤ y2 → wp_X10_isOpen y4 M fun (x11 : Int) (M10 : Mem) => ((x11 = 0 → wp_X10_laysWidths_224 Qm (wp_X10_laysWidths_161 Qm n) y1 y2 y3 y4 M10) ∧ (¬ x11 = 0 → ((y1 ≤ y3 → wp_X10_laysWidths_224 Qm (wp_X10_laysWidths_161 Qm n) y1 y2 y3 y4 M10) ∧ (y3 < y1 → (0 ≤ y4 ∧ y4 < 6) ∧ (0 ≤ y4 ∧ y4 < 6) ∧ (((M10 83 0 y4) ≤ (M10 84 0 y4) → wp_X10_laysWidths_224 Qm (wp_X10_laysWidths_161 Qm n) y1 y2 y3 y4 M10) ∧ ((M10 84 0 y4) < (M10 83 0 y4) → (0 ≤ y4 ∧ y4 < 6) ∧ (inR ((M10 84 0 y4) + 1)) ∧ (0 ≤ y4 ∧ y4 < 6) ∧ ∀ M22 : Mem, M22 = up M10 84 0 y4 ((M10 84 0 y4) + 1) → (inR (y3 + 1)) ∧ wp_X10_laysWidths_224 Qm (wp_X10_laysWidths_161 Qm n) y1 y2 (y3 + 1) y4 M22)))))))))))) := hw
    refine lv_iload X.1.1 X.1.2.1 dX10_laysWidths_161 (lv_at hl 4 rfl) ?_
    refine lv_aload_n X.1.1 X.1.2.1 dX10_laysWidths_163 rfl (lv_at hl 0 rfl) ?_
    refine gt_11_4 X hR (okf X.2.2.1 rfl) kw_1533 dX10_laysWidths_164 ?_
    have r9 := hR.r 11 0 4
    refine sa_icmp_ge (tgt := 230) X.1 hy4 r9 dX10_laysWidths_167 (by decide) (fun hc => ?_) (fun hc => ?_)
    · have hw := hw.1 hc
      exact t_X10_laysWidths_230 X _ hw _ _ hR hS _ (lv_sub hl [] rfl)
    · have hw := hw.2 hc
      refine lv_iload_n X.1.1 X.1.2.1 dX10_laysWidths_170 rfl (lv_at hl 1 rfl) ?_
      refine sa_if_le (tgt := 230) X.1 hy1 dX10_laysWidths_171 (by decide) (fun hc => ?_) (fun hc => ?_)
      · have hw := hw.1 hc
        exact t_X10_laysWidths_230 X _ hw _ _ hR hS _ (lv_sub hl [] rfl)
      · have hw := hw.2 hc
        refine lv_iload_n X.1.1 X.1.2.1 dX10_laysWidths_174 rfl (lv_at hl 2 rfl) ?_
        refine lv_iload_n X.1.1 X.1.2.1 dX10_laysWidths_175 rfl (lv_at hl 1 rfl) ?_
        refine sa_icmp_lt (tgt := 230) X.1 hy2 hy1 dX10_laysWidths_176 (by decide) (fun hc => ?_) (fun hc => ?_)
        · have hw := hw.1 hc
          exact t_X10_laysWidths_230 X _ hw _ _ hR hS _ (lv_sub hl [] rfl)
        · have hw := hw.2 hc
          refine lv_aload_n X.1.1 X.1.2.1 dX10_laysWidths_179 rfl (lv_at hl 0 rfl) ?_
          refine lv_iload X.1.1 X.1.2.1 dX10_laysWidths_180 (lv_at hl 4 rfl) ?_
          refine cs_X10_isOpen X hy4 (kc := 5) rmL_ok rm_c (by decide) hR hS kw_1880 hl.1 dX10_laysWidths_182 (Nat.le_of_ble_eq_true rfl) hw (fun x11 M10 H locs hw r12 hR hS => ?_)
          refine sa_if_eq (tgt := 224) X.1 r12 dX10_laysWidths_185 (by decide) (fun hc => ?_) (fun hc => ?_)
          · have hw := hw.1 hc
            exact t_X10_laysWidths_224 X ih _ _ _ _ _ hw hy1 hy2 hy3 hy4 _ _ hR hS _ (lv_sub hl [0, 1, 2, 3, 4] rfl)
          · have hw := hw.2 hc
            refine lv_iload_n X.1.1 X.1.2.1 dX10_laysWidths_188 rfl (lv_at hl 3 rfl) ?_
            refine lv_iload_n X.1.1 X.1.2.1 dX10_laysWidths_189 rfl (lv_at hl 1 rfl) ?_
            refine sa_icmp_ge (tgt := 224) X.1 hy3 hy1 dX10_laysWidths_190 (by decide) (fun hc => ?_) (fun hc => ?_)
            · have hw := hw.1 hc
              exact t_X10_laysWidths_224 X ih _ _ _ _ _ hw hy1 hy2 hy3 hy4 _ _ hR hS _ (lv_sub hl [0, 1, 2, 3, 4] rfl)
            · have hw := hw.2 hc
              refine lv_aload_n X.1.1 X.1.2.1 dX10_laysWidths_193 rfl (lv_at hl 0 rfl) ?_
              refine gt_11_35 X hR (okf X.2.2.1 rfl) kw_1564 dX10_laysWidths_194 ?_
              refine lv_iload X.1.1 X.1.2.1 dX10_laysWidths_197 (lv_at hl 4 rfl) ?_
              have c14 := hw.1
              have hw := hw.2
              refine ra_84 X hR (okf X.2.2.1 rfl) c14 dX10_laysWidths_199 ?_
              have r15 := hR.r 84 0 y4
              refine lv_aload_n X.1.1 X.1.2.1 dX10_laysWidths_200 rfl (lv_at hl 0 rfl) ?_
              refine gt_11_34 X hR (okf X.2.2.1 rfl) kw_1563 dX10_laysWidths_201 ?_
              refine lv_iload X.1.1 X.1.2.1 dX10_laysWidths_204 (lv_at hl 4 rfl) ?_
              have c16 := hw.1
              have hw := hw.2
              refine ra_83 X hR (okf X.2.2.1 rfl) c16 dX10_laysWidths_206 ?_
              have r17 := hR.r 83 0 y4
              refine sa_icmp_ge (tgt := 224) X.1 r15 r17 dX10_laysWidths_207 (by decide) (fun hc => ?_) (fun hc => ?_)
              · have hw := hw.1 hc
                exact t_X10_laysWidths_224 X ih _ _ _ _ _ hw hy1 hy2 hy3 hy4 _ _ hR hS _ (lv_sub hl [0, 1, 2, 3, 4] rfl)
              · have hw := hw.2 hc
                refine lv_aload_n X.1.1 X.1.2.1 dX10_laysWidths_210 rfl (lv_at hl 0 rfl) ?_
                refine gt_11_35 X hR (okf X.2.2.1 rfl) kw_1564 dX10_laysWidths_211 ?_
                refine lv_iload X.1.1 X.1.2.1 dX10_laysWidths_214 (lv_at hl 4 rfl) ?_
                refine lv_dup2_11 X.1.1 X.1.2.1 dX10_laysWidths_216 rfl rfl ?_
                have c18 := hw.1
                have hw := hw.2
                refine ra_84 X hR (okf X.2.2.1 rfl) c18 dX10_laysWidths_217 ?_
                have r19 := hR.r 84 0 y4
                refine sa_const X.1 dX10_laysWidths_218 ?_
                have c20 := hw.1
                have hw := hw.2
                refine sa_iadd X.1 dX10_laysWidths_219 ?_
                have c21 := hw.1
                have hw := hw.2
                refine wa_84 X hR hS (okf X.2.2.1 rfl) c21 c20 dX10_laysWidths_220 (fun H locs hR hS => ?_)
                obtain ⟨M22, e23⟩ : ∃ z : Mem, z = up M10 84 0 y4 ((M10 84 0 y4) + 1) := ⟨_, rfl⟩
                rw [← e23] at hR
                have hw := hw M22 e23
                have c24 := hw.1
                have hw := hw.2
                refine lv_iinc (v := Int32.ofInt (y3 + 1)) (lv' := [(3, .int (Int32.ofInt (y3 + 1))), (0, .ref (α 11 0)), (1, .int (Int32.ofInt y1)), (2, .int (Int32.ofInt y2)), (4, .int (Int32.ofInt y4))]) X.1.1 X.1.2.1 dX10_laysWidths_221 hl (k := 3) rfl (Int32.ofInt_add _ _).symm (by decide) rfl (fun ls hl => ?_)
                exact t_X10_laysWidths_224 X ih _ _ _ _ _ hw hy1 hy2 c24 hy4 _ _ hR hS _ (lv_sub hl [1, 2, 3, 0, 4] rfl)
set_option maxHeartbeats 4000000 in
set_option maxRecDepth 100000 in
theorem t_X10_laysWidths_158 (X : CX p m c cX10_laysWidths 6 s args RX10 G B κ meth none) {Qm : Mem → Prop} : ∀ y1 : Int, ∀ y2 : Int, ∀ y3 : Int, ∀ M : Mem, wp_X10_laysWidths_158 Qm y1 y2 y3 M → inR y1 → inR y2 → inR y3 → ∀ (H : Heap) (locs : List Loc), Rp G e0 α κ B M H → va_S (fun q => B ≤ q) s.heap H locs → ∀ (ls : Array Slot), lv_has ls 6 [(0, .ref (α 11 0)), (1, .int (Int32.ofInt y1)), (2, .int (Int32.ofInt y2)), (3, .int (Int32.ofInt y3))] → WV p l e 5 s m args below meth c G e0 α κ B Qm H locs 158 ls [] := by
  intro y1 y2 y3 M hw hy1 hy2 hy3 H locs hR hS ls hl
  have hw : (∃ n25 : Nat, wp_X10_laysWidths_161 Qm n25 y1 y2 y3 0 M) := hw
  refine sa_const X.1 dX10_laysWidths_158 ?_
  refine lv_istore (lv' := [(4, .int (Int32.ofInt 0)), (0, .ref (α 11 0)), (1, .int (Int32.ofInt y1)), (2, .int (Int32.ofInt y2)), (3, .int (Int32.ofInt y3))]) X.1.1 X.1.2.1 dX10_laysWidths_159 hl (by decide) rfl (fun ls hl => ?_)
  obtain ⟨n25, hw⟩ := hw
  exact t_X10_laysWidths_161 X n25 _ _ _ _ _ hw hy1 hy2 hy3 (inR_c (a := 0) rfl) _ _ hR hS _ (lv_sub hl [1, 2, 3, 4, 0] rfl)
set_option maxHeartbeats 4000000 in
set_option maxRecDepth 100000 in
theorem t_X10_laysWidths_65 (X : CX p m c cX10_laysWidths 6 s args RX10 G B κ meth none) {Qm : Mem → Prop} : ∀ n : Nat, ∀ y1 : Int, ∀ y2 : Int, ∀ y3 : Int, ∀ y4 : Int, ∀ M : Mem, wp_X10_laysWidths_65 Qm n y1 y2 y3 y4 M → inR y1 → inR y2 → inR y3 → inR y4 → ∀ (H : Heap) (locs : List Loc), Rp G e0 α κ B M H → va_S (fun q => B ≤ q) s.heap H locs → ∀ (ls : Array Slot), lv_has ls 6 [(0, .ref (α 11 0)), (1, .int (Int32.ofInt y1)), (2, .int (Int32.ofInt y2)), (3, .int (Int32.ofInt y3)), (4, .int (Int32.ofInt y4))] → WV p l e 5 s m args below meth c G e0 α κ B Qm H locs 65 ls [] := by
  intro n
  induction n with
  | zero =>
    intro y1 y2 y3 y4 M hw hy1 hy2 hy3 hy4 H locs hR hS ls hl
    exact hw.elim
  | succ n ih =>
    intro y1 y2 y3 y4 M hw hy1 hy2 hy3 hy4 H locs hR hS ls hl
    have hw : (((M 11 0 4) ≤ y4 → wp_X10_laysWidths_158 Qm y1 y2 y3 M) ∧ (y4 < (M 11 0 4) → ((y1 ≤ 0 → wp_X10_laysWidths_158 Qm y1 y2 y3 M) ∧ (0 < y1 → wp_X10_isOpen y4 M fun (x27 : Int) (M26 : Mem) => (¬ x27 = 0 → (y1 ≤ y2 → (0 ≤ y4 ∧ y4 < 6) ∧ (0 ≤ y4 ∧ y4 < 6) ∧ (inR ((M26 83 0 y4) - (M26 82 0 y4))) ∧ (inR (y1 * ((M26 83 0 y4) - (M26 82 0 y4)))) ∧ (0 < y2) ∧ True) ∧ (y2 < y1 → (0 ≤ y4 ∧ y4 < 6) ∧ (0 ≤ y4 ∧ y4 < 6) ∧ (inR ((M26 83 0 y4) - (M26 82 0 y4))) ∧ True) ∧ (inR (if y1 ≤ y2 then (Int.tdiv (y1 * ((M26 83 0 y4) - (M26 82 0 y4))) y2) else ((M26 83 0 y4) - (M26 82 0 y4)))) ∧ True) ∧ (inR (if ¬ x27 = 0 then (if y1 ≤ y2 then (Int.tdiv (y1 * ((M26 83 0 y4) - (M26 82 0 y4))) y2) else ((M26 83 0 y4) - (M26 82 0 y4))) else 0)) ∧ (0 ≤ y4 ∧ y4 < 6) ∧ (inR ((M26 84 0 y4) + (if ¬ x27 = 0 then (if y1 ≤ y2 then (Int.tdiv (y1 * ((M26 83 0 y4) - (M26 82 0 y4))) y2) else ((M26 83 0 y4) - (M26 82 0 y4))) else 0))) ∧ (0 ≤ y4 ∧ y4 < 6) ∧ ∀ M50 : Mem, M50 = up M26 84 0 y4 ((M26 84 0 y4) + (if ¬ x27 = 0 then (if y1 ≤ y2 then (Int.tdiv (y1 * ((M26 83 0 y4) - (M26 82 0 y4))) y2) else ((M26 83 0 y4) - (M26 82 0 y4))) else 0)) → (inR (y3 + (if ¬ x27 = 0 then (if y1 ≤ y2 then (Int.tdiv (y1 * ((M26 83 0 y4) - (M26 82 0 y4))) y2) else ((M26 83 0 y4) - (M26 82 0 y4))) else 0))) ∧ (inR (y4 + 1)) ∧ wp_X10_laysWidths_65 Qm n y1 y2 (y3 + (if ¬ x27 = 0 then (if y1 ≤ y2 then (Int.tdiv (y1 * ((M26 83 0 y4) - (M26 82 0 y4))) y2) else ((M26 83 0 y4) - (M26 82 0 y4))) else 0)) (y4 + 1) M50)))) := hw
    refine lv_iload X.1.1 X.1.2.1 dX10_laysWidths_65 (lv_at hl 4 rfl) ?_
    refine lv_aload_n X.1.1 X.1.2.1 dX10_laysWidths_67 rfl (lv_at hl 0 rfl) ?_
    refine gt_11_4 X hR (okf X.2.2.1 rfl) kw_1533 dX10_laysWidths_68 ?_
    have r8 := hR.r 11 0 4
    refine sa_icmp_ge (tgt := 158) X.1 hy4 r8 dX10_laysWidths_71 (by decide) (fun hc => ?_) (fun hc => ?_)
    · have hw := hw.1 hc
      exact t_X10_laysWidths_158 X _ _ _ _ hw hy1 hy2 hy3 _ _ hR hS _ (lv_sub hl [0, 1, 2, 3] rfl)
    · have hw := hw.2 hc
      refine lv_iload_n X.1.1 X.1.2.1 dX10_laysWidths_74 rfl (lv_at hl 1 rfl) ?_
      refine sa_if_le (tgt := 158) X.1 hy1 dX10_laysWidths_75 (by decide) (fun hc => ?_) (fun hc => ?_)
      · have hw := hw.1 hc
        exact t_X10_laysWidths_158 X _ _ _ _ hw hy1 hy2 hy3 _ _ hR hS _ (lv_sub hl [0, 1, 2, 3] rfl)
      · have hw := hw.2 hc
        refine lv_aload_n X.1.1 X.1.2.1 dX10_laysWidths_78 rfl (lv_at hl 0 rfl) ?_
        refine lv_iload X.1.1 X.1.2.1 dX10_laysWidths_79 (lv_at hl 4 rfl) ?_
        refine cs_X10_isOpen X hy4 (kc := 5) rmL_ok rm_c (by decide) hR hS kw_1880 hl.1 dX10_laysWidths_81 (Nat.le_of_ble_eq_true rfl) hw (fun x27 M26 H locs hw r28 hR hS => ?_)
        have s42 := hw.1
        have hw := hw.2
        have c43 := hw.1
        have hw := hw.2
        refine cut_j (A := ∀ v44 : Int, v44 = (if ¬ x27 = 0 then (if y1 ≤ y2 then (Int.tdiv (y1 * ((M26 83 0 y4) - (M26 82 0 y4))) y2) else ((M26 83 0 y4) - (M26 82 0 y4))) else 0) → WV p l e 5 s m args below meth c G e0 α κ B Qm H locs 133 ls [.int (Int32.ofInt v44)]) (fun J45 => ?_) ?_
        · refine sa_if_ne (tgt := 91) X.1 r28 dX10_laysWidths_84 (by decide) (fun hc => ?_) (fun hc => ?_)
          · have hw := s42 hc
            refine lv_iload_n X.1.1 X.1.2.1 dX10_laysWidths_91 rfl (lv_at hl 2 rfl) ?_
            refine lv_iload_n X.1.1 X.1.2.1 dX10_laysWidths_92 rfl (lv_at hl 1 rfl) ?_
            have s37 := hw.1
            have hw := hw.2
            have s38 := hw.1
            have hw := hw.2
            have c39 := hw.1
            have hw := hw.2
            refine cut_j (A := ∀ v40 : Int, v40 = (if y1 ≤ y2 then (Int.tdiv (y1 * ((M26 83 0 y4) - (M26 82 0 y4))) y2) else ((M26 83 0 y4) - (M26 82 0 y4))) → WV p l e 5 s m args below meth c G e0 α κ B Qm H locs 133 ls [.int (Int32.ofInt v40)]) (fun J41 => ?_) ?_
            · refine sa_icmp_ge (tgt := 114) X.1 hy2 hy1 dX10_laysWidths_93 (by decide) (fun hc => ?_) (fun hc => ?_)
              · have hw := s37 hc
                refine lv_iload_n X.1.1 X.1.2.1 dX10_laysWidths_114 rfl (lv_at hl 1 rfl) ?_
                refine lv_aload_n X.1.1 X.1.2.1 dX10_laysWidths_115 rfl (lv_at hl 0 rfl) ?_
                refine gt_11_34 X hR (okf X.2.2.1 rfl) kw_1563 dX10_laysWidths_116 ?_
                refine lv_iload X.1.1 X.1.2.1 dX10_laysWidths_119 (lv_at hl 4 rfl) ?_
                have c29 := hw.1
                have hw := hw.2
                refine ra_83 X hR (okf X.2.2.1 rfl) c29 dX10_laysWidths_121 ?_
                refine lv_aload_n X.1.1 X.1.2.1 dX10_laysWidths_122 rfl (lv_at hl 0 rfl) ?_
                refine gt_11_33 X hR (okf X.2.2.1 rfl) kw_1562 dX10_laysWidths_123 ?_
                refine lv_iload X.1.1 X.1.2.1 dX10_laysWidths_126 (lv_at hl 4 rfl) ?_
                have c30 := hw.1
                have hw := hw.2
                refine ra_82 X hR (okf X.2.2.1 rfl) c30 dX10_laysWidths_128 ?_
                have c31 := hw.1
                have hw := hw.2
                refine sa_isub X.1 dX10_laysWidths_129 ?_
                have c32 := hw.1
                have hw := hw.2
                refine sa_imul X.1 dX10_laysWidths_130 ?_
                refine lv_iload_n X.1.1 X.1.2.1 dX10_laysWidths_131 rfl (lv_at hl 2 rfl) ?_
                have c33 := hw.1
                have hw := hw.2
                refine sa_idiv X.1 c32 hy2 (Int.ne_of_gt c33) dX10_laysWidths_132 ?_
                exact J41 ((Int.tdiv (y1 * ((M26 83 0 y4) - (M26 82 0 y4))) y2)) (if_pos (c := y1 ≤ y2) hc).symm
              · have hw := s38 hc
                refine lv_aload_n X.1.1 X.1.2.1 dX10_laysWidths_96 rfl (lv_at hl 0 rfl) ?_
                refine gt_11_34 X hR (okf X.2.2.1 rfl) kw_1563 dX10_laysWidths_97 ?_
                refine lv_iload X.1.1 X.1.2.1 dX10_laysWidths_100 (lv_at hl 4 rfl) ?_
                have c34 := hw.1
                have hw := hw.2
                refine ra_83 X hR (okf X.2.2.1 rfl) c34 dX10_laysWidths_102 ?_
                refine lv_aload_n X.1.1 X.1.2.1 dX10_laysWidths_103 rfl (lv_at hl 0 rfl) ?_
                refine gt_11_33 X hR (okf X.2.2.1 rfl) kw_1562 dX10_laysWidths_104 ?_
                refine lv_iload X.1.1 X.1.2.1 dX10_laysWidths_107 (lv_at hl 4 rfl) ?_
                have c35 := hw.1
                have hw := hw.2
                refine ra_82 X hR (okf X.2.2.1 rfl) c35 dX10_laysWidths_109 ?_
                have c36 := hw.1
                have hw := hw.2
                refine sa_isub X.1 dX10_laysWidths_110 ?_
                refine lv_goto (tgt := 133) X.1.1 X.1.2.1 dX10_laysWidths_111 (by decide) ?_
                exact J41 (((M26 83 0 y4) - (M26 82 0 y4))) (if_neg (c := y1 ≤ y2) (Int.not_le.mpr hc)).symm
            intro v40 hv40
            subst hv40
            exact J45 ((if y1 ≤ y2 then (Int.tdiv (y1 * ((M26 83 0 y4) - (M26 82 0 y4))) y2) else ((M26 83 0 y4) - (M26 82 0 y4)))) (if_pos (c := ¬ x27 = 0) hc).symm
          · skip
            refine sa_const X.1 dX10_laysWidths_87 ?_
            refine lv_goto (tgt := 133) X.1.1 X.1.2.1 dX10_laysWidths_88 (by decide) ?_
            exact J45 (0) (if_neg (c := ¬ x27 = 0) (fun z => z hc)).symm
        intro v44 hv44
        subst hv44
        refine lv_istore (lv' := [(5, .int (Int32.ofInt (if ¬ x27 = 0 then (if y1 ≤ y2 then (Int.tdiv (y1 * ((M26 83 0 y4) - (M26 82 0 y4))) y2) else ((M26 83 0 y4) - (M26 82 0 y4))) else 0))), (0, .ref (α 11 0)), (1, .int (Int32.ofInt y1)), (2, .int (Int32.ofInt y2)), (3, .int (Int32.ofInt y3)), (4, .int (Int32.ofInt y4))]) X.1.1 X.1.2.1 dX10_laysWidths_133 hl (by decide) rfl (fun ls hl => ?_)
        refine lv_aload_n X.1.1 X.1.2.1 dX10_laysWidths_135 rfl (lv_at hl 1 rfl) ?_
        refine gt_11_35 X hR (okf X.2.2.1 rfl) kw_1564 dX10_laysWidths_136 ?_
        refine lv_iload X.1.1 X.1.2.1 dX10_laysWidths_139 (lv_at hl 5 rfl) ?_
        refine lv_dup2_11 X.1.1 X.1.2.1 dX10_laysWidths_141 rfl rfl ?_
        have c46 := hw.1
        have hw := hw.2
        refine ra_84 X hR (okf X.2.2.1 rfl) c46 dX10_laysWidths_142 ?_
        have r47 := hR.r 84 0 y4
        refine lv_iload X.1.1 X.1.2.1 dX10_laysWidths_143 (lv_at hl 0 rfl) ?_
        have c48 := hw.1
        have hw := hw.2
        refine sa_iadd X.1 dX10_laysWidths_145 ?_
        have c49 := hw.1
        have hw := hw.2
        refine wa_84 X hR hS (okf X.2.2.1 rfl) c49 c48 dX10_laysWidths_146 (fun H locs hR hS => ?_)
        obtain ⟨M50, e51⟩ : ∃ z : Mem, z = up M26 84 0 y4 ((M26 84 0 y4) + (if ¬ x27 = 0 then (if y1 ≤ y2 then (Int.tdiv (y1 * ((M26 83 0 y4) - (M26 82 0 y4))) y2) else ((M26 83 0 y4) - (M26 82 0 y4))) else 0)) := ⟨_, rfl⟩
        rw [← e51] at hR
        have hw := hw M50 e51
        refine lv_iload_n X.1.1 X.1.2.1 dX10_laysWidths_147 rfl (lv_at hl 4 rfl) ?_
        refine lv_iload X.1.1 X.1.2.1 dX10_laysWidths_148 (lv_at hl 0 rfl) ?_
        have c52 := hw.1
        have hw := hw.2
        refine sa_iadd X.1 dX10_laysWidths_150 ?_
        refine lv_istore_n (lv' := [(3, .int (Int32.ofInt (y3 + (if ¬ x27 = 0 then (if y1 ≤ y2 then (Int.tdiv (y1 * ((M26 83 0 y4) - (M26 82 0 y4))) y2) else ((M26 83 0 y4) - (M26 82 0 y4))) else 0)))), (5, .int (Int32.ofInt (if ¬ x27 = 0 then (if y1 ≤ y2 then (Int.tdiv (y1 * ((M26 83 0 y4) - (M26 82 0 y4))) y2) else ((M26 83 0 y4) - (M26 82 0 y4))) else 0))), (0, .ref (α 11 0)), (1, .int (Int32.ofInt y1)), (2, .int (Int32.ofInt y2)), (4, .int (Int32.ofInt y4))]) X.1.1 X.1.2.1 dX10_laysWidths_151 rfl hl (by decide) rfl (fun ls hl => ?_)
        have c53 := hw.1
        have hw := hw.2
        refine lv_iinc (v := Int32.ofInt (y4 + 1)) (lv' := [(4, .int (Int32.ofInt (y4 + 1))), (3, .int (Int32.ofInt (y3 + (if ¬ x27 = 0 then (if y1 ≤ y2 then (Int.tdiv (y1 * ((M26 83 0 y4) - (M26 82 0 y4))) y2) else ((M26 83 0 y4) - (M26 82 0 y4))) else 0)))), (5, .int (Int32.ofInt (if ¬ x27 = 0 then (if y1 ≤ y2 then (Int.tdiv (y1 * ((M26 83 0 y4) - (M26 82 0 y4))) y2) else ((M26 83 0 y4) - (M26 82 0 y4))) else 0))), (0, .ref (α 11 0)), (1, .int (Int32.ofInt y1)), (2, .int (Int32.ofInt y2))]) X.1.1 X.1.2.1 dX10_laysWidths_152 hl (k := 5) rfl (Int32.ofInt_add _ _).symm (by decide) rfl (fun ls hl => ?_)
        refine lv_goto (tgt := 65) X.1.1 X.1.2.1 dX10_laysWidths_155 (by decide) ?_
        exact ih _ _ _ _ _ hw hy1 hy2 c52 c53 _ _ hR hS _ (lv_sub hl [3, 4, 5, 1, 0] rfl)
set_option maxHeartbeats 4000000 in
set_option maxRecDepth 100000 in
theorem t_X10_laysWidths_18 (X : CX p m c cX10_laysWidths 6 s args RX10 G B κ meth none) {Qm : Mem → Prop} : ∀ n : Nat, ∀ y1 : Int, ∀ y2 : Int, ∀ y3 : Int, ∀ M : Mem, wp_X10_laysWidths_18 Qm n y1 y2 y3 M → inR y1 → inR y2 → inR y3 → ∀ (H : Heap) (locs : List Loc), Rp G e0 α κ B M H → va_S (fun q => B ≤ q) s.heap H locs → ∀ (ls : Array Slot), lv_has ls 6 [(0, .ref (α 11 0)), (1, .int (Int32.ofInt y1)), (2, .int (Int32.ofInt y2)), (3, .int (Int32.ofInt y3))] → WV p l e 5 s m args below meth c G e0 α κ B Qm H locs 18 ls [] := by
  intro n
  induction n with
  | zero =>
    intro y1 y2 y3 M hw hy1 hy2 hy3 H locs hR hS ls hl
    exact hw.elim
  | succ n ih =>
    intro y1 y2 y3 M hw hy1 hy2 hy3 H locs hR hS ls hl
    have hw : (((M 11 0 4) ≤ y3 → (∃ n54 : Nat, wp_X10_laysWidths_65 Qm n54 y1 y2 0 0 M)) ∧ (y3 < (M 11 0 4) → wp_X10_isOpen y3 M fun (x56 : Int) (M55 : Mem) => (¬ x56 = 0 → (0 ≤ y3 ∧ y3 < 6) ∧ (0 ≤ y3 ∧ y3 < 6) ∧ (inR ((M55 83 0 y3) - (M55 82 0 y3))) ∧ True) ∧ (inR (if x56 = 0 then (0 : Int) else ((M55 83 0 y3) - (M55 82 0 y3)))) ∧ (inR (y2 + (if x56 = 0 then (0 : Int) else ((M55 83 0 y3) - (M55 82 0 y3))))) ∧ (inR (y3 + 1)) ∧ wp_X10_laysWidths_18 Qm n y1 (y2 + (if x56 = 0 then (0 : Int) else ((M55 83 0 y3) - (M55 82 0 y3)))) (y3 + 1) M55)) := hw
    refine lv_iload_n X.1.1 X.1.2.1 dX10_laysWidths_18 rfl (lv_at hl 3 rfl) ?_
    refine lv_aload_n X.1.1 X.1.2.1 dX10_laysWidths_19 rfl (lv_at hl 0 rfl) ?_
    refine gt_11_4 X hR (okf X.2.2.1 rfl) kw_1533 dX10_laysWidths_20 ?_
    have r7 := hR.r 11 0 4
    refine sa_icmp_ge (tgt := 60) X.1 hy3 r7 dX10_laysWidths_23 (by decide) (fun hc => ?_) (fun hc => ?_)
    · have hw := hw.1 hc
      refine sa_const X.1 dX10_laysWidths_60 ?_
      refine lv_istore_n (lv' := [(3, .int (Int32.ofInt 0)), (0, .ref (α 11 0)), (1, .int (Int32.ofInt y1)), (2, .int (Int32.ofInt y2))]) X.1.1 X.1.2.1 dX10_laysWidths_61 rfl hl (by decide) rfl (fun ls hl => ?_)
      refine sa_const X.1 dX10_laysWidths_62 ?_
      refine lv_istore (lv' := [(4, .int (Int32.ofInt 0)), (3, .int (Int32.ofInt 0)), (0, .ref (α 11 0)), (1, .int (Int32.ofInt y1)), (2, .int (Int32.ofInt y2))]) X.1.1 X.1.2.1 dX10_laysWidths_63 hl (by decide) rfl (fun ls hl => ?_)
      obtain ⟨n54, hw⟩ := hw
      exact t_X10_laysWidths_65 X n54 _ _ _ _ _ hw hy1 hy2 (inR_c (a := 0) rfl) (inR_c (a := 0) rfl) _ _ hR hS _ (lv_sub hl [2, 3, 4, 1, 0] rfl)
    · have hw := hw.2 hc
      refine lv_iload_n X.1.1 X.1.2.1 dX10_laysWidths_26 rfl (lv_at hl 2 rfl) ?_
      refine lv_aload_n X.1.1 X.1.2.1 dX10_laysWidths_27 rfl (lv_at hl 0 rfl) ?_
      refine lv_iload_n X.1.1 X.1.2.1 dX10_laysWidths_28 rfl (lv_at hl 3 rfl) ?_
      refine cs_X10_isOpen X hy3 (kc := 5) rmL_ok rm_c (by decide) hR hS kw_1880 hl.1 dX10_laysWidths_29 (Nat.le_of_ble_eq_true rfl) hw (fun x56 M55 H locs hw r57 hR hS => ?_)
      have s61 := hw.1
      have hw := hw.2
      have c62 := hw.1
      have hw := hw.2
      refine cut_j (A := ∀ v63 : Int, v63 = (if x56 = 0 then (0 : Int) else ((M55 83 0 y3) - (M55 82 0 y3))) → WV p l e 5 s m args below meth c G e0 α κ B Qm H locs 52 ls [.int (Int32.ofInt v63), .int (Int32.ofInt y2)]) (fun J64 => ?_) ?_
      · refine sa_if_eq (tgt := 51) X.1 r57 dX10_laysWidths_32 (by decide) (fun hc => ?_) (fun hc => ?_)
        · skip
          refine sa_const X.1 dX10_laysWidths_51 ?_
          exact J64 (0) (if_pos (c := x56 = 0) hc).symm
        · have hw := s61 hc
          refine lv_aload_n X.1.1 X.1.2.1 dX10_laysWidths_35 rfl (lv_at hl 0 rfl) ?_
          refine gt_11_34 X hR (okf X.2.2.1 rfl) kw_1563 dX10_laysWidths_36 ?_
          refine lv_iload_n X.1.1 X.1.2.1 dX10_laysWidths_39 rfl (lv_at hl 3 rfl) ?_
          have c58 := hw.1
          have hw := hw.2
          refine ra_83 X hR (okf X.2.2.1 rfl) c58 dX10_laysWidths_40 ?_
          refine lv_aload_n X.1.1 X.1.2.1 dX10_laysWidths_41 rfl (lv_at hl 0 rfl) ?_
          refine gt_11_33 X hR (okf X.2.2.1 rfl) kw_1562 dX10_laysWidths_42 ?_
          refine lv_iload_n X.1.1 X.1.2.1 dX10_laysWidths_45 rfl (lv_at hl 3 rfl) ?_
          have c59 := hw.1
          have hw := hw.2
          refine ra_82 X hR (okf X.2.2.1 rfl) c59 dX10_laysWidths_46 ?_
          have c60 := hw.1
          have hw := hw.2
          refine sa_isub X.1 dX10_laysWidths_47 ?_
          refine lv_goto (tgt := 52) X.1.1 X.1.2.1 dX10_laysWidths_48 (by decide) ?_
          exact J64 (((M55 83 0 y3) - (M55 82 0 y3))) (if_neg (c := x56 = 0) hc).symm
      intro v63 hv63
      subst hv63
      have c65 := hw.1
      have hw := hw.2
      refine sa_iadd X.1 dX10_laysWidths_52 ?_
      refine lv_istore_n (lv' := [(2, .int (Int32.ofInt (y2 + (if x56 = 0 then (0 : Int) else ((M55 83 0 y3) - (M55 82 0 y3)))))), (0, .ref (α 11 0)), (1, .int (Int32.ofInt y1)), (3, .int (Int32.ofInt y3))]) X.1.1 X.1.2.1 dX10_laysWidths_53 rfl hl (by decide) rfl (fun ls hl => ?_)
      have c66 := hw.1
      have hw := hw.2
      refine lv_iinc (v := Int32.ofInt (y3 + 1)) (lv' := [(3, .int (Int32.ofInt (y3 + 1))), (2, .int (Int32.ofInt (y2 + (if x56 = 0 then (0 : Int) else ((M55 83 0 y3) - (M55 82 0 y3)))))), (0, .ref (α 11 0)), (1, .int (Int32.ofInt y1))]) X.1.1 X.1.2.1 dX10_laysWidths_54 hl (k := 3) rfl (Int32.ofInt_add _ _).symm (by decide) rfl (fun ls hl => ?_)
      refine lv_goto (tgt := 18) X.1.1 X.1.2.1 dX10_laysWidths_57 (by decide) ?_
      exact ih _ _ _ _ hw hy1 c65 c66 _ _ hR hS _ (lv_sub hl [2, 3, 1, 0] rfl)
set_option maxHeartbeats 4000000 in
set_option maxRecDepth 100000 in
theorem t_X10_laysWidths (X : CX p m c cX10_laysWidths 6 s args RX10 G B κ meth none) {M : Mem} {Qm : Mem → Prop} (hw : wp_X10_laysWidths M Qm) (H : Heap) (locs : List Loc) (hR : Rp G e0 α κ B M H) (hS : va_S (fun q => B ≤ q) s.heap H locs) (ls : Array Slot) (hl : lv_has ls 6 [(0, .ref (α 11 0))]) : WV p l e 5 s m args below meth c G e0 α κ B Qm H locs 0 ls [] := by
  have hw : wp_X10_laysNarrow M fun (M1 : Mem) => wp_X10_sumOfWidths M1 fun (x4 : Int) (M3 : Mem) => (inR ((M1 11 0 24) - x4)) ∧ (∃ n67 : Nat, wp_X10_laysWidths_18 Qm n67 ((M1 11 0 24) - x4) 0 0 M3) := hw
  refine lv_aload_n X.1.1 X.1.2.1 dX10_laysWidths_0 rfl (lv_at hl 0 rfl) ?_
  refine cs_X10_laysNarrow X  (kc := 5) rmL_ok rm_c (by decide) hR hS kw_1865 hl.1 dX10_laysWidths_1 (Nat.le_of_ble_eq_true rfl) hw (fun M1 H locs hw hR hS => ?_)
  refine lv_aload_n X.1.1 X.1.2.1 dX10_laysWidths_4 rfl (lv_at hl 0 rfl) ?_
  refine gt_11_24 X hR (okf X.2.2.1 rfl) kw_1553 dX10_laysWidths_5 ?_
  have r2 := hR.r 11 0 24
  refine lv_aload_n X.1.1 X.1.2.1 dX10_laysWidths_8 rfl (lv_at hl 0 rfl) ?_
  refine cs_X10_sumOfWidths X  (kc := 5) rmL_ok rm_c (by decide) hR hS kw_1876 hl.1 dX10_laysWidths_9 (Nat.le_of_ble_eq_true rfl) hw (fun x4 M3 H locs hw r5 hR hS => ?_)
  have c6 := hw.1
  have hw := hw.2
  refine sa_isub X.1 dX10_laysWidths_12 ?_
  refine lv_istore_n (lv' := [(1, .int (Int32.ofInt ((M1 11 0 24) - x4))), (0, .ref (α 11 0))]) X.1.1 X.1.2.1 dX10_laysWidths_13 rfl hl (by decide) rfl (fun ls hl => ?_)
  refine sa_const X.1 dX10_laysWidths_14 ?_
  refine lv_istore_n (lv' := [(2, .int (Int32.ofInt 0)), (1, .int (Int32.ofInt ((M1 11 0 24) - x4))), (0, .ref (α 11 0))]) X.1.1 X.1.2.1 dX10_laysWidths_15 rfl hl (by decide) rfl (fun ls hl => ?_)
  refine sa_const X.1 dX10_laysWidths_16 ?_
  refine lv_istore_n (lv' := [(3, .int (Int32.ofInt 0)), (2, .int (Int32.ofInt 0)), (1, .int (Int32.ofInt ((M1 11 0 24) - x4))), (0, .ref (α 11 0))]) X.1.1 X.1.2.1 dX10_laysWidths_17 rfl hl (by decide) rfl (fun ls hl => ?_)
  obtain ⟨n67, hw⟩ := hw
  exact t_X10_laysWidths_18 X n67 _ _ _ _ hw c6 (inR_c (a := 0) rfl) (inR_c (a := 0) rfl) _ _ hR hS _ (lv_sub hl [3, 2, 1, 0] rfl)
theorem m_X10_laysWidths {l : Launch} {G : Gx} {e0 : Nat} {α : Ax} {κ : Nat → Int} {B : Nat} (hκ : kOK κ) {M : Mem} {Qm : Mem → Prop} (hw : wp_X10_laysWidths M Qm) : CV l yX10_laysWidths (Cond.code yX10_laysWidths cX10_laysWidths 6 none) 5 G e0 α κ B [.ref (α 11 0)] M Qm :=
  CV.mk hκ (by decide +kernel) rfl (Nat.le_of_ble_eq_true rfl) (lv := [(0, .ref (α 11 0))]) rfl (fun p e s m args below meth c ls X hR hS hl => t_X10_laysWidths X hw _ _ hR hS ls hl)
theorem cs_X10_laysWidths {cc : ByteArray} {nL : Nat} {own : String} {ret : Option FieldType} {idx pc : Nat} (X : CX p m c cc nL s args own G B κ meth ret) {kc : Nat} {R : Room} {cells slots : Nat} (hRr : RmOK R kc) (hcel : cells ≤ R.cells ∧ slots ≤ R.slots) (hk : 5 + 1 ≤ kc) {M : Mem} {H : Heap} {locs : List Loc} (hR : Rp G e0 α κ B M H) (hS : va_S (fun q => B ≤ q) s.heap H locs) (k1 : Cond.methodLink own idx yX10_laysWidths ∈ gw) {ls : Array Slot} (hml : ls.size = nL) {rest : List Value} (hd : decode cc pc = .ok (.invokevirtual idx, 3)) (hrest : (rest.map fun v => v.category).sum ≤ 8) {Q : State → Prop} {Qm : Mem → Prop} (hw : wp_X10_laysWidths M Qm) (kk : ∀ (M1 : Mem) (H1 : Heap) (locs1 : List Loc), Qm M1 → Rp G e0 α κ B M1 H1 → va_S (fun q => B ≤ q) s.heap H1 locs1 → W p l e R s m args below meth c H1 locs1 cells slots Q (F0 m (pc + 3) ls (rest))) : W p l e R s m args below meth c H locs cells slots Q (F0 m pc ls (.ref (α 11 0) :: rest)) :=
  sa_callVV 5 (n := 0) (As := []) (rest := rest) X.1 X.2.1 hR hS (m_X10_laysWidths X.2.2.1 hw) k1 kw_1863 kw_60 kw_104 kw_1864 ⟨rfl, by decide +kernel, by decide +kernel, by decide +kernel⟩ (rm_ok hRr hk (by decide)) (rc_11 X hR (okf X.2.2.1 rfl)) rfl rfl hrest hml hd hcel kk
def wp_X10_least (p1 : Int) (M : Mem) (Qm : Int → Mem → Prop) : Prop := wp_X10_isColumn p1 M fun (x2 : Int) (M1 : Mem) => wp_X10_goes x2 1 1 M1 fun (x5 : Int) (M4 : Mem) => ((¬ x5 = 0 → wp_X10_laysLeasts M4 fun (M7 : Mem) => (0 ≤ p1 ∧ p1 < 6) ∧ Qm (M7 82 0 p1) M7) ∧ (x5 = 0 → Qm 0 M4))
set_option maxHeartbeats 4000000 in
set_option maxRecDepth 100000 in
theorem t_X10_least {p1 : Int} (X : CX p m c cX10_least 2 s args RX10 G B κ meth (some .int)) (hp1 : inR p1) {M : Mem} {Qm : Int → Mem → Prop} (hw : wp_X10_least p1 M Qm) (H : Heap) (locs : List Loc) (hR : Rp G e0 α κ B M H) (hS : va_S (fun q => B ≤ q) s.heap H locs) (ls : Array Slot) (hl : lv_has ls 2 [(0, .ref (α 11 0)), (1, .int (Int32.ofInt p1))]) : WI p l e 4 s m args below meth c G e0 α κ B Qm H locs 0 ls [] := by
  have hw : wp_X10_isColumn p1 M fun (x2 : Int) (M1 : Mem) => wp_X10_goes x2 1 1 M1 fun (x5 : Int) (M4 : Mem) => ((¬ x5 = 0 → wp_X10_laysLeasts M4 fun (M7 : Mem) => (0 ≤ p1 ∧ p1 < 6) ∧ Qm (M7 82 0 p1) M7) ∧ (x5 = 0 → Qm 0 M4)) := hw
  refine lv_aload_n X.1.1 X.1.2.1 dX10_least_0 rfl (lv_at hl 0 rfl) ?_
  refine lv_aload_n X.1.1 X.1.2.1 dX10_least_1 rfl (lv_at hl 0 rfl) ?_
  refine lv_iload_n X.1.1 X.1.2.1 dX10_least_2 rfl (lv_at hl 1 rfl) ?_
  refine cs_X10_isColumn X hp1 (kc := 4) rmL_ok rm_c (by decide) hR hS kw_1737 hl.1 dX10_least_3 (Nat.le_of_ble_eq_true rfl) hw (fun x2 M1 H locs hw r3 hR hS => ?_)
  refine sa_const X.1 dX10_least_6 ?_
  refine sa_const X.1 dX10_least_7 ?_
  refine cs_X10_goes X r3 (inR_c (a := 1) rfl) (inR_c (a := 1) rfl) (kc := 4) rmL_ok rm_c (by decide) hR hS kw_1721 hl.1 dX10_least_8 (Nat.le_of_ble_eq_true rfl) hw (fun x5 M4 H locs hw r6 hR hS => ?_)
  refine sa_if_ne (tgt := 16) X.1 r6 dX10_least_11 (by decide) (fun hc => ?_) (fun hc => ?_)
  · have hw := hw.1 hc
    refine lv_aload_n X.1.1 X.1.2.1 dX10_least_16 rfl (lv_at hl 0 rfl) ?_
    refine cs_X10_laysLeasts X  (kc := 4) rmL_ok rm_c (by decide) hR hS kw_1811 hl.1 dX10_least_17 (Nat.le_of_ble_eq_true rfl) hw (fun M7 H locs hw hR hS => ?_)
    refine lv_aload_n X.1.1 X.1.2.1 dX10_least_20 rfl (lv_at hl 0 rfl) ?_
    refine gt_11_33 X hR (okf X.2.2.1 rfl) kw_1562 dX10_least_21 ?_
    refine lv_iload_n X.1.1 X.1.2.1 dX10_least_24 rfl (lv_at hl 1 rfl) ?_
    have c8 := hw.1
    have hw := hw.2
    refine ra_82 X hR (okf X.2.2.1 rfl) c8 dX10_least_25 ?_
    have r9 := hR.r 82 0 p1
    exact sa_iret X.1 X.2.2.2.1 X.2.2.2.2 hR hS r9 hw dX10_least_26
  · have hw := hw.2 hc
    refine sa_const X.1 dX10_least_14 ?_
    exact sa_iret X.1 X.2.2.2.1 X.2.2.2.2 hR hS (inR_c (a := 0) rfl) hw dX10_least_15
theorem m_X10_least {l : Launch} {G : Gx} {e0 : Nat} {α : Ax} {κ : Nat → Int} {B : Nat} {p1 : Int} (hκ : kOK κ) (hp1 : inR p1) {M : Mem} {Qm : Int → Mem → Prop} (hw : wp_X10_least p1 M Qm) : CI l yX10_least (Cond.code yX10_least cX10_least 2 (some .int)) 4 G e0 α κ B [.ref (α 11 0), .int (Int32.ofInt p1)] M Qm :=
  CI.mk hκ (by decide +kernel) rfl (Nat.le_of_ble_eq_true rfl) (lv := [(0, .ref (α 11 0)), (1, .int (Int32.ofInt p1))]) rfl (fun p e s m args below meth c ls X hR hS hl => t_X10_least X hp1 hw _ _ hR hS ls hl)
theorem cs_X10_least {cc : ByteArray} {nL : Nat} {own : String} {ret : Option FieldType} {idx pc : Nat} {p1 : Int} (X : CX p m c cc nL s args own G B κ meth ret) (hp1 : inR p1) {kc : Nat} {R : Room} {cells slots : Nat} (hRr : RmOK R kc) (hcel : cells ≤ R.cells ∧ slots ≤ R.slots) (hk : 4 + 1 ≤ kc) {M : Mem} {H : Heap} {locs : List Loc} (hR : Rp G e0 α κ B M H) (hS : va_S (fun q => B ≤ q) s.heap H locs) (k1 : Cond.methodLink own idx yX10_least ∈ gw) {ls : Array Slot} (hml : ls.size = nL) {rest : List Value} (hd : decode cc pc = .ok (.invokevirtual idx, 3)) (hrest : (rest.map fun v => v.category).sum ≤ 8) {Q : State → Prop} {Qm : Int → Mem → Prop} (hw : wp_X10_least p1 M Qm) (kk : ∀ (r : Int) (M1 : Mem) (H1 : Heap) (locs1 : List Loc), Qm r M1 → inR r → Rp G e0 α κ B M1 H1 → va_S (fun q => B ≤ q) s.heap H1 locs1 → W p l e R s m args below meth c H1 locs1 cells slots Q (F0 m (pc + 3) ls (.int (Int32.ofInt r) :: rest))) : W p l e R s m args below meth c H locs cells slots Q (F0 m pc ls (.int (Int32.ofInt p1) :: .ref (α 11 0) :: rest)) :=
  sa_callVI 4 (n := 1) (As := [.int (Int32.ofInt p1)]) (rest := rest) X.1 X.2.1 hR hS (m_X10_least X.2.2.1 hp1 hw) k1 kw_1808 kw_1809 kw_104 kw_1810 ⟨rfl, by decide +kernel, by decide +kernel, by decide +kernel⟩ (rm_ok hRr hk (by decide)) (rc_11 X hR (okf X.2.2.1 rfl)) rfl rfl hrest hml hd hcel kk
def wp_X10_most (p1 : Int) (M : Mem) (Qm : Int → Mem → Prop) : Prop := wp_X10_isColumn p1 M fun (x2 : Int) (M1 : Mem) => wp_X10_goes x2 1 1 M1 fun (x5 : Int) (M4 : Mem) => ((¬ x5 = 0 → wp_X10_laysLeasts M4 fun (M7 : Mem) => (0 ≤ p1 ∧ p1 < 6) ∧ Qm (M7 83 0 p1) M7) ∧ (x5 = 0 → Qm 0 M4))
set_option maxHeartbeats 4000000 in
set_option maxRecDepth 100000 in
theorem t_X10_most {p1 : Int} (X : CX p m c cX10_most 2 s args RX10 G B κ meth (some .int)) (hp1 : inR p1) {M : Mem} {Qm : Int → Mem → Prop} (hw : wp_X10_most p1 M Qm) (H : Heap) (locs : List Loc) (hR : Rp G e0 α κ B M H) (hS : va_S (fun q => B ≤ q) s.heap H locs) (ls : Array Slot) (hl : lv_has ls 2 [(0, .ref (α 11 0)), (1, .int (Int32.ofInt p1))]) : WI p l e 4 s m args below meth c G e0 α κ B Qm H locs 0 ls [] := by
  have hw : wp_X10_isColumn p1 M fun (x2 : Int) (M1 : Mem) => wp_X10_goes x2 1 1 M1 fun (x5 : Int) (M4 : Mem) => ((¬ x5 = 0 → wp_X10_laysLeasts M4 fun (M7 : Mem) => (0 ≤ p1 ∧ p1 < 6) ∧ Qm (M7 83 0 p1) M7) ∧ (x5 = 0 → Qm 0 M4)) := hw
  refine lv_aload_n X.1.1 X.1.2.1 dX10_most_0 rfl (lv_at hl 0 rfl) ?_
  refine lv_aload_n X.1.1 X.1.2.1 dX10_most_1 rfl (lv_at hl 0 rfl) ?_
  refine lv_iload_n X.1.1 X.1.2.1 dX10_most_2 rfl (lv_at hl 1 rfl) ?_
  refine cs_X10_isColumn X hp1 (kc := 4) rmL_ok rm_c (by decide) hR hS kw_1737 hl.1 dX10_most_3 (Nat.le_of_ble_eq_true rfl) hw (fun x2 M1 H locs hw r3 hR hS => ?_)
  refine sa_const X.1 dX10_most_6 ?_
  refine sa_const X.1 dX10_most_7 ?_
  refine cs_X10_goes X r3 (inR_c (a := 1) rfl) (inR_c (a := 1) rfl) (kc := 4) rmL_ok rm_c (by decide) hR hS kw_1721 hl.1 dX10_most_8 (Nat.le_of_ble_eq_true rfl) hw (fun x5 M4 H locs hw r6 hR hS => ?_)
  refine sa_if_ne (tgt := 16) X.1 r6 dX10_most_11 (by decide) (fun hc => ?_) (fun hc => ?_)
  · have hw := hw.1 hc
    refine lv_aload_n X.1.1 X.1.2.1 dX10_most_16 rfl (lv_at hl 0 rfl) ?_
    refine cs_X10_laysLeasts X  (kc := 4) rmL_ok rm_c (by decide) hR hS kw_1811 hl.1 dX10_most_17 (Nat.le_of_ble_eq_true rfl) hw (fun M7 H locs hw hR hS => ?_)
    refine lv_aload_n X.1.1 X.1.2.1 dX10_most_20 rfl (lv_at hl 0 rfl) ?_
    refine gt_11_34 X hR (okf X.2.2.1 rfl) kw_1563 dX10_most_21 ?_
    refine lv_iload_n X.1.1 X.1.2.1 dX10_most_24 rfl (lv_at hl 1 rfl) ?_
    have c8 := hw.1
    have hw := hw.2
    refine ra_83 X hR (okf X.2.2.1 rfl) c8 dX10_most_25 ?_
    have r9 := hR.r 83 0 p1
    exact sa_iret X.1 X.2.2.2.1 X.2.2.2.2 hR hS r9 hw dX10_most_26
  · have hw := hw.2 hc
    refine sa_const X.1 dX10_most_14 ?_
    exact sa_iret X.1 X.2.2.2.1 X.2.2.2.2 hR hS (inR_c (a := 0) rfl) hw dX10_most_15
theorem m_X10_most {l : Launch} {G : Gx} {e0 : Nat} {α : Ax} {κ : Nat → Int} {B : Nat} {p1 : Int} (hκ : kOK κ) (hp1 : inR p1) {M : Mem} {Qm : Int → Mem → Prop} (hw : wp_X10_most p1 M Qm) : CI l yX10_most (Cond.code yX10_most cX10_most 2 (some .int)) 4 G e0 α κ B [.ref (α 11 0), .int (Int32.ofInt p1)] M Qm :=
  CI.mk hκ (by decide +kernel) rfl (Nat.le_of_ble_eq_true rfl) (lv := [(0, .ref (α 11 0)), (1, .int (Int32.ofInt p1))]) rfl (fun p e s m args below meth c ls X hR hS hl => t_X10_most X hp1 hw _ _ hR hS ls hl)
theorem cs_X10_most {cc : ByteArray} {nL : Nat} {own : String} {ret : Option FieldType} {idx pc : Nat} {p1 : Int} (X : CX p m c cc nL s args own G B κ meth ret) (hp1 : inR p1) {kc : Nat} {R : Room} {cells slots : Nat} (hRr : RmOK R kc) (hcel : cells ≤ R.cells ∧ slots ≤ R.slots) (hk : 4 + 1 ≤ kc) {M : Mem} {H : Heap} {locs : List Loc} (hR : Rp G e0 α κ B M H) (hS : va_S (fun q => B ≤ q) s.heap H locs) (k1 : Cond.methodLink own idx yX10_most ∈ gw) {ls : Array Slot} (hml : ls.size = nL) {rest : List Value} (hd : decode cc pc = .ok (.invokevirtual idx, 3)) (hrest : (rest.map fun v => v.category).sum ≤ 8) {Q : State → Prop} {Qm : Int → Mem → Prop} (hw : wp_X10_most p1 M Qm) (kk : ∀ (r : Int) (M1 : Mem) (H1 : Heap) (locs1 : List Loc), Qm r M1 → inR r → Rp G e0 α κ B M1 H1 → va_S (fun q => B ≤ q) s.heap H1 locs1 → W p l e R s m args below meth c H1 locs1 cells slots Q (F0 m (pc + 3) ls (.int (Int32.ofInt r) :: rest))) : W p l e R s m args below meth c H locs cells slots Q (F0 m pc ls (.int (Int32.ofInt p1) :: .ref (α 11 0) :: rest)) :=
  sa_callVI 4 (n := 1) (As := [.int (Int32.ofInt p1)]) (rest := rest) X.1 X.2.1 hR hS (m_X10_most X.2.2.1 hp1 hw) k1 kw_1854 kw_1855 kw_104 kw_1856 ⟨rfl, by decide +kernel, by decide +kernel, by decide +kernel⟩ (rm_ok hRr hk (by decide)) (rc_11 X hR (okf X.2.2.1 rfl)) rfl rfl hrest hml hd hcel kk
def wp_X10_width (p1 : Int) (M : Mem) (Qm : Int → Mem → Prop) : Prop := wp_X10_isColumn p1 M fun (x2 : Int) (M1 : Mem) => wp_X10_goes x2 1 1 M1 fun (x5 : Int) (M4 : Mem) => ((¬ x5 = 0 → wp_X10_laysWidths M4 fun (M7 : Mem) => (0 ≤ p1 ∧ p1 < 6) ∧ Qm (M7 84 0 p1) M7) ∧ (x5 = 0 → Qm 0 M4))
set_option maxHeartbeats 4000000 in
set_option maxRecDepth 100000 in
theorem t_X10_width {p1 : Int} (X : CX p m c cX10_width 2 s args RX10 G B κ meth (some .int)) (hp1 : inR p1) {M : Mem} {Qm : Int → Mem → Prop} (hw : wp_X10_width p1 M Qm) (H : Heap) (locs : List Loc) (hR : Rp G e0 α κ B M H) (hS : va_S (fun q => B ≤ q) s.heap H locs) (ls : Array Slot) (hl : lv_has ls 2 [(0, .ref (α 11 0)), (1, .int (Int32.ofInt p1))]) : WI p l e 6 s m args below meth c G e0 α κ B Qm H locs 0 ls [] := by
  have hw : wp_X10_isColumn p1 M fun (x2 : Int) (M1 : Mem) => wp_X10_goes x2 1 1 M1 fun (x5 : Int) (M4 : Mem) => ((¬ x5 = 0 → wp_X10_laysWidths M4 fun (M7 : Mem) => (0 ≤ p1 ∧ p1 < 6) ∧ Qm (M7 84 0 p1) M7) ∧ (x5 = 0 → Qm 0 M4)) := hw
  refine lv_aload_n X.1.1 X.1.2.1 dX10_width_0 rfl (lv_at hl 0 rfl) ?_
  refine lv_aload_n X.1.1 X.1.2.1 dX10_width_1 rfl (lv_at hl 0 rfl) ?_
  refine lv_iload_n X.1.1 X.1.2.1 dX10_width_2 rfl (lv_at hl 1 rfl) ?_
  refine cs_X10_isColumn X hp1 (kc := 6) rmL_ok rm_c (by decide) hR hS kw_1737 hl.1 dX10_width_3 (Nat.le_of_ble_eq_true rfl) hw (fun x2 M1 H locs hw r3 hR hS => ?_)
  refine sa_const X.1 dX10_width_6 ?_
  refine sa_const X.1 dX10_width_7 ?_
  refine cs_X10_goes X r3 (inR_c (a := 1) rfl) (inR_c (a := 1) rfl) (kc := 6) rmL_ok rm_c (by decide) hR hS kw_1721 hl.1 dX10_width_8 (Nat.le_of_ble_eq_true rfl) hw (fun x5 M4 H locs hw r6 hR hS => ?_)
  refine sa_if_ne (tgt := 16) X.1 r6 dX10_width_11 (by decide) (fun hc => ?_) (fun hc => ?_)
  · have hw := hw.1 hc
    refine lv_aload_n X.1.1 X.1.2.1 dX10_width_16 rfl (lv_at hl 0 rfl) ?_
    refine cs_X10_laysWidths X  (kc := 6) rmL_ok rm_c (by decide) hR hS kw_1861 hl.1 dX10_width_17 (Nat.le_of_ble_eq_true rfl) hw (fun M7 H locs hw hR hS => ?_)
    refine lv_aload_n X.1.1 X.1.2.1 dX10_width_20 rfl (lv_at hl 0 rfl) ?_
    refine gt_11_35 X hR (okf X.2.2.1 rfl) kw_1564 dX10_width_21 ?_
    refine lv_iload_n X.1.1 X.1.2.1 dX10_width_24 rfl (lv_at hl 1 rfl) ?_
    have c8 := hw.1
    have hw := hw.2
    refine ra_84 X hR (okf X.2.2.1 rfl) c8 dX10_width_25 ?_
    have r9 := hR.r 84 0 p1
    exact sa_iret X.1 X.2.2.2.1 X.2.2.2.2 hR hS r9 hw dX10_width_26
  · have hw := hw.2 hc
    refine sa_const X.1 dX10_width_14 ?_
    exact sa_iret X.1 X.2.2.2.1 X.2.2.2.2 hR hS (inR_c (a := 0) rfl) hw dX10_width_15
theorem m_X10_width {l : Launch} {G : Gx} {e0 : Nat} {α : Ax} {κ : Nat → Int} {B : Nat} {p1 : Int} (hκ : kOK κ) (hp1 : inR p1) {M : Mem} {Qm : Int → Mem → Prop} (hw : wp_X10_width p1 M Qm) : CI l yX10_width (Cond.code yX10_width cX10_width 2 (some .int)) 6 G e0 α κ B [.ref (α 11 0), .int (Int32.ofInt p1)] M Qm :=
  CI.mk hκ (by decide +kernel) rfl (Nat.le_of_ble_eq_true rfl) (lv := [(0, .ref (α 11 0)), (1, .int (Int32.ofInt p1))]) rfl (fun p e s m args below meth c ls X hR hS hl => t_X10_width X hp1 hw _ _ hR hS ls hl)
theorem cs_X10_width {cc : ByteArray} {nL : Nat} {own : String} {ret : Option FieldType} {idx pc : Nat} {p1 : Int} (X : CX p m c cc nL s args own G B κ meth ret) (hp1 : inR p1) {kc : Nat} {R : Room} {cells slots : Nat} (hRr : RmOK R kc) (hcel : cells ≤ R.cells ∧ slots ≤ R.slots) (hk : 6 + 1 ≤ kc) {M : Mem} {H : Heap} {locs : List Loc} (hR : Rp G e0 α κ B M H) (hS : va_S (fun q => B ≤ q) s.heap H locs) (k1 : Cond.methodLink own idx yX10_width ∈ gw) {ls : Array Slot} (hml : ls.size = nL) {rest : List Value} (hd : decode cc pc = .ok (.invokevirtual idx, 3)) (hrest : (rest.map fun v => v.category).sum ≤ 8) {Q : State → Prop} {Qm : Int → Mem → Prop} (hw : wp_X10_width p1 M Qm) (kk : ∀ (r : Int) (M1 : Mem) (H1 : Heap) (locs1 : List Loc), Qm r M1 → inR r → Rp G e0 α κ B M1 H1 → va_S (fun q => B ≤ q) s.heap H1 locs1 → W p l e R s m args below meth c H1 locs1 cells slots Q (F0 m (pc + 3) ls (.int (Int32.ofInt r) :: rest))) : W p l e R s m args below meth c H locs cells slots Q (F0 m pc ls (.int (Int32.ofInt p1) :: .ref (α 11 0) :: rest)) :=
  sa_callVI 6 (n := 1) (As := [.int (Int32.ofInt p1)]) (rest := rest) X.1 X.2.1 hR hS (m_X10_width X.2.2.1 hp1 hw) k1 kw_1858 kw_1859 kw_104 kw_1860 ⟨rfl, by decide +kernel, by decide +kernel, by decide +kernel⟩ (rm_ok hRr hk (by decide)) (rc_11 X hR (okf X.2.2.1 rfl)) rfl rfl hrest hml hd hcel kk
def wp_X10_over (M : Mem) (Qm : Int → Mem → Prop) : Prop := ∀ M1 : Mem, M1 = up M 11 0 59 0 → wp_X10_laysWidths M1 fun (M3 : Mem) => wp_X10_sumOfWidths M3 fun (x5 : Int) (M4 : Mem) => (inR (x5 - (M4 11 0 24))) ∧ wp_X10_greater 0 (x5 - (M4 11 0 24)) M4 fun (x10 : Int) (M9 : Mem) => Qm x10 M9
set_option maxHeartbeats 4000000 in
set_option maxRecDepth 100000 in
theorem t_X10_over (X : CX p m c cX10_over 1 s args RX10 G B κ meth (some .int)) {M : Mem} {Qm : Int → Mem → Prop} (hw : wp_X10_over M Qm) (H : Heap) (locs : List Loc) (hR : Rp G e0 α κ B M H) (hS : va_S (fun q => B ≤ q) s.heap H locs) (ls : Array Slot) (hl : lv_has ls 1 [(0, .ref (α 11 0))]) : WI p l e 6 s m args below meth c G e0 α κ B Qm H locs 0 ls [] := by
  have hw : ∀ M1 : Mem, M1 = up M 11 0 59 0 → wp_X10_laysWidths M1 fun (M3 : Mem) => wp_X10_sumOfWidths M3 fun (x5 : Int) (M4 : Mem) => (inR (x5 - (M4 11 0 24))) ∧ wp_X10_greater 0 (x5 - (M4 11 0 24)) M4 fun (x10 : Int) (M9 : Mem) => Qm x10 M9 := hw
  refine lv_aload_n X.1.1 X.1.2.1 dX10_over_0 rfl (lv_at hl 0 rfl) ?_
  refine sa_const X.1 dX10_over_1 ?_
  refine pt_11_59 X hR hS (okf X.2.2.1 rfl) (inR_c (a := 0) rfl) kw_1588 dX10_over_2 (fun H locs hR hS => ?_)
  obtain ⟨M1, e2⟩ : ∃ z : Mem, z = up M 11 0 59 0 := ⟨_, rfl⟩
  rw [← e2] at hR
  have hw := hw M1 e2
  refine lv_aload_n X.1.1 X.1.2.1 dX10_over_5 rfl (lv_at hl 0 rfl) ?_
  refine cs_X10_laysWidths X  (kc := 6) rmL_ok rm_c (by decide) hR hS kw_1861 hl.1 dX10_over_6 (Nat.le_of_ble_eq_true rfl) hw (fun M3 H locs hw hR hS => ?_)
  refine sa_const X.1 dX10_over_9 ?_
  refine lv_aload_n X.1.1 X.1.2.1 dX10_over_10 rfl (lv_at hl 0 rfl) ?_
  refine cs_X10_sumOfWidths X  (kc := 6) rmL_ok rm_c (by decide) hR hS kw_1876 hl.1 dX10_over_11 (Nat.le_of_ble_eq_true rfl) hw (fun x5 M4 H locs hw r6 hR hS => ?_)
  refine lv_aload_n X.1.1 X.1.2.1 dX10_over_14 rfl (lv_at hl 0 rfl) ?_
  refine gt_11_24 X hR (okf X.2.2.1 rfl) kw_1553 dX10_over_15 ?_
  have r7 := hR.r 11 0 24
  have c8 := hw.1
  have hw := hw.2
  refine sa_isub X.1 dX10_over_18 ?_
  refine cs_X10_greater X (inR_c (a := 0) rfl) c8 (kc := 6) rmL_ok rm_c (by decide) hR hS kw_1822 hl.1 dX10_over_19 (Nat.le_of_ble_eq_true rfl) hw (fun x10 M9 H locs hw r11 hR hS => ?_)
  exact sa_iret X.1 X.2.2.2.1 X.2.2.2.2 hR hS r11 hw dX10_over_22
theorem m_X10_over {l : Launch} {G : Gx} {e0 : Nat} {α : Ax} {κ : Nat → Int} {B : Nat} (hκ : kOK κ) {M : Mem} {Qm : Int → Mem → Prop} (hw : wp_X10_over M Qm) : CI l yX10_over (Cond.code yX10_over cX10_over 1 (some .int)) 6 G e0 α κ B [.ref (α 11 0)] M Qm :=
  CI.mk hκ (by decide +kernel) rfl (Nat.le_of_ble_eq_true rfl) (lv := [(0, .ref (α 11 0))]) rfl (fun p e s m args below meth c ls X hR hS hl => t_X10_over X hw _ _ hR hS ls hl)
theorem cs_X10_over {cc : ByteArray} {nL : Nat} {own : String} {ret : Option FieldType} {idx pc : Nat} (X : CX p m c cc nL s args own G B κ meth ret) {kc : Nat} {R : Room} {cells slots : Nat} (hRr : RmOK R kc) (hcel : cells ≤ R.cells ∧ slots ≤ R.slots) (hk : 6 + 1 ≤ kc) {M : Mem} {H : Heap} {locs : List Loc} (hR : Rp G e0 α κ B M H) (hS : va_S (fun q => B ≤ q) s.heap H locs) (k1 : Cond.methodLink own idx yX10_over ∈ gw) {ls : Array Slot} (hml : ls.size = nL) {rest : List Value} (hd : decode cc pc = .ok (.invokevirtual idx, 3)) (hrest : (rest.map fun v => v.category).sum ≤ 8) {Q : State → Prop} {Qm : Int → Mem → Prop} (hw : wp_X10_over M Qm) (kk : ∀ (r : Int) (M1 : Mem) (H1 : Heap) (locs1 : List Loc), Qm r M1 → inR r → Rp G e0 α κ B M1 H1 → va_S (fun q => B ≤ q) s.heap H1 locs1 → W p l e R s m args below meth c H1 locs1 cells slots Q (F0 m (pc + 3) ls (.int (Int32.ofInt r) :: rest))) : W p l e R s m args below meth c H locs cells slots Q (F0 m pc ls (.ref (α 11 0) :: rest)) :=
  sa_callVI 6 (n := 0) (As := []) (rest := rest) X.1 X.2.1 hR hS (m_X10_over X.2.2.1 hw) k1 kw_1885 kw_1886 kw_104 kw_1887 ⟨rfl, by decide +kernel, by decide +kernel, by decide +kernel⟩ (rm_ok hRr hk (by decide)) (rc_11 X hR (okf X.2.2.1 rfl)) rfl rfl hrest hml hd hcel kk
def wp_X10_hasPoint_21 (p1 : Int) (Qm : Int → Mem → Prop) (M : Mem) : Prop := Qm 0 M
def wp_X10_hasPoint (p1 : Int) (M : Mem) (Qm : Int → Mem → Prop) : Prop := (0 ≤ p1 ∧ p1 < 100) ∧ (((M 73 0 p1) = 0 → wp_X10_hasPoint_21 p1 Qm M) ∧ (¬ (M 73 0 p1) = 0 → wp_X10_shows p1 M fun (x4 : Int) (M3 : Mem) => (bit (if x4 ≤ 0 then (0 : Int) else 1)) ∧ Qm (if x4 ≤ 0 then (0 : Int) else 1) M3))
set_option maxHeartbeats 4000000 in
set_option maxRecDepth 100000 in
theorem t_X10_hasPoint_21 {p1 : Int} (X : CX p m c cX10_hasPoint 2 s args RX10 G B κ meth (some .boolean)) (hp1 : inR p1) {Qm : Int → Mem → Prop} : ∀ M : Mem, wp_X10_hasPoint_21 p1 Qm M → ∀ (H : Heap) (locs : List Loc), Rp G e0 α κ B M H → va_S (fun q => B ≤ q) s.heap H locs → ∀ (ls : Array Slot), lv_has ls 2 [] → WI p l e 1 s m args below meth c G e0 α κ B Qm H locs 21 ls [] := by
  intro M hw H locs hR hS ls hl
  have hw : Qm 0 M := hw
  refine sa_const X.1 dX10_hasPoint_21 ?_
  exact sa_zret X.1 X.2.2.2.1 X.2.2.2.2 hR hS (Or.inl rfl) hw dX10_hasPoint_22
set_option maxHeartbeats 4000000 in
set_option maxRecDepth 100000 in
theorem t_X10_hasPoint {p1 : Int} (X : CX p m c cX10_hasPoint 2 s args RX10 G B κ meth (some .boolean)) (hp1 : inR p1) {M : Mem} {Qm : Int → Mem → Prop} (hw : wp_X10_hasPoint p1 M Qm) (H : Heap) (locs : List Loc) (hR : Rp G e0 α κ B M H) (hS : va_S (fun q => B ≤ q) s.heap H locs) (ls : Array Slot) (hl : lv_has ls 2 [(0, .ref (α 11 0)), (1, .int (Int32.ofInt p1))]) : WI p l e 1 s m args below meth c G e0 α κ B Qm H locs 0 ls [] := by
  have hw : (0 ≤ p1 ∧ p1 < 100) ∧ (((M 73 0 p1) = 0 → wp_X10_hasPoint_21 p1 Qm M) ∧ (¬ (M 73 0 p1) = 0 → wp_X10_shows p1 M fun (x4 : Int) (M3 : Mem) => (bit (if x4 ≤ 0 then (0 : Int) else 1)) ∧ Qm (if x4 ≤ 0 then (0 : Int) else 1) M3)) := hw
  refine lv_aload_n X.1.1 X.1.2.1 dX10_hasPoint_0 rfl (lv_at hl 0 rfl) ?_
  refine gt_11_20 X hR (okf X.2.2.1 rfl) kw_1549 dX10_hasPoint_1 ?_
  refine lv_iload_n X.1.1 X.1.2.1 dX10_hasPoint_4 rfl (lv_at hl 1 rfl) ?_
  have c1 := hw.1
  have hw := hw.2
  refine ra_73 X hR (okf X.2.2.1 rfl) c1 dX10_hasPoint_5 ?_
  have r2 := hR.r 73 0 p1
  refine sa_if_eq (tgt := 21) X.1 r2 dX10_hasPoint_6 (by decide) (fun hc => ?_) (fun hc => ?_)
  · have hw := hw.1 hc
    exact t_X10_hasPoint_21 X hp1 _ hw _ _ hR hS _ (lv_sub hl [] rfl)
  · have hw := hw.2 hc
    refine lv_aload_n X.1.1 X.1.2.1 dX10_hasPoint_9 rfl (lv_at hl 0 rfl) ?_
    refine lv_iload_n X.1.1 X.1.2.1 dX10_hasPoint_10 rfl (lv_at hl 1 rfl) ?_
    refine cs_X10_shows X hp1 (kc := 1) rmL_ok rm_c (by decide) hR hS kw_1829 hl.1 dX10_hasPoint_11 (Nat.le_of_ble_eq_true rfl) hw (fun x4 M3 H locs hw r5 hR hS => ?_)
    have r6 := inR_ite (c := x4 ≤ 0) (inR_c (a := 0) rfl) (inR_c (a := 1) rfl)
    refine cut_j (A := ∀ v7 : Int, v7 = (if x4 ≤ 0 then (0 : Int) else 1) → WI p l e 1 s m args below meth c G e0 α κ B Qm H locs 22 ls [.int (Int32.ofInt v7)]) (fun J8 => ?_) ?_
    · refine sa_if_le (tgt := 21) X.1 r5 dX10_hasPoint_14 (by decide) (fun hc => ?_) (fun hc => ?_)
      · skip
        refine sa_const X.1 dX10_hasPoint_21 ?_
        exact J8 (0) (if_pos (c := x4 ≤ 0) hc).symm
      · skip
        refine sa_const X.1 dX10_hasPoint_17 ?_
        refine lv_goto (tgt := 22) X.1.1 X.1.2.1 dX10_hasPoint_18 (by decide) ?_
        exact J8 (1) (if_neg (c := x4 ≤ 0) (Int.not_le.mpr hc)).symm
    intro v7 hv7
    subst hv7
    have c9 := hw.1
    have hw := hw.2
    exact sa_zret X.1 X.2.2.2.1 X.2.2.2.2 hR hS c9 hw dX10_hasPoint_22
theorem m_X10_hasPoint {l : Launch} {G : Gx} {e0 : Nat} {α : Ax} {κ : Nat → Int} {B : Nat} {p1 : Int} (hκ : kOK κ) (hp1 : inR p1) {M : Mem} {Qm : Int → Mem → Prop} (hw : wp_X10_hasPoint p1 M Qm) : CI l yX10_hasPoint (Cond.code yX10_hasPoint cX10_hasPoint 2 (some .boolean)) 1 G e0 α κ B [.ref (α 11 0), .int (Int32.ofInt p1)] M Qm :=
  CI.mk hκ (by decide +kernel) rfl (Nat.le_of_ble_eq_true rfl) (lv := [(0, .ref (α 11 0)), (1, .int (Int32.ofInt p1))]) rfl (fun p e s m args below meth c ls X hR hS hl => t_X10_hasPoint X hp1 hw _ _ hR hS ls hl)
theorem cs_X10_hasPoint {cc : ByteArray} {nL : Nat} {own : String} {ret : Option FieldType} {idx pc : Nat} {p1 : Int} (X : CX p m c cc nL s args own G B κ meth ret) (hp1 : inR p1) {kc : Nat} {R : Room} {cells slots : Nat} (hRr : RmOK R kc) (hcel : cells ≤ R.cells ∧ slots ≤ R.slots) (hk : 1 + 1 ≤ kc) {M : Mem} {H : Heap} {locs : List Loc} (hR : Rp G e0 α κ B M H) (hS : va_S (fun q => B ≤ q) s.heap H locs) (k1 : Cond.methodLink own idx yX10_hasPoint ∈ gw) {ls : Array Slot} (hml : ls.size = nL) {rest : List Value} (hd : decode cc pc = .ok (.invokevirtual idx, 3)) (hrest : (rest.map fun v => v.category).sum ≤ 8) {Q : State → Prop} {Qm : Int → Mem → Prop} (hw : wp_X10_hasPoint p1 M Qm) (kk : ∀ (r : Int) (M1 : Mem) (H1 : Heap) (locs1 : List Loc), Qm r M1 → inR r → Rp G e0 α κ B M1 H1 → va_S (fun q => B ≤ q) s.heap H1 locs1 → W p l e R s m args below meth c H1 locs1 cells slots Q (F0 m (pc + 3) ls (.int (Int32.ofInt r) :: rest))) : W p l e R s m args below meth c H locs cells slots Q (F0 m pc ls (.int (Int32.ofInt p1) :: .ref (α 11 0) :: rest)) :=
  sa_callVI 1 (n := 1) (As := [.int (Int32.ofInt p1)]) (rest := rest) X.1 X.2.1 hR hS (m_X10_hasPoint X.2.2.1 hp1 hw) k1 kw_1894 kw_65 kw_104 kw_1895 ⟨rfl, by decide +kernel, by decide +kernel, by decide +kernel⟩ (rm_ok hRr hk (by decide)) (rc_11 X hR (okf X.2.2.1 rfl)) rfl rfl hrest hml hd hcel kk
def wp_X10_point_24 (p1 : Int) (Qm : Int → Mem → Prop) (z0 : Int) (M : Mem) : Prop := wp_X10_goes z0 0 1 M fun (x5 : Int) (M4 : Mem) => ((¬ x5 = 0 → wp_X10_laysWidths M4 fun (M7 : Mem) => (0 ≤ p1 ∧ p1 < 100) ∧ (0 ≤ (M7 66 0 p1) ∧ (M7 66 0 p1) < 6) ∧ (0 ≤ p1 ∧ p1 < 100) ∧ (0 ≤ (M7 66 0 p1) ∧ (M7 66 0 p1) < 6) ∧ (inR ((M7 84 0 (M7 66 0 p1)) - (M7 81 0 (M7 66 0 p1)))) ∧ Qm ((M7 84 0 (M7 66 0 p1)) - (M7 81 0 (M7 66 0 p1))) M7) ∧ (x5 = 0 → Qm 0 M4))
def wp_X10_point (p1 : Int) (M : Mem) (Qm : Int → Mem → Prop) : Prop := wp_X10_isCell p1 M fun (x2 : Int) (M1 : Mem) => ((x2 = 0 → wp_X10_point_24 p1 Qm x2 M1) ∧ (¬ x2 = 0 → wp_X10_hasPoint p1 M1 fun (x18 : Int) (M17 : Mem) => wp_X10_goes x2 (if x18 = 0 then (0 : Int) else 1) 1 M17 fun (x24 : Int) (M23 : Mem) => ((¬ x24 = 0 → wp_X10_laysWidths M23 fun (M26 : Mem) => (0 ≤ p1 ∧ p1 < 100) ∧ (0 ≤ (M26 66 0 p1) ∧ (M26 66 0 p1) < 6) ∧ (0 ≤ p1 ∧ p1 < 100) ∧ (0 ≤ (M26 66 0 p1) ∧ (M26 66 0 p1) < 6) ∧ (inR ((M26 84 0 (M26 66 0 p1)) - (M26 81 0 (M26 66 0 p1)))) ∧ Qm ((M26 84 0 (M26 66 0 p1)) - (M26 81 0 (M26 66 0 p1))) M26) ∧ (x24 = 0 → Qm 0 M23))))
set_option maxHeartbeats 4000000 in
set_option maxRecDepth 100000 in
theorem t_X10_point_24 {p1 : Int} (X : CX p m c cX10_point 3 s args RX10 G B κ meth (some .int)) (hp1 : inR p1) {Qm : Int → Mem → Prop} : ∀ z0 : Int, ∀ M : Mem, wp_X10_point_24 p1 Qm z0 M → inR z0 → ∀ (H : Heap) (locs : List Loc), Rp G e0 α κ B M H → va_S (fun q => B ≤ q) s.heap H locs → ∀ (ls : Array Slot), lv_has ls 3 [(0, .ref (α 11 0)), (1, .int (Int32.ofInt p1))] → WI p l e 6 s m args below meth c G e0 α κ B Qm H locs 24 ls [.int (Int32.ofInt z0), .ref (α 11 0)] := by
  intro z0 M hw hz0 H locs hR hS ls hl
  have hw : wp_X10_goes z0 0 1 M fun (x5 : Int) (M4 : Mem) => ((¬ x5 = 0 → wp_X10_laysWidths M4 fun (M7 : Mem) => (0 ≤ p1 ∧ p1 < 100) ∧ (0 ≤ (M7 66 0 p1) ∧ (M7 66 0 p1) < 6) ∧ (0 ≤ p1 ∧ p1 < 100) ∧ (0 ≤ (M7 66 0 p1) ∧ (M7 66 0 p1) < 6) ∧ (inR ((M7 84 0 (M7 66 0 p1)) - (M7 81 0 (M7 66 0 p1)))) ∧ Qm ((M7 84 0 (M7 66 0 p1)) - (M7 81 0 (M7 66 0 p1))) M7) ∧ (x5 = 0 → Qm 0 M4)) := hw
  refine sa_const X.1 dX10_point_24 ?_
  refine sa_const X.1 dX10_point_25 ?_
  refine cs_X10_goes X hz0 (inR_c (a := 0) rfl) (inR_c (a := 1) rfl) (kc := 6) rmL_ok rm_c (by decide) hR hS kw_1721 hl.1 dX10_point_26 (Nat.le_of_ble_eq_true rfl) hw (fun x5 M4 H locs hw r6 hR hS => ?_)
  refine sa_if_ne (tgt := 34) X.1 r6 dX10_point_29 (by decide) (fun hc => ?_) (fun hc => ?_)
  · have hw := hw.1 hc
    refine lv_aload_n X.1.1 X.1.2.1 dX10_point_34 rfl (lv_at hl 0 rfl) ?_
    refine cs_X10_laysWidths X  (kc := 6) rmL_ok rm_c (by decide) hR hS kw_1861 hl.1 dX10_point_35 (Nat.le_of_ble_eq_true rfl) hw (fun M7 H locs hw hR hS => ?_)
    refine lv_aload_n X.1.1 X.1.2.1 dX10_point_38 rfl (lv_at hl 0 rfl) ?_
    refine gt_11_35 X hR (okf X.2.2.1 rfl) kw_1564 dX10_point_39 ?_
    refine lv_aload_n X.1.1 X.1.2.1 dX10_point_42 rfl (lv_at hl 0 rfl) ?_
    refine gt_11_12 X hR (okf X.2.2.1 rfl) kw_1541 dX10_point_43 ?_
    refine lv_iload_n X.1.1 X.1.2.1 dX10_point_46 rfl (lv_at hl 1 rfl) ?_
    have c8 := hw.1
    have hw := hw.2
    refine ra_66 X hR (okf X.2.2.1 rfl) c8 dX10_point_47 ?_
    have r9 := hR.r 66 0 p1
    have c10 := hw.1
    have hw := hw.2
    refine ra_84 X hR (okf X.2.2.1 rfl) c10 dX10_point_48 ?_
    have r11 := hR.r 84 0 (M7 66 0 p1)
    refine lv_aload_n X.1.1 X.1.2.1 dX10_point_49 rfl (lv_at hl 0 rfl) ?_
    refine gt_11_32 X hR (okf X.2.2.1 rfl) kw_1561 dX10_point_50 ?_
    refine lv_aload_n X.1.1 X.1.2.1 dX10_point_53 rfl (lv_at hl 0 rfl) ?_
    refine gt_11_12 X hR (okf X.2.2.1 rfl) kw_1541 dX10_point_54 ?_
    refine lv_iload_n X.1.1 X.1.2.1 dX10_point_57 rfl (lv_at hl 1 rfl) ?_
    have c12 := hw.1
    have hw := hw.2
    refine ra_66 X hR (okf X.2.2.1 rfl) c12 dX10_point_58 ?_
    have r13 := hR.r 66 0 p1
    have c14 := hw.1
    have hw := hw.2
    refine ra_81 X hR (okf X.2.2.1 rfl) c14 dX10_point_59 ?_
    have r15 := hR.r 81 0 (M7 66 0 p1)
    have c16 := hw.1
    have hw := hw.2
    refine sa_isub X.1 dX10_point_60 ?_
    exact sa_iret X.1 X.2.2.2.1 X.2.2.2.2 hR hS c16 hw dX10_point_61
  · have hw := hw.2 hc
    refine sa_const X.1 dX10_point_32 ?_
    exact sa_iret X.1 X.2.2.2.1 X.2.2.2.2 hR hS (inR_c (a := 0) rfl) hw dX10_point_33
set_option maxHeartbeats 4000000 in
set_option maxRecDepth 100000 in
theorem t_X10_point {p1 : Int} (X : CX p m c cX10_point 3 s args RX10 G B κ meth (some .int)) (hp1 : inR p1) {M : Mem} {Qm : Int → Mem → Prop} (hw : wp_X10_point p1 M Qm) (H : Heap) (locs : List Loc) (hR : Rp G e0 α κ B M H) (hS : va_S (fun q => B ≤ q) s.heap H locs) (ls : Array Slot) (hl : lv_has ls 3 [(0, .ref (α 11 0)), (1, .int (Int32.ofInt p1))]) : WI p l e 6 s m args below meth c G e0 α κ B Qm H locs 0 ls [] := by
  have hw : wp_X10_isCell p1 M fun (x2 : Int) (M1 : Mem) => ((x2 = 0 → wp_X10_point_24 p1 Qm x2 M1) ∧ (¬ x2 = 0 → wp_X10_hasPoint p1 M1 fun (x18 : Int) (M17 : Mem) => wp_X10_goes x2 (if x18 = 0 then (0 : Int) else 1) 1 M17 fun (x24 : Int) (M23 : Mem) => ((¬ x24 = 0 → wp_X10_laysWidths M23 fun (M26 : Mem) => (0 ≤ p1 ∧ p1 < 100) ∧ (0 ≤ (M26 66 0 p1) ∧ (M26 66 0 p1) < 6) ∧ (0 ≤ p1 ∧ p1 < 100) ∧ (0 ≤ (M26 66 0 p1) ∧ (M26 66 0 p1) < 6) ∧ (inR ((M26 84 0 (M26 66 0 p1)) - (M26 81 0 (M26 66 0 p1)))) ∧ Qm ((M26 84 0 (M26 66 0 p1)) - (M26 81 0 (M26 66 0 p1))) M26) ∧ (x24 = 0 → Qm 0 M23)))) := hw
  refine lv_aload_n X.1.1 X.1.2.1 dX10_point_0 rfl (lv_at hl 0 rfl) ?_
  refine lv_iload_n X.1.1 X.1.2.1 dX10_point_1 rfl (lv_at hl 1 rfl) ?_
  refine cs_X10_isCell X hp1 (kc := 6) rmL_ok rm_c (by decide) hR hS kw_1753 hl.1 dX10_point_2 (Nat.le_of_ble_eq_true rfl) hw (fun x2 M1 H locs hw r3 hR hS => ?_)
  refine lv_istore_n (lv' := [(2, .int (Int32.ofInt x2)), (0, .ref (α 11 0)), (1, .int (Int32.ofInt p1))]) X.1.1 X.1.2.1 dX10_point_5 rfl hl (by decide) rfl (fun ls hl => ?_)
  refine lv_aload_n X.1.1 X.1.2.1 dX10_point_6 rfl (lv_at hl 1 rfl) ?_
  refine lv_iload_n X.1.1 X.1.2.1 dX10_point_7 rfl (lv_at hl 0 rfl) ?_
  refine lv_iload_n X.1.1 X.1.2.1 dX10_point_8 rfl (lv_at hl 0 rfl) ?_
  refine sa_if_eq (tgt := 24) X.1 r3 dX10_point_9 (by decide) (fun hc => ?_) (fun hc => ?_)
  · have hw := hw.1 hc
    exact t_X10_point_24 X hp1 _ _ hw r3 _ _ hR hS _ (lv_sub hl [1, 2] rfl)
  · have hw := hw.2 hc
    refine lv_aload_n X.1.1 X.1.2.1 dX10_point_12 rfl (lv_at hl 1 rfl) ?_
    refine lv_iload_n X.1.1 X.1.2.1 dX10_point_13 rfl (lv_at hl 2 rfl) ?_
    refine cs_X10_hasPoint X hp1 (kc := 6) rmL_ok rm_c (by decide) hR hS kw_1892 hl.1 dX10_point_14 (Nat.le_of_ble_eq_true rfl) hw (fun x18 M17 H locs hw r19 hR hS => ?_)
    have r20 := inR_ite (c := x18 = 0) (inR_c (a := 0) rfl) (inR_c (a := 1) rfl)
    refine cut_j (A := ∀ v21 : Int, v21 = (if x18 = 0 then (0 : Int) else 1) → WI p l e 6 s m args below meth c G e0 α κ B Qm H locs 25 ls [.int (Int32.ofInt v21), .int (Int32.ofInt x2), .ref (α 11 0)]) (fun J22 => ?_) ?_
    · refine sa_if_eq (tgt := 24) X.1 r19 dX10_point_17 (by decide) (fun hc => ?_) (fun hc => ?_)
      · skip
        refine sa_const X.1 dX10_point_24 ?_
        exact J22 (0) (if_pos (c := x18 = 0) hc).symm
      · skip
        refine sa_const X.1 dX10_point_20 ?_
        refine lv_goto (tgt := 25) X.1.1 X.1.2.1 dX10_point_21 (by decide) ?_
        exact J22 (1) (if_neg (c := x18 = 0) hc).symm
    intro v21 hv21
    subst hv21
    refine sa_const X.1 dX10_point_25 ?_
    refine cs_X10_goes X r3 r20 (inR_c (a := 1) rfl) (kc := 6) rmL_ok rm_c (by decide) hR hS kw_1721 hl.1 dX10_point_26 (Nat.le_of_ble_eq_true rfl) hw (fun x24 M23 H locs hw r25 hR hS => ?_)
    refine sa_if_ne (tgt := 34) X.1 r25 dX10_point_29 (by decide) (fun hc => ?_) (fun hc => ?_)
    · have hw := hw.1 hc
      refine lv_aload_n X.1.1 X.1.2.1 dX10_point_34 rfl (lv_at hl 1 rfl) ?_
      refine cs_X10_laysWidths X  (kc := 6) rmL_ok rm_c (by decide) hR hS kw_1861 hl.1 dX10_point_35 (Nat.le_of_ble_eq_true rfl) hw (fun M26 H locs hw hR hS => ?_)
      refine lv_aload_n X.1.1 X.1.2.1 dX10_point_38 rfl (lv_at hl 1 rfl) ?_
      refine gt_11_35 X hR (okf X.2.2.1 rfl) kw_1564 dX10_point_39 ?_
      refine lv_aload_n X.1.1 X.1.2.1 dX10_point_42 rfl (lv_at hl 1 rfl) ?_
      refine gt_11_12 X hR (okf X.2.2.1 rfl) kw_1541 dX10_point_43 ?_
      refine lv_iload_n X.1.1 X.1.2.1 dX10_point_46 rfl (lv_at hl 2 rfl) ?_
      have c27 := hw.1
      have hw := hw.2
      refine ra_66 X hR (okf X.2.2.1 rfl) c27 dX10_point_47 ?_
      have r28 := hR.r 66 0 p1
      have c29 := hw.1
      have hw := hw.2
      refine ra_84 X hR (okf X.2.2.1 rfl) c29 dX10_point_48 ?_
      have r30 := hR.r 84 0 (M26 66 0 p1)
      refine lv_aload_n X.1.1 X.1.2.1 dX10_point_49 rfl (lv_at hl 1 rfl) ?_
      refine gt_11_32 X hR (okf X.2.2.1 rfl) kw_1561 dX10_point_50 ?_
      refine lv_aload_n X.1.1 X.1.2.1 dX10_point_53 rfl (lv_at hl 1 rfl) ?_
      refine gt_11_12 X hR (okf X.2.2.1 rfl) kw_1541 dX10_point_54 ?_
      refine lv_iload_n X.1.1 X.1.2.1 dX10_point_57 rfl (lv_at hl 2 rfl) ?_
      have c31 := hw.1
      have hw := hw.2
      refine ra_66 X hR (okf X.2.2.1 rfl) c31 dX10_point_58 ?_
      have r32 := hR.r 66 0 p1
      have c33 := hw.1
      have hw := hw.2
      refine ra_81 X hR (okf X.2.2.1 rfl) c33 dX10_point_59 ?_
      have r34 := hR.r 81 0 (M26 66 0 p1)
      have c35 := hw.1
      have hw := hw.2
      refine sa_isub X.1 dX10_point_60 ?_
      exact sa_iret X.1 X.2.2.2.1 X.2.2.2.2 hR hS c35 hw dX10_point_61
    · have hw := hw.2 hc
      refine sa_const X.1 dX10_point_32 ?_
      exact sa_iret X.1 X.2.2.2.1 X.2.2.2.2 hR hS (inR_c (a := 0) rfl) hw dX10_point_33
theorem m_X10_point {l : Launch} {G : Gx} {e0 : Nat} {α : Ax} {κ : Nat → Int} {B : Nat} {p1 : Int} (hκ : kOK κ) (hp1 : inR p1) {M : Mem} {Qm : Int → Mem → Prop} (hw : wp_X10_point p1 M Qm) : CI l yX10_point (Cond.code yX10_point cX10_point 3 (some .int)) 6 G e0 α κ B [.ref (α 11 0), .int (Int32.ofInt p1)] M Qm :=
  CI.mk hκ (by decide +kernel) rfl (Nat.le_of_ble_eq_true rfl) (lv := [(0, .ref (α 11 0)), (1, .int (Int32.ofInt p1))]) rfl (fun p e s m args below meth c ls X hR hS hl => t_X10_point X hp1 hw _ _ hR hS ls hl)
theorem cs_X10_point {cc : ByteArray} {nL : Nat} {own : String} {ret : Option FieldType} {idx pc : Nat} {p1 : Int} (X : CX p m c cc nL s args own G B κ meth ret) (hp1 : inR p1) {kc : Nat} {R : Room} {cells slots : Nat} (hRr : RmOK R kc) (hcel : cells ≤ R.cells ∧ slots ≤ R.slots) (hk : 6 + 1 ≤ kc) {M : Mem} {H : Heap} {locs : List Loc} (hR : Rp G e0 α κ B M H) (hS : va_S (fun q => B ≤ q) s.heap H locs) (k1 : Cond.methodLink own idx yX10_point ∈ gw) {ls : Array Slot} (hml : ls.size = nL) {rest : List Value} (hd : decode cc pc = .ok (.invokevirtual idx, 3)) (hrest : (rest.map fun v => v.category).sum ≤ 8) {Q : State → Prop} {Qm : Int → Mem → Prop} (hw : wp_X10_point p1 M Qm) (kk : ∀ (r : Int) (M1 : Mem) (H1 : Heap) (locs1 : List Loc), Qm r M1 → inR r → Rp G e0 α κ B M1 H1 → va_S (fun q => B ≤ q) s.heap H1 locs1 → W p l e R s m args below meth c H1 locs1 cells slots Q (F0 m (pc + 3) ls (.int (Int32.ofInt r) :: rest))) : W p l e R s m args below meth c H locs cells slots Q (F0 m pc ls (.int (Int32.ofInt p1) :: .ref (α 11 0) :: rest)) :=
  sa_callVI 6 (n := 1) (As := [.int (Int32.ofInt p1)]) (rest := rest) X.1 X.2.1 hR hS (m_X10_point X.2.2.1 hp1 hw) k1 kw_1889 kw_1890 kw_104 kw_1891 ⟨rfl, by decide +kernel, by decide +kernel, by decide +kernel⟩ (rm_ok hRr hk (by decide)) (rc_11 X hR (okf X.2.2.1 rfl)) rfl rfl hrest hml hd hcel kk
def wp_X10_begins_28 (p1 : Int) (Qm : Int → Mem → Prop) (z0 : Int) (M : Mem) : Prop := Qm z0 M
def wp_X10_begins (p1 : Int) (M : Mem) (Qm : Int → Mem → Prop) : Prop := wp_X10_point p1 M fun (x2 : Int) (M1 : Mem) => ((¬ (M1 11 0 59) = 0 → wp_X10_begins_28 p1 Qm 0 M1) ∧ ((M1 11 0 59) = 0 → (0 ≤ p1 ∧ p1 < 100) ∧ wp_X10_leftOf (M1 74 0 p1) M1 fun (x8 : Int) (M7 : Mem) => (inR (x2 - x8)) ∧ wp_X10_begins_28 p1 Qm (x2 - x8) M7))
set_option maxHeartbeats 4000000 in
set_option maxRecDepth 100000 in
theorem t_X10_begins_28 {p1 : Int} (X : CX p m c cX10_begins 3 s args RX10 G B κ meth (some .int)) (hp1 : inR p1) {Qm : Int → Mem → Prop} : ∀ z0 : Int, ∀ M : Mem, wp_X10_begins_28 p1 Qm z0 M → inR z0 → ∀ (H : Heap) (locs : List Loc), Rp G e0 α κ B M H → va_S (fun q => B ≤ q) s.heap H locs → ∀ (ls : Array Slot), lv_has ls 3 [] → WI p l e 7 s m args below meth c G e0 α κ B Qm H locs 28 ls [.int (Int32.ofInt z0)] := by
  intro z0 M hw hz0 H locs hR hS ls hl
  have hw : Qm z0 M := hw
  exact sa_iret X.1 X.2.2.2.1 X.2.2.2.2 hR hS hz0 hw dX10_begins_28
set_option maxHeartbeats 4000000 in
set_option maxRecDepth 100000 in
theorem t_X10_begins {p1 : Int} (X : CX p m c cX10_begins 3 s args RX10 G B κ meth (some .int)) (hp1 : inR p1) {M : Mem} {Qm : Int → Mem → Prop} (hw : wp_X10_begins p1 M Qm) (H : Heap) (locs : List Loc) (hR : Rp G e0 α κ B M H) (hS : va_S (fun q => B ≤ q) s.heap H locs) (ls : Array Slot) (hl : lv_has ls 3 [(0, .ref (α 11 0)), (1, .int (Int32.ofInt p1))]) : WI p l e 7 s m args below meth c G e0 α κ B Qm H locs 0 ls [] := by
  have hw : wp_X10_point p1 M fun (x2 : Int) (M1 : Mem) => ((¬ (M1 11 0 59) = 0 → wp_X10_begins_28 p1 Qm 0 M1) ∧ ((M1 11 0 59) = 0 → (0 ≤ p1 ∧ p1 < 100) ∧ wp_X10_leftOf (M1 74 0 p1) M1 fun (x8 : Int) (M7 : Mem) => (inR (x2 - x8)) ∧ wp_X10_begins_28 p1 Qm (x2 - x8) M7)) := hw
  refine lv_aload_n X.1.1 X.1.2.1 dX10_begins_0 rfl (lv_at hl 0 rfl) ?_
  refine lv_iload_n X.1.1 X.1.2.1 dX10_begins_1 rfl (lv_at hl 1 rfl) ?_
  refine cs_X10_point X hp1 (kc := 7) rmL_ok rm_c (by decide) hR hS kw_1900 hl.1 dX10_begins_2 (Nat.le_of_ble_eq_true rfl) hw (fun x2 M1 H locs hw r3 hR hS => ?_)
  refine lv_istore_n (lv' := [(2, .int (Int32.ofInt x2)), (0, .ref (α 11 0)), (1, .int (Int32.ofInt p1))]) X.1.1 X.1.2.1 dX10_begins_5 rfl hl (by decide) rfl (fun ls hl => ?_)
  refine lv_aload_n X.1.1 X.1.2.1 dX10_begins_6 rfl (lv_at hl 1 rfl) ?_
  refine gt_11_59 X hR (okf X.2.2.1 rfl) kw_1588 dX10_begins_7 ?_
  have r4 := hR.r 11 0 59
  refine sa_if_ne (tgt := 27) X.1 r4 dX10_begins_10 (by decide) (fun hc => ?_) (fun hc => ?_)
  · have hw := hw.1 hc
    refine sa_const X.1 dX10_begins_27 ?_
    exact t_X10_begins_28 X hp1 _ _ hw (inR_c (a := 0) rfl) _ _ hR hS _ (lv_sub hl [] rfl)
  · have hw := hw.2 hc
    refine lv_iload_n X.1.1 X.1.2.1 dX10_begins_13 rfl (lv_at hl 0 rfl) ?_
    refine lv_aload_n X.1.1 X.1.2.1 dX10_begins_14 rfl (lv_at hl 1 rfl) ?_
    refine gt_11_21 X hR (okf X.2.2.1 rfl) kw_1550 dX10_begins_15 ?_
    refine lv_iload_n X.1.1 X.1.2.1 dX10_begins_18 rfl (lv_at hl 2 rfl) ?_
    have c5 := hw.1
    have hw := hw.2
    refine ra_74 X hR (okf X.2.2.1 rfl) c5 dX10_begins_19 ?_
    have r6 := hR.r 74 0 p1
    refine cs_X10_leftOf X r6 (kc := 7) rmL_ok rm_c (by decide) hR hS kw_1819 hl.1 dX10_begins_20 (Nat.le_of_ble_eq_true rfl) hw (fun x8 M7 H locs hw r9 hR hS => ?_)
    have c10 := hw.1
    have hw := hw.2
    refine sa_isub X.1 dX10_begins_23 ?_
    refine lv_goto (tgt := 28) X.1.1 X.1.2.1 dX10_begins_24 (by decide) ?_
    exact t_X10_begins_28 X hp1 _ _ hw c10 _ _ hR hS _ (lv_sub hl [] rfl)
theorem m_X10_begins {l : Launch} {G : Gx} {e0 : Nat} {α : Ax} {κ : Nat → Int} {B : Nat} {p1 : Int} (hκ : kOK κ) (hp1 : inR p1) {M : Mem} {Qm : Int → Mem → Prop} (hw : wp_X10_begins p1 M Qm) : CI l yX10_begins (Cond.code yX10_begins cX10_begins 3 (some .int)) 7 G e0 α κ B [.ref (α 11 0), .int (Int32.ofInt p1)] M Qm :=
  CI.mk hκ (by decide +kernel) rfl (Nat.le_of_ble_eq_true rfl) (lv := [(0, .ref (α 11 0)), (1, .int (Int32.ofInt p1))]) rfl (fun p e s m args below meth c ls X hR hS hl => t_X10_begins X hp1 hw _ _ hR hS ls hl)
theorem cs_X10_begins {cc : ByteArray} {nL : Nat} {own : String} {ret : Option FieldType} {idx pc : Nat} {p1 : Int} (X : CX p m c cc nL s args own G B κ meth ret) (hp1 : inR p1) {kc : Nat} {R : Room} {cells slots : Nat} (hRr : RmOK R kc) (hcel : cells ≤ R.cells ∧ slots ≤ R.slots) (hk : 7 + 1 ≤ kc) {M : Mem} {H : Heap} {locs : List Loc} (hR : Rp G e0 α κ B M H) (hS : va_S (fun q => B ≤ q) s.heap H locs) (k1 : Cond.methodLink own idx yX10_begins ∈ gw) {ls : Array Slot} (hml : ls.size = nL) {rest : List Value} (hd : decode cc pc = .ok (.invokevirtual idx, 3)) (hrest : (rest.map fun v => v.category).sum ≤ 8) {Q : State → Prop} {Qm : Int → Mem → Prop} (hw : wp_X10_begins p1 M Qm) (kk : ∀ (r : Int) (M1 : Mem) (H1 : Heap) (locs1 : List Loc), Qm r M1 → inR r → Rp G e0 α κ B M1 H1 → va_S (fun q => B ≤ q) s.heap H1 locs1 → W p l e R s m args below meth c H1 locs1 cells slots Q (F0 m (pc + 3) ls (.int (Int32.ofInt r) :: rest))) : W p l e R s m args below meth c H locs cells slots Q (F0 m pc ls (.int (Int32.ofInt p1) :: .ref (α 11 0) :: rest)) :=
  sa_callVI 7 (n := 1) (As := [.int (Int32.ofInt p1)]) (rest := rest) X.1 X.2.1 hR hS (m_X10_begins X.2.2.1 hp1 hw) k1 kw_1897 kw_1898 kw_104 kw_1899 ⟨rfl, by decide +kernel, by decide +kernel, by decide +kernel⟩ (rm_ok hRr hk (by decide)) (rc_11 X hR (okf X.2.2.1 rfl)) rfl rfl hrest hml hd hcel kk
def wp_X10_wordLines_166 (p1 : Int) (p2 : Int) (Qm : Int → Mem → Prop) (K11 : Int → Int → Int → Mem → Prop) (K45 : Int → Int → Int → Int → Int → Mem → Prop) (y3 : Int) (y4 : Int) (y5 : Int) (y6 : Int) (y7 : Int) (M : Mem) : Prop := K45 y3 y4 y5 y6 y7 M
def wp_X10_wordLines_145 (p1 : Int) (p2 : Int) (Qm : Int → Mem → Prop) (K11 : Int → Int → Int → Mem → Prop) (K45 : Int → Int → Int → Int → Int → Mem → Prop) (y3 : Int) (y4 : Int) (y5 : Int) (y6 : Int) (y7 : Int) (M : Mem) : Prop := ((y4 ≤ 0 → (inR (y3 + 1)) ∧ wp_X10_wordLines_166 p1 p2 Qm K11 K45 (y3 + 1) y6 y5 0 y7 M) ∧ (0 < y4 → wp_X10_wordLines_166 p1 p2 Qm K11 K45 y3 0 y5 y6 y7 M))
def wp_X10_wordLines_45 (p1 : Int) (p2 : Int) (Qm : Int → Mem → Prop) (K11 : Int → Int → Int → Mem → Prop) : Nat → Int → Int → Int → Int → Int → Mem → Prop
  | 0 => fun _ _ _ _ _ _ => False
  | n + 1 => fun y3 y4 y5 y6 y7 M => ((y6 ≤ 0 → (inR (y5 + 1)) ∧ K11 y3 y4 (y5 + 1) M) ∧ (0 < y6 → (¬ y4 = 0 → (inR (y4 + 1)) ∧ True) ∧ (inR (if ¬ y4 = 0 then (y4 + 1) else 0)) ∧ (inR ((if ¬ y4 = 0 then (y4 + 1) else 0) + y6)) ∧ ((p2 < ((if ¬ y4 = 0 then (y4 + 1) else 0) + y6) → ((y7 ≤ 0 → wp_X10_wordLines_145 p1 p2 Qm K11 (wp_X10_wordLines_45 p1 p2 Qm K11 n) y3 y4 y5 y6 y7 M) ∧ (0 < y7 → (inR ((if ¬ y4 = 0 then (y4 + 1) else 0) + y7)) ∧ (inR (((if ¬ y4 = 0 then (y4 + 1) else 0) + y7) + 1)) ∧ ((p2 < (((if ¬ y4 = 0 then (y4 + 1) else 0) + y7) + 1) → wp_X10_wordLines_145 p1 p2 Qm K11 (wp_X10_wordLines_45 p1 p2 Qm K11 n) y3 y4 y5 y6 y7 M) ∧ ((((if ¬ y4 = 0 then (y4 + 1) else 0) + y7) + 1) ≤ p2 → (inR (y3 + (if ¬ y4 = 0 then (0 : Int) else 1))) ∧ (inR (y6 - y7)) ∧ wp_X10_wordLines_166 p1 p2 Qm K11 (wp_X10_wordLines_45 p1 p2 Qm K11 n) (y3 + (if ¬ y4 = 0 then (0 : Int) else 1)) 0 y5 (y6 - y7) 0 M))))) ∧ (((if ¬ y4 = 0 then (y4 + 1) else 0) + y6) ≤ p2 → (inR (y3 + (if ¬ y4 = 0 then (0 : Int) else 1))) ∧ (inR ((if ¬ y4 = 0 then (y4 + 1) else 0) + y6)) ∧ wp_X10_wordLines_166 p1 p2 Qm K11 (wp_X10_wordLines_45 p1 p2 Qm K11 n) (y3 + (if ¬ y4 = 0 then (0 : Int) else 1)) ((if ¬ y4 = 0 then (y4 + 1) else 0) + y6) y5 0 y7 M))))
def wp_X10_wordLines_11 (p1 : Int) (p2 : Int) (Qm : Int → Mem → Prop) : Nat → Int → Int → Int → Mem → Prop
  | 0 => fun _ _ _ _ => False
  | n + 1 => fun y3 y4 y5 M => (inR (12 * p1)) ∧ (0 ≤ p1 ∧ p1 < 100) ∧ (inR ((12 * p1) + (M 72 0 p1))) ∧ ((((12 * p1) + (M 72 0 p1)) ≤ y5 → Qm y3 M) ∧ (y5 < ((12 * p1) + (M 72 0 p1)) → (0 ≤ y5 ∧ y5 < 1200) ∧ (0 ≤ y5 ∧ y5 < 1200) ∧ (∃ n30 : Nat, wp_X10_wordLines_45 p1 p2 Qm (wp_X10_wordLines_11 p1 p2 Qm n) n30 y3 y4 y5 (M 70 0 y5) (M 71 0 y5) M)))
def wp_X10_wordLines (p1 : Int) (p2 : Int) (M : Mem) (Qm : Int → Mem → Prop) : Prop := (inR (12 * p1)) ∧ (∃ n31 : Nat, wp_X10_wordLines_11 p1 p2 Qm n31 0 0 (12 * p1) M)
set_option maxHeartbeats 4000000 in
set_option maxRecDepth 100000 in
theorem t_X10_wordLines_166 {p1 : Int} {p2 : Int} (X : CX p m c cX10_wordLines 9 s args RX10 G B κ meth (some .int)) (hp1 : inR p1) (hp2 : inR p2) {Qm : Int → Mem → Prop} {K11 : Int → Int → Int → Mem → Prop} {K45 : Int → Int → Int → Int → Int → Mem → Prop} (hK11 : ∀ y3 : Int, ∀ y4 : Int, ∀ y5 : Int, ∀ M : Mem, K11 y3 y4 y5 M → inR y3 → inR y4 → inR y5 → ∀ (H : Heap) (locs : List Loc), Rp G e0 α κ B M H → va_S (fun q => B ≤ q) s.heap H locs → ∀ (ls : Array Slot), lv_has ls 9 [(0, .ref (α 11 0)), (1, .int (Int32.ofInt p1)), (2, .int (Int32.ofInt p2)), (3, .int (Int32.ofInt y3)), (4, .int (Int32.ofInt y4)), (5, .int (Int32.ofInt y5))] → WI p l e 0 s m args below meth c G e0 α κ B Qm H locs 11 ls []) (hK45 : ∀ y3 : Int, ∀ y4 : Int, ∀ y5 : Int, ∀ y6 : Int, ∀ y7 : Int, ∀ M : Mem, K45 y3 y4 y5 y6 y7 M → inR y3 → inR y4 → inR y5 → inR y6 → inR y7 → ∀ (H : Heap) (locs : List Loc), Rp G e0 α κ B M H → va_S (fun q => B ≤ q) s.heap H locs → ∀ (ls : Array Slot), lv_has ls 9 [(0, .ref (α 11 0)), (1, .int (Int32.ofInt p1)), (2, .int (Int32.ofInt p2)), (3, .int (Int32.ofInt y3)), (4, .int (Int32.ofInt y4)), (5, .int (Int32.ofInt y5)), (6, .int (Int32.ofInt y6)), (7, .int (Int32.ofInt y7))] → WI p l e 0 s m args below meth c G e0 α κ B Qm H locs 45 ls []) : ∀ y3 : Int, ∀ y4 : Int, ∀ y5 : Int, ∀ y6 : Int, ∀ y7 : Int, ∀ M : Mem, wp_X10_wordLines_166 p1 p2 Qm K11 K45 y3 y4 y5 y6 y7 M → inR y3 → inR y4 → inR y5 → inR y6 → inR y7 → ∀ (H : Heap) (locs : List Loc), Rp G e0 α κ B M H → va_S (fun q => B ≤ q) s.heap H locs → ∀ (ls : Array Slot), lv_has ls 9 [(0, .ref (α 11 0)), (1, .int (Int32.ofInt p1)), (2, .int (Int32.ofInt p2)), (3, .int (Int32.ofInt y3)), (4, .int (Int32.ofInt y4)), (5, .int (Int32.ofInt y5)), (6, .int (Int32.ofInt y6)), (7, .int (Int32.ofInt y7))] → WI p l e 0 s m args below meth c G e0 α κ B Qm H locs 166 ls [] := by
  intro y3 y4 y5 y6 y7 M hw hy3 hy4 hy5 hy6 hy7 H locs hR hS ls hl
  have hw : K45 y3 y4 y5 y6 y7 M := hw
  refine lv_goto (tgt := 45) X.1.1 X.1.2.1 dX10_wordLines_166 (by decide) ?_
  exact hK45 _ _ _ _ _ _ hw hy3 hy4 hy5 hy6 hy7 _ _ hR hS _ (lv_sub hl [0, 1, 2, 3, 4, 5, 6, 7] rfl)
set_option maxHeartbeats 4000000 in
set_option maxRecDepth 100000 in
theorem t_X10_wordLines_145 {p1 : Int} {p2 : Int} (X : CX p m c cX10_wordLines 9 s args RX10 G B κ meth (some .int)) (hp1 : inR p1) (hp2 : inR p2) {Qm : Int → Mem → Prop} {K11 : Int → Int → Int → Mem → Prop} {K45 : Int → Int → Int → Int → Int → Mem → Prop} (hK11 : ∀ y3 : Int, ∀ y4 : Int, ∀ y5 : Int, ∀ M : Mem, K11 y3 y4 y5 M → inR y3 → inR y4 → inR y5 → ∀ (H : Heap) (locs : List Loc), Rp G e0 α κ B M H → va_S (fun q => B ≤ q) s.heap H locs → ∀ (ls : Array Slot), lv_has ls 9 [(0, .ref (α 11 0)), (1, .int (Int32.ofInt p1)), (2, .int (Int32.ofInt p2)), (3, .int (Int32.ofInt y3)), (4, .int (Int32.ofInt y4)), (5, .int (Int32.ofInt y5))] → WI p l e 0 s m args below meth c G e0 α κ B Qm H locs 11 ls []) (hK45 : ∀ y3 : Int, ∀ y4 : Int, ∀ y5 : Int, ∀ y6 : Int, ∀ y7 : Int, ∀ M : Mem, K45 y3 y4 y5 y6 y7 M → inR y3 → inR y4 → inR y5 → inR y6 → inR y7 → ∀ (H : Heap) (locs : List Loc), Rp G e0 α κ B M H → va_S (fun q => B ≤ q) s.heap H locs → ∀ (ls : Array Slot), lv_has ls 9 [(0, .ref (α 11 0)), (1, .int (Int32.ofInt p1)), (2, .int (Int32.ofInt p2)), (3, .int (Int32.ofInt y3)), (4, .int (Int32.ofInt y4)), (5, .int (Int32.ofInt y5)), (6, .int (Int32.ofInt y6)), (7, .int (Int32.ofInt y7))] → WI p l e 0 s m args below meth c G e0 α κ B Qm H locs 45 ls []) : ∀ y3 : Int, ∀ y4 : Int, ∀ y5 : Int, ∀ y6 : Int, ∀ y7 : Int, ∀ M : Mem, wp_X10_wordLines_145 p1 p2 Qm K11 K45 y3 y4 y5 y6 y7 M → inR y3 → inR y4 → inR y5 → inR y6 → inR y7 → ∀ (H : Heap) (locs : List Loc), Rp G e0 α κ B M H → va_S (fun q => B ≤ q) s.heap H locs → ∀ (ls : Array Slot), lv_has ls 9 [(0, .ref (α 11 0)), (1, .int (Int32.ofInt p1)), (2, .int (Int32.ofInt p2)), (3, .int (Int32.ofInt y3)), (4, .int (Int32.ofInt y4)), (5, .int (Int32.ofInt y5)), (6, .int (Int32.ofInt y6)), (7, .int (Int32.ofInt y7))] → WI p l e 0 s m args below meth c G e0 α κ B Qm H locs 145 ls [] := by
  intro y3 y4 y5 y6 y7 M hw hy3 hy4 hy5 hy6 hy7 H locs hR hS ls hl
  have hw : ((y4 ≤ 0 → (inR (y3 + 1)) ∧ wp_X10_wordLines_166 p1 p2 Qm K11 K45 (y3 + 1) y6 y5 0 y7 M) ∧ (0 < y4 → wp_X10_wordLines_166 p1 p2 Qm K11 K45 y3 0 y5 y6 y7 M)) := hw
  refine lv_iload X.1.1 X.1.2.1 dX10_wordLines_145 (lv_at hl 4 rfl) ?_
  refine sa_if_le (tgt := 156) X.1 hy4 dX10_wordLines_147 (by decide) (fun hc => ?_) (fun hc => ?_)
  · have hw := hw.1 hc
    have c17 := hw.1
    have hw := hw.2
    refine lv_iinc (v := Int32.ofInt (y3 + 1)) (lv' := [(3, .int (Int32.ofInt (y3 + 1))), (0, .ref (α 11 0)), (1, .int (Int32.ofInt p1)), (2, .int (Int32.ofInt p2)), (4, .int (Int32.ofInt y4)), (5, .int (Int32.ofInt y5)), (6, .int (Int32.ofInt y6)), (7, .int (Int32.ofInt y7))]) X.1.1 X.1.2.1 dX10_wordLines_156 hl (k := 3) rfl (Int32.ofInt_add _ _).symm (by decide) rfl (fun ls hl => ?_)
    refine lv_iload X.1.1 X.1.2.1 dX10_wordLines_159 (lv_at hl 6 rfl) ?_
    refine lv_istore (lv' := [(4, .int (Int32.ofInt y6)), (3, .int (Int32.ofInt (y3 + 1))), (0, .ref (α 11 0)), (1, .int (Int32.ofInt p1)), (2, .int (Int32.ofInt p2)), (5, .int (Int32.ofInt y5)), (6, .int (Int32.ofInt y6)), (7, .int (Int32.ofInt y7))]) X.1.1 X.1.2.1 dX10_wordLines_161 hl (by decide) rfl (fun ls hl => ?_)
    refine sa_const X.1 dX10_wordLines_163 ?_
    refine lv_istore (lv' := [(6, .int (Int32.ofInt 0)), (4, .int (Int32.ofInt y6)), (3, .int (Int32.ofInt (y3 + 1))), (0, .ref (α 11 0)), (1, .int (Int32.ofInt p1)), (2, .int (Int32.ofInt p2)), (5, .int (Int32.ofInt y5)), (7, .int (Int32.ofInt y7))]) X.1.1 X.1.2.1 dX10_wordLines_164 hl (by decide) rfl (fun ls hl => ?_)
    exact t_X10_wordLines_166 X hp1 hp2 hK11 hK45 _ _ _ _ _ _ hw c17 hy6 hy5 (inR_c (a := 0) rfl) hy7 _ _ hR hS _ (lv_sub hl [3, 4, 5, 2, 1, 6, 0, 7] rfl)
  · have hw := hw.2 hc
    refine sa_const X.1 dX10_wordLines_150 ?_
    refine lv_istore (lv' := [(4, .int (Int32.ofInt 0)), (0, .ref (α 11 0)), (1, .int (Int32.ofInt p1)), (2, .int (Int32.ofInt p2)), (3, .int (Int32.ofInt y3)), (5, .int (Int32.ofInt y5)), (6, .int (Int32.ofInt y6)), (7, .int (Int32.ofInt y7))]) X.1.1 X.1.2.1 dX10_wordLines_151 hl (by decide) rfl (fun ls hl => ?_)
    refine lv_goto (tgt := 166) X.1.1 X.1.2.1 dX10_wordLines_153 (by decide) ?_
    exact t_X10_wordLines_166 X hp1 hp2 hK11 hK45 _ _ _ _ _ _ hw hy3 (inR_c (a := 0) rfl) hy5 hy6 hy7 _ _ hR hS _ (lv_sub hl [1, 2, 3, 4, 0, 5, 6, 7] rfl)
set_option maxHeartbeats 4000000 in
set_option maxRecDepth 100000 in
theorem t_X10_wordLines_45 {p1 : Int} {p2 : Int} (X : CX p m c cX10_wordLines 9 s args RX10 G B κ meth (some .int)) (hp1 : inR p1) (hp2 : inR p2) {Qm : Int → Mem → Prop} {K11 : Int → Int → Int → Mem → Prop} (hK11 : ∀ y3 : Int, ∀ y4 : Int, ∀ y5 : Int, ∀ M : Mem, K11 y3 y4 y5 M → inR y3 → inR y4 → inR y5 → ∀ (H : Heap) (locs : List Loc), Rp G e0 α κ B M H → va_S (fun q => B ≤ q) s.heap H locs → ∀ (ls : Array Slot), lv_has ls 9 [(0, .ref (α 11 0)), (1, .int (Int32.ofInt p1)), (2, .int (Int32.ofInt p2)), (3, .int (Int32.ofInt y3)), (4, .int (Int32.ofInt y4)), (5, .int (Int32.ofInt y5))] → WI p l e 0 s m args below meth c G e0 α κ B Qm H locs 11 ls []) : ∀ n : Nat, ∀ y3 : Int, ∀ y4 : Int, ∀ y5 : Int, ∀ y6 : Int, ∀ y7 : Int, ∀ M : Mem, wp_X10_wordLines_45 p1 p2 Qm K11 n y3 y4 y5 y6 y7 M → inR y3 → inR y4 → inR y5 → inR y6 → inR y7 → ∀ (H : Heap) (locs : List Loc), Rp G e0 α κ B M H → va_S (fun q => B ≤ q) s.heap H locs → ∀ (ls : Array Slot), lv_has ls 9 [(0, .ref (α 11 0)), (1, .int (Int32.ofInt p1)), (2, .int (Int32.ofInt p2)), (3, .int (Int32.ofInt y3)), (4, .int (Int32.ofInt y4)), (5, .int (Int32.ofInt y5)), (6, .int (Int32.ofInt y6)), (7, .int (Int32.ofInt y7))] → WI p l e 0 s m args below meth c G e0 α κ B Qm H locs 45 ls [] := by
  intro n
  induction n with
  | zero =>
    intro y3 y4 y5 y6 y7 M hw hy3 hy4 hy5 hy6 hy7 H locs hR hS ls hl
    exact hw.elim
  | succ n ih =>
    intro y3 y4 y5 y6 y7 M hw hy3 hy4 hy5 hy6 hy7 H locs hR hS ls hl
    have hw : ((y6 ≤ 0 → (inR (y5 + 1)) ∧ K11 y3 y4 (y5 + 1) M) ∧ (0 < y6 → (¬ y4 = 0 → (inR (y4 + 1)) ∧ True) ∧ (inR (if ¬ y4 = 0 then (y4 + 1) else 0)) ∧ (inR ((if ¬ y4 = 0 then (y4 + 1) else 0) + y6)) ∧ ((p2 < ((if ¬ y4 = 0 then (y4 + 1) else 0) + y6) → ((y7 ≤ 0 → wp_X10_wordLines_145 p1 p2 Qm K11 (wp_X10_wordLines_45 p1 p2 Qm K11 n) y3 y4 y5 y6 y7 M) ∧ (0 < y7 → (inR ((if ¬ y4 = 0 then (y4 + 1) else 0) + y7)) ∧ (inR (((if ¬ y4 = 0 then (y4 + 1) else 0) + y7) + 1)) ∧ ((p2 < (((if ¬ y4 = 0 then (y4 + 1) else 0) + y7) + 1) → wp_X10_wordLines_145 p1 p2 Qm K11 (wp_X10_wordLines_45 p1 p2 Qm K11 n) y3 y4 y5 y6 y7 M) ∧ ((((if ¬ y4 = 0 then (y4 + 1) else 0) + y7) + 1) ≤ p2 → (inR (y3 + (if ¬ y4 = 0 then (0 : Int) else 1))) ∧ (inR (y6 - y7)) ∧ wp_X10_wordLines_166 p1 p2 Qm K11 (wp_X10_wordLines_45 p1 p2 Qm K11 n) (y3 + (if ¬ y4 = 0 then (0 : Int) else 1)) 0 y5 (y6 - y7) 0 M))))) ∧ (((if ¬ y4 = 0 then (y4 + 1) else 0) + y6) ≤ p2 → (inR (y3 + (if ¬ y4 = 0 then (0 : Int) else 1))) ∧ (inR ((if ¬ y4 = 0 then (y4 + 1) else 0) + y6)) ∧ wp_X10_wordLines_166 p1 p2 Qm K11 (wp_X10_wordLines_45 p1 p2 Qm K11 n) (y3 + (if ¬ y4 = 0 then (0 : Int) else 1)) ((if ¬ y4 = 0 then (y4 + 1) else 0) + y6) y5 0 y7 M)))) := hw
    refine lv_iload X.1.1 X.1.2.1 dX10_wordLines_45 (lv_at hl 6 rfl) ?_
    refine sa_if_le (tgt := 169) X.1 hy6 dX10_wordLines_47 (by decide) (fun hc => ?_) (fun hc => ?_)
    · have hw := hw.1 hc
      have c10 := hw.1
      have hw := hw.2
      refine lv_iinc (v := Int32.ofInt (y5 + 1)) (lv' := [(5, .int (Int32.ofInt (y5 + 1))), (0, .ref (α 11 0)), (1, .int (Int32.ofInt p1)), (2, .int (Int32.ofInt p2)), (3, .int (Int32.ofInt y3)), (4, .int (Int32.ofInt y4)), (6, .int (Int32.ofInt y6)), (7, .int (Int32.ofInt y7))]) X.1.1 X.1.2.1 dX10_wordLines_169 hl (k := 5) rfl (Int32.ofInt_add _ _).symm (by decide) rfl (fun ls hl => ?_)
      refine lv_goto (tgt := 11) X.1.1 X.1.2.1 dX10_wordLines_172 (by decide) ?_
      exact hK11 _ _ _ _ hw hy3 hy4 c10 _ _ hR hS _ (lv_sub hl [1, 2, 3, 4, 5, 0] rfl)
    · have hw := hw.2 hc
      refine lv_iload X.1.1 X.1.2.1 dX10_wordLines_50 (lv_at hl 4 rfl) ?_
      have s12 := hw.1
      have hw := hw.2
      have c13 := hw.1
      have hw := hw.2
      refine cut_j (A := ∀ v14 : Int, v14 = (if ¬ y4 = 0 then (y4 + 1) else 0) → WI p l e 0 s m args below meth c G e0 α κ B Qm H locs 63 ls [.int (Int32.ofInt v14)]) (fun J15 => ?_) ?_
      · refine sa_if_ne (tgt := 59) X.1 hy4 dX10_wordLines_52 (by decide) (fun hc => ?_) (fun hc => ?_)
        · have hw := s12 hc
          refine lv_iload X.1.1 X.1.2.1 dX10_wordLines_59 (lv_at hl 4 rfl) ?_
          refine sa_const X.1 dX10_wordLines_61 ?_
          have c11 := hw.1
          have hw := hw.2
          refine sa_iadd X.1 dX10_wordLines_62 ?_
          exact J15 ((y4 + 1)) (if_pos (c := ¬ y4 = 0) hc).symm
        · skip
          refine sa_const X.1 dX10_wordLines_55 ?_
          refine lv_goto (tgt := 63) X.1.1 X.1.2.1 dX10_wordLines_56 (by decide) ?_
          exact J15 (0) (if_neg (c := ¬ y4 = 0) (fun z => z hc)).symm
      intro v14 hv14
      subst hv14
      refine lv_istore (lv' := [(8, .int (Int32.ofInt (if ¬ y4 = 0 then (y4 + 1) else 0))), (0, .ref (α 11 0)), (1, .int (Int32.ofInt p1)), (2, .int (Int32.ofInt p2)), (3, .int (Int32.ofInt y3)), (4, .int (Int32.ofInt y4)), (5, .int (Int32.ofInt y5)), (6, .int (Int32.ofInt y6)), (7, .int (Int32.ofInt y7))]) X.1.1 X.1.2.1 dX10_wordLines_63 hl (by decide) rfl (fun ls hl => ?_)
      refine lv_iload X.1.1 X.1.2.1 dX10_wordLines_65 (lv_at hl 0 rfl) ?_
      refine lv_iload X.1.1 X.1.2.1 dX10_wordLines_67 (lv_at hl 7 rfl) ?_
      have c16 := hw.1
      have hw := hw.2
      refine sa_iadd X.1 dX10_wordLines_69 ?_
      refine lv_iload_n X.1.1 X.1.2.1 dX10_wordLines_70 rfl (lv_at hl 3 rfl) ?_
      refine sa_icmp_gt (tgt := 100) X.1 c16 hp2 dX10_wordLines_71 (by decide) (fun hc => ?_) (fun hc => ?_)
      · have hw := hw.1 hc
        refine lv_iload X.1.1 X.1.2.1 dX10_wordLines_100 (lv_at hl 8 rfl) ?_
        refine sa_if_le (tgt := 145) X.1 hy7 dX10_wordLines_102 (by decide) (fun hc => ?_) (fun hc => ?_)
        · have hw := hw.1 hc
          exact t_X10_wordLines_145 X hp1 hp2 hK11 ih _ _ _ _ _ _ hw hy3 hy4 hy5 hy6 hy7 _ _ hR hS _ (lv_sub hl [1, 2, 3, 4, 5, 6, 7, 8] rfl)
        · have hw := hw.2 hc
          refine lv_iload X.1.1 X.1.2.1 dX10_wordLines_105 (lv_at hl 0 rfl) ?_
          refine lv_iload X.1.1 X.1.2.1 dX10_wordLines_107 (lv_at hl 8 rfl) ?_
          have c18 := hw.1
          have hw := hw.2
          refine sa_iadd X.1 dX10_wordLines_109 ?_
          refine sa_const X.1 dX10_wordLines_110 ?_
          have c19 := hw.1
          have hw := hw.2
          refine sa_iadd X.1 dX10_wordLines_111 ?_
          refine lv_iload_n X.1.1 X.1.2.1 dX10_wordLines_112 rfl (lv_at hl 3 rfl) ?_
          refine sa_icmp_gt (tgt := 145) X.1 c19 hp2 dX10_wordLines_113 (by decide) (fun hc => ?_) (fun hc => ?_)
          · have hw := hw.1 hc
            exact t_X10_wordLines_145 X hp1 hp2 hK11 ih _ _ _ _ _ _ hw hy3 hy4 hy5 hy6 hy7 _ _ hR hS _ (lv_sub hl [1, 2, 3, 4, 5, 6, 7, 8] rfl)
          · have hw := hw.2 hc
            refine lv_iload_n X.1.1 X.1.2.1 dX10_wordLines_116 rfl (lv_at hl 4 rfl) ?_
            refine lv_iload X.1.1 X.1.2.1 dX10_wordLines_117 (lv_at hl 5 rfl) ?_
            have r20 := inR_ite (c := ¬ y4 = 0) (inR_c (a := 0) rfl) (inR_c (a := 1) rfl)
            refine cut_j (A := ∀ v21 : Int, v21 = (if ¬ y4 = 0 then (0 : Int) else 1) → WI p l e 0 s m args below meth c G e0 α κ B Qm H locs 127 ls [.int (Int32.ofInt v21), .int (Int32.ofInt y3)]) (fun J22 => ?_) ?_
            · refine sa_if_ne (tgt := 126) X.1 hy4 dX10_wordLines_119 (by decide) (fun hc => ?_) (fun hc => ?_)
              · skip
                refine sa_const X.1 dX10_wordLines_126 ?_
                exact J22 (0) (if_pos (c := ¬ y4 = 0) hc).symm
              · skip
                refine sa_const X.1 dX10_wordLines_122 ?_
                refine lv_goto (tgt := 127) X.1.1 X.1.2.1 dX10_wordLines_123 (by decide) ?_
                exact J22 (1) (if_neg (c := ¬ y4 = 0) (fun z => z hc)).symm
            intro v21 hv21
            subst hv21
            have c23 := hw.1
            have hw := hw.2
            refine sa_iadd X.1 dX10_wordLines_127 ?_
            refine lv_istore_n (lv' := [(3, .int (Int32.ofInt (y3 + (if ¬ y4 = 0 then (0 : Int) else 1)))), (8, .int (Int32.ofInt (if ¬ y4 = 0 then (y4 + 1) else 0))), (0, .ref (α 11 0)), (1, .int (Int32.ofInt p1)), (2, .int (Int32.ofInt p2)), (4, .int (Int32.ofInt y4)), (5, .int (Int32.ofInt y5)), (6, .int (Int32.ofInt y6)), (7, .int (Int32.ofInt y7))]) X.1.1 X.1.2.1 dX10_wordLines_128 rfl hl (by decide) rfl (fun ls hl => ?_)
            refine sa_const X.1 dX10_wordLines_129 ?_
            refine lv_istore (lv' := [(4, .int (Int32.ofInt 0)), (3, .int (Int32.ofInt (y3 + (if ¬ y4 = 0 then (0 : Int) else 1)))), (8, .int (Int32.ofInt (if ¬ y4 = 0 then (y4 + 1) else 0))), (0, .ref (α 11 0)), (1, .int (Int32.ofInt p1)), (2, .int (Int32.ofInt p2)), (5, .int (Int32.ofInt y5)), (6, .int (Int32.ofInt y6)), (7, .int (Int32.ofInt y7))]) X.1.1 X.1.2.1 dX10_wordLines_130 hl (by decide) rfl (fun ls hl => ?_)
            refine lv_iload X.1.1 X.1.2.1 dX10_wordLines_132 (lv_at hl 7 rfl) ?_
            refine lv_iload X.1.1 X.1.2.1 dX10_wordLines_134 (lv_at hl 8 rfl) ?_
            have c24 := hw.1
            have hw := hw.2
            refine sa_isub X.1 dX10_wordLines_136 ?_
            refine lv_istore (lv' := [(6, .int (Int32.ofInt (y6 - y7))), (4, .int (Int32.ofInt 0)), (3, .int (Int32.ofInt (y3 + (if ¬ y4 = 0 then (0 : Int) else 1)))), (8, .int (Int32.ofInt (if ¬ y4 = 0 then (y4 + 1) else 0))), (0, .ref (α 11 0)), (1, .int (Int32.ofInt p1)), (2, .int (Int32.ofInt p2)), (5, .int (Int32.ofInt y5)), (7, .int (Int32.ofInt y7))]) X.1.1 X.1.2.1 dX10_wordLines_137 hl (by decide) rfl (fun ls hl => ?_)
            refine sa_const X.1 dX10_wordLines_139 ?_
            refine lv_istore (lv' := [(7, .int (Int32.ofInt 0)), (6, .int (Int32.ofInt (y6 - y7))), (4, .int (Int32.ofInt 0)), (3, .int (Int32.ofInt (y3 + (if ¬ y4 = 0 then (0 : Int) else 1)))), (8, .int (Int32.ofInt (if ¬ y4 = 0 then (y4 + 1) else 0))), (0, .ref (α 11 0)), (1, .int (Int32.ofInt p1)), (2, .int (Int32.ofInt p2)), (5, .int (Int32.ofInt y5))]) X.1.1 X.1.2.1 dX10_wordLines_140 hl (by decide) rfl (fun ls hl => ?_)
            refine lv_goto (tgt := 166) X.1.1 X.1.2.1 dX10_wordLines_142 (by decide) ?_
            exact t_X10_wordLines_166 X hp1 hp2 hK11 ih _ _ _ _ _ _ hw c23 (inR_c (a := 0) rfl) hy5 c24 (inR_c (a := 0) rfl) _ _ hR hS _ (lv_sub hl [5, 6, 7, 3, 2, 8, 1, 0] rfl)
      · have hw := hw.2 hc
        refine lv_iload_n X.1.1 X.1.2.1 dX10_wordLines_74 rfl (lv_at hl 4 rfl) ?_
        refine lv_iload X.1.1 X.1.2.1 dX10_wordLines_75 (lv_at hl 5 rfl) ?_
        have r25 := inR_ite (c := ¬ y4 = 0) (inR_c (a := 0) rfl) (inR_c (a := 1) rfl)
        refine cut_j (A := ∀ v26 : Int, v26 = (if ¬ y4 = 0 then (0 : Int) else 1) → WI p l e 0 s m args below meth c G e0 α κ B Qm H locs 85 ls [.int (Int32.ofInt v26), .int (Int32.ofInt y3)]) (fun J27 => ?_) ?_
        · refine sa_if_ne (tgt := 84) X.1 hy4 dX10_wordLines_77 (by decide) (fun hc => ?_) (fun hc => ?_)
          · skip
            refine sa_const X.1 dX10_wordLines_84 ?_
            exact J27 (0) (if_pos (c := ¬ y4 = 0) hc).symm
          · skip
            refine sa_const X.1 dX10_wordLines_80 ?_
            refine lv_goto (tgt := 85) X.1.1 X.1.2.1 dX10_wordLines_81 (by decide) ?_
            exact J27 (1) (if_neg (c := ¬ y4 = 0) (fun z => z hc)).symm
        intro v26 hv26
        subst hv26
        have c28 := hw.1
        have hw := hw.2
        refine sa_iadd X.1 dX10_wordLines_85 ?_
        refine lv_istore_n (lv' := [(3, .int (Int32.ofInt (y3 + (if ¬ y4 = 0 then (0 : Int) else 1)))), (8, .int (Int32.ofInt (if ¬ y4 = 0 then (y4 + 1) else 0))), (0, .ref (α 11 0)), (1, .int (Int32.ofInt p1)), (2, .int (Int32.ofInt p2)), (4, .int (Int32.ofInt y4)), (5, .int (Int32.ofInt y5)), (6, .int (Int32.ofInt y6)), (7, .int (Int32.ofInt y7))]) X.1.1 X.1.2.1 dX10_wordLines_86 rfl hl (by decide) rfl (fun ls hl => ?_)
        refine lv_iload X.1.1 X.1.2.1 dX10_wordLines_87 (lv_at hl 1 rfl) ?_
        refine lv_iload X.1.1 X.1.2.1 dX10_wordLines_89 (lv_at hl 7 rfl) ?_
        have c29 := hw.1
        have hw := hw.2
        refine sa_iadd X.1 dX10_wordLines_91 ?_
        refine lv_istore (lv' := [(4, .int (Int32.ofInt ((if ¬ y4 = 0 then (y4 + 1) else 0) + y6))), (3, .int (Int32.ofInt (y3 + (if ¬ y4 = 0 then (0 : Int) else 1)))), (8, .int (Int32.ofInt (if ¬ y4 = 0 then (y4 + 1) else 0))), (0, .ref (α 11 0)), (1, .int (Int32.ofInt p1)), (2, .int (Int32.ofInt p2)), (5, .int (Int32.ofInt y5)), (6, .int (Int32.ofInt y6)), (7, .int (Int32.ofInt y7))]) X.1.1 X.1.2.1 dX10_wordLines_92 hl (by decide) rfl (fun ls hl => ?_)
        refine sa_const X.1 dX10_wordLines_94 ?_
        refine lv_istore (lv' := [(6, .int (Int32.ofInt 0)), (4, .int (Int32.ofInt ((if ¬ y4 = 0 then (y4 + 1) else 0) + y6))), (3, .int (Int32.ofInt (y3 + (if ¬ y4 = 0 then (0 : Int) else 1)))), (8, .int (Int32.ofInt (if ¬ y4 = 0 then (y4 + 1) else 0))), (0, .ref (α 11 0)), (1, .int (Int32.ofInt p1)), (2, .int (Int32.ofInt p2)), (5, .int (Int32.ofInt y5)), (7, .int (Int32.ofInt y7))]) X.1.1 X.1.2.1 dX10_wordLines_95 hl (by decide) rfl (fun ls hl => ?_)
        refine lv_goto (tgt := 166) X.1.1 X.1.2.1 dX10_wordLines_97 (by decide) ?_
        exact t_X10_wordLines_166 X hp1 hp2 hK11 ih _ _ _ _ _ _ hw c28 c29 hy5 (inR_c (a := 0) rfl) hy7 _ _ hR hS _ (lv_sub hl [4, 5, 6, 2, 1, 7, 0, 8] rfl)
set_option maxHeartbeats 4000000 in
set_option maxRecDepth 100000 in
theorem t_X10_wordLines_11 {p1 : Int} {p2 : Int} (X : CX p m c cX10_wordLines 9 s args RX10 G B κ meth (some .int)) (hp1 : inR p1) (hp2 : inR p2) {Qm : Int → Mem → Prop} : ∀ n : Nat, ∀ y3 : Int, ∀ y4 : Int, ∀ y5 : Int, ∀ M : Mem, wp_X10_wordLines_11 p1 p2 Qm n y3 y4 y5 M → inR y3 → inR y4 → inR y5 → ∀ (H : Heap) (locs : List Loc), Rp G e0 α κ B M H → va_S (fun q => B ≤ q) s.heap H locs → ∀ (ls : Array Slot), lv_has ls 9 [(0, .ref (α 11 0)), (1, .int (Int32.ofInt p1)), (2, .int (Int32.ofInt p2)), (3, .int (Int32.ofInt y3)), (4, .int (Int32.ofInt y4)), (5, .int (Int32.ofInt y5))] → WI p l e 0 s m args below meth c G e0 α κ B Qm H locs 11 ls [] := by
  intro n
  induction n with
  | zero =>
    intro y3 y4 y5 M hw hy3 hy4 hy5 H locs hR hS ls hl
    exact hw.elim
  | succ n ih =>
    intro y3 y4 y5 M hw hy3 hy4 hy5 H locs hR hS ls hl
    have hw : (inR (12 * p1)) ∧ (0 ≤ p1 ∧ p1 < 100) ∧ (inR ((12 * p1) + (M 72 0 p1))) ∧ ((((12 * p1) + (M 72 0 p1)) ≤ y5 → Qm y3 M) ∧ (y5 < ((12 * p1) + (M 72 0 p1)) → (0 ≤ y5 ∧ y5 < 1200) ∧ (0 ≤ y5 ∧ y5 < 1200) ∧ (∃ n30 : Nat, wp_X10_wordLines_45 p1 p2 Qm (wp_X10_wordLines_11 p1 p2 Qm n) n30 y3 y4 y5 (M 70 0 y5) (M 71 0 y5) M))) := hw
    refine lv_iload X.1.1 X.1.2.1 dX10_wordLines_11 (lv_at hl 5 rfl) ?_
    refine sa_bipush X.1 dX10_wordLines_13 (by decide) ?_
    refine lv_iload_n X.1.1 X.1.2.1 dX10_wordLines_15 rfl (lv_at hl 1 rfl) ?_
    have c2 := hw.1
    have hw := hw.2
    refine sa_imul X.1 dX10_wordLines_16 ?_
    refine lv_aload_n X.1.1 X.1.2.1 dX10_wordLines_17 rfl (lv_at hl 0 rfl) ?_
    refine gt_11_19 X hR (okf X.2.2.1 rfl) kw_1548 dX10_wordLines_18 ?_
    refine lv_iload_n X.1.1 X.1.2.1 dX10_wordLines_21 rfl (lv_at hl 1 rfl) ?_
    have c3 := hw.1
    have hw := hw.2
    refine ra_72 X hR (okf X.2.2.1 rfl) c3 dX10_wordLines_22 ?_
    have r4 := hR.r 72 0 p1
    have c5 := hw.1
    have hw := hw.2
    refine sa_iadd X.1 dX10_wordLines_23 ?_
    refine sa_icmp_ge (tgt := 175) X.1 hy5 c5 dX10_wordLines_24 (by decide) (fun hc => ?_) (fun hc => ?_)
    · have hw := hw.1 hc
      refine lv_iload_n X.1.1 X.1.2.1 dX10_wordLines_175 rfl (lv_at hl 3 rfl) ?_
      exact sa_iret X.1 X.2.2.2.1 X.2.2.2.2 hR hS hy3 hw dX10_wordLines_176
    · have hw := hw.2 hc
      refine lv_aload_n X.1.1 X.1.2.1 dX10_wordLines_27 rfl (lv_at hl 0 rfl) ?_
      refine gt_11_17 X hR (okf X.2.2.1 rfl) kw_1546 dX10_wordLines_28 ?_
      refine lv_iload X.1.1 X.1.2.1 dX10_wordLines_31 (lv_at hl 5 rfl) ?_
      have c6 := hw.1
      have hw := hw.2
      refine ra_70 X hR (okf X.2.2.1 rfl) c6 dX10_wordLines_33 ?_
      have r7 := hR.r 70 0 y5
      refine lv_istore (lv' := [(6, .int (Int32.ofInt (M 70 0 y5))), (0, .ref (α 11 0)), (1, .int (Int32.ofInt p1)), (2, .int (Int32.ofInt p2)), (3, .int (Int32.ofInt y3)), (4, .int (Int32.ofInt y4)), (5, .int (Int32.ofInt y5))]) X.1.1 X.1.2.1 dX10_wordLines_34 hl (by decide) rfl (fun ls hl => ?_)
      refine lv_aload_n X.1.1 X.1.2.1 dX10_wordLines_36 rfl (lv_at hl 1 rfl) ?_
      refine gt_11_18 X hR (okf X.2.2.1 rfl) kw_1547 dX10_wordLines_37 ?_
      refine lv_iload X.1.1 X.1.2.1 dX10_wordLines_40 (lv_at hl 6 rfl) ?_
      have c8 := hw.1
      have hw := hw.2
      refine ra_71 X hR (okf X.2.2.1 rfl) c8 dX10_wordLines_42 ?_
      have r9 := hR.r 71 0 y5
      refine lv_istore (lv' := [(7, .int (Int32.ofInt (M 71 0 y5))), (6, .int (Int32.ofInt (M 70 0 y5))), (0, .ref (α 11 0)), (1, .int (Int32.ofInt p1)), (2, .int (Int32.ofInt p2)), (3, .int (Int32.ofInt y3)), (4, .int (Int32.ofInt y4)), (5, .int (Int32.ofInt y5))]) X.1.1 X.1.2.1 dX10_wordLines_43 hl (by decide) rfl (fun ls hl => ?_)
      obtain ⟨n30, hw⟩ := hw
      exact t_X10_wordLines_45 X hp1 hp2 ih n30 _ _ _ _ _ _ hw hy3 hy4 hy5 r7 r9 _ _ hR hS _ (lv_sub hl [2, 3, 4, 5, 6, 7, 1, 0] rfl)
set_option maxHeartbeats 4000000 in
set_option maxRecDepth 100000 in
theorem t_X10_wordLines {p1 : Int} {p2 : Int} (X : CX p m c cX10_wordLines 9 s args RX10 G B κ meth (some .int)) (hp1 : inR p1) (hp2 : inR p2) {M : Mem} {Qm : Int → Mem → Prop} (hw : wp_X10_wordLines p1 p2 M Qm) (H : Heap) (locs : List Loc) (hR : Rp G e0 α κ B M H) (hS : va_S (fun q => B ≤ q) s.heap H locs) (ls : Array Slot) (hl : lv_has ls 9 [(0, .ref (α 11 0)), (1, .int (Int32.ofInt p1)), (2, .int (Int32.ofInt p2))]) : WI p l e 0 s m args below meth c G e0 α κ B Qm H locs 0 ls [] := by
  have hw : (inR (12 * p1)) ∧ (∃ n31 : Nat, wp_X10_wordLines_11 p1 p2 Qm n31 0 0 (12 * p1) M) := hw
  refine sa_const X.1 dX10_wordLines_0 ?_
  refine lv_istore_n (lv' := [(3, .int (Int32.ofInt 0)), (0, .ref (α 11 0)), (1, .int (Int32.ofInt p1)), (2, .int (Int32.ofInt p2))]) X.1.1 X.1.2.1 dX10_wordLines_1 rfl hl (by decide) rfl (fun ls hl => ?_)
  refine sa_const X.1 dX10_wordLines_2 ?_
  refine lv_istore (lv' := [(4, .int (Int32.ofInt 0)), (3, .int (Int32.ofInt 0)), (0, .ref (α 11 0)), (1, .int (Int32.ofInt p1)), (2, .int (Int32.ofInt p2))]) X.1.1 X.1.2.1 dX10_wordLines_3 hl (by decide) rfl (fun ls hl => ?_)
  refine sa_bipush X.1 dX10_wordLines_5 (by decide) ?_
  refine lv_iload_n X.1.1 X.1.2.1 dX10_wordLines_7 rfl (lv_at hl 3 rfl) ?_
  have c1 := hw.1
  have hw := hw.2
  refine sa_imul X.1 dX10_wordLines_8 ?_
  refine lv_istore (lv' := [(5, .int (Int32.ofInt (12 * p1))), (4, .int (Int32.ofInt 0)), (3, .int (Int32.ofInt 0)), (0, .ref (α 11 0)), (1, .int (Int32.ofInt p1)), (2, .int (Int32.ofInt p2))]) X.1.1 X.1.2.1 dX10_wordLines_9 hl (by decide) rfl (fun ls hl => ?_)
  obtain ⟨n31, hw⟩ := hw
  exact t_X10_wordLines_11 X hp1 hp2 n31 _ _ _ _ hw (inR_c (a := 0) rfl) (inR_c (a := 0) rfl) c1 _ _ hR hS _ (lv_sub hl [3, 4, 5, 2, 1, 0] rfl)
theorem m_X10_wordLines {l : Launch} {G : Gx} {e0 : Nat} {α : Ax} {κ : Nat → Int} {B : Nat} {p1 : Int} {p2 : Int} (hκ : kOK κ) (hp1 : inR p1) (hp2 : inR p2) {M : Mem} {Qm : Int → Mem → Prop} (hw : wp_X10_wordLines p1 p2 M Qm) : CI l yX10_wordLines (Cond.code yX10_wordLines cX10_wordLines 9 (some .int)) 0 G e0 α κ B [.ref (α 11 0), .int (Int32.ofInt p1), .int (Int32.ofInt p2)] M Qm :=
  CI.mk hκ (by decide +kernel) rfl (Nat.le_of_ble_eq_true rfl) (lv := [(0, .ref (α 11 0)), (1, .int (Int32.ofInt p1)), (2, .int (Int32.ofInt p2))]) rfl (fun p e s m args below meth c ls X hR hS hl => t_X10_wordLines X hp1 hp2 hw _ _ hR hS ls hl)
theorem cs_X10_wordLines {cc : ByteArray} {nL : Nat} {own : String} {ret : Option FieldType} {idx pc : Nat} {p1 : Int} {p2 : Int} (X : CX p m c cc nL s args own G B κ meth ret) (hp1 : inR p1) (hp2 : inR p2) {kc : Nat} {R : Room} {cells slots : Nat} (hRr : RmOK R kc) (hcel : cells ≤ R.cells ∧ slots ≤ R.slots) (hk : 0 + 1 ≤ kc) {M : Mem} {H : Heap} {locs : List Loc} (hR : Rp G e0 α κ B M H) (hS : va_S (fun q => B ≤ q) s.heap H locs) (k1 : Cond.methodLink own idx yX10_wordLines ∈ gw) {ls : Array Slot} (hml : ls.size = nL) {rest : List Value} (hd : decode cc pc = .ok (.invokevirtual idx, 3)) (hrest : (rest.map fun v => v.category).sum ≤ 8) {Q : State → Prop} {Qm : Int → Mem → Prop} (hw : wp_X10_wordLines p1 p2 M Qm) (kk : ∀ (r : Int) (M1 : Mem) (H1 : Heap) (locs1 : List Loc), Qm r M1 → inR r → Rp G e0 α κ B M1 H1 → va_S (fun q => B ≤ q) s.heap H1 locs1 → W p l e R s m args below meth c H1 locs1 cells slots Q (F0 m (pc + 3) ls (.int (Int32.ofInt r) :: rest))) : W p l e R s m args below meth c H locs cells slots Q (F0 m pc ls (.int (Int32.ofInt p2) :: .int (Int32.ofInt p1) :: .ref (α 11 0) :: rest)) :=
  sa_callVI 0 (n := 2) (As := [.int (Int32.ofInt p1), .int (Int32.ofInt p2)]) (rest := rest) X.1 X.2.1 hR hS (m_X10_wordLines X.2.2.1 hp1 hp2 hw) k1 kw_1911 kw_67 kw_104 kw_1912 ⟨rfl, by decide +kernel, by decide +kernel, by decide +kernel⟩ (rm_ok hRr hk (by decide)) (rc_11 X hR (okf X.2.2.1 rfl)) rfl rfl hrest hml hd hcel kk
def wp_X10_linesOf_39 (p1 : Int) (Qm : Int → Mem → Prop) (z0 : Int) (M : Mem) : Prop := Qm z0 M
def wp_X10_linesOf (p1 : Int) (M : Mem) (Qm : Int → Mem → Prop) : Prop := wp_X10_shows p1 M fun (x2 : Int) (M1 : Mem) => ((¬ x2 = 0 → (0 ≤ p1 ∧ p1 < 100) ∧ (((M1 73 0 p1) = 0 → wp_X10_across p1 84 M1 fun (x7 : Int) (M6 : Mem) => wp_X10_wordLines p1 x7 M6 fun (x10 : Int) (M9 : Mem) => wp_X10_linesOf_39 p1 Qm x10 M9) ∧ (¬ (M1 73 0 p1) = 0 → wp_X10_linesOf_39 p1 Qm 1 M1))) ∧ (x2 = 0 → wp_X10_linesOf_39 p1 Qm 0 M1))
set_option maxHeartbeats 4000000 in
set_option maxRecDepth 100000 in
theorem t_X10_linesOf_39 {p1 : Int} (X : CX p m c cX10_linesOf 2 s args RX10 G B κ meth (some .int)) (hp1 : inR p1) {Qm : Int → Mem → Prop} : ∀ z0 : Int, ∀ M : Mem, wp_X10_linesOf_39 p1 Qm z0 M → inR z0 → ∀ (H : Heap) (locs : List Loc), Rp G e0 α κ B M H → va_S (fun q => B ≤ q) s.heap H locs → ∀ (ls : Array Slot), lv_has ls 2 [] → WI p l e 2 s m args below meth c G e0 α κ B Qm H locs 39 ls [.int (Int32.ofInt z0)] := by
  intro z0 M hw hz0 H locs hR hS ls hl
  have hw : Qm z0 M := hw
  exact sa_iret X.1 X.2.2.2.1 X.2.2.2.2 hR hS hz0 hw dX10_linesOf_39
set_option maxHeartbeats 4000000 in
set_option maxRecDepth 100000 in
theorem t_X10_linesOf {p1 : Int} (X : CX p m c cX10_linesOf 2 s args RX10 G B κ meth (some .int)) (hp1 : inR p1) {M : Mem} {Qm : Int → Mem → Prop} (hw : wp_X10_linesOf p1 M Qm) (H : Heap) (locs : List Loc) (hR : Rp G e0 α κ B M H) (hS : va_S (fun q => B ≤ q) s.heap H locs) (ls : Array Slot) (hl : lv_has ls 2 [(0, .ref (α 11 0)), (1, .int (Int32.ofInt p1))]) : WI p l e 2 s m args below meth c G e0 α κ B Qm H locs 0 ls [] := by
  have hw : wp_X10_shows p1 M fun (x2 : Int) (M1 : Mem) => ((¬ x2 = 0 → (0 ≤ p1 ∧ p1 < 100) ∧ (((M1 73 0 p1) = 0 → wp_X10_across p1 84 M1 fun (x7 : Int) (M6 : Mem) => wp_X10_wordLines p1 x7 M6 fun (x10 : Int) (M9 : Mem) => wp_X10_linesOf_39 p1 Qm x10 M9) ∧ (¬ (M1 73 0 p1) = 0 → wp_X10_linesOf_39 p1 Qm 1 M1))) ∧ (x2 = 0 → wp_X10_linesOf_39 p1 Qm 0 M1)) := hw
  refine lv_aload_n X.1.1 X.1.2.1 dX10_linesOf_0 rfl (lv_at hl 0 rfl) ?_
  refine lv_iload_n X.1.1 X.1.2.1 dX10_linesOf_1 rfl (lv_at hl 1 rfl) ?_
  refine cs_X10_shows X hp1 (kc := 2) rmL_ok rm_c (by decide) hR hS kw_1829 hl.1 dX10_linesOf_2 (Nat.le_of_ble_eq_true rfl) hw (fun x2 M1 H locs hw r3 hR hS => ?_)
  refine sa_if_ne (tgt := 12) X.1 r3 dX10_linesOf_5 (by decide) (fun hc => ?_) (fun hc => ?_)
  · have hw := hw.1 hc
    refine lv_aload_n X.1.1 X.1.2.1 dX10_linesOf_12 rfl (lv_at hl 0 rfl) ?_
    refine gt_11_20 X hR (okf X.2.2.1 rfl) kw_1549 dX10_linesOf_13 ?_
    refine lv_iload_n X.1.1 X.1.2.1 dX10_linesOf_16 rfl (lv_at hl 1 rfl) ?_
    have c4 := hw.1
    have hw := hw.2
    refine ra_73 X hR (okf X.2.2.1 rfl) c4 dX10_linesOf_17 ?_
    have r5 := hR.r 73 0 p1
    refine sa_if_eq (tgt := 25) X.1 r5 dX10_linesOf_18 (by decide) (fun hc => ?_) (fun hc => ?_)
    · have hw := hw.1 hc
      refine lv_aload_n X.1.1 X.1.2.1 dX10_linesOf_25 rfl (lv_at hl 0 rfl) ?_
      refine lv_iload_n X.1.1 X.1.2.1 dX10_linesOf_26 rfl (lv_at hl 1 rfl) ?_
      refine lv_aload_n X.1.1 X.1.2.1 dX10_linesOf_27 rfl (lv_at hl 0 rfl) ?_
      refine lv_iload_n X.1.1 X.1.2.1 dX10_linesOf_28 rfl (lv_at hl 1 rfl) ?_
      refine lv_aload_n X.1.1 X.1.2.1 dX10_linesOf_29 rfl (lv_at hl 0 rfl) ?_
      refine gt_11_35 X hR (okf X.2.2.1 rfl) kw_1564 dX10_linesOf_30 ?_
      refine cs_X10_across X hp1 hA6_84 (okf X.2.2.1 rfl) (kc := 2) rmL_ok rm_c (by decide) hR hS kw_1849 hl.1 dX10_linesOf_33 (Nat.le_of_ble_eq_true rfl) hw (fun x7 M6 H locs hw r8 hR hS => ?_)
      refine cs_X10_wordLines X hp1 r8 (kc := 2) rmL_ok rm_c (by decide) hR hS kw_1909 hl.1 dX10_linesOf_36 (Nat.le_of_ble_eq_true rfl) hw (fun x10 M9 H locs hw r11 hR hS => ?_)
      exact t_X10_linesOf_39 X hp1 _ _ hw r11 _ _ hR hS _ (lv_sub hl [] rfl)
    · have hw := hw.2 hc
      refine sa_const X.1 dX10_linesOf_21 ?_
      refine lv_goto (tgt := 39) X.1.1 X.1.2.1 dX10_linesOf_22 (by decide) ?_
      exact t_X10_linesOf_39 X hp1 _ _ hw (inR_c (a := 1) rfl) _ _ hR hS _ (lv_sub hl [] rfl)
  · have hw := hw.2 hc
    refine sa_const X.1 dX10_linesOf_8 ?_
    refine lv_goto (tgt := 39) X.1.1 X.1.2.1 dX10_linesOf_9 (by decide) ?_
    exact t_X10_linesOf_39 X hp1 _ _ hw (inR_c (a := 0) rfl) _ _ hR hS _ (lv_sub hl [] rfl)
theorem m_X10_linesOf {l : Launch} {G : Gx} {e0 : Nat} {α : Ax} {κ : Nat → Int} {B : Nat} {p1 : Int} (hκ : kOK κ) (hp1 : inR p1) {M : Mem} {Qm : Int → Mem → Prop} (hw : wp_X10_linesOf p1 M Qm) : CI l yX10_linesOf (Cond.code yX10_linesOf cX10_linesOf 2 (some .int)) 2 G e0 α κ B [.ref (α 11 0), .int (Int32.ofInt p1)] M Qm :=
  CI.mk hκ (by decide +kernel) rfl (Nat.le_of_ble_eq_true rfl) (lv := [(0, .ref (α 11 0)), (1, .int (Int32.ofInt p1))]) rfl (fun p e s m args below meth c ls X hR hS hl => t_X10_linesOf X hp1 hw _ _ hR hS ls hl)
theorem cs_X10_linesOf {cc : ByteArray} {nL : Nat} {own : String} {ret : Option FieldType} {idx pc : Nat} {p1 : Int} (X : CX p m c cc nL s args own G B κ meth ret) (hp1 : inR p1) {kc : Nat} {R : Room} {cells slots : Nat} (hRr : RmOK R kc) (hcel : cells ≤ R.cells ∧ slots ≤ R.slots) (hk : 2 + 1 ≤ kc) {M : Mem} {H : Heap} {locs : List Loc} (hR : Rp G e0 α κ B M H) (hS : va_S (fun q => B ≤ q) s.heap H locs) (k1 : Cond.methodLink own idx yX10_linesOf ∈ gw) {ls : Array Slot} (hml : ls.size = nL) {rest : List Value} (hd : decode cc pc = .ok (.invokevirtual idx, 3)) (hrest : (rest.map fun v => v.category).sum ≤ 8) {Q : State → Prop} {Qm : Int → Mem → Prop} (hw : wp_X10_linesOf p1 M Qm) (kk : ∀ (r : Int) (M1 : Mem) (H1 : Heap) (locs1 : List Loc), Qm r M1 → inR r → Rp G e0 α κ B M1 H1 → va_S (fun q => B ≤ q) s.heap H1 locs1 → W p l e R s m args below meth c H1 locs1 cells slots Q (F0 m (pc + 3) ls (.int (Int32.ofInt r) :: rest))) : W p l e R s m args below meth c H locs cells slots Q (F0 m pc ls (.int (Int32.ofInt p1) :: .ref (α 11 0) :: rest)) :=
  sa_callVI 2 (n := 1) (As := [.int (Int32.ofInt p1)]) (rest := rest) X.1 X.2.1 hR hS (m_X10_linesOf X.2.2.1 hp1 hw) k1 kw_1907 kw_66 kw_104 kw_1908 ⟨rfl, by decide +kernel, by decide +kernel, by decide +kernel⟩ (rm_ok hRr hk (by decide)) (rc_11 X hR (okf X.2.2.1 rfl)) rfl rfl hrest hml hd hcel kk
def wp_X10_laysRows_175 (Qm : Mem → Prop) (K81 : Int → Mem → Prop) (K88 : Int → Int → Mem → Prop) (y1 : Int) (y2 : Int) (M : Mem) : Prop := (inR (y2 + 1)) ∧ K88 y1 (y2 + 1) M
def wp_X10_laysRows_111 (Qm : Mem → Prop) (K81 : Int → Mem → Prop) (K88 : Int → Int → Mem → Prop) : Nat → Int → Int → Int → Int → Mem → Prop
  | 0 => fun _ _ _ _ _ => False
  | n + 1 => fun y1 y2 y3 y4 M => ((y1 ≤ y4 → (0 ≤ y2 ∧ y2 < 100) ∧ (inR (y1 - 1)) ∧ wp_X10_below (M 65 0 y2) (y1 - 1) M fun (x12 : Int) (M11 : Mem) => (0 ≤ x12 ∧ x12 < 29) ∧ wp_X10_linesOf y2 M11 fun (x17 : Int) (M16 : Mem) => (inR (x17 - y3)) ∧ wp_X10_greater 0 (x17 - y3) M16 fun (x21 : Int) (M20 : Mem) => (inR ((M11 85 0 x12) + x21)) ∧ (0 ≤ x12 ∧ x12 < 29) ∧ ∀ M25 : Mem, M25 = up M20 85 0 x12 ((M11 85 0 x12) + x21) → wp_X10_laysRows_175 Qm K81 K88 y1 y2 M25) ∧ (y4 < y1 → (0 ≤ y2 ∧ y2 < 100) ∧ wp_X10_below (M 65 0 y2) y4 M fun (x30 : Int) (M29 : Mem) => (0 ≤ x30 ∧ x30 < 29) ∧ (inR (y3 + (M29 85 0 x30))) ∧ (inR (y4 + 1)) ∧ wp_X10_laysRows_111 Qm K81 K88 n y1 y2 (y3 + (M29 85 0 x30)) (y4 + 1) M29))
def wp_X10_laysRows_88 (Qm : Mem → Prop) (K81 : Int → Mem → Prop) : Nat → Int → Int → Mem → Prop
  | 0 => fun _ _ _ => False
  | n + 1 => fun y1 y2 M => (((M 11 0 15) ≤ y2 → (inR (y1 + 1)) ∧ K81 (y1 + 1) M) ∧ (y2 < (M 11 0 15) → (0 ≤ y2 ∧ y2 < 100) ∧ ((¬ (M 67 0 y2) = y1 → wp_X10_laysRows_175 Qm K81 (wp_X10_laysRows_88 Qm K81 n) y1 y2 M) ∧ ((M 67 0 y2) = y1 → (∃ n36 : Nat, wp_X10_laysRows_111 Qm K81 (wp_X10_laysRows_88 Qm K81 n) n36 y1 y2 0 0 M)))))
def wp_X10_laysRows_81 (Qm : Mem → Prop) : Nat → Int → Mem → Prop
  | 0 => fun _ _ => False
  | n + 1 => fun y1 M => ((4 < y1 → Qm M) ∧ (y1 ≤ 4 → (∃ n37 : Nat, wp_X10_laysRows_88 Qm (wp_X10_laysRows_81 Qm n) n37 y1 0 M)))
def wp_X10_laysRows_73 (Qm : Mem → Prop) (K25 : Int → Mem → Prop) (y1 : Int) (M : Mem) : Prop := (inR (y1 + 1)) ∧ K25 (y1 + 1) M
def wp_X10_laysRows_25 (Qm : Mem → Prop) : Nat → Int → Mem → Prop
  | 0 => fun _ _ => False
  | n + 1 => fun y1 M => (((M 11 0 15) ≤ y1 → (∃ n38 : Nat, wp_X10_laysRows_81 Qm n38 2 M)) ∧ (y1 < (M 11 0 15) → (0 ≤ y1 ∧ y1 < 100) ∧ ((¬ (M 67 0 y1) = 1 → wp_X10_laysRows_73 Qm (wp_X10_laysRows_25 Qm n) y1 M) ∧ ((M 67 0 y1) = 1 → (0 ≤ y1 ∧ y1 < 100) ∧ (0 ≤ y1 ∧ y1 < 100) ∧ (0 ≤ (M 65 0 y1) ∧ (M 65 0 y1) < 29) ∧ wp_X10_linesOf y1 M fun (x49 : Int) (M48 : Mem) => wp_X10_greater (M 85 0 (M 65 0 y1)) x49 M48 fun (x52 : Int) (M51 : Mem) => (0 ≤ (M 65 0 y1) ∧ (M 65 0 y1) < 29) ∧ ∀ M55 : Mem, M55 = up M51 85 0 (M 65 0 y1) x52 → wp_X10_laysRows_73 Qm (wp_X10_laysRows_25 Qm n) y1 M55))))
def wp_X10_laysRows_2 (Qm : Mem → Prop) : Nat → Int → Mem → Prop
  | 0 => fun _ _ => False
  | n + 1 => fun y1 M => (((M 11 0 8) ≤ y1 → (∃ n57 : Nat, wp_X10_laysRows_25 Qm n57 0 M)) ∧ (y1 < (M 11 0 8) → (0 ≤ y1 ∧ y1 < 29) ∧ ∀ M59 : Mem, M59 = up M 85 0 y1 1 → (inR (y1 + 1)) ∧ wp_X10_laysRows_2 Qm n (y1 + 1) M59))
def wp_X10_laysRows (M : Mem) (Qm : Mem → Prop) : Prop := (∃ n62 : Nat, wp_X10_laysRows_2 Qm n62 0 M)
set_option maxHeartbeats 4000000 in
set_option maxRecDepth 100000 in
theorem t_X10_laysRows_175 (X : CX p m c cX10_laysRows 5 s args RX10 G B κ meth none) {Qm : Mem → Prop} {K81 : Int → Mem → Prop} {K88 : Int → Int → Mem → Prop} (hK81 : ∀ y1 : Int, ∀ M : Mem, K81 y1 M → inR y1 → ∀ (H : Heap) (locs : List Loc), Rp G e0 α κ B M H → va_S (fun q => B ≤ q) s.heap H locs → ∀ (ls : Array Slot), lv_has ls 5 [(0, .ref (α 11 0)), (1, .int (Int32.ofInt y1))] → WV p l e 3 s m args below meth c G e0 α κ B Qm H locs 81 ls []) (hK88 : ∀ y1 : Int, ∀ y2 : Int, ∀ M : Mem, K88 y1 y2 M → inR y1 → inR y2 → ∀ (H : Heap) (locs : List Loc), Rp G e0 α κ B M H → va_S (fun q => B ≤ q) s.heap H locs → ∀ (ls : Array Slot), lv_has ls 5 [(0, .ref (α 11 0)), (1, .int (Int32.ofInt y1)), (2, .int (Int32.ofInt y2))] → WV p l e 3 s m args below meth c G e0 α κ B Qm H locs 88 ls []) : ∀ y1 : Int, ∀ y2 : Int, ∀ M : Mem, wp_X10_laysRows_175 Qm K81 K88 y1 y2 M → inR y1 → inR y2 → ∀ (H : Heap) (locs : List Loc), Rp G e0 α κ B M H → va_S (fun q => B ≤ q) s.heap H locs → ∀ (ls : Array Slot), lv_has ls 5 [(0, .ref (α 11 0)), (1, .int (Int32.ofInt y1)), (2, .int (Int32.ofInt y2))] → WV p l e 3 s m args below meth c G e0 α κ B Qm H locs 175 ls [] := by
  intro y1 y2 M hw hy1 hy2 H locs hR hS ls hl
  have hw : (inR (y2 + 1)) ∧ K88 y1 (y2 + 1) M := hw
  have c7 := hw.1
  have hw := hw.2
  refine lv_iinc (v := Int32.ofInt (y2 + 1)) (lv' := [(2, .int (Int32.ofInt (y2 + 1))), (0, .ref (α 11 0)), (1, .int (Int32.ofInt y1))]) X.1.1 X.1.2.1 dX10_laysRows_175 hl (k := 2) rfl (Int32.ofInt_add _ _).symm (by decide) rfl (fun ls hl => ?_)
  refine lv_goto (tgt := 88) X.1.1 X.1.2.1 dX10_laysRows_178 (by decide) ?_
  exact hK88 _ _ _ hw hy1 c7 _ _ hR hS _ (lv_sub hl [1, 2, 0] rfl)
set_option maxHeartbeats 4000000 in
set_option maxRecDepth 100000 in
theorem t_X10_laysRows_111 (X : CX p m c cX10_laysRows 5 s args RX10 G B κ meth none) {Qm : Mem → Prop} {K81 : Int → Mem → Prop} {K88 : Int → Int → Mem → Prop} (hK81 : ∀ y1 : Int, ∀ M : Mem, K81 y1 M → inR y1 → ∀ (H : Heap) (locs : List Loc), Rp G e0 α κ B M H → va_S (fun q => B ≤ q) s.heap H locs → ∀ (ls : Array Slot), lv_has ls 5 [(0, .ref (α 11 0)), (1, .int (Int32.ofInt y1))] → WV p l e 3 s m args below meth c G e0 α κ B Qm H locs 81 ls []) (hK88 : ∀ y1 : Int, ∀ y2 : Int, ∀ M : Mem, K88 y1 y2 M → inR y1 → inR y2 → ∀ (H : Heap) (locs : List Loc), Rp G e0 α κ B M H → va_S (fun q => B ≤ q) s.heap H locs → ∀ (ls : Array Slot), lv_has ls 5 [(0, .ref (α 11 0)), (1, .int (Int32.ofInt y1)), (2, .int (Int32.ofInt y2))] → WV p l e 3 s m args below meth c G e0 α κ B Qm H locs 88 ls []) : ∀ n : Nat, ∀ y1 : Int, ∀ y2 : Int, ∀ y3 : Int, ∀ y4 : Int, ∀ M : Mem, wp_X10_laysRows_111 Qm K81 K88 n y1 y2 y3 y4 M → inR y1 → inR y2 → inR y3 → inR y4 → ∀ (H : Heap) (locs : List Loc), Rp G e0 α κ B M H → va_S (fun q => B ≤ q) s.heap H locs → ∀ (ls : Array Slot), lv_has ls 5 [(0, .ref (α 11 0)), (1, .int (Int32.ofInt y1)), (2, .int (Int32.ofInt y2)), (3, .int (Int32.ofInt y3)), (4, .int (Int32.ofInt y4))] → WV p l e 3 s m args below meth c G e0 α κ B Qm H locs 111 ls [] := by
  intro n
  induction n with
  | zero =>
    intro y1 y2 y3 y4 M hw hy1 hy2 hy3 hy4 H locs hR hS ls hl
    exact hw.elim
  | succ n ih =>
    intro y1 y2 y3 y4 M hw hy1 hy2 hy3 hy4 H locs hR hS ls hl
    have hw : ((y1 ≤ y4 → (0 ≤ y2 ∧ y2 < 100) ∧ (inR (y1 - 1)) ∧ wp_X10_below (M 65 0 y2) (y1 - 1) M fun (x12 : Int) (M11 : Mem) => (0 ≤ x12 ∧ x12 < 29) ∧ wp_X10_linesOf y2 M11 fun (x17 : Int) (M16 : Mem) => (inR (x17 - y3)) ∧ wp_X10_greater 0 (x17 - y3) M16 fun (x21 : Int) (M20 : Mem) => (inR ((M11 85 0 x12) + x21)) ∧ (0 ≤ x12 ∧ x12 < 29) ∧ ∀ M25 : Mem, M25 = up M20 85 0 x12 ((M11 85 0 x12) + x21) → wp_X10_laysRows_175 Qm K81 K88 y1 y2 M25) ∧ (y4 < y1 → (0 ≤ y2 ∧ y2 < 100) ∧ wp_X10_below (M 65 0 y2) y4 M fun (x30 : Int) (M29 : Mem) => (0 ≤ x30 ∧ x30 < 29) ∧ (inR (y3 + (M29 85 0 x30))) ∧ (inR (y4 + 1)) ∧ wp_X10_laysRows_111 Qm K81 K88 n y1 y2 (y3 + (M29 85 0 x30)) (y4 + 1) M29)) := hw
    refine lv_iload X.1.1 X.1.2.1 dX10_laysRows_111 (lv_at hl 4 rfl) ?_
    refine lv_iload_n X.1.1 X.1.2.1 dX10_laysRows_113 rfl (lv_at hl 1 rfl) ?_
    refine sa_icmp_ge (tgt := 143) X.1 hy4 hy1 dX10_laysRows_114 (by decide) (fun hc => ?_) (fun hc => ?_)
    · have hw := hw.1 hc
      refine lv_aload_n X.1.1 X.1.2.1 dX10_laysRows_143 rfl (lv_at hl 0 rfl) ?_
      refine gt_11_36 X hR (okf X.2.2.1 rfl) kw_1565 dX10_laysRows_144 ?_
      refine lv_aload_n X.1.1 X.1.2.1 dX10_laysRows_147 rfl (lv_at hl 0 rfl) ?_
      refine lv_aload_n X.1.1 X.1.2.1 dX10_laysRows_148 rfl (lv_at hl 0 rfl) ?_
      refine gt_11_11 X hR (okf X.2.2.1 rfl) kw_1540 dX10_laysRows_149 ?_
      refine lv_iload_n X.1.1 X.1.2.1 dX10_laysRows_152 rfl (lv_at hl 2 rfl) ?_
      have c8 := hw.1
      have hw := hw.2
      refine ra_65 X hR (okf X.2.2.1 rfl) c8 dX10_laysRows_153 ?_
      have r9 := hR.r 65 0 y2
      refine lv_iload_n X.1.1 X.1.2.1 dX10_laysRows_154 rfl (lv_at hl 1 rfl) ?_
      refine sa_const X.1 dX10_laysRows_155 ?_
      have c10 := hw.1
      have hw := hw.2
      refine sa_isub X.1 dX10_laysRows_156 ?_
      refine cs_X10_below X r9 c10 (kc := 3) rmL_ok rm_c (by decide) hR hS kw_1745 hl.1 dX10_laysRows_157 (Nat.le_of_ble_eq_true rfl) hw (fun x12 M11 H locs hw r13 hR hS => ?_)
      refine lv_dup2_11 X.1.1 X.1.2.1 dX10_laysRows_160 rfl rfl ?_
      have c14 := hw.1
      have hw := hw.2
      refine ra_85 X hR (okf X.2.2.1 rfl) c14 dX10_laysRows_161 ?_
      have r15 := hR.r 85 0 x12
      refine sa_const X.1 dX10_laysRows_162 ?_
      refine lv_aload_n X.1.1 X.1.2.1 dX10_laysRows_163 rfl (lv_at hl 0 rfl) ?_
      refine lv_iload_n X.1.1 X.1.2.1 dX10_laysRows_164 rfl (lv_at hl 2 rfl) ?_
      refine cs_X10_linesOf X hy2 (kc := 3) rmL_ok rm_c (by decide) hR hS kw_1905 hl.1 dX10_laysRows_165 (Nat.le_of_ble_eq_true rfl) hw (fun x17 M16 H locs hw r18 hR hS => ?_)
      refine lv_iload_n X.1.1 X.1.2.1 dX10_laysRows_168 rfl (lv_at hl 3 rfl) ?_
      have c19 := hw.1
      have hw := hw.2
      refine sa_isub X.1 dX10_laysRows_169 ?_
      refine cs_X10_greater X (inR_c (a := 0) rfl) c19 (kc := 3) rmL_ok rm_c (by decide) hR hS kw_1822 hl.1 dX10_laysRows_170 (Nat.le_of_ble_eq_true rfl) hw (fun x21 M20 H locs hw r22 hR hS => ?_)
      have c23 := hw.1
      have hw := hw.2
      refine sa_iadd X.1 dX10_laysRows_173 ?_
      have c24 := hw.1
      have hw := hw.2
      refine wa_85 X hR hS (okf X.2.2.1 rfl) c24 c23 dX10_laysRows_174 (fun H locs hR hS => ?_)
      obtain ⟨M25, e26⟩ : ∃ z : Mem, z = up M20 85 0 x12 ((M11 85 0 x12) + x21) := ⟨_, rfl⟩
      rw [← e26] at hR
      have hw := hw M25 e26
      exact t_X10_laysRows_175 X hK81 hK88 _ _ _ hw hy1 hy2 _ _ hR hS _ (lv_sub hl [0, 1, 2] rfl)
    · have hw := hw.2 hc
      refine lv_iload_n X.1.1 X.1.2.1 dX10_laysRows_117 rfl (lv_at hl 3 rfl) ?_
      refine lv_aload_n X.1.1 X.1.2.1 dX10_laysRows_118 rfl (lv_at hl 0 rfl) ?_
      refine gt_11_36 X hR (okf X.2.2.1 rfl) kw_1565 dX10_laysRows_119 ?_
      refine lv_aload_n X.1.1 X.1.2.1 dX10_laysRows_122 rfl (lv_at hl 0 rfl) ?_
      refine lv_aload_n X.1.1 X.1.2.1 dX10_laysRows_123 rfl (lv_at hl 0 rfl) ?_
      refine gt_11_11 X hR (okf X.2.2.1 rfl) kw_1540 dX10_laysRows_124 ?_
      refine lv_iload_n X.1.1 X.1.2.1 dX10_laysRows_127 rfl (lv_at hl 2 rfl) ?_
      have c27 := hw.1
      have hw := hw.2
      refine ra_65 X hR (okf X.2.2.1 rfl) c27 dX10_laysRows_128 ?_
      have r28 := hR.r 65 0 y2
      refine lv_iload X.1.1 X.1.2.1 dX10_laysRows_129 (lv_at hl 4 rfl) ?_
      refine cs_X10_below X r28 hy4 (kc := 3) rmL_ok rm_c (by decide) hR hS kw_1745 hl.1 dX10_laysRows_131 (Nat.le_of_ble_eq_true rfl) hw (fun x30 M29 H locs hw r31 hR hS => ?_)
      have c32 := hw.1
      have hw := hw.2
      refine ra_85 X hR (okf X.2.2.1 rfl) c32 dX10_laysRows_134 ?_
      have r33 := hR.r 85 0 x30
      have c34 := hw.1
      have hw := hw.2
      refine sa_iadd X.1 dX10_laysRows_135 ?_
      refine lv_istore_n (lv' := [(3, .int (Int32.ofInt (y3 + (M29 85 0 x30)))), (0, .ref (α 11 0)), (1, .int (Int32.ofInt y1)), (2, .int (Int32.ofInt y2)), (4, .int (Int32.ofInt y4))]) X.1.1 X.1.2.1 dX10_laysRows_136 rfl hl (by decide) rfl (fun ls hl => ?_)
      have c35 := hw.1
      have hw := hw.2
      refine lv_iinc (v := Int32.ofInt (y4 + 1)) (lv' := [(4, .int (Int32.ofInt (y4 + 1))), (3, .int (Int32.ofInt (y3 + (M29 85 0 x30)))), (0, .ref (α 11 0)), (1, .int (Int32.ofInt y1)), (2, .int (Int32.ofInt y2))]) X.1.1 X.1.2.1 dX10_laysRows_137 hl (k := 4) rfl (Int32.ofInt_add _ _).symm (by decide) rfl (fun ls hl => ?_)
      refine lv_goto (tgt := 111) X.1.1 X.1.2.1 dX10_laysRows_140 (by decide) ?_
      exact ih _ _ _ _ _ hw hy1 hy2 c34 c35 _ _ hR hS _ (lv_sub hl [2, 3, 4, 1, 0] rfl)
set_option maxHeartbeats 4000000 in
set_option maxRecDepth 100000 in
theorem t_X10_laysRows_88 (X : CX p m c cX10_laysRows 5 s args RX10 G B κ meth none) {Qm : Mem → Prop} {K81 : Int → Mem → Prop} (hK81 : ∀ y1 : Int, ∀ M : Mem, K81 y1 M → inR y1 → ∀ (H : Heap) (locs : List Loc), Rp G e0 α κ B M H → va_S (fun q => B ≤ q) s.heap H locs → ∀ (ls : Array Slot), lv_has ls 5 [(0, .ref (α 11 0)), (1, .int (Int32.ofInt y1))] → WV p l e 3 s m args below meth c G e0 α κ B Qm H locs 81 ls []) : ∀ n : Nat, ∀ y1 : Int, ∀ y2 : Int, ∀ M : Mem, wp_X10_laysRows_88 Qm K81 n y1 y2 M → inR y1 → inR y2 → ∀ (H : Heap) (locs : List Loc), Rp G e0 α κ B M H → va_S (fun q => B ≤ q) s.heap H locs → ∀ (ls : Array Slot), lv_has ls 5 [(0, .ref (α 11 0)), (1, .int (Int32.ofInt y1)), (2, .int (Int32.ofInt y2))] → WV p l e 3 s m args below meth c G e0 α κ B Qm H locs 88 ls [] := by
  intro n
  induction n with
  | zero =>
    intro y1 y2 M hw hy1 hy2 H locs hR hS ls hl
    exact hw.elim
  | succ n ih =>
    intro y1 y2 M hw hy1 hy2 H locs hR hS ls hl
    have hw : (((M 11 0 15) ≤ y2 → (inR (y1 + 1)) ∧ K81 (y1 + 1) M) ∧ (y2 < (M 11 0 15) → (0 ≤ y2 ∧ y2 < 100) ∧ ((¬ (M 67 0 y2) = y1 → wp_X10_laysRows_175 Qm K81 (wp_X10_laysRows_88 Qm K81 n) y1 y2 M) ∧ ((M 67 0 y2) = y1 → (∃ n36 : Nat, wp_X10_laysRows_111 Qm K81 (wp_X10_laysRows_88 Qm K81 n) n36 y1 y2 0 0 M))))) := hw
    refine lv_iload_n X.1.1 X.1.2.1 dX10_laysRows_88 rfl (lv_at hl 2 rfl) ?_
    refine lv_aload_n X.1.1 X.1.2.1 dX10_laysRows_89 rfl (lv_at hl 0 rfl) ?_
    refine gt_11_15 X hR (okf X.2.2.1 rfl) kw_1544 dX10_laysRows_90 ?_
    have r3 := hR.r 11 0 15
    refine sa_icmp_ge (tgt := 181) X.1 hy2 r3 dX10_laysRows_93 (by decide) (fun hc => ?_) (fun hc => ?_)
    · have hw := hw.1 hc
      have c4 := hw.1
      have hw := hw.2
      refine lv_iinc (v := Int32.ofInt (y1 + 1)) (lv' := [(1, .int (Int32.ofInt (y1 + 1))), (0, .ref (α 11 0)), (2, .int (Int32.ofInt y2))]) X.1.1 X.1.2.1 dX10_laysRows_181 hl (k := 1) rfl (Int32.ofInt_add _ _).symm (by decide) rfl (fun ls hl => ?_)
      refine lv_goto (tgt := 81) X.1.1 X.1.2.1 dX10_laysRows_184 (by decide) ?_
      exact hK81 _ _ hw c4 _ _ hR hS _ (lv_sub hl [1, 0] rfl)
    · have hw := hw.2 hc
      refine lv_aload_n X.1.1 X.1.2.1 dX10_laysRows_96 rfl (lv_at hl 0 rfl) ?_
      refine gt_11_13 X hR (okf X.2.2.1 rfl) kw_1542 dX10_laysRows_97 ?_
      refine lv_iload_n X.1.1 X.1.2.1 dX10_laysRows_100 rfl (lv_at hl 2 rfl) ?_
      have c5 := hw.1
      have hw := hw.2
      refine ra_67 X hR (okf X.2.2.1 rfl) c5 dX10_laysRows_101 ?_
      have r6 := hR.r 67 0 y2
      refine lv_iload_n X.1.1 X.1.2.1 dX10_laysRows_102 rfl (lv_at hl 1 rfl) ?_
      refine sa_icmp_ne (tgt := 175) X.1 r6 hy1 dX10_laysRows_103 (by decide) (fun hc => ?_) (fun hc => ?_)
      · have hw := hw.1 hc
        exact t_X10_laysRows_175 X hK81 ih _ _ _ hw hy1 hy2 _ _ hR hS _ (lv_sub hl [0, 1, 2] rfl)
      · have hw := hw.2 hc
        refine sa_const X.1 dX10_laysRows_106 ?_
        refine lv_istore_n (lv' := [(3, .int (Int32.ofInt 0)), (0, .ref (α 11 0)), (1, .int (Int32.ofInt y1)), (2, .int (Int32.ofInt y2))]) X.1.1 X.1.2.1 dX10_laysRows_107 rfl hl (by decide) rfl (fun ls hl => ?_)
        refine sa_const X.1 dX10_laysRows_108 ?_
        refine lv_istore (lv' := [(4, .int (Int32.ofInt 0)), (3, .int (Int32.ofInt 0)), (0, .ref (α 11 0)), (1, .int (Int32.ofInt y1)), (2, .int (Int32.ofInt y2))]) X.1.1 X.1.2.1 dX10_laysRows_109 hl (by decide) rfl (fun ls hl => ?_)
        obtain ⟨n36, hw⟩ := hw
        exact t_X10_laysRows_111 X hK81 ih n36 _ _ _ _ _ hw hy1 hy2 (inR_c (a := 0) rfl) (inR_c (a := 0) rfl) _ _ hR hS _ (lv_sub hl [2, 3, 4, 1, 0] rfl)
set_option maxHeartbeats 4000000 in
set_option maxRecDepth 100000 in
theorem t_X10_laysRows_81 (X : CX p m c cX10_laysRows 5 s args RX10 G B κ meth none) {Qm : Mem → Prop} : ∀ n : Nat, ∀ y1 : Int, ∀ M : Mem, wp_X10_laysRows_81 Qm n y1 M → inR y1 → ∀ (H : Heap) (locs : List Loc), Rp G e0 α κ B M H → va_S (fun q => B ≤ q) s.heap H locs → ∀ (ls : Array Slot), lv_has ls 5 [(0, .ref (α 11 0)), (1, .int (Int32.ofInt y1))] → WV p l e 3 s m args below meth c G e0 α κ B Qm H locs 81 ls [] := by
  intro n
  induction n with
  | zero =>
    intro y1 M hw hy1 H locs hR hS ls hl
    exact hw.elim
  | succ n ih =>
    intro y1 M hw hy1 H locs hR hS ls hl
    have hw : ((4 < y1 → Qm M) ∧ (y1 ≤ 4 → (∃ n37 : Nat, wp_X10_laysRows_88 Qm (wp_X10_laysRows_81 Qm n) n37 y1 0 M))) := hw
    refine lv_iload_n X.1.1 X.1.2.1 dX10_laysRows_81 rfl (lv_at hl 1 rfl) ?_
    refine sa_const X.1 dX10_laysRows_82 ?_
    refine sa_icmp_gt (tgt := 187) X.1 hy1 (inR_c (a := 4) rfl) dX10_laysRows_83 (by decide) (fun hc => ?_) (fun hc => ?_)
    · have hw := hw.1 hc
      exact sa_vret X.1 X.2.2.2.1 X.2.2.2.2 hR hS hw dX10_laysRows_187
    · have hw := hw.2 hc
      refine sa_const X.1 dX10_laysRows_86 ?_
      refine lv_istore_n (lv' := [(2, .int (Int32.ofInt 0)), (0, .ref (α 11 0)), (1, .int (Int32.ofInt y1))]) X.1.1 X.1.2.1 dX10_laysRows_87 rfl hl (by decide) rfl (fun ls hl => ?_)
      obtain ⟨n37, hw⟩ := hw
      exact t_X10_laysRows_88 X ih n37 _ _ _ hw hy1 (inR_c (a := 0) rfl) _ _ hR hS _ (lv_sub hl [1, 2, 0] rfl)
set_option maxHeartbeats 4000000 in
set_option maxRecDepth 100000 in
theorem t_X10_laysRows_73 (X : CX p m c cX10_laysRows 5 s args RX10 G B κ meth none) {Qm : Mem → Prop} {K25 : Int → Mem → Prop} (hK25 : ∀ y1 : Int, ∀ M : Mem, K25 y1 M → inR y1 → ∀ (H : Heap) (locs : List Loc), Rp G e0 α κ B M H → va_S (fun q => B ≤ q) s.heap H locs → ∀ (ls : Array Slot), lv_has ls 5 [(0, .ref (α 11 0)), (1, .int (Int32.ofInt y1))] → WV p l e 3 s m args below meth c G e0 α κ B Qm H locs 25 ls []) : ∀ y1 : Int, ∀ M : Mem, wp_X10_laysRows_73 Qm K25 y1 M → inR y1 → ∀ (H : Heap) (locs : List Loc), Rp G e0 α κ B M H → va_S (fun q => B ≤ q) s.heap H locs → ∀ (ls : Array Slot), lv_has ls 5 [(0, .ref (α 11 0)), (1, .int (Int32.ofInt y1))] → WV p l e 3 s m args below meth c G e0 α κ B Qm H locs 73 ls [] := by
  intro y1 M hw hy1 H locs hR hS ls hl
  have hw : (inR (y1 + 1)) ∧ K25 (y1 + 1) M := hw
  have c41 := hw.1
  have hw := hw.2
  refine lv_iinc (v := Int32.ofInt (y1 + 1)) (lv' := [(1, .int (Int32.ofInt (y1 + 1))), (0, .ref (α 11 0))]) X.1.1 X.1.2.1 dX10_laysRows_73 hl (k := 1) rfl (Int32.ofInt_add _ _).symm (by decide) rfl (fun ls hl => ?_)
  refine lv_goto (tgt := 25) X.1.1 X.1.2.1 dX10_laysRows_76 (by decide) ?_
  exact hK25 _ _ hw c41 _ _ hR hS _ (lv_sub hl [1, 0] rfl)
set_option maxHeartbeats 4000000 in
set_option maxRecDepth 100000 in
theorem t_X10_laysRows_25 (X : CX p m c cX10_laysRows 5 s args RX10 G B κ meth none) {Qm : Mem → Prop} : ∀ n : Nat, ∀ y1 : Int, ∀ M : Mem, wp_X10_laysRows_25 Qm n y1 M → inR y1 → ∀ (H : Heap) (locs : List Loc), Rp G e0 α κ B M H → va_S (fun q => B ≤ q) s.heap H locs → ∀ (ls : Array Slot), lv_has ls 5 [(0, .ref (α 11 0)), (1, .int (Int32.ofInt y1))] → WV p l e 3 s m args below meth c G e0 α κ B Qm H locs 25 ls [] := by
  intro n
  induction n with
  | zero =>
    intro y1 M hw hy1 H locs hR hS ls hl
    exact hw.elim
  | succ n ih =>
    intro y1 M hw hy1 H locs hR hS ls hl
    have hw : (((M 11 0 15) ≤ y1 → (∃ n38 : Nat, wp_X10_laysRows_81 Qm n38 2 M)) ∧ (y1 < (M 11 0 15) → (0 ≤ y1 ∧ y1 < 100) ∧ ((¬ (M 67 0 y1) = 1 → wp_X10_laysRows_73 Qm (wp_X10_laysRows_25 Qm n) y1 M) ∧ ((M 67 0 y1) = 1 → (0 ≤ y1 ∧ y1 < 100) ∧ (0 ≤ y1 ∧ y1 < 100) ∧ (0 ≤ (M 65 0 y1) ∧ (M 65 0 y1) < 29) ∧ wp_X10_linesOf y1 M fun (x49 : Int) (M48 : Mem) => wp_X10_greater (M 85 0 (M 65 0 y1)) x49 M48 fun (x52 : Int) (M51 : Mem) => (0 ≤ (M 65 0 y1) ∧ (M 65 0 y1) < 29) ∧ ∀ M55 : Mem, M55 = up M51 85 0 (M 65 0 y1) x52 → wp_X10_laysRows_73 Qm (wp_X10_laysRows_25 Qm n) y1 M55)))) := hw
    refine lv_iload_n X.1.1 X.1.2.1 dX10_laysRows_25 rfl (lv_at hl 1 rfl) ?_
    refine lv_aload_n X.1.1 X.1.2.1 dX10_laysRows_26 rfl (lv_at hl 0 rfl) ?_
    refine gt_11_15 X hR (okf X.2.2.1 rfl) kw_1544 dX10_laysRows_27 ?_
    have r2 := hR.r 11 0 15
    refine sa_icmp_ge (tgt := 79) X.1 hy1 r2 dX10_laysRows_30 (by decide) (fun hc => ?_) (fun hc => ?_)
    · have hw := hw.1 hc
      refine sa_const X.1 dX10_laysRows_79 ?_
      refine lv_istore_n (lv' := [(1, .int (Int32.ofInt 2)), (0, .ref (α 11 0))]) X.1.1 X.1.2.1 dX10_laysRows_80 rfl hl (by decide) rfl (fun ls hl => ?_)
      obtain ⟨n38, hw⟩ := hw
      exact t_X10_laysRows_81 X n38 _ _ hw (inR_c (a := 2) rfl) _ _ hR hS _ (lv_sub hl [1, 0] rfl)
    · have hw := hw.2 hc
      refine lv_aload_n X.1.1 X.1.2.1 dX10_laysRows_33 rfl (lv_at hl 0 rfl) ?_
      refine gt_11_13 X hR (okf X.2.2.1 rfl) kw_1542 dX10_laysRows_34 ?_
      refine lv_iload_n X.1.1 X.1.2.1 dX10_laysRows_37 rfl (lv_at hl 1 rfl) ?_
      have c39 := hw.1
      have hw := hw.2
      refine ra_67 X hR (okf X.2.2.1 rfl) c39 dX10_laysRows_38 ?_
      have r40 := hR.r 67 0 y1
      refine sa_const X.1 dX10_laysRows_39 ?_
      refine sa_icmp_ne (tgt := 73) X.1 r40 (inR_c (a := 1) rfl) dX10_laysRows_40 (by decide) (fun hc => ?_) (fun hc => ?_)
      · have hw := hw.1 hc
        exact t_X10_laysRows_73 X ih _ _ hw hy1 _ _ hR hS _ (lv_sub hl [0, 1] rfl)
      · have hw := hw.2 hc
        refine lv_aload_n X.1.1 X.1.2.1 dX10_laysRows_43 rfl (lv_at hl 0 rfl) ?_
        refine gt_11_36 X hR (okf X.2.2.1 rfl) kw_1565 dX10_laysRows_44 ?_
        refine lv_aload_n X.1.1 X.1.2.1 dX10_laysRows_47 rfl (lv_at hl 0 rfl) ?_
        refine gt_11_11 X hR (okf X.2.2.1 rfl) kw_1540 dX10_laysRows_48 ?_
        refine lv_iload_n X.1.1 X.1.2.1 dX10_laysRows_51 rfl (lv_at hl 1 rfl) ?_
        have c42 := hw.1
        have hw := hw.2
        refine ra_65 X hR (okf X.2.2.1 rfl) c42 dX10_laysRows_52 ?_
        have r43 := hR.r 65 0 y1
        refine lv_aload_n X.1.1 X.1.2.1 dX10_laysRows_53 rfl (lv_at hl 0 rfl) ?_
        refine gt_11_36 X hR (okf X.2.2.1 rfl) kw_1565 dX10_laysRows_54 ?_
        refine lv_aload_n X.1.1 X.1.2.1 dX10_laysRows_57 rfl (lv_at hl 0 rfl) ?_
        refine gt_11_11 X hR (okf X.2.2.1 rfl) kw_1540 dX10_laysRows_58 ?_
        refine lv_iload_n X.1.1 X.1.2.1 dX10_laysRows_61 rfl (lv_at hl 1 rfl) ?_
        have c44 := hw.1
        have hw := hw.2
        refine ra_65 X hR (okf X.2.2.1 rfl) c44 dX10_laysRows_62 ?_
        have r45 := hR.r 65 0 y1
        have c46 := hw.1
        have hw := hw.2
        refine ra_85 X hR (okf X.2.2.1 rfl) c46 dX10_laysRows_63 ?_
        have r47 := hR.r 85 0 (M 65 0 y1)
        refine lv_aload_n X.1.1 X.1.2.1 dX10_laysRows_64 rfl (lv_at hl 0 rfl) ?_
        refine lv_iload_n X.1.1 X.1.2.1 dX10_laysRows_65 rfl (lv_at hl 1 rfl) ?_
        refine cs_X10_linesOf X hy1 (kc := 3) rmL_ok rm_c (by decide) hR hS kw_1905 hl.1 dX10_laysRows_66 (Nat.le_of_ble_eq_true rfl) hw (fun x49 M48 H locs hw r50 hR hS => ?_)
        refine cs_X10_greater X r47 r50 (kc := 3) rmL_ok rm_c (by decide) hR hS kw_1822 hl.1 dX10_laysRows_69 (Nat.le_of_ble_eq_true rfl) hw (fun x52 M51 H locs hw r53 hR hS => ?_)
        have c54 := hw.1
        have hw := hw.2
        refine wa_85 X hR hS (okf X.2.2.1 rfl) c54 r53 dX10_laysRows_72 (fun H locs hR hS => ?_)
        obtain ⟨M55, e56⟩ : ∃ z : Mem, z = up M51 85 0 (M 65 0 y1) x52 := ⟨_, rfl⟩
        rw [← e56] at hR
        have hw := hw M55 e56
        exact t_X10_laysRows_73 X ih _ _ hw hy1 _ _ hR hS _ (lv_sub hl [0, 1] rfl)
set_option maxHeartbeats 4000000 in
set_option maxRecDepth 100000 in
theorem t_X10_laysRows_2 (X : CX p m c cX10_laysRows 5 s args RX10 G B κ meth none) {Qm : Mem → Prop} : ∀ n : Nat, ∀ y1 : Int, ∀ M : Mem, wp_X10_laysRows_2 Qm n y1 M → inR y1 → ∀ (H : Heap) (locs : List Loc), Rp G e0 α κ B M H → va_S (fun q => B ≤ q) s.heap H locs → ∀ (ls : Array Slot), lv_has ls 5 [(0, .ref (α 11 0)), (1, .int (Int32.ofInt y1))] → WV p l e 3 s m args below meth c G e0 α κ B Qm H locs 2 ls [] := by
  intro n
  induction n with
  | zero =>
    intro y1 M hw hy1 H locs hR hS ls hl
    exact hw.elim
  | succ n ih =>
    intro y1 M hw hy1 H locs hR hS ls hl
    have hw : (((M 11 0 8) ≤ y1 → (∃ n57 : Nat, wp_X10_laysRows_25 Qm n57 0 M)) ∧ (y1 < (M 11 0 8) → (0 ≤ y1 ∧ y1 < 29) ∧ ∀ M59 : Mem, M59 = up M 85 0 y1 1 → (inR (y1 + 1)) ∧ wp_X10_laysRows_2 Qm n (y1 + 1) M59)) := hw
    refine lv_iload_n X.1.1 X.1.2.1 dX10_laysRows_2 rfl (lv_at hl 1 rfl) ?_
    refine lv_aload_n X.1.1 X.1.2.1 dX10_laysRows_3 rfl (lv_at hl 0 rfl) ?_
    refine gt_11_8 X hR (okf X.2.2.1 rfl) kw_1537 dX10_laysRows_4 ?_
    have r1 := hR.r 11 0 8
    refine sa_icmp_ge (tgt := 23) X.1 hy1 r1 dX10_laysRows_7 (by decide) (fun hc => ?_) (fun hc => ?_)
    · have hw := hw.1 hc
      refine sa_const X.1 dX10_laysRows_23 ?_
      refine lv_istore_n (lv' := [(1, .int (Int32.ofInt 0)), (0, .ref (α 11 0))]) X.1.1 X.1.2.1 dX10_laysRows_24 rfl hl (by decide) rfl (fun ls hl => ?_)
      obtain ⟨n57, hw⟩ := hw
      exact t_X10_laysRows_25 X n57 _ _ hw (inR_c (a := 0) rfl) _ _ hR hS _ (lv_sub hl [1, 0] rfl)
    · have hw := hw.2 hc
      refine lv_aload_n X.1.1 X.1.2.1 dX10_laysRows_10 rfl (lv_at hl 0 rfl) ?_
      refine gt_11_36 X hR (okf X.2.2.1 rfl) kw_1565 dX10_laysRows_11 ?_
      refine lv_iload_n X.1.1 X.1.2.1 dX10_laysRows_14 rfl (lv_at hl 1 rfl) ?_
      refine sa_const X.1 dX10_laysRows_15 ?_
      have c58 := hw.1
      have hw := hw.2
      refine wa_85 X hR hS (okf X.2.2.1 rfl) c58 (inR_c (a := 1) rfl) dX10_laysRows_16 (fun H locs hR hS => ?_)
      obtain ⟨M59, e60⟩ : ∃ z : Mem, z = up M 85 0 y1 1 := ⟨_, rfl⟩
      rw [← e60] at hR
      have hw := hw M59 e60
      have c61 := hw.1
      have hw := hw.2
      refine lv_iinc (v := Int32.ofInt (y1 + 1)) (lv' := [(1, .int (Int32.ofInt (y1 + 1))), (0, .ref (α 11 0))]) X.1.1 X.1.2.1 dX10_laysRows_17 hl (k := 1) rfl (Int32.ofInt_add _ _).symm (by decide) rfl (fun ls hl => ?_)
      refine lv_goto (tgt := 2) X.1.1 X.1.2.1 dX10_laysRows_20 (by decide) ?_
      exact ih _ _ hw c61 _ _ hR hS _ (lv_sub hl [1, 0] rfl)
set_option maxHeartbeats 4000000 in
set_option maxRecDepth 100000 in
theorem t_X10_laysRows (X : CX p m c cX10_laysRows 5 s args RX10 G B κ meth none) {M : Mem} {Qm : Mem → Prop} (hw : wp_X10_laysRows M Qm) (H : Heap) (locs : List Loc) (hR : Rp G e0 α κ B M H) (hS : va_S (fun q => B ≤ q) s.heap H locs) (ls : Array Slot) (hl : lv_has ls 5 [(0, .ref (α 11 0))]) : WV p l e 3 s m args below meth c G e0 α κ B Qm H locs 0 ls [] := by
  have hw : (∃ n62 : Nat, wp_X10_laysRows_2 Qm n62 0 M) := hw
  refine sa_const X.1 dX10_laysRows_0 ?_
  refine lv_istore_n (lv' := [(1, .int (Int32.ofInt 0)), (0, .ref (α 11 0))]) X.1.1 X.1.2.1 dX10_laysRows_1 rfl hl (by decide) rfl (fun ls hl => ?_)
  obtain ⟨n62, hw⟩ := hw
  exact t_X10_laysRows_2 X n62 _ _ hw (inR_c (a := 0) rfl) _ _ hR hS _ (lv_sub hl [1, 0] rfl)
theorem m_X10_laysRows {l : Launch} {G : Gx} {e0 : Nat} {α : Ax} {κ : Nat → Int} {B : Nat} (hκ : kOK κ) {M : Mem} {Qm : Mem → Prop} (hw : wp_X10_laysRows M Qm) : CV l yX10_laysRows (Cond.code yX10_laysRows cX10_laysRows 5 none) 3 G e0 α κ B [.ref (α 11 0)] M Qm :=
  CV.mk hκ (by decide +kernel) rfl (Nat.le_of_ble_eq_true rfl) (lv := [(0, .ref (α 11 0))]) rfl (fun p e s m args below meth c ls X hR hS hl => t_X10_laysRows X hw _ _ hR hS ls hl)
theorem cs_X10_laysRows {cc : ByteArray} {nL : Nat} {own : String} {ret : Option FieldType} {idx pc : Nat} (X : CX p m c cc nL s args own G B κ meth ret) {kc : Nat} {R : Room} {cells slots : Nat} (hRr : RmOK R kc) (hcel : cells ≤ R.cells ∧ slots ≤ R.slots) (hk : 3 + 1 ≤ kc) {M : Mem} {H : Heap} {locs : List Loc} (hR : Rp G e0 α κ B M H) (hS : va_S (fun q => B ≤ q) s.heap H locs) (k1 : Cond.methodLink own idx yX10_laysRows ∈ gw) {ls : Array Slot} (hml : ls.size = nL) {rest : List Value} (hd : decode cc pc = .ok (.invokevirtual idx, 3)) (hrest : (rest.map fun v => v.category).sum ≤ 8) {Q : State → Prop} {Qm : Mem → Prop} (hw : wp_X10_laysRows M Qm) (kk : ∀ (M1 : Mem) (H1 : Heap) (locs1 : List Loc), Qm M1 → Rp G e0 α κ B M1 H1 → va_S (fun q => B ≤ q) s.heap H1 locs1 → W p l e R s m args below meth c H1 locs1 cells slots Q (F0 m (pc + 3) ls (rest))) : W p l e R s m args below meth c H locs cells slots Q (F0 m pc ls (.ref (α 11 0) :: rest)) :=
  sa_callVV 3 (n := 0) (As := []) (rest := rest) X.1 X.2.1 hR hS (m_X10_laysRows X.2.2.1 hw) k1 kw_1923 kw_69 kw_104 kw_1924 ⟨rfl, by decide +kernel, by decide +kernel, by decide +kernel⟩ (rm_ok hRr hk (by decide)) (rc_11 X hR (okf X.2.2.1 rfl)) rfl rfl hrest hml hd hcel kk
end
