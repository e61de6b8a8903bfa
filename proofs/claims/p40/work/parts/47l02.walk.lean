theorem dL_visible_0 : decode cL_visible 0 = .ok (.iconst 0, 1) := by decide +kernel
theorem dL_visible_1 : decode cL_visible 1 = .ok (.istore_n 2, 1) := by decide +kernel
theorem dL_visible_2 : decode cL_visible 2 = .ok (.iconst 0, 1) := by decide +kernel
theorem dL_visible_3 : decode cL_visible 3 = .ok (.istore_n 3, 1) := by decide +kernel
theorem dL_visible_4 : decode cL_visible 4 = .ok (.iload_n 3, 1) := by decide +kernel
theorem dL_visible_5 : decode cL_visible 5 = .ok (.aload_n 1, 1) := by decide +kernel
theorem dL_visible_6 : decode cL_visible 6 = .ok (.iconst 0, 1) := by decide +kernel
theorem dL_visible_7 : decode cL_visible 7 = .ok (.iaload, 1) := by decide +kernel
theorem dL_visible_8 : decode cL_visible 8 = .ok (.if_icmp .ge 21, 3) := by decide +kernel
theorem dL_visible_11 : decode cL_visible 11 = .ok (.iload_n 2, 1) := by decide +kernel
theorem dL_visible_12 : decode cL_visible 12 = .ok (.iconst 1, 1) := by decide +kernel
theorem dL_visible_13 : decode cL_visible 13 = .ok (.aload_n 0, 1) := by decide +kernel
theorem dL_visible_14 : decode cL_visible 14 = .ok (.iconst 4, 1) := by decide +kernel
theorem dL_visible_15 : decode cL_visible 15 = .ok (.iload_n 3, 1) := by decide +kernel
theorem dL_visible_16 : decode cL_visible 16 = .ok (.imul, 1) := by decide +kernel
theorem dL_visible_17 : decode cL_visible 17 = .ok (.iconst 3, 1) := by decide +kernel
theorem dL_visible_18 : decode cL_visible 18 = .ok (.iadd, 1) := by decide +kernel
theorem dL_visible_19 : decode cL_visible 19 = .ok (.iaload, 1) := by decide +kernel
theorem dL_visible_20 : decode cL_visible 20 = .ok (.isub, 1) := by decide +kernel
theorem dL_visible_21 : decode cL_visible 21 = .ok (.iadd, 1) := by decide +kernel
theorem dL_visible_22 : decode cL_visible 22 = .ok (.istore_n 2, 1) := by decide +kernel
theorem dL_visible_23 : decode cL_visible 23 = .ok (.iinc 3 1, 3) := by decide +kernel
theorem dL_visible_26 : decode cL_visible 26 = .ok (.goto (-22), 3) := by decide +kernel
theorem dL_visible_29 : decode cL_visible 29 = .ok (.iload_n 2, 1) := by decide +kernel
theorem dL_visible_30 : decode cL_visible 30 = .ok (.ireturn, 1) := by decide +kernel
theorem dL_widths_0 : decode cL_widths 0 = .ok (.iconst 0, 1) := by decide +kernel
theorem dL_widths_1 : decode cL_widths 1 = .ok (.istore 7, 2) := by decide +kernel
theorem dL_widths_3 : decode cL_widths 3 = .ok (.iload 7, 2) := by decide +kernel
theorem dL_widths_5 : decode cL_widths 5 = .ok (.aload 5, 2) := by decide +kernel
theorem dL_widths_7 : decode cL_widths 7 = .ok (.iconst 0, 1) := by decide +kernel
theorem dL_widths_8 : decode cL_widths 8 = .ok (.iaload, 1) := by decide +kernel
theorem dL_widths_9 : decode cL_widths 9 = .ok (.if_icmp .ge 57, 3) := by decide +kernel
theorem dL_widths_12 : decode cL_widths 12 = .ok (.aload_n 0, 1) := by decide +kernel
theorem dL_widths_13 : decode cL_widths 13 = .ok (.aload_n 1, 1) := by decide +kernel
theorem dL_widths_14 : decode cL_widths 14 = .ok (.aload_n 2, 1) := by decide +kernel
theorem dL_widths_15 : decode cL_widths 15 = .ok (.aload 4, 2) := by decide +kernel
theorem dL_widths_17 : decode cL_widths 17 = .ok (.aload 5, 2) := by decide +kernel
theorem dL_widths_19 : decode cL_widths 19 = .ok (.aload 6, 2) := by decide +kernel
theorem dL_widths_21 : decode cL_widths 21 = .ok (.iload 7, 2) := by decide +kernel
theorem dL_widths_23 : decode cL_widths 23 = .ok (.invokestatic 41, 3) := by decide +kernel
theorem dL_widths_26 : decode cL_widths 26 = .ok (.aload 6, 2) := by decide +kernel
theorem dL_widths_28 : decode cL_widths 28 = .ok (.iload 7, 2) := by decide +kernel
theorem dL_widths_30 : decode cL_widths 30 = .ok (.aload 6, 2) := by decide +kernel
theorem dL_widths_32 : decode cL_widths 32 = .ok (.bipush 12, 2) := by decide +kernel
theorem dL_widths_34 : decode cL_widths 34 = .ok (.iload 7, 2) := by decide +kernel
theorem dL_widths_36 : decode cL_widths 36 = .ok (.iadd, 1) := by decide +kernel
theorem dL_widths_37 : decode cL_widths 37 = .ok (.iaload, 1) := by decide +kernel
theorem dL_widths_38 : decode cL_widths 38 = .ok (.aload 6, 2) := by decide +kernel
theorem dL_widths_40 : decode cL_widths 40 = .ok (.bipush 16, 2) := by decide +kernel
theorem dL_widths_42 : decode cL_widths 42 = .ok (.iload 7, 2) := by decide +kernel
theorem dL_widths_44 : decode cL_widths 44 = .ok (.iadd, 1) := by decide +kernel
theorem dL_widths_45 : decode cL_widths 45 = .ok (.iaload, 1) := by decide +kernel
theorem dL_widths_46 : decode cL_widths 46 = .ok (.iadd, 1) := by decide +kernel
theorem dL_widths_47 : decode cL_widths 47 = .ok (.iastore, 1) := by decide +kernel
theorem dL_widths_48 : decode cL_widths 48 = .ok (.aload 6, 2) := by decide +kernel
theorem dL_widths_50 : decode cL_widths 50 = .ok (.iconst 4, 1) := by decide +kernel
theorem dL_widths_51 : decode cL_widths 51 = .ok (.iload 7, 2) := by decide +kernel
theorem dL_widths_53 : decode cL_widths 53 = .ok (.iadd, 1) := by decide +kernel
theorem dL_widths_54 : decode cL_widths 54 = .ok (.aload 6, 2) := by decide +kernel
theorem dL_widths_56 : decode cL_widths 56 = .ok (.iload 7, 2) := by decide +kernel
theorem dL_widths_58 : decode cL_widths 58 = .ok (.iaload, 1) := by decide +kernel
theorem dL_widths_59 : decode cL_widths 59 = .ok (.iastore, 1) := by decide +kernel
theorem dL_widths_60 : decode cL_widths 60 = .ok (.iinc 7 1, 3) := by decide +kernel
theorem dL_widths_63 : decode cL_widths 63 = .ok (.goto (-60), 3) := by decide +kernel
theorem dL_widths_66 : decode cL_widths 66 = .ok (.iconst 0, 1) := by decide +kernel
theorem dL_widths_67 : decode cL_widths 67 = .ok (.istore 7, 2) := by decide +kernel
theorem dL_widths_69 : decode cL_widths 69 = .ok (.iload 7, 2) := by decide +kernel
theorem dL_widths_71 : decode cL_widths 71 = .ok (.aload 5, 2) := by decide +kernel
theorem dL_widths_73 : decode cL_widths 73 = .ok (.iconst 2, 1) := by decide +kernel
theorem dL_widths_74 : decode cL_widths 74 = .ok (.iaload, 1) := by decide +kernel
theorem dL_widths_75 : decode cL_widths 75 = .ok (.if_icmp .ge 148, 3) := by decide +kernel
theorem dL_widths_78 : decode cL_widths 78 = .ok (.aload_n 2, 1) := by decide +kernel
theorem dL_widths_79 : decode cL_widths 79 = .ok (.bipush 6, 2) := by decide +kernel
theorem dL_widths_81 : decode cL_widths 81 = .ok (.iload 7, 2) := by decide +kernel
theorem dL_widths_83 : decode cL_widths 83 = .ok (.imul, 1) := by decide +kernel
theorem dL_widths_84 : decode cL_widths 84 = .ok (.iconst 1, 1) := by decide +kernel
theorem dL_widths_85 : decode cL_widths 85 = .ok (.iadd, 1) := by decide +kernel
theorem dL_widths_86 : decode cL_widths 86 = .ok (.iaload, 1) := by decide +kernel
theorem dL_widths_87 : decode cL_widths 87 = .ok (.istore 8, 2) := by decide +kernel
theorem dL_widths_89 : decode cL_widths 89 = .ok (.iload 8, 2) := by decide +kernel
theorem dL_widths_91 : decode cL_widths 91 = .ok (.aload_n 2, 1) := by decide +kernel
theorem dL_widths_92 : decode cL_widths 92 = .ok (.bipush 6, 2) := by decide +kernel
theorem dL_widths_94 : decode cL_widths 94 = .ok (.iload 7, 2) := by decide +kernel
theorem dL_widths_96 : decode cL_widths 96 = .ok (.imul, 1) := by decide +kernel
theorem dL_widths_97 : decode cL_widths 97 = .ok (.iconst 1, 1) := by decide +kernel
theorem dL_widths_98 : decode cL_widths 98 = .ok (.iadd, 1) := by decide +kernel
theorem dL_widths_99 : decode cL_widths 99 = .ok (.iaload, 1) := by decide +kernel
theorem dL_widths_100 : decode cL_widths 100 = .ok (.aload_n 2, 1) := by decide +kernel
theorem dL_widths_101 : decode cL_widths 101 = .ok (.bipush 6, 2) := by decide +kernel
theorem dL_widths_103 : decode cL_widths 103 = .ok (.iload 7, 2) := by decide +kernel
theorem dL_widths_105 : decode cL_widths 105 = .ok (.imul, 1) := by decide +kernel
theorem dL_widths_106 : decode cL_widths 106 = .ok (.iconst 3, 1) := by decide +kernel
theorem dL_widths_107 : decode cL_widths 107 = .ok (.iadd, 1) := by decide +kernel
theorem dL_widths_108 : decode cL_widths 108 = .ok (.iaload, 1) := by decide +kernel
theorem dL_widths_109 : decode cL_widths 109 = .ok (.iadd, 1) := by decide +kernel
theorem dL_widths_110 : decode cL_widths 110 = .ok (.if_icmp .ge 107, 3) := by decide +kernel
theorem dL_widths_113 : decode cL_widths 113 = .ok (.aload_n 0, 1) := by decide +kernel
theorem dL_widths_114 : decode cL_widths 114 = .ok (.aload_n 2, 1) := by decide +kernel
theorem dL_widths_115 : decode cL_widths 115 = .ok (.iload 7, 2) := by decide +kernel
theorem dL_widths_117 : decode cL_widths 117 = .ok (.invokestatic 33, 3) := by decide +kernel
theorem dL_widths_120 : decode cL_widths 120 = .ok (.iconst 1, 1) := by decide +kernel
theorem dL_widths_121 : decode cL_widths 121 = .ok (.if_icmp .ne 90, 3) := by decide +kernel
theorem dL_widths_124 : decode cL_widths 124 = .ok (.aload_n 0, 1) := by decide +kernel
theorem dL_widths_125 : decode cL_widths 125 = .ok (.iconst 4, 1) := by decide +kernel
theorem dL_widths_126 : decode cL_widths 126 = .ok (.iload 8, 2) := by decide +kernel
theorem dL_widths_128 : decode cL_widths 128 = .ok (.imul, 1) := by decide +kernel
theorem dL_widths_129 : decode cL_widths 129 = .ok (.iconst 3, 1) := by decide +kernel
theorem dL_widths_130 : decode cL_widths 130 = .ok (.iadd, 1) := by decide +kernel
theorem dL_widths_131 : decode cL_widths 131 = .ok (.iaload, 1) := by decide +kernel
theorem dL_widths_132 : decode cL_widths 132 = .ok (.ifCond .ne 79, 3) := by decide +kernel
theorem dL_widths_135 : decode cL_widths 135 = .ok (.aload 6, 2) := by decide +kernel
theorem dL_widths_137 : decode cL_widths 137 = .ok (.iload 8, 2) := by decide +kernel
theorem dL_widths_139 : decode cL_widths 139 = .ok (.aload_n 3, 1) := by decide +kernel
theorem dL_widths_140 : decode cL_widths 140 = .ok (.iload 7, 2) := by decide +kernel
theorem dL_widths_142 : decode cL_widths 142 = .ok (.iconst 0, 1) := by decide +kernel
theorem dL_widths_143 : decode cL_widths 143 = .ok (.invokestatic 37, 3) := by decide +kernel
theorem dL_widths_146 : decode cL_widths 146 = .ok (.aload 6, 2) := by decide +kernel
theorem dL_widths_148 : decode cL_widths 148 = .ok (.iload 8, 2) := by decide +kernel
theorem dL_widths_150 : decode cL_widths 150 = .ok (.iaload, 1) := by decide +kernel
theorem dL_widths_151 : decode cL_widths 151 = .ok (.if_icmp .le 13, 3) := by decide +kernel
theorem dL_widths_154 : decode cL_widths 154 = .ok (.aload_n 3, 1) := by decide +kernel
theorem dL_widths_155 : decode cL_widths 155 = .ok (.iload 7, 2) := by decide +kernel
theorem dL_widths_157 : decode cL_widths 157 = .ok (.iconst 0, 1) := by decide +kernel
theorem dL_widths_158 : decode cL_widths 158 = .ok (.invokestatic 37, 3) := by decide +kernel
theorem dL_widths_161 : decode cL_widths 161 = .ok (.goto 8, 3) := by decide +kernel
theorem dL_widths_164 : decode cL_widths 164 = .ok (.aload 6, 2) := by decide +kernel
theorem dL_widths_166 : decode cL_widths 166 = .ok (.iload 8, 2) := by decide +kernel
theorem dL_widths_168 : decode cL_widths 168 = .ok (.iaload, 1) := by decide +kernel
theorem dL_widths_169 : decode cL_widths 169 = .ok (.iastore, 1) := by decide +kernel
theorem dL_widths_170 : decode cL_widths 170 = .ok (.aload 6, 2) := by decide +kernel
theorem dL_widths_172 : decode cL_widths 172 = .ok (.iconst 4, 1) := by decide +kernel
theorem dL_widths_173 : decode cL_widths 173 = .ok (.iload 8, 2) := by decide +kernel
theorem dL_widths_175 : decode cL_widths 175 = .ok (.iadd, 1) := by decide +kernel
theorem dL_widths_176 : decode cL_widths 176 = .ok (.aload_n 3, 1) := by decide +kernel
theorem dL_widths_177 : decode cL_widths 177 = .ok (.iload 7, 2) := by decide +kernel
theorem dL_widths_179 : decode cL_widths 179 = .ok (.iconst 1, 1) := by decide +kernel
theorem dL_widths_180 : decode cL_widths 180 = .ok (.invokestatic 37, 3) := by decide +kernel
theorem dL_widths_183 : decode cL_widths 183 = .ok (.aload 6, 2) := by decide +kernel
theorem dL_widths_185 : decode cL_widths 185 = .ok (.iconst 4, 1) := by decide +kernel
theorem dL_widths_186 : decode cL_widths 186 = .ok (.iload 8, 2) := by decide +kernel
theorem dL_widths_188 : decode cL_widths 188 = .ok (.iadd, 1) := by decide +kernel
theorem dL_widths_189 : decode cL_widths 189 = .ok (.iaload, 1) := by decide +kernel
theorem dL_widths_190 : decode cL_widths 190 = .ok (.if_icmp .le 13, 3) := by decide +kernel
theorem dL_widths_193 : decode cL_widths 193 = .ok (.aload_n 3, 1) := by decide +kernel
theorem dL_widths_194 : decode cL_widths 194 = .ok (.iload 7, 2) := by decide +kernel
theorem dL_widths_196 : decode cL_widths 196 = .ok (.iconst 1, 1) := by decide +kernel
theorem dL_widths_197 : decode cL_widths 197 = .ok (.invokestatic 37, 3) := by decide +kernel
theorem dL_widths_200 : decode cL_widths 200 = .ok (.goto 10, 3) := by decide +kernel
theorem dL_widths_203 : decode cL_widths 203 = .ok (.aload 6, 2) := by decide +kernel
theorem dL_widths_205 : decode cL_widths 205 = .ok (.iconst 4, 1) := by decide +kernel
theorem dL_widths_206 : decode cL_widths 206 = .ok (.iload 8, 2) := by decide +kernel
theorem dL_widths_208 : decode cL_widths 208 = .ok (.iadd, 1) := by decide +kernel
theorem dL_widths_209 : decode cL_widths 209 = .ok (.iaload, 1) := by decide +kernel
theorem dL_widths_210 : decode cL_widths 210 = .ok (.iastore, 1) := by decide +kernel
theorem dL_widths_211 : decode cL_widths 211 = .ok (.iinc 8 1, 3) := by decide +kernel
theorem dL_widths_214 : decode cL_widths 214 = .ok (.goto (-125), 3) := by decide +kernel
theorem dL_widths_217 : decode cL_widths 217 = .ok (.iinc 7 1, 3) := by decide +kernel
theorem dL_widths_220 : decode cL_widths 220 = .ok (.goto (-151), 3) := by decide +kernel
theorem dL_widths_223 : decode cL_widths 223 = .ok (.aload_n 0, 1) := by decide +kernel
theorem dL_widths_224 : decode cL_widths 224 = .ok (.aload_n 2, 1) := by decide +kernel
theorem dL_widths_225 : decode cL_widths 225 = .ok (.aload_n 3, 1) := by decide +kernel
theorem dL_widths_226 : decode cL_widths 226 = .ok (.aload 5, 2) := by decide +kernel
theorem dL_widths_228 : decode cL_widths 228 = .ok (.aload 6, 2) := by decide +kernel
theorem dL_widths_230 : decode cL_widths 230 = .ok (.iconst 0, 1) := by decide +kernel
theorem dL_widths_231 : decode cL_widths 231 = .ok (.iconst 0, 1) := by decide +kernel
theorem dL_widths_232 : decode cL_widths 232 = .ok (.invokestatic 45, 3) := by decide +kernel
theorem dL_widths_235 : decode cL_widths 235 = .ok (.aload_n 0, 1) := by decide +kernel
theorem dL_widths_236 : decode cL_widths 236 = .ok (.aload_n 2, 1) := by decide +kernel
theorem dL_widths_237 : decode cL_widths 237 = .ok (.aload_n 3, 1) := by decide +kernel
theorem dL_widths_238 : decode cL_widths 238 = .ok (.aload 5, 2) := by decide +kernel
theorem dL_widths_240 : decode cL_widths 240 = .ok (.aload 6, 2) := by decide +kernel
theorem dL_widths_242 : decode cL_widths 242 = .ok (.iconst 4, 1) := by decide +kernel
theorem dL_widths_243 : decode cL_widths 243 = .ok (.iconst 1, 1) := by decide +kernel
theorem dL_widths_244 : decode cL_widths 244 = .ok (.invokestatic 45, 3) := by decide +kernel
theorem dL_widths_247 : decode cL_widths 247 = .ok (.aload 5, 2) := by decide +kernel
theorem dL_widths_249 : decode cL_widths 249 = .ok (.iconst 3, 1) := by decide +kernel
theorem dL_widths_250 : decode cL_widths 250 = .ok (.iaload, 1) := by decide +kernel
theorem dL_widths_251 : decode cL_widths 251 = .ok (.aload_n 0, 1) := by decide +kernel
theorem dL_widths_252 : decode cL_widths 252 = .ok (.aload 5, 2) := by decide +kernel
theorem dL_widths_254 : decode cL_widths 254 = .ok (.invokestatic 49, 3) := by decide +kernel
theorem dL_widths_257 : decode cL_widths 257 = .ok (.isub, 1) := by decide +kernel
theorem dL_widths_258 : decode cL_widths 258 = .ok (.iconst 1, 1) := by decide +kernel
theorem dL_widths_259 : decode cL_widths 259 = .ok (.iadd, 1) := by decide +kernel
theorem dL_widths_260 : decode cL_widths 260 = .ok (.istore 7, 2) := by decide +kernel
theorem dL_widths_262 : decode cL_widths 262 = .ok (.iconst 0, 1) := by decide +kernel
theorem dL_widths_263 : decode cL_widths 263 = .ok (.istore 8, 2) := by decide +kernel
theorem dL_widths_265 : decode cL_widths 265 = .ok (.aload 5, 2) := by decide +kernel
theorem dL_widths_267 : decode cL_widths 267 = .ok (.iconst 3, 1) := by decide +kernel
theorem dL_widths_268 : decode cL_widths 268 = .ok (.iaload, 1) := by decide +kernel
theorem dL_widths_269 : decode cL_widths 269 = .ok (.aload_n 0, 1) := by decide +kernel
theorem dL_widths_270 : decode cL_widths 270 = .ok (.aload 5, 2) := by decide +kernel
theorem dL_widths_272 : decode cL_widths 272 = .ok (.invokestatic 49, 3) := by decide +kernel
theorem dL_widths_275 : decode cL_widths 275 = .ok (.isub, 1) := by decide +kernel
theorem dL_widths_276 : decode cL_widths 276 = .ok (.iconst 1, 1) := by decide +kernel
theorem dL_widths_277 : decode cL_widths 277 = .ok (.iadd, 1) := by decide +kernel
theorem dL_widths_278 : decode cL_widths 278 = .ok (.istore 9, 2) := by decide +kernel
theorem dL_widths_280 : decode cL_widths 280 = .ok (.iconst 0, 1) := by decide +kernel
theorem dL_widths_281 : decode cL_widths 281 = .ok (.istore 10, 2) := by decide +kernel
theorem dL_widths_283 : decode cL_widths 283 = .ok (.iload 10, 2) := by decide +kernel
theorem dL_widths_285 : decode cL_widths 285 = .ok (.aload 5, 2) := by decide +kernel
theorem dL_widths_287 : decode cL_widths 287 = .ok (.iconst 0, 1) := by decide +kernel
theorem dL_widths_288 : decode cL_widths 288 = .ok (.iaload, 1) := by decide +kernel
theorem dL_widths_289 : decode cL_widths 289 = .ok (.if_icmp .ge 254, 3) := by decide +kernel
theorem dL_widths_292 : decode cL_widths 292 = .ok (.aload 6, 2) := by decide +kernel
theorem dL_widths_294 : decode cL_widths 294 = .ok (.iconst 4, 1) := by decide +kernel
theorem dL_widths_295 : decode cL_widths 295 = .ok (.iload 10, 2) := by decide +kernel
theorem dL_widths_297 : decode cL_widths 297 = .ok (.iadd, 1) := by decide +kernel
theorem dL_widths_298 : decode cL_widths 298 = .ok (.aload 6, 2) := by decide +kernel
theorem dL_widths_300 : decode cL_widths 300 = .ok (.iconst 4, 1) := by decide +kernel
theorem dL_widths_301 : decode cL_widths 301 = .ok (.iload 10, 2) := by decide +kernel
theorem dL_widths_303 : decode cL_widths 303 = .ok (.iadd, 1) := by decide +kernel
theorem dL_widths_304 : decode cL_widths 304 = .ok (.iaload, 1) := by decide +kernel
theorem dL_widths_305 : decode cL_widths 305 = .ok (.aload 6, 2) := by decide +kernel
theorem dL_widths_307 : decode cL_widths 307 = .ok (.iload 10, 2) := by decide +kernel
theorem dL_widths_309 : decode cL_widths 309 = .ok (.iaload, 1) := by decide +kernel
theorem dL_widths_310 : decode cL_widths 310 = .ok (.if_icmp .le 13, 3) := by decide +kernel
theorem dL_widths_313 : decode cL_widths 313 = .ok (.aload 6, 2) := by decide +kernel
theorem dL_widths_315 : decode cL_widths 315 = .ok (.iconst 4, 1) := by decide +kernel
theorem dL_widths_316 : decode cL_widths 316 = .ok (.iload 10, 2) := by decide +kernel
theorem dL_widths_318 : decode cL_widths 318 = .ok (.iadd, 1) := by decide +kernel
theorem dL_widths_319 : decode cL_widths 319 = .ok (.iaload, 1) := by decide +kernel
theorem dL_widths_320 : decode cL_widths 320 = .ok (.goto 8, 3) := by decide +kernel
theorem dL_widths_323 : decode cL_widths 323 = .ok (.aload 6, 2) := by decide +kernel
theorem dL_widths_325 : decode cL_widths 325 = .ok (.iload 10, 2) := by decide +kernel
theorem dL_widths_327 : decode cL_widths 327 = .ok (.iaload, 1) := by decide +kernel
theorem dL_widths_328 : decode cL_widths 328 = .ok (.iastore, 1) := by decide +kernel
theorem dL_widths_329 : decode cL_widths 329 = .ok (.aload 6, 2) := by decide +kernel
theorem dL_widths_331 : decode cL_widths 331 = .ok (.iload 10, 2) := by decide +kernel
theorem dL_widths_333 : decode cL_widths 333 = .ok (.aload_n 0, 1) := by decide +kernel
theorem dL_widths_334 : decode cL_widths 334 = .ok (.iconst 4, 1) := by decide +kernel
theorem dL_widths_335 : decode cL_widths 335 = .ok (.iload 10, 2) := by decide +kernel
theorem dL_widths_337 : decode cL_widths 337 = .ok (.imul, 1) := by decide +kernel
theorem dL_widths_338 : decode cL_widths 338 = .ok (.iconst 3, 1) := by decide +kernel
theorem dL_widths_339 : decode cL_widths 339 = .ok (.iadd, 1) := by decide +kernel
theorem dL_widths_340 : decode cL_widths 340 = .ok (.iaload, 1) := by decide +kernel
theorem dL_widths_341 : decode cL_widths 341 = .ok (.iconst 1, 1) := by decide +kernel
theorem dL_widths_342 : decode cL_widths 342 = .ok (.if_icmp .ne 7, 3) := by decide +kernel
theorem dL_widths_345 : decode cL_widths 345 = .ok (.iconst 0, 1) := by decide +kernel
theorem dL_widths_346 : decode cL_widths 346 = .ok (.goto 8, 3) := by decide +kernel
theorem dL_widths_349 : decode cL_widths 349 = .ok (.aload 6, 2) := by decide +kernel
theorem dL_widths_351 : decode cL_widths 351 = .ok (.iload 10, 2) := by decide +kernel
theorem dL_widths_353 : decode cL_widths 353 = .ok (.iaload, 1) := by decide +kernel
theorem dL_widths_354 : decode cL_widths 354 = .ok (.iastore, 1) := by decide +kernel
theorem dL_widths_355 : decode cL_widths 355 = .ok (.aload 6, 2) := by decide +kernel
theorem dL_widths_357 : decode cL_widths 357 = .ok (.iconst 4, 1) := by decide +kernel
theorem dL_widths_358 : decode cL_widths 358 = .ok (.iload 10, 2) := by decide +kernel
theorem dL_widths_360 : decode cL_widths 360 = .ok (.iadd, 1) := by decide +kernel
theorem dL_widths_361 : decode cL_widths 361 = .ok (.aload_n 0, 1) := by decide +kernel
theorem dL_widths_362 : decode cL_widths 362 = .ok (.iconst 4, 1) := by decide +kernel
theorem dL_widths_363 : decode cL_widths 363 = .ok (.iload 10, 2) := by decide +kernel
theorem dL_widths_365 : decode cL_widths 365 = .ok (.imul, 1) := by decide +kernel
theorem dL_widths_366 : decode cL_widths 366 = .ok (.iconst 3, 1) := by decide +kernel
theorem dL_widths_367 : decode cL_widths 367 = .ok (.iadd, 1) := by decide +kernel
theorem dL_widths_368 : decode cL_widths 368 = .ok (.iaload, 1) := by decide +kernel
theorem dL_widths_369 : decode cL_widths 369 = .ok (.iconst 1, 1) := by decide +kernel
theorem dL_widths_370 : decode cL_widths 370 = .ok (.if_icmp .ne 7, 3) := by decide +kernel
theorem dL_widths_373 : decode cL_widths 373 = .ok (.iconst 0, 1) := by decide +kernel
theorem dL_widths_374 : decode cL_widths 374 = .ok (.goto 10, 3) := by decide +kernel
theorem dL_widths_377 : decode cL_widths 377 = .ok (.aload 6, 2) := by decide +kernel
theorem dL_widths_379 : decode cL_widths 379 = .ok (.iconst 4, 1) := by decide +kernel
theorem dL_widths_380 : decode cL_widths 380 = .ok (.iload 10, 2) := by decide +kernel
theorem dL_widths_382 : decode cL_widths 382 = .ok (.iadd, 1) := by decide +kernel
theorem dL_widths_383 : decode cL_widths 383 = .ok (.iaload, 1) := by decide +kernel
theorem dL_widths_384 : decode cL_widths 384 = .ok (.iastore, 1) := by decide +kernel
theorem dL_widths_385 : decode cL_widths 385 = .ok (.iload 9, 2) := by decide +kernel
theorem dL_widths_387 : decode cL_widths 387 = .ok (.ifCond .lt 20, 3) := by decide +kernel
theorem dL_widths_390 : decode cL_widths 390 = .ok (.iload 9, 2) := by decide +kernel
theorem dL_widths_392 : decode cL_widths 392 = .ok (.aload_n 0, 1) := by decide +kernel
theorem dL_widths_393 : decode cL_widths 393 = .ok (.iconst 4, 1) := by decide +kernel
theorem dL_widths_394 : decode cL_widths 394 = .ok (.iload 10, 2) := by decide +kernel
theorem dL_widths_396 : decode cL_widths 396 = .ok (.imul, 1) := by decide +kernel
theorem dL_widths_397 : decode cL_widths 397 = .ok (.iconst 1, 1) := by decide +kernel
theorem dL_widths_398 : decode cL_widths 398 = .ok (.iadd, 1) := by decide +kernel
theorem dL_widths_399 : decode cL_widths 399 = .ok (.iaload, 1) := by decide +kernel
theorem dL_widths_400 : decode cL_widths 400 = .ok (.imul, 1) := by decide +kernel
theorem dL_widths_401 : decode cL_widths 401 = .ok (.bipush 100, 2) := by decide +kernel
theorem dL_widths_403 : decode cL_widths 403 = .ok (.idiv, 1) := by decide +kernel
theorem dL_widths_404 : decode cL_widths 404 = .ok (.goto 4, 3) := by decide +kernel
theorem dL_widths_407 : decode cL_widths 407 = .ok (.iconst 0, 1) := by decide +kernel
theorem dL_widths_408 : decode cL_widths 408 = .ok (.istore 11, 2) := by decide +kernel
theorem dL_widths_410 : decode cL_widths 410 = .ok (.aload_n 0, 1) := by decide +kernel
theorem dL_widths_411 : decode cL_widths 411 = .ok (.iconst 4, 1) := by decide +kernel
theorem dL_widths_412 : decode cL_widths 412 = .ok (.iload 10, 2) := by decide +kernel
theorem dL_widths_414 : decode cL_widths 414 = .ok (.imul, 1) := by decide +kernel
theorem dL_widths_415 : decode cL_widths 415 = .ok (.iaload, 1) := by decide +kernel
theorem dL_widths_416 : decode cL_widths 416 = .ok (.iconst 1, 1) := by decide +kernel
theorem dL_widths_417 : decode cL_widths 417 = .ok (.if_icmp .ne 14, 3) := by decide +kernel
theorem dL_widths_420 : decode cL_widths 420 = .ok (.aload_n 0, 1) := by decide +kernel
theorem dL_widths_421 : decode cL_widths 421 = .ok (.iconst 4, 1) := by decide +kernel
theorem dL_widths_422 : decode cL_widths 422 = .ok (.iload 10, 2) := by decide +kernel
theorem dL_widths_424 : decode cL_widths 424 = .ok (.imul, 1) := by decide +kernel
theorem dL_widths_425 : decode cL_widths 425 = .ok (.iconst 1, 1) := by decide +kernel
theorem dL_widths_426 : decode cL_widths 426 = .ok (.iadd, 1) := by decide +kernel
theorem dL_widths_427 : decode cL_widths 427 = .ok (.iaload, 1) := by decide +kernel
theorem dL_widths_428 : decode cL_widths 428 = .ok (.goto 19, 3) := by decide +kernel
theorem dL_widths_431 : decode cL_widths 431 = .ok (.aload_n 0, 1) := by decide +kernel
theorem dL_widths_432 : decode cL_widths 432 = .ok (.iconst 4, 1) := by decide +kernel
theorem dL_widths_433 : decode cL_widths 433 = .ok (.iload 10, 2) := by decide +kernel
theorem dL_widths_435 : decode cL_widths 435 = .ok (.imul, 1) := by decide +kernel
theorem dL_widths_436 : decode cL_widths 436 = .ok (.iaload, 1) := by decide +kernel
theorem dL_widths_437 : decode cL_widths 437 = .ok (.iconst 2, 1) := by decide +kernel
theorem dL_widths_438 : decode cL_widths 438 = .ok (.if_icmp .ne 8, 3) := by decide +kernel
theorem dL_widths_441 : decode cL_widths 441 = .ok (.iload 11, 2) := by decide +kernel
theorem dL_widths_443 : decode cL_widths 443 = .ok (.goto 4, 3) := by decide +kernel
theorem dL_widths_446 : decode cL_widths 446 = .ok (.iconst 0, 1) := by decide +kernel
theorem dL_widths_447 : decode cL_widths 447 = .ok (.istore 12, 2) := by decide +kernel
theorem dL_widths_449 : decode cL_widths 449 = .ok (.aload 6, 2) := by decide +kernel
theorem dL_widths_451 : decode cL_widths 451 = .ok (.bipush 8, 2) := by decide +kernel
theorem dL_widths_453 : decode cL_widths 453 = .ok (.iload 10, 2) := by decide +kernel
theorem dL_widths_455 : decode cL_widths 455 = .ok (.iadd, 1) := by decide +kernel
theorem dL_widths_456 : decode cL_widths 456 = .ok (.aload_n 0, 1) := by decide +kernel
theorem dL_widths_457 : decode cL_widths 457 = .ok (.iconst 4, 1) := by decide +kernel
theorem dL_widths_458 : decode cL_widths 458 = .ok (.iload 10, 2) := by decide +kernel
theorem dL_widths_460 : decode cL_widths 460 = .ok (.imul, 1) := by decide +kernel
theorem dL_widths_461 : decode cL_widths 461 = .ok (.iconst 3, 1) := by decide +kernel
theorem dL_widths_462 : decode cL_widths 462 = .ok (.iadd, 1) := by decide +kernel
theorem dL_widths_463 : decode cL_widths 463 = .ok (.iaload, 1) := by decide +kernel
theorem dL_widths_464 : decode cL_widths 464 = .ok (.iconst 1, 1) := by decide +kernel
theorem dL_widths_465 : decode cL_widths 465 = .ok (.if_icmp .ne 7, 3) := by decide +kernel
theorem dL_widths_468 : decode cL_widths 468 = .ok (.iconst 0, 1) := by decide +kernel
theorem dL_widths_469 : decode cL_widths 469 = .ok (.goto 23, 3) := by decide +kernel
theorem dL_widths_472 : decode cL_widths 472 = .ok (.iload 12, 2) := by decide +kernel
theorem dL_widths_474 : decode cL_widths 474 = .ok (.aload 6, 2) := by decide +kernel
theorem dL_widths_476 : decode cL_widths 476 = .ok (.iload 10, 2) := by decide +kernel
theorem dL_widths_478 : decode cL_widths 478 = .ok (.iaload, 1) := by decide +kernel
theorem dL_widths_479 : decode cL_widths 479 = .ok (.if_icmp .le 8, 3) := by decide +kernel
theorem dL_widths_482 : decode cL_widths 482 = .ok (.iload 12, 2) := by decide +kernel
theorem dL_widths_484 : decode cL_widths 484 = .ok (.goto 8, 3) := by decide +kernel
theorem dL_widths_487 : decode cL_widths 487 = .ok (.aload 6, 2) := by decide +kernel
theorem dL_widths_489 : decode cL_widths 489 = .ok (.iload 10, 2) := by decide +kernel
theorem dL_widths_491 : decode cL_widths 491 = .ok (.iaload, 1) := by decide +kernel
theorem dL_widths_492 : decode cL_widths 492 = .ok (.iastore, 1) := by decide +kernel
theorem dL_widths_493 : decode cL_widths 493 = .ok (.iload 7, 2) := by decide +kernel
theorem dL_widths_495 : decode cL_widths 495 = .ok (.aload 6, 2) := by decide +kernel
theorem dL_widths_497 : decode cL_widths 497 = .ok (.bipush 8, 2) := by decide +kernel
theorem dL_widths_499 : decode cL_widths 499 = .ok (.iload 10, 2) := by decide +kernel
theorem dL_widths_501 : decode cL_widths 501 = .ok (.iadd, 1) := by decide +kernel
theorem dL_widths_502 : decode cL_widths 502 = .ok (.iaload, 1) := by decide +kernel
theorem dL_widths_503 : decode cL_widths 503 = .ok (.isub, 1) := by decide +kernel
theorem dL_widths_504 : decode cL_widths 504 = .ok (.istore 7, 2) := by decide +kernel
theorem dL_widths_506 : decode cL_widths 506 = .ok (.iload 8, 2) := by decide +kernel
theorem dL_widths_508 : decode cL_widths 508 = .ok (.aload_n 0, 1) := by decide +kernel
theorem dL_widths_509 : decode cL_widths 509 = .ok (.iconst 4, 1) := by decide +kernel
theorem dL_widths_510 : decode cL_widths 510 = .ok (.iload 10, 2) := by decide +kernel
theorem dL_widths_512 : decode cL_widths 512 = .ok (.imul, 1) := by decide +kernel
theorem dL_widths_513 : decode cL_widths 513 = .ok (.iaload, 1) := by decide +kernel
theorem dL_widths_514 : decode cL_widths 514 = .ok (.ifCond .ne 19, 3) := by decide +kernel
theorem dL_widths_517 : decode cL_widths 517 = .ok (.aload 6, 2) := by decide +kernel
theorem dL_widths_519 : decode cL_widths 519 = .ok (.iconst 4, 1) := by decide +kernel
theorem dL_widths_520 : decode cL_widths 520 = .ok (.iload 10, 2) := by decide +kernel
theorem dL_widths_522 : decode cL_widths 522 = .ok (.iadd, 1) := by decide +kernel
theorem dL_widths_523 : decode cL_widths 523 = .ok (.iaload, 1) := by decide +kernel
theorem dL_widths_524 : decode cL_widths 524 = .ok (.aload 6, 2) := by decide +kernel
theorem dL_widths_526 : decode cL_widths 526 = .ok (.iload 10, 2) := by decide +kernel
theorem dL_widths_528 : decode cL_widths 528 = .ok (.iaload, 1) := by decide +kernel
theorem dL_widths_529 : decode cL_widths 529 = .ok (.isub, 1) := by decide +kernel
theorem dL_widths_530 : decode cL_widths 530 = .ok (.goto 4, 3) := by decide +kernel
theorem dL_widths_533 : decode cL_widths 533 = .ok (.iconst 0, 1) := by decide +kernel
theorem dL_widths_534 : decode cL_widths 534 = .ok (.iadd, 1) := by decide +kernel
theorem dL_widths_535 : decode cL_widths 535 = .ok (.istore 8, 2) := by decide +kernel
theorem dL_widths_537 : decode cL_widths 537 = .ok (.iinc 10 1, 3) := by decide +kernel
theorem dL_widths_540 : decode cL_widths 540 = .ok (.goto (-257), 3) := by decide +kernel
theorem dL_widths_543 : decode cL_widths 543 = .ok (.iload 7, 2) := by decide +kernel
theorem dL_widths_545 : decode cL_widths 545 = .ok (.iload 8, 2) := by decide +kernel
theorem dL_widths_547 : decode cL_widths 547 = .ok (.if_icmp .ge 8, 3) := by decide +kernel
theorem dL_widths_550 : decode cL_widths 550 = .ok (.iload 7, 2) := by decide +kernel
theorem dL_widths_552 : decode cL_widths 552 = .ok (.goto 5, 3) := by decide +kernel
theorem dL_widths_555 : decode cL_widths 555 = .ok (.iload 8, 2) := by decide +kernel
theorem dL_widths_557 : decode cL_widths 557 = .ok (.istore 10, 2) := by decide +kernel
theorem dL_widths_559 : decode cL_widths 559 = .ok (.iconst 0, 1) := by decide +kernel
theorem dL_widths_560 : decode cL_widths 560 = .ok (.istore 11, 2) := by decide +kernel
theorem dL_widths_562 : decode cL_widths 562 = .ok (.iconst 0, 1) := by decide +kernel
theorem dL_widths_563 : decode cL_widths 563 = .ok (.istore 12, 2) := by decide +kernel
theorem dL_widths_565 : decode cL_widths 565 = .ok (.iload 12, 2) := by decide +kernel
theorem dL_widths_567 : decode cL_widths 567 = .ok (.aload 5, 2) := by decide +kernel
theorem dL_widths_569 : decode cL_widths 569 = .ok (.iconst 0, 1) := by decide +kernel
theorem dL_widths_570 : decode cL_widths 570 = .ok (.iaload, 1) := by decide +kernel
theorem dL_widths_571 : decode cL_widths 571 = .ok (.if_icmp .ge 68, 3) := by decide +kernel
theorem dL_widths_574 : decode cL_widths 574 = .ok (.iload 10, 2) := by decide +kernel
theorem dL_widths_576 : decode cL_widths 576 = .ok (.ifCond .le 63, 3) := by decide +kernel
theorem dL_widths_579 : decode cL_widths 579 = .ok (.aload_n 0, 1) := by decide +kernel
theorem dL_widths_580 : decode cL_widths 580 = .ok (.iconst 4, 1) := by decide +kernel
theorem dL_widths_581 : decode cL_widths 581 = .ok (.iload 12, 2) := by decide +kernel
theorem dL_widths_583 : decode cL_widths 583 = .ok (.imul, 1) := by decide +kernel
theorem dL_widths_584 : decode cL_widths 584 = .ok (.iaload, 1) := by decide +kernel
theorem dL_widths_585 : decode cL_widths 585 = .ok (.ifCond .ne 25, 3) := by decide +kernel
theorem dL_widths_588 : decode cL_widths 588 = .ok (.iload 10, 2) := by decide +kernel
theorem dL_widths_590 : decode cL_widths 590 = .ok (.aload 6, 2) := by decide +kernel
theorem dL_widths_592 : decode cL_widths 592 = .ok (.iconst 4, 1) := by decide +kernel
theorem dL_widths_593 : decode cL_widths 593 = .ok (.iload 12, 2) := by decide +kernel
theorem dL_widths_595 : decode cL_widths 595 = .ok (.iadd, 1) := by decide +kernel
theorem dL_widths_596 : decode cL_widths 596 = .ok (.iaload, 1) := by decide +kernel
theorem dL_widths_597 : decode cL_widths 597 = .ok (.aload 6, 2) := by decide +kernel
theorem dL_widths_599 : decode cL_widths 599 = .ok (.iload 12, 2) := by decide +kernel
theorem dL_widths_601 : decode cL_widths 601 = .ok (.iaload, 1) := by decide +kernel
theorem dL_widths_602 : decode cL_widths 602 = .ok (.isub, 1) := by decide +kernel
theorem dL_widths_603 : decode cL_widths 603 = .ok (.imul, 1) := by decide +kernel
theorem dL_widths_604 : decode cL_widths 604 = .ok (.iload 8, 2) := by decide +kernel
theorem dL_widths_606 : decode cL_widths 606 = .ok (.idiv, 1) := by decide +kernel
theorem dL_widths_607 : decode cL_widths 607 = .ok (.goto 4, 3) := by decide +kernel
theorem dL_widths_610 : decode cL_widths 610 = .ok (.iconst 0, 1) := by decide +kernel
theorem dL_widths_611 : decode cL_widths 611 = .ok (.istore 13, 2) := by decide +kernel
theorem dL_widths_613 : decode cL_widths 613 = .ok (.aload 6, 2) := by decide +kernel
theorem dL_widths_615 : decode cL_widths 615 = .ok (.bipush 8, 2) := by decide +kernel
theorem dL_widths_617 : decode cL_widths 617 = .ok (.iload 12, 2) := by decide +kernel
theorem dL_widths_619 : decode cL_widths 619 = .ok (.iadd, 1) := by decide +kernel
theorem dL_widths_620 : decode cL_widths 620 = .ok (.dup2, 1) := by decide +kernel
theorem dL_widths_621 : decode cL_widths 621 = .ok (.iaload, 1) := by decide +kernel
theorem dL_widths_622 : decode cL_widths 622 = .ok (.iload 13, 2) := by decide +kernel
theorem dL_widths_624 : decode cL_widths 624 = .ok (.iadd, 1) := by decide +kernel
theorem dL_widths_625 : decode cL_widths 625 = .ok (.iastore, 1) := by decide +kernel
theorem dL_widths_626 : decode cL_widths 626 = .ok (.iload 11, 2) := by decide +kernel
theorem dL_widths_628 : decode cL_widths 628 = .ok (.iload 13, 2) := by decide +kernel
theorem dL_widths_630 : decode cL_widths 630 = .ok (.iadd, 1) := by decide +kernel
theorem dL_widths_631 : decode cL_widths 631 = .ok (.istore 11, 2) := by decide +kernel
theorem dL_widths_633 : decode cL_widths 633 = .ok (.iinc 12 1, 3) := by decide +kernel
theorem dL_widths_636 : decode cL_widths 636 = .ok (.goto (-71), 3) := by decide +kernel
theorem dL_widths_639 : decode cL_widths 639 = .ok (.iconst 0, 1) := by decide +kernel
theorem dL_widths_640 : decode cL_widths 640 = .ok (.istore 12, 2) := by decide +kernel
theorem dL_widths_642 : decode cL_widths 642 = .ok (.iload 12, 2) := by decide +kernel
theorem dL_widths_644 : decode cL_widths 644 = .ok (.aload 5, 2) := by decide +kernel
theorem dL_widths_646 : decode cL_widths 646 = .ok (.iconst 0, 1) := by decide +kernel
theorem dL_widths_647 : decode cL_widths 647 = .ok (.iaload, 1) := by decide +kernel
theorem dL_widths_648 : decode cL_widths 648 = .ok (.if_icmp .ge 86, 3) := by decide +kernel
theorem dL_widths_651 : decode cL_widths 651 = .ok (.iload 11, 2) := by decide +kernel
theorem dL_widths_653 : decode cL_widths 653 = .ok (.iload 10, 2) := by decide +kernel
theorem dL_widths_655 : decode cL_widths 655 = .ok (.if_icmp .ge 79, 3) := by decide +kernel
theorem dL_widths_658 : decode cL_widths 658 = .ok (.aload_n 0, 1) := by decide +kernel
theorem dL_widths_659 : decode cL_widths 659 = .ok (.iconst 4, 1) := by decide +kernel
theorem dL_widths_660 : decode cL_widths 660 = .ok (.iload 12, 2) := by decide +kernel
theorem dL_widths_662 : decode cL_widths 662 = .ok (.imul, 1) := by decide +kernel
theorem dL_widths_663 : decode cL_widths 663 = .ok (.iaload, 1) := by decide +kernel
theorem dL_widths_664 : decode cL_widths 664 = .ok (.ifCond .ne 25, 3) := by decide +kernel
theorem dL_widths_667 : decode cL_widths 667 = .ok (.aload 6, 2) := by decide +kernel
theorem dL_widths_669 : decode cL_widths 669 = .ok (.bipush 8, 2) := by decide +kernel
theorem dL_widths_671 : decode cL_widths 671 = .ok (.iload 12, 2) := by decide +kernel
theorem dL_widths_673 : decode cL_widths 673 = .ok (.iadd, 1) := by decide +kernel
theorem dL_widths_674 : decode cL_widths 674 = .ok (.iaload, 1) := by decide +kernel
theorem dL_widths_675 : decode cL_widths 675 = .ok (.aload 6, 2) := by decide +kernel
theorem dL_widths_677 : decode cL_widths 677 = .ok (.iconst 4, 1) := by decide +kernel
theorem dL_widths_678 : decode cL_widths 678 = .ok (.iload 12, 2) := by decide +kernel
theorem dL_widths_680 : decode cL_widths 680 = .ok (.iadd, 1) := by decide +kernel
theorem dL_widths_681 : decode cL_widths 681 = .ok (.iaload, 1) := by decide +kernel
theorem dL_widths_682 : decode cL_widths 682 = .ok (.if_icmp .ge 7, 3) := by decide +kernel
theorem dL_widths_685 : decode cL_widths 685 = .ok (.iconst 1, 1) := by decide +kernel
theorem dL_widths_686 : decode cL_widths 686 = .ok (.goto 4, 3) := by decide +kernel
theorem dL_widths_689 : decode cL_widths 689 = .ok (.iconst 0, 1) := by decide +kernel
theorem dL_widths_690 : decode cL_widths 690 = .ok (.istore 13, 2) := by decide +kernel
theorem dL_widths_692 : decode cL_widths 692 = .ok (.aload 6, 2) := by decide +kernel
theorem dL_widths_694 : decode cL_widths 694 = .ok (.bipush 8, 2) := by decide +kernel
theorem dL_widths_696 : decode cL_widths 696 = .ok (.iload 12, 2) := by decide +kernel
theorem dL_widths_698 : decode cL_widths 698 = .ok (.iadd, 1) := by decide +kernel
theorem dL_widths_699 : decode cL_widths 699 = .ok (.dup2, 1) := by decide +kernel
theorem dL_widths_700 : decode cL_widths 700 = .ok (.iaload, 1) := by decide +kernel
theorem dL_widths_701 : decode cL_widths 701 = .ok (.iload 13, 2) := by decide +kernel
theorem dL_widths_703 : decode cL_widths 703 = .ok (.ifCond .eq 7, 3) := by decide +kernel
theorem dL_widths_706 : decode cL_widths 706 = .ok (.iconst 1, 1) := by decide +kernel
theorem dL_widths_707 : decode cL_widths 707 = .ok (.goto 4, 3) := by decide +kernel
theorem dL_widths_710 : decode cL_widths 710 = .ok (.iconst 0, 1) := by decide +kernel
theorem dL_widths_711 : decode cL_widths 711 = .ok (.iadd, 1) := by decide +kernel
theorem dL_widths_712 : decode cL_widths 712 = .ok (.iastore, 1) := by decide +kernel
theorem dL_widths_713 : decode cL_widths 713 = .ok (.iload 11, 2) := by decide +kernel
theorem dL_widths_715 : decode cL_widths 715 = .ok (.iload 13, 2) := by decide +kernel
theorem dL_widths_717 : decode cL_widths 717 = .ok (.ifCond .eq 7, 3) := by decide +kernel
theorem dL_widths_720 : decode cL_widths 720 = .ok (.iconst 1, 1) := by decide +kernel
theorem dL_widths_721 : decode cL_widths 721 = .ok (.goto 4, 3) := by decide +kernel
theorem dL_widths_724 : decode cL_widths 724 = .ok (.iconst 0, 1) := by decide +kernel
theorem dL_widths_725 : decode cL_widths 725 = .ok (.iadd, 1) := by decide +kernel
theorem dL_widths_726 : decode cL_widths 726 = .ok (.istore 11, 2) := by decide +kernel
theorem dL_widths_728 : decode cL_widths 728 = .ok (.iinc 12 1, 3) := by decide +kernel
theorem dL_widths_731 : decode cL_widths 731 = .ok (.goto (-89), 3) := by decide +kernel
theorem dL_widths_734 : decode cL_widths 734 = .ok (.return_, 1) := by decide +kernel
theorem dL_across_0 : decode cL_across 0 = .ok (.iconst (-1), 1) := by decide +kernel
theorem dL_across_1 : decode cL_across 1 = .ok (.istore 4, 2) := by decide +kernel
theorem dL_across_3 : decode cL_across 3 = .ok (.aload_n 1, 1) := by decide +kernel
theorem dL_across_4 : decode cL_across 4 = .ok (.bipush 6, 2) := by decide +kernel
theorem dL_across_6 : decode cL_across 6 = .ok (.iload_n 3, 1) := by decide +kernel
theorem dL_across_7 : decode cL_across 7 = .ok (.imul, 1) := by decide +kernel
theorem dL_across_8 : decode cL_across 8 = .ok (.iconst 1, 1) := by decide +kernel
theorem dL_across_9 : decode cL_across 9 = .ok (.iadd, 1) := by decide +kernel
theorem dL_across_10 : decode cL_across 10 = .ok (.iaload, 1) := by decide +kernel
theorem dL_across_11 : decode cL_across 11 = .ok (.istore 5, 2) := by decide +kernel
theorem dL_across_13 : decode cL_across 13 = .ok (.iload 5, 2) := by decide +kernel
theorem dL_across_15 : decode cL_across 15 = .ok (.aload_n 1, 1) := by decide +kernel
theorem dL_across_16 : decode cL_across 16 = .ok (.bipush 6, 2) := by decide +kernel
theorem dL_across_18 : decode cL_across 18 = .ok (.iload_n 3, 1) := by decide +kernel
theorem dL_across_19 : decode cL_across 19 = .ok (.imul, 1) := by decide +kernel
theorem dL_across_20 : decode cL_across 20 = .ok (.iconst 1, 1) := by decide +kernel
theorem dL_across_21 : decode cL_across 21 = .ok (.iadd, 1) := by decide +kernel
theorem dL_across_22 : decode cL_across 22 = .ok (.iaload, 1) := by decide +kernel
theorem dL_across_23 : decode cL_across 23 = .ok (.aload_n 1, 1) := by decide +kernel
theorem dL_across_24 : decode cL_across 24 = .ok (.bipush 6, 2) := by decide +kernel
theorem dL_across_26 : decode cL_across 26 = .ok (.iload_n 3, 1) := by decide +kernel
theorem dL_across_27 : decode cL_across 27 = .ok (.imul, 1) := by decide +kernel
theorem dL_across_28 : decode cL_across 28 = .ok (.iconst 3, 1) := by decide +kernel
theorem dL_across_29 : decode cL_across 29 = .ok (.iadd, 1) := by decide +kernel
theorem dL_across_30 : decode cL_across 30 = .ok (.iaload, 1) := by decide +kernel
theorem dL_across_31 : decode cL_across 31 = .ok (.iadd, 1) := by decide +kernel
theorem dL_across_32 : decode cL_across 32 = .ok (.if_icmp .ge 39, 3) := by decide +kernel
theorem dL_across_35 : decode cL_across 35 = .ok (.iload 4, 2) := by decide +kernel
theorem dL_across_37 : decode cL_across 37 = .ok (.aload_n 0, 1) := by decide +kernel
theorem dL_across_38 : decode cL_across 38 = .ok (.iconst 4, 1) := by decide +kernel
theorem dL_across_39 : decode cL_across 39 = .ok (.iload 5, 2) := by decide +kernel
theorem dL_across_41 : decode cL_across 41 = .ok (.imul, 1) := by decide +kernel
theorem dL_across_42 : decode cL_across 42 = .ok (.iconst 3, 1) := by decide +kernel
theorem dL_across_43 : decode cL_across 43 = .ok (.iadd, 1) := by decide +kernel
theorem dL_across_44 : decode cL_across 44 = .ok (.iaload, 1) := by decide +kernel
theorem dL_across_45 : decode cL_across 45 = .ok (.iconst 1, 1) := by decide +kernel
theorem dL_across_46 : decode cL_across 46 = .ok (.if_icmp .ne 7, 3) := by decide +kernel
theorem dL_across_49 : decode cL_across 49 = .ok (.iconst 0, 1) := by decide +kernel
theorem dL_across_50 : decode cL_across 50 = .ok (.goto 12, 3) := by decide +kernel
theorem dL_across_53 : decode cL_across 53 = .ok (.iconst 1, 1) := by decide +kernel
theorem dL_across_54 : decode cL_across 54 = .ok (.aload_n 2, 1) := by decide +kernel
theorem dL_across_55 : decode cL_across 55 = .ok (.bipush 8, 2) := by decide +kernel
theorem dL_across_57 : decode cL_across 57 = .ok (.iload 5, 2) := by decide +kernel
theorem dL_across_59 : decode cL_across 59 = .ok (.iadd, 1) := by decide +kernel
theorem dL_across_60 : decode cL_across 60 = .ok (.iaload, 1) := by decide +kernel
theorem dL_across_61 : decode cL_across 61 = .ok (.iadd, 1) := by decide +kernel
theorem dL_across_62 : decode cL_across 62 = .ok (.iadd, 1) := by decide +kernel
theorem dL_across_63 : decode cL_across 63 = .ok (.istore 4, 2) := by decide +kernel
theorem dL_across_65 : decode cL_across 65 = .ok (.iinc 5 1, 3) := by decide +kernel
theorem dL_across_68 : decode cL_across 68 = .ok (.goto (-55), 3) := by decide +kernel
theorem dL_across_71 : decode cL_across 71 = .ok (.iload 4, 2) := by decide +kernel
theorem dL_across_73 : decode cL_across 73 = .ok (.ireturn, 1) := by decide +kernel
section
variable {p : Program} {l : Launch} {e : Env} {s : State} {m : MethodId} {args : Array Value} {below : List Frame} {meth : Method} {c : Code} {G : Gx} {e0 : Nat} {α : Ax} {κ : Nat → Int} {B : Nat}
def wp_L_visible_4 (Qm : Int → Mem → Prop) : Nat → Int → Int → Mem → Prop
  | 0 => fun _ _ _ => False
  | n + 1 => fun y2 y3 M => (((M 112 0 0) ≤ y3 → Qm y2 M) ∧ (y3 < (M 112 0 0) → (inR (4 * y3)) ∧ (inR ((4 * y3) + 3)) ∧ (0 ≤ ((4 * y3) + 3) ∧ ((4 * y3) + 3) < 16) ∧ (inR (1 - (M 104 0 ((4 * y3) + 3)))) ∧ (inR (y2 + (1 - (M 104 0 ((4 * y3) + 3))))) ∧ (inR (y3 + 1)) ∧ wp_L_visible_4 Qm n (y2 + (1 - (M 104 0 ((4 * y3) + 3)))) (y3 + 1) M))
def wp_L_visible (M : Mem) (Qm : Int → Mem → Prop) : Prop := (∃ n9 : Nat, wp_L_visible_4 Qm n9 0 0 M)
set_option maxHeartbeats 4000000 in
set_option maxRecDepth 100000 in
theorem t_L_visible_4 (X : CX p m c cL_visible 4 s args RL G B κ meth (some .int)) {Qm : Int → Mem → Prop} : ∀ n : Nat, ∀ y2 : Int, ∀ y3 : Int, ∀ M : Mem, wp_L_visible_4 Qm n y2 y3 M → inR y2 → inR y3 → ∀ (H : Heap) (locs : List Loc), Rp G e0 α κ B M H → va_S (fun q => B ≤ q) s.heap H locs → ∀ (ls : Array Slot), lv_has ls 4 [(0, .ref (α 104 0)), (1, .ref (α 112 0)), (2, .int (Int32.ofInt y2)), (3, .int (Int32.ofInt y3))] → WI p l e 0 s m args below meth c G e0 α κ B Qm H locs 4 ls [] := by
  intro n
  induction n with
  | zero =>
    intro y2 y3 M hw hy2 hy3 H locs hR hS ls hl
    exact hw.elim
  | succ n ih =>
    intro y2 y3 M hw hy2 hy3 H locs hR hS ls hl
    have hw : (((M 112 0 0) ≤ y3 → Qm y2 M) ∧ (y3 < (M 112 0 0) → (inR (4 * y3)) ∧ (inR ((4 * y3) + 3)) ∧ (0 ≤ ((4 * y3) + 3) ∧ ((4 * y3) + 3) < 16) ∧ (inR (1 - (M 104 0 ((4 * y3) + 3)))) ∧ (inR (y2 + (1 - (M 104 0 ((4 * y3) + 3))))) ∧ (inR (y3 + 1)) ∧ wp_L_visible_4 Qm n (y2 + (1 - (M 104 0 ((4 * y3) + 3)))) (y3 + 1) M)) := hw
    refine lv_iload_n X.1.1 X.1.2.1 dL_visible_4 rfl (lv_at hl 3 rfl) ?_
    refine lv_aload_n X.1.1 X.1.2.1 dL_visible_5 rfl (lv_at hl 1 rfl) ?_
    refine sa_const X.1 dL_visible_6 ?_
    refine ra_112 X hR (okf X.2.2.1 rfl) ⟨by decide, by decide⟩ dL_visible_7 ?_
    have r1 := hR.r 112 0 0
    refine sa_icmp_ge (tgt := 29) X.1 hy3 r1 dL_visible_8 (by decide) (fun hc => ?_) (fun hc => ?_)
    · have hw := hw.1 hc
      refine lv_iload_n X.1.1 X.1.2.1 dL_visible_29 rfl (lv_at hl 2 rfl) ?_
      exact sa_iret X.1 X.2.2.2.1 X.2.2.2.2 hR hS hy2 hw dL_visible_30
    · have hw := hw.2 hc
      refine lv_iload_n X.1.1 X.1.2.1 dL_visible_11 rfl (lv_at hl 2 rfl) ?_
      refine sa_const X.1 dL_visible_12 ?_
      refine lv_aload_n X.1.1 X.1.2.1 dL_visible_13 rfl (lv_at hl 0 rfl) ?_
      refine sa_const X.1 dL_visible_14 ?_
      refine lv_iload_n X.1.1 X.1.2.1 dL_visible_15 rfl (lv_at hl 3 rfl) ?_
      have c2 := hw.1
      have hw := hw.2
      refine sa_imul X.1 dL_visible_16 ?_
      refine sa_const X.1 dL_visible_17 ?_
      have c3 := hw.1
      have hw := hw.2
      refine sa_iadd X.1 dL_visible_18 ?_
      have c4 := hw.1
      have hw := hw.2
      refine ra_104 X hR (okf X.2.2.1 rfl) c4 dL_visible_19 ?_
      have r5 := hR.r 104 0 ((4 * y3) + 3)
      have c6 := hw.1
      have hw := hw.2
      refine sa_isub X.1 dL_visible_20 ?_
      have c7 := hw.1
      have hw := hw.2
      refine sa_iadd X.1 dL_visible_21 ?_
      refine lv_istore_n (lv' := [(2, .int (Int32.ofInt (y2 + (1 - (M 104 0 ((4 * y3) + 3)))))), (0, .ref (α 104 0)), (1, .ref (α 112 0)), (3, .int (Int32.ofInt y3))]) X.1.1 X.1.2.1 dL_visible_22 rfl hl (by decide) rfl (fun ls hl => ?_)
      have c8 := hw.1
      have hw := hw.2
      refine lv_iinc (v := Int32.ofInt (y3 + 1)) (lv' := [(3, .int (Int32.ofInt (y3 + 1))), (2, .int (Int32.ofInt (y2 + (1 - (M 104 0 ((4 * y3) + 3)))))), (0, .ref (α 104 0)), (1, .ref (α 112 0))]) X.1.1 X.1.2.1 dL_visible_23 hl (k := 3) rfl (Int32.ofInt_add _ _).symm (by decide) rfl (fun ls hl => ?_)
      refine lv_goto (tgt := 4) X.1.1 X.1.2.1 dL_visible_26 (by decide) ?_
      exact ih _ _ _ hw c7 c8 _ _ hR hS _ (lv_sub hl [2, 3, 1, 0] rfl)
set_option maxHeartbeats 4000000 in
set_option maxRecDepth 100000 in
theorem t_L_visible (X : CX p m c cL_visible 4 s args RL G B κ meth (some .int)) {M : Mem} {Qm : Int → Mem → Prop} (hw : wp_L_visible M Qm) (H : Heap) (locs : List Loc) (hR : Rp G e0 α κ B M H) (hS : va_S (fun q => B ≤ q) s.heap H locs) (ls : Array Slot) (hl : lv_has ls 4 [(0, .ref (α 104 0)), (1, .ref (α 112 0))]) : WI p l e 0 s m args below meth c G e0 α κ B Qm H locs 0 ls [] := by
  have hw : (∃ n9 : Nat, wp_L_visible_4 Qm n9 0 0 M) := hw
  refine sa_const X.1 dL_visible_0 ?_
  refine lv_istore_n (lv' := [(2, .int (Int32.ofInt 0)), (0, .ref (α 104 0)), (1, .ref (α 112 0))]) X.1.1 X.1.2.1 dL_visible_1 rfl hl (by decide) rfl (fun ls hl => ?_)
  refine sa_const X.1 dL_visible_2 ?_
  refine lv_istore_n (lv' := [(3, .int (Int32.ofInt 0)), (2, .int (Int32.ofInt 0)), (0, .ref (α 104 0)), (1, .ref (α 112 0))]) X.1.1 X.1.2.1 dL_visible_3 rfl hl (by decide) rfl (fun ls hl => ?_)
  obtain ⟨n9, hw⟩ := hw
  exact t_L_visible_4 X n9 _ _ _ hw (inR_c (a := 0) rfl) (inR_c (a := 0) rfl) _ _ hR hS _ (lv_sub hl [2, 3, 1, 0] rfl)
theorem m_L_visible {l : Launch} {G : Gx} {e0 : Nat} {α : Ax} {κ : Nat → Int} {B : Nat} (hκ : kOK κ) {M : Mem} {Qm : Int → Mem → Prop} (hw : wp_L_visible M Qm) : CI l yL_visible (Cond.code yL_visible cL_visible 4 (some .int)) 0 G e0 α κ B [.ref (α 104 0), .ref (α 112 0)] M Qm :=
  CI.mk hκ (by decide +kernel) rfl (Nat.le_of_ble_eq_true rfl) (lv := [(0, .ref (α 104 0)), (1, .ref (α 112 0))]) rfl (fun p e s m args below meth c ls X hR hS hl => t_L_visible X hw _ _ hR hS ls hl)
theorem cs_L_visible {cc : ByteArray} {nL : Nat} {own : String} {ret : Option FieldType} {idx pc : Nat} (X : CX p m c cc nL s args own G B κ meth ret) {kc : Nat} {R : Room} {cells slots : Nat} (hRr : RmOK R kc) (hcel : cells ≤ R.cells ∧ slots ≤ R.slots) (hk : 0 + 1 ≤ kc) {M : Mem} {H : Heap} {locs : List Loc} (hR : Rp G e0 α κ B M H) (hS : va_S (fun q => B ≤ q) s.heap H locs) (k1 : Cond.methodLink own idx yL_visible ∈ gw) {ls : Array Slot} (hml : ls.size = nL) {rest : List Value} (hd : decode cc pc = .ok (.invokestatic idx, 3)) (hrest : (rest.map fun v => v.category).sum ≤ 8) {Q : State → Prop} {Qm : Int → Mem → Prop} (hw : wp_L_visible M Qm) (kk : ∀ (r : Int) (M1 : Mem) (H1 : Heap) (locs1 : List Loc), Qm r M1 → inR r → Rp G e0 α κ B M1 H1 → va_S (fun q => B ≤ q) s.heap H1 locs1 → W p l e R s m args below meth c H1 locs1 cells slots Q (F0 m (pc + 3) ls (.int (Int32.ofInt r) :: rest))) : W p l e R s m args below meth c H locs cells slots Q (F0 m pc ls (.ref (α 112 0) :: .ref (α 104 0) :: rest)) :=
  sa_callSI 0 (n := 2) (As := [.ref (α 104 0), .ref (α 112 0)]) (rest := rest) X.1 X.2.1 hR hS (m_L_visible X.2.2.1 hw) k1 kw_1180 kw_37 kw_1181 ⟨by decide +kernel, by decide +kernel, by decide +kernel⟩ (rm_ok hRr hk (by decide)) rfl rfl hrest hml hd hcel kk
def wp_L_widths_734 (Qm : Mem → Prop) (M : Mem) : Prop := Qm M
def wp_L_widths_642 (Qm : Mem → Prop) : Nat → Int → Int → Int → Mem → Prop
  | 0 => fun _ _ _ _ => False
  | n + 1 => fun y10 y11 y12 M => (((M 112 0 0) ≤ y12 → wp_L_widths_734 Qm M) ∧ (y12 < (M 112 0 0) → ((y10 ≤ y11 → wp_L_widths_734 Qm M) ∧ (y11 < y10 → (inR (4 * y12)) ∧ (0 ≤ (4 * y12) ∧ (4 * y12) < 16) ∧ ((M 104 0 (4 * y12)) = 0 → (inR (8 + y12)) ∧ (0 ≤ (8 + y12) ∧ (8 + y12) < 30) ∧ (inR (4 + y12)) ∧ (0 ≤ (4 + y12) ∧ (4 + y12) < 30) ∧ True) ∧ (inR (8 + y12)) ∧ (0 ≤ (8 + y12) ∧ (8 + y12) < 30) ∧ (inR ((M 113 0 (8 + y12)) + (if (if ¬ (M 104 0 (4 * y12)) = 0 then (0 : Int) else (if (M 113 0 (4 + y12)) ≤ (M 113 0 (8 + y12)) then (0 : Int) else 1)) = 0 then (0 : Int) else 1))) ∧ (0 ≤ (8 + y12) ∧ (8 + y12) < 30) ∧ ∀ M44 : Mem, M44 = up M 113 0 (8 + y12) ((M 113 0 (8 + y12)) + (if (if ¬ (M 104 0 (4 * y12)) = 0 then (0 : Int) else (if (M 113 0 (4 + y12)) ≤ (M 113 0 (8 + y12)) then (0 : Int) else 1)) = 0 then (0 : Int) else 1)) → (inR (y11 + (if (if ¬ (M 104 0 (4 * y12)) = 0 then (0 : Int) else (if (M 113 0 (4 + y12)) ≤ (M 113 0 (8 + y12)) then (0 : Int) else 1)) = 0 then (0 : Int) else 1))) ∧ (inR (y12 + 1)) ∧ wp_L_widths_642 Qm n y10 (y11 + (if (if ¬ (M 104 0 (4 * y12)) = 0 then (0 : Int) else (if (M 113 0 (4 + y12)) ≤ (M 113 0 (8 + y12)) then (0 : Int) else 1)) = 0 then (0 : Int) else 1)) (y12 + 1) M44))))
def wp_L_widths_639 (Qm : Mem → Prop) (y10 : Int) (y11 : Int) (M : Mem) : Prop := (∃ n51 : Nat, wp_L_widths_642 Qm n51 y10 y11 0 M)
def wp_L_widths_565 (Qm : Mem → Prop) : Nat → Int → Int → Int → Int → Mem → Prop
  | 0 => fun _ _ _ _ _ => False
  | n + 1 => fun y8 y10 y11 y12 M => (((M 112 0 0) ≤ y12 → wp_L_widths_639 Qm y10 y11 M) ∧ (y12 < (M 112 0 0) → ((y10 ≤ 0 → wp_L_widths_639 Qm y10 y11 M) ∧ (0 < y10 → (inR (4 * y12)) ∧ (0 ≤ (4 * y12) ∧ (4 * y12) < 16) ∧ ((M 104 0 (4 * y12)) = 0 → (inR (4 + y12)) ∧ (0 ≤ (4 + y12) ∧ (4 + y12) < 30) ∧ (0 ≤ y12 ∧ y12 < 30) ∧ (inR ((M 113 0 (4 + y12)) - (M 113 0 y12))) ∧ (inR (y10 * ((M 113 0 (4 + y12)) - (M 113 0 y12)))) ∧ (0 < y8) ∧ True) ∧ (inR (if ¬ (M 104 0 (4 * y12)) = 0 then (0 : Int) else (Int.tdiv (y10 * ((M 113 0 (4 + y12)) - (M 113 0 y12))) y8))) ∧ (inR (8 + y12)) ∧ (0 ≤ (8 + y12) ∧ (8 + y12) < 30) ∧ (inR ((M 113 0 (8 + y12)) + (if ¬ (M 104 0 (4 * y12)) = 0 then (0 : Int) else (Int.tdiv (y10 * ((M 113 0 (4 + y12)) - (M 113 0 y12))) y8)))) ∧ (0 ≤ (8 + y12) ∧ (8 + y12) < 30) ∧ ∀ M70 : Mem, M70 = up M 113 0 (8 + y12) ((M 113 0 (8 + y12)) + (if ¬ (M 104 0 (4 * y12)) = 0 then (0 : Int) else (Int.tdiv (y10 * ((M 113 0 (4 + y12)) - (M 113 0 y12))) y8))) → (inR (y11 + (if ¬ (M 104 0 (4 * y12)) = 0 then (0 : Int) else (Int.tdiv (y10 * ((M 113 0 (4 + y12)) - (M 113 0 y12))) y8)))) ∧ (inR (y12 + 1)) ∧ wp_L_widths_565 Qm n y8 y10 (y11 + (if ¬ (M 104 0 (4 * y12)) = 0 then (0 : Int) else (Int.tdiv (y10 * ((M 113 0 (4 + y12)) - (M 113 0 y12))) y8))) (y12 + 1) M70))))
def wp_L_widths_283 (Qm : Mem → Prop) : Nat → Int → Int → Int → Int → Mem → Prop
  | 0 => fun _ _ _ _ _ => False
  | n + 1 => fun y7 y8 y9 y10 M => (((M 112 0 0) ≤ y10 → (∃ n74 : Nat, wp_L_widths_565 Qm n74 y8 (if y8 ≤ y7 then y8 else y7) 0 0 M)) ∧ (y10 < (M 112 0 0) → (inR (4 + y10)) ∧ (inR (4 + y10)) ∧ (0 ≤ (4 + y10) ∧ (4 + y10) < 30) ∧ (0 ≤ y10 ∧ y10 < 30) ∧ ((M 113 0 (4 + y10)) ≤ (M 113 0 y10) → (0 ≤ y10 ∧ y10 < 30) ∧ True) ∧ ((M 113 0 y10) < (M 113 0 (4 + y10)) → (inR (4 + y10)) ∧ (0 ≤ (4 + y10) ∧ (4 + y10) < 30) ∧ True) ∧ (0 ≤ (4 + y10) ∧ (4 + y10) < 30) ∧ ∀ M90 : Mem, M90 = up M 113 0 (4 + y10) (if (M 113 0 (4 + y10)) ≤ (M 113 0 y10) then (M 113 0 y10) else (M 113 0 (4 + y10))) → (inR (4 * y10)) ∧ (inR ((4 * y10) + 3)) ∧ (0 ≤ ((4 * y10) + 3) ∧ ((4 * y10) + 3) < 16) ∧ (¬ (M90 104 0 ((4 * y10) + 3)) = 1 → (0 ≤ y10 ∧ y10 < 30) ∧ True) ∧ (0 ≤ y10 ∧ y10 < 30) ∧ ∀ M102 : Mem, M102 = up M90 113 0 y10 (if ¬ (M90 104 0 ((4 * y10) + 3)) = 1 then (M90 113 0 y10) else 0) → (inR (4 + y10)) ∧ (inR (4 * y10)) ∧ (inR ((4 * y10) + 3)) ∧ (0 ≤ ((4 * y10) + 3) ∧ ((4 * y10) + 3) < 16) ∧ (¬ (M102 104 0 ((4 * y10) + 3)) = 1 → (inR (4 + y10)) ∧ (0 ≤ (4 + y10) ∧ (4 + y10) < 30) ∧ True) ∧ (0 ≤ (4 + y10) ∧ (4 + y10) < 30) ∧ ∀ M116 : Mem, M116 = up M102 113 0 (4 + y10) (if ¬ (M102 104 0 ((4 * y10) + 3)) = 1 then (M102 113 0 (4 + y10)) else 0) → (0 ≤ y9 → (inR (4 * y10)) ∧ (inR ((4 * y10) + 1)) ∧ (0 ≤ ((4 * y10) + 1) ∧ ((4 * y10) + 1) < 16) ∧ (inR (y9 * (M116 104 0 ((4 * y10) + 1)))) ∧ True) ∧ (inR (if y9 < 0 then (0 : Int) else (Int.tdiv (y9 * (M116 104 0 ((4 * y10) + 1))) 100))) ∧ (inR (4 * y10)) ∧ (0 ≤ (4 * y10) ∧ (4 * y10) < 16) ∧ (¬ (M116 104 0 (4 * y10)) = 1 → (inR (4 * y10)) ∧ (0 ≤ (4 * y10) ∧ (4 * y10) < 16) ∧ True) ∧ ((M116 104 0 (4 * y10)) = 1 → (inR (4 * y10)) ∧ (inR ((4 * y10) + 1)) ∧ (0 ≤ ((4 * y10) + 1) ∧ ((4 * y10) + 1) < 16) ∧ True) ∧ (inR (8 + y10)) ∧ (inR (4 * y10)) ∧ (inR ((4 * y10) + 3)) ∧ (0 ≤ ((4 * y10) + 3) ∧ ((4 * y10) + 3) < 16) ∧ (¬ (M116 104 0 ((4 * y10) + 3)) = 1 → (0 ≤ y10 ∧ y10 < 30) ∧ ((if ¬ (M116 104 0 (4 * y10)) = 1 then (if ¬ (M116 104 0 (4 * y10)) = 2 then (0 : Int) else (if y9 < 0 then (0 : Int) else (Int.tdiv (y9 * (M116 104 0 ((4 * y10) + 1))) 100))) else (M116 104 0 ((4 * y10) + 1))) ≤ (M116 113 0 y10) → (0 ≤ y10 ∧ y10 < 30) ∧ True) ∧ True) ∧ (0 ≤ (8 + y10) ∧ (8 + y10) < 30) ∧ ∀ M156 : Mem, M156 = up M116 113 0 (8 + y10) (if ¬ (M116 104 0 ((4 * y10) + 3)) = 1 then (if (if ¬ (M116 104 0 (4 * y10)) = 1 then (if ¬ (M116 104 0 (4 * y10)) = 2 then (0 : Int) else (if y9 < 0 then (0 : Int) else (Int.tdiv (y9 * (M116 104 0 ((4 * y10) + 1))) 100))) else (M116 104 0 ((4 * y10) + 1))) ≤ (M116 113 0 y10) then (M116 113 0 y10) else (if ¬ (M116 104 0 (4 * y10)) = 1 then (if ¬ (M116 104 0 (4 * y10)) = 2 then (0 : Int) else (if y9 < 0 then (0 : Int) else (Int.tdiv (y9 * (M116 104 0 ((4 * y10) + 1))) 100))) else (M116 104 0 ((4 * y10) + 1)))) else 0) → (inR (8 + y10)) ∧ (0 ≤ (8 + y10) ∧ (8 + y10) < 30) ∧ (inR (y7 - (M156 113 0 (8 + y10)))) ∧ (inR (4 * y10)) ∧ (0 ≤ (4 * y10) ∧ (4 * y10) < 16) ∧ ((M156 104 0 (4 * y10)) = 0 → (inR (4 + y10)) ∧ (0 ≤ (4 + y10) ∧ (4 + y10) < 30) ∧ (0 ≤ y10 ∧ y10 < 30) ∧ (inR ((M156 113 0 (4 + y10)) - (M156 113 0 y10))) ∧ True) ∧ (inR (if ¬ (M156 104 0 (4 * y10)) = 0 then (0 : Int) else ((M156 113 0 (4 + y10)) - (M156 113 0 y10)))) ∧ (inR (y8 + (if ¬ (M156 104 0 (4 * y10)) = 0 then (0 : Int) else ((M156 113 0 (4 + y10)) - (M156 113 0 y10))))) ∧ (inR (y10 + 1)) ∧ wp_L_widths_283 Qm n (y7 - (M156 113 0 (8 + y10))) (y8 + (if ¬ (M156 104 0 (4 * y10)) = 0 then (0 : Int) else ((M156 113 0 (4 + y10)) - (M156 113 0 y10)))) y9 (y10 + 1) M156))
def wp_L_widths_211 (Qm : Mem → Prop) (K69 : Int → Mem → Prop) (K89 : Int → Int → Mem → Prop) (y7 : Int) (y8 : Int) (M : Mem) : Prop := (inR (y8 + 1)) ∧ K89 y7 (y8 + 1) M
def wp_L_widths_210 (Qm : Mem → Prop) (K69 : Int → Mem → Prop) (K89 : Int → Int → Mem → Prop) (y7 : Int) (y8 : Int) (z0 : Int) (z1 : Int) (M : Mem) : Prop := (0 ≤ z1 ∧ z1 < 30) ∧ ∀ M219 : Mem, M219 = up M 113 0 z1 z0 → wp_L_widths_211 Qm K69 K89 y7 y8 M219
def wp_L_widths_169 (Qm : Mem → Prop) (K69 : Int → Mem → Prop) (K89 : Int → Int → Mem → Prop) (y7 : Int) (y8 : Int) (z0 : Int) (z1 : Int) (M : Mem) : Prop := (0 ≤ z1 ∧ z1 < 30) ∧ ∀ M206 : Mem, M206 = up M 113 0 z1 z0 → (inR (4 + y8)) ∧ wp_L_wants y7 1 M206 fun (x210 : Int) (M209 : Mem) => (inR (4 + y8)) ∧ (0 ≤ (4 + y8) ∧ (4 + y8) < 30) ∧ ((x210 ≤ (M209 113 0 (4 + y8)) → (inR (4 + y8)) ∧ (0 ≤ (4 + y8) ∧ (4 + y8) < 30) ∧ wp_L_widths_210 Qm K69 K89 y7 y8 (M209 113 0 (4 + y8)) (4 + y8) M209) ∧ ((M209 113 0 (4 + y8)) < x210 → wp_L_wants y7 1 M209 fun (x222 : Int) (M221 : Mem) => wp_L_widths_210 Qm K69 K89 y7 y8 x222 (4 + y8) M221))
def wp_L_widths_89 (Qm : Mem → Prop) (K69 : Int → Mem → Prop) : Nat → Int → Int → Mem → Prop
  | 0 => fun _ _ _ => False
  | n + 1 => fun y7 y8 M => (inR (6 * y7)) ∧ (inR ((6 * y7) + 1)) ∧ (0 ≤ ((6 * y7) + 1) ∧ ((6 * y7) + 1) < 60) ∧ (inR (6 * y7)) ∧ (inR ((6 * y7) + 3)) ∧ (0 ≤ ((6 * y7) + 3) ∧ ((6 * y7) + 3) < 60) ∧ (inR ((M 107 0 ((6 * y7) + 1)) + (M 107 0 ((6 * y7) + 3)))) ∧ ((((M 107 0 ((6 * y7) + 1)) + (M 107 0 ((6 * y7) + 3))) ≤ y8 → (inR (y7 + 1)) ∧ K69 (y7 + 1) M) ∧ (y8 < ((M 107 0 ((6 * y7) + 1)) + (M 107 0 ((6 * y7) + 3))) → wp_L_shows y7 M fun (x191 : Int) (M190 : Mem) => ((¬ x191 = 1 → wp_L_widths_211 Qm K69 (wp_L_widths_89 Qm K69 n) y7 y8 M190) ∧ (x191 = 1 → (inR (4 * y8)) ∧ (inR ((4 * y8) + 3)) ∧ (0 ≤ ((4 * y8) + 3) ∧ ((4 * y8) + 3) < 16) ∧ ((¬ (M190 104 0 ((4 * y8) + 3)) = 0 → wp_L_widths_211 Qm K69 (wp_L_widths_89 Qm K69 n) y7 y8 M190) ∧ ((M190 104 0 ((4 * y8) + 3)) = 0 → wp_L_wants y7 0 M190 fun (x199 : Int) (M198 : Mem) => (0 ≤ y8 ∧ y8 < 30) ∧ ((x199 ≤ (M198 113 0 y8) → (0 ≤ y8 ∧ y8 < 30) ∧ wp_L_widths_169 Qm K69 (wp_L_widths_89 Qm K69 n) y7 y8 (M198 113 0 y8) y8 M198) ∧ ((M198 113 0 y8) < x199 → wp_L_wants y7 0 M198 fun (x225 : Int) (M224 : Mem) => wp_L_widths_169 Qm K69 (wp_L_widths_89 Qm K69 n) y7 y8 x225 y8 M224))))))))
def wp_L_widths_69 (Qm : Mem → Prop) : Nat → Int → Mem → Prop
  | 0 => fun _ _ => False
  | n + 1 => fun y7 M => (((M 112 0 2) ≤ y7 → wp_L_grow 0 0 M fun (M3 : Mem) => wp_L_grow 4 1 M3 fun (M4 : Mem) => wp_L_visible M4 fun (x7 : Int) (M6 : Mem) => (inR ((M4 112 0 3) - x7)) ∧ (inR (((M4 112 0 3) - x7) + 1)) ∧ wp_L_visible M6 fun (x13 : Int) (M12 : Mem) => (inR ((M6 112 0 3) - x13)) ∧ (inR (((M6 112 0 3) - x13) + 1)) ∧ (∃ n175 : Nat, wp_L_widths_283 Qm n175 (((M4 112 0 3) - x7) + 1) 0 (((M6 112 0 3) - x13) + 1) 0 M12)) ∧ (y7 < (M 112 0 2) → (inR (6 * y7)) ∧ (inR ((6 * y7) + 1)) ∧ (0 ≤ ((6 * y7) + 1) ∧ ((6 * y7) + 1) < 60) ∧ (∃ n227 : Nat, wp_L_widths_89 Qm (wp_L_widths_69 Qm n) n227 y7 (M 107 0 ((6 * y7) + 1)) M)))
def wp_L_widths_3 (Qm : Mem → Prop) : Nat → Int → Mem → Prop
  | 0 => fun _ _ => False
  | n + 1 => fun y7 M => (((M 112 0 0) ≤ y7 → (∃ n228 : Nat, wp_L_widths_69 Qm n228 0 M)) ∧ (y7 < (M 112 0 0) → wp_L_figures y7 M fun (M229 : Mem) => (inR (12 + y7)) ∧ (0 ≤ (12 + y7) ∧ (12 + y7) < 30) ∧ (inR (16 + y7)) ∧ (0 ≤ (16 + y7) ∧ (16 + y7) < 30) ∧ (inR ((M229 113 0 (12 + y7)) + (M229 113 0 (16 + y7)))) ∧ (0 ≤ y7 ∧ y7 < 30) ∧ ∀ M238 : Mem, M238 = up M229 113 0 y7 ((M229 113 0 (12 + y7)) + (M229 113 0 (16 + y7))) → (inR (4 + y7)) ∧ (0 ≤ y7 ∧ y7 < 30) ∧ (0 ≤ (4 + y7) ∧ (4 + y7) < 30) ∧ ∀ M244 : Mem, M244 = up M238 113 0 (4 + y7) (M238 113 0 y7) → (inR (y7 + 1)) ∧ wp_L_widths_3 Qm n (y7 + 1) M244))
def wp_L_widths (M : Mem) (Qm : Mem → Prop) : Prop := (∃ n247 : Nat, wp_L_widths_3 Qm n247 0 M)
set_option maxHeartbeats 4000000 in
set_option maxRecDepth 100000 in
theorem t_L_widths_734 (X : CX p m c cL_widths 14 s args RL G B κ meth none) {Qm : Mem → Prop} : ∀ M : Mem, wp_L_widths_734 Qm M → ∀ (H : Heap) (locs : List Loc), Rp G e0 α κ B M H → va_S (fun q => B ≤ q) s.heap H locs → ∀ (ls : Array Slot), lv_has ls 14 [] → WV p l e 4 s m args below meth c G e0 α κ B Qm H locs 734 ls [] := by
  intro M hw H locs hR hS ls hl
  have hw : Qm M := hw
  exact sa_vret X.1 X.2.2.2.1 X.2.2.2.2 hR hS hw dL_widths_734
set_option maxHeartbeats 4000000 in
set_option maxRecDepth 100000 in
theorem t_L_widths_642 (X : CX p m c cL_widths 14 s args RL G B κ meth none) {Qm : Mem → Prop} : ∀ n : Nat, ∀ y10 : Int, ∀ y11 : Int, ∀ y12 : Int, ∀ M : Mem, wp_L_widths_642 Qm n y10 y11 y12 M → inR y10 → inR y11 → inR y12 → ∀ (H : Heap) (locs : List Loc), Rp G e0 α κ B M H → va_S (fun q => B ≤ q) s.heap H locs → ∀ (ls : Array Slot), lv_has ls 14 [(0, .ref (α 104 0)), (5, .ref (α 112 0)), (6, .ref (α 113 0)), (10, .int (Int32.ofInt y10)), (11, .int (Int32.ofInt y11)), (12, .int (Int32.ofInt y12))] → WV p l e 4 s m args below meth c G e0 α κ B Qm H locs 642 ls [] := by
  intro n
  induction n with
  | zero =>
    intro y10 y11 y12 M hw hy10 hy11 hy12 H locs hR hS ls hl
    exact hw.elim
  | succ n ih =>
    intro y10 y11 y12 M hw hy10 hy11 hy12 H locs hR hS ls hl
    have hw : (((M 112 0 0) ≤ y12 → wp_L_widths_734 Qm M) ∧ (y12 < (M 112 0 0) → ((y10 ≤ y11 → wp_L_widths_734 Qm M) ∧ (y11 < y10 → (inR (4 * y12)) ∧ (0 ≤ (4 * y12) ∧ (4 * y12) < 16) ∧ ((M 104 0 (4 * y12)) = 0 → (inR (8 + y12)) ∧ (0 ≤ (8 + y12) ∧ (8 + y12) < 30) ∧ (inR (4 + y12)) ∧ (0 ≤ (4 + y12) ∧ (4 + y12) < 30) ∧ True) ∧ (inR (8 + y12)) ∧ (0 ≤ (8 + y12) ∧ (8 + y12) < 30) ∧ (inR ((M 113 0 (8 + y12)) + (if (if ¬ (M 104 0 (4 * y12)) = 0 then (0 : Int) else (if (M 113 0 (4 + y12)) ≤ (M 113 0 (8 + y12)) then (0 : Int) else 1)) = 0 then (0 : Int) else 1))) ∧ (0 ≤ (8 + y12) ∧ (8 + y12) < 30) ∧ ∀ M44 : Mem, M44 = up M 113 0 (8 + y12) ((M 113 0 (8 + y12)) + (if (if ¬ (M 104 0 (4 * y12)) = 0 then (0 : Int) else (if (M 113 0 (4 + y12)) ≤ (M 113 0 (8 + y12)) then (0 : Int) else 1)) = 0 then (0 : Int) else 1)) → (inR (y11 + (if (if ¬ (M 104 0 (4 * y12)) = 0 then (0 : Int) else (if (M 113 0 (4 + y12)) ≤ (M 113 0 (8 + y12)) then (0 : Int) else 1)) = 0 then (0 : Int) else 1))) ∧ (inR (y12 + 1)) ∧ wp_L_widths_642 Qm n y10 (y11 + (if (if ¬ (M 104 0 (4 * y12)) = 0 then (0 : Int) else (if (M 113 0 (4 + y12)) ≤ (M 113 0 (8 + y12)) then (0 : Int) else 1)) = 0 then (0 : Int) else 1)) (y12 + 1) M44)))) := hw
    refine lv_iload X.1.1 X.1.2.1 dL_widths_642 (lv_at hl 5 rfl) ?_
    refine lv_aload X.1.1 X.1.2.1 dL_widths_644 (lv_at hl 1 rfl) ?_
    refine sa_const X.1 dL_widths_646 ?_
    refine ra_112 X hR (okf X.2.2.1 rfl) ⟨by decide, by decide⟩ dL_widths_647 ?_
    have r22 := hR.r 112 0 0
    refine sa_icmp_ge (tgt := 734) X.1 hy12 r22 dL_widths_648 (by decide) (fun hc => ?_) (fun hc => ?_)
    · have hw := hw.1 hc
      exact t_L_widths_734 X _ hw _ _ hR hS _ (lv_sub hl [] rfl)
    · have hw := hw.2 hc
      refine lv_iload X.1.1 X.1.2.1 dL_widths_651 (lv_at hl 4 rfl) ?_
      refine lv_iload X.1.1 X.1.2.1 dL_widths_653 (lv_at hl 3 rfl) ?_
      refine sa_icmp_ge (tgt := 734) X.1 hy11 hy10 dL_widths_655 (by decide) (fun hc => ?_) (fun hc => ?_)
      · have hw := hw.1 hc
        exact t_L_widths_734 X _ hw _ _ hR hS _ (lv_sub hl [] rfl)
      · have hw := hw.2 hc
        refine lv_aload_n X.1.1 X.1.2.1 dL_widths_658 rfl (lv_at hl 0 rfl) ?_
        refine sa_const X.1 dL_widths_659 ?_
        refine lv_iload X.1.1 X.1.2.1 dL_widths_660 (lv_at hl 5 rfl) ?_
        have c23 := hw.1
        have hw := hw.2
        refine sa_imul X.1 dL_widths_662 ?_
        have c24 := hw.1
        have hw := hw.2
        refine ra_104 X hR (okf X.2.2.1 rfl) c24 dL_widths_663 ?_
        have r25 := hR.r 104 0 (4 * y12)
        have s32 := hw.1
        have hw := hw.2
        have r33 := inR_ite (c := ¬ (M 104 0 (4 * y12)) = 0) (inR_c (a := 0) rfl) (inR_ite (c := (M 113 0 (4 + y12)) ≤ (M 113 0 (8 + y12))) (inR_c (a := 0) rfl) (inR_c (a := 1) rfl))
        refine cut_j (A := ∀ v34 : Int, v34 = (if ¬ (M 104 0 (4 * y12)) = 0 then (0 : Int) else (if (M 113 0 (4 + y12)) ≤ (M 113 0 (8 + y12)) then (0 : Int) else 1)) → WV p l e 4 s m args below meth c G e0 α κ B Qm H locs 690 ls [.int (Int32.ofInt v34)]) (fun J35 => ?_) ?_
        · refine sa_if_ne (tgt := 689) X.1 r25 dL_widths_664 (by decide) (fun hc => ?_) (fun hc => ?_)
          · skip
            refine sa_const X.1 dL_widths_689 ?_
            exact J35 (0) (if_pos (c := ¬ (M 104 0 (4 * y12)) = 0) hc).symm
          · have hw := s32 hc
            refine lv_aload X.1.1 X.1.2.1 dL_widths_667 (lv_at hl 2 rfl) ?_
            refine sa_bipush X.1 dL_widths_669 (by decide) ?_
            refine lv_iload X.1.1 X.1.2.1 dL_widths_671 (lv_at hl 5 rfl) ?_
            have c26 := hw.1
            have hw := hw.2
            refine sa_iadd X.1 dL_widths_673 ?_
            have c27 := hw.1
            have hw := hw.2
            refine ra_113 X hR (okf X.2.2.1 rfl) c27 dL_widths_674 ?_
            refine lv_aload X.1.1 X.1.2.1 dL_widths_675 (lv_at hl 2 rfl) ?_
            refine sa_const X.1 dL_widths_677 ?_
            refine lv_iload X.1.1 X.1.2.1 dL_widths_678 (lv_at hl 5 rfl) ?_
            have c28 := hw.1
            have hw := hw.2
            refine sa_iadd X.1 dL_widths_680 ?_
            have c29 := hw.1
            have hw := hw.2
            refine ra_113 X hR (okf X.2.2.1 rfl) c29 dL_widths_681 ?_
            refine cut_j (A := ∀ v30 : Int, v30 = (if (M 113 0 (4 + y12)) ≤ (M 113 0 (8 + y12)) then (0 : Int) else 1) → WV p l e 4 s m args below meth c G e0 α κ B Qm H locs 690 ls [.int (Int32.ofInt v30)]) (fun J31 => ?_) ?_
            · refine sa_icmp_ge (tgt := 689) X.1 (hR.r 113 0 (8 + y12)) (hR.r 113 0 (4 + y12)) dL_widths_682 (by decide) (fun hc => ?_) (fun hc => ?_)
              · skip
                refine sa_const X.1 dL_widths_689 ?_
                exact J31 (0) (if_pos (c := (M 113 0 (4 + y12)) ≤ (M 113 0 (8 + y12))) hc).symm
              · skip
                refine sa_const X.1 dL_widths_685 ?_
                refine lv_goto (tgt := 690) X.1.1 X.1.2.1 dL_widths_686 (by decide) ?_
                exact J31 (1) (if_neg (c := (M 113 0 (4 + y12)) ≤ (M 113 0 (8 + y12))) (Int.not_le.mpr hc)).symm
            intro v30 hv30
            subst hv30
            exact J35 ((if (M 113 0 (4 + y12)) ≤ (M 113 0 (8 + y12)) then (0 : Int) else 1)) (if_neg (c := ¬ (M 104 0 (4 * y12)) = 0) (fun z => z hc)).symm
        intro v34 hv34
        subst hv34
        refine lv_istore (lv' := [(13, .int (Int32.ofInt (if ¬ (M 104 0 (4 * y12)) = 0 then (0 : Int) else (if (M 113 0 (4 + y12)) ≤ (M 113 0 (8 + y12)) then (0 : Int) else 1)))), (0, .ref (α 104 0)), (5, .ref (α 112 0)), (6, .ref (α 113 0)), (10, .int (Int32.ofInt y10)), (11, .int (Int32.ofInt y11)), (12, .int (Int32.ofInt y12))]) X.1.1 X.1.2.1 dL_widths_690 hl (by decide) rfl (fun ls hl => ?_)
        refine lv_aload X.1.1 X.1.2.1 dL_widths_692 (lv_at hl 3 rfl) ?_
        refine sa_bipush X.1 dL_widths_694 (by decide) ?_
        refine lv_iload X.1.1 X.1.2.1 dL_widths_696 (lv_at hl 6 rfl) ?_
        have c36 := hw.1
        have hw := hw.2
        refine sa_iadd X.1 dL_widths_698 ?_
        refine lv_dup2_11 X.1.1 X.1.2.1 dL_widths_699 rfl rfl ?_
        have c37 := hw.1
        have hw := hw.2
        refine ra_113 X hR (okf X.2.2.1 rfl) c37 dL_widths_700 ?_
        have r38 := hR.r 113 0 (8 + y12)
        refine lv_iload X.1.1 X.1.2.1 dL_widths_701 (lv_at hl 0 rfl) ?_
        have r39 := inR_ite (c := (if ¬ (M 104 0 (4 * y12)) = 0 then (0 : Int) else (if (M 113 0 (4 + y12)) ≤ (M 113 0 (8 + y12)) then (0 : Int) else 1)) = 0) (inR_c (a := 0) rfl) (inR_c (a := 1) rfl)
        refine cut_j (A := ∀ v40 : Int, v40 = (if (if ¬ (M 104 0 (4 * y12)) = 0 then (0 : Int) else (if (M 113 0 (4 + y12)) ≤ (M 113 0 (8 + y12)) then (0 : Int) else 1)) = 0 then (0 : Int) else 1) → WV p l e 4 s m args below meth c G e0 α κ B Qm H locs 711 ls [.int (Int32.ofInt v40), .int (Int32.ofInt (M 113 0 (8 + y12))), .int (Int32.ofInt (8 + y12)), .ref (α 113 0)]) (fun J41 => ?_) ?_
        · refine sa_if_eq (tgt := 710) X.1 r33 dL_widths_703 (by decide) (fun hc => ?_) (fun hc => ?_)
          · skip
            refine sa_const X.1 dL_widths_710 ?_
            exact J41 (0) (if_pos (c := (if ¬ (M 104 0 (4 * y12)) = 0 then (0 : Int) else (if (M 113 0 (4 + y12)) ≤ (M 113 0 (8 + y12)) then (0 : Int) else 1)) = 0) hc).symm
          · skip
            refine sa_const X.1 dL_widths_706 ?_
            refine lv_goto (tgt := 711) X.1.1 X.1.2.1 dL_widths_707 (by decide) ?_
            exact J41 (1) (if_neg (c := (if ¬ (M 104 0 (4 * y12)) = 0 then (0 : Int) else (if (M 113 0 (4 + y12)) ≤ (M 113 0 (8 + y12)) then (0 : Int) else 1)) = 0) hc).symm
        intro v40 hv40
        subst hv40
        have c42 := hw.1
        have hw := hw.2
        refine sa_iadd X.1 dL_widths_711 ?_
        have c43 := hw.1
        have hw := hw.2
        refine wa_113 X hR hS (okf X.2.2.1 rfl) c43 c42 dL_widths_712 (fun H locs hR hS => ?_)
        obtain ⟨M44, e45⟩ : ∃ z : Mem, z = up M 113 0 (8 + y12) ((M 113 0 (8 + y12)) + (if (if ¬ (M 104 0 (4 * y12)) = 0 then (0 : Int) else (if (M 113 0 (4 + y12)) ≤ (M 113 0 (8 + y12)) then (0 : Int) else 1)) = 0 then (0 : Int) else 1)) := ⟨_, rfl⟩
        rw [← e45] at hR
        have hw := hw M44 e45
        refine lv_iload X.1.1 X.1.2.1 dL_widths_713 (lv_at hl 5 rfl) ?_
        refine lv_iload X.1.1 X.1.2.1 dL_widths_715 (lv_at hl 0 rfl) ?_
        have r46 := inR_ite (c := (if ¬ (M 104 0 (4 * y12)) = 0 then (0 : Int) else (if (M 113 0 (4 + y12)) ≤ (M 113 0 (8 + y12)) then (0 : Int) else 1)) = 0) (inR_c (a := 0) rfl) (inR_c (a := 1) rfl)
        refine cut_j (A := ∀ v47 : Int, v47 = (if (if ¬ (M 104 0 (4 * y12)) = 0 then (0 : Int) else (if (M 113 0 (4 + y12)) ≤ (M 113 0 (8 + y12)) then (0 : Int) else 1)) = 0 then (0 : Int) else 1) → WV p l e 4 s m args below meth c G e0 α κ B Qm H locs 725 ls [.int (Int32.ofInt v47), .int (Int32.ofInt y11)]) (fun J48 => ?_) ?_
        · refine sa_if_eq (tgt := 724) X.1 r33 dL_widths_717 (by decide) (fun hc => ?_) (fun hc => ?_)
          · skip
            refine sa_const X.1 dL_widths_724 ?_
            exact J48 (0) (if_pos (c := (if ¬ (M 104 0 (4 * y12)) = 0 then (0 : Int) else (if (M 113 0 (4 + y12)) ≤ (M 113 0 (8 + y12)) then (0 : Int) else 1)) = 0) hc).symm
          · skip
            refine sa_const X.1 dL_widths_720 ?_
            refine lv_goto (tgt := 725) X.1.1 X.1.2.1 dL_widths_721 (by decide) ?_
            exact J48 (1) (if_neg (c := (if ¬ (M 104 0 (4 * y12)) = 0 then (0 : Int) else (if (M 113 0 (4 + y12)) ≤ (M 113 0 (8 + y12)) then (0 : Int) else 1)) = 0) hc).symm
        intro v47 hv47
        subst hv47
        have c49 := hw.1
        have hw := hw.2
        refine sa_iadd X.1 dL_widths_725 ?_
        refine lv_istore (lv' := [(11, .int (Int32.ofInt (y11 + (if (if ¬ (M 104 0 (4 * y12)) = 0 then (0 : Int) else (if (M 113 0 (4 + y12)) ≤ (M 113 0 (8 + y12)) then (0 : Int) else 1)) = 0 then (0 : Int) else 1)))), (13, .int (Int32.ofInt (if ¬ (M 104 0 (4 * y12)) = 0 then (0 : Int) else (if (M 113 0 (4 + y12)) ≤ (M 113 0 (8 + y12)) then (0 : Int) else 1)))), (0, .ref (α 104 0)), (5, .ref (α 112 0)), (6, .ref (α 113 0)), (10, .int (Int32.ofInt y10)), (12, .int (Int32.ofInt y12))]) X.1.1 X.1.2.1 dL_widths_726 hl (by decide) rfl (fun ls hl => ?_)
        have c50 := hw.1
        have hw := hw.2
        refine lv_iinc (v := Int32.ofInt (y12 + 1)) (lv' := [(12, .int (Int32.ofInt (y12 + 1))), (11, .int (Int32.ofInt (y11 + (if (if ¬ (M 104 0 (4 * y12)) = 0 then (0 : Int) else (if (M 113 0 (4 + y12)) ≤ (M 113 0 (8 + y12)) then (0 : Int) else 1)) = 0 then (0 : Int) else 1)))), (13, .int (Int32.ofInt (if ¬ (M 104 0 (4 * y12)) = 0 then (0 : Int) else (if (M 113 0 (4 + y12)) ≤ (M 113 0 (8 + y12)) then (0 : Int) else 1)))), (0, .ref (α 104 0)), (5, .ref (α 112 0)), (6, .ref (α 113 0)), (10, .int (Int32.ofInt y10))]) X.1.1 X.1.2.1 dL_widths_728 hl (k := 6) rfl (Int32.ofInt_add _ _).symm (by decide) rfl (fun ls hl => ?_)
        refine lv_goto (tgt := 642) X.1.1 X.1.2.1 dL_widths_731 (by decide) ?_
        exact ih _ _ _ _ hw hy10 c49 c50 _ _ hR hS _ (lv_sub hl [3, 4, 5, 6, 1, 0] rfl)
set_option maxHeartbeats 4000000 in
set_option maxRecDepth 100000 in
theorem t_L_widths_639 (X : CX p m c cL_widths 14 s args RL G B κ meth none) {Qm : Mem → Prop} : ∀ y10 : Int, ∀ y11 : Int, ∀ M : Mem, wp_L_widths_639 Qm y10 y11 M → inR y10 → inR y11 → ∀ (H : Heap) (locs : List Loc), Rp G e0 α κ B M H → va_S (fun q => B ≤ q) s.heap H locs → ∀ (ls : Array Slot), lv_has ls 14 [(0, .ref (α 104 0)), (5, .ref (α 112 0)), (6, .ref (α 113 0)), (10, .int (Int32.ofInt y10)), (11, .int (Int32.ofInt y11))] → WV p l e 4 s m args below meth c G e0 α κ B Qm H locs 639 ls [] := by
  intro y10 y11 M hw hy10 hy11 H locs hR hS ls hl
  have hw : (∃ n51 : Nat, wp_L_widths_642 Qm n51 y10 y11 0 M) := hw
  refine sa_const X.1 dL_widths_639 ?_
  refine lv_istore (lv' := [(12, .int (Int32.ofInt 0)), (0, .ref (α 104 0)), (5, .ref (α 112 0)), (6, .ref (α 113 0)), (10, .int (Int32.ofInt y10)), (11, .int (Int32.ofInt y11))]) X.1.1 X.1.2.1 dL_widths_640 hl (by decide) rfl (fun ls hl => ?_)
  obtain ⟨n51, hw⟩ := hw
  exact t_L_widths_642 X n51 _ _ _ _ hw hy10 hy11 (inR_c (a := 0) rfl) _ _ hR hS _ (lv_sub hl [1, 2, 3, 4, 5, 0] rfl)
set_option maxHeartbeats 4000000 in
set_option maxRecDepth 100000 in
theorem t_L_widths_565 (X : CX p m c cL_widths 14 s args RL G B κ meth none) {Qm : Mem → Prop} : ∀ n : Nat, ∀ y8 : Int, ∀ y10 : Int, ∀ y11 : Int, ∀ y12 : Int, ∀ M : Mem, wp_L_widths_565 Qm n y8 y10 y11 y12 M → inR y8 → inR y10 → inR y11 → inR y12 → ∀ (H : Heap) (locs : List Loc), Rp G e0 α κ B M H → va_S (fun q => B ≤ q) s.heap H locs → ∀ (ls : Array Slot), lv_has ls 14 [(0, .ref (α 104 0)), (5, .ref (α 112 0)), (6, .ref (α 113 0)), (8, .int (Int32.ofInt y8)), (10, .int (Int32.ofInt y10)), (11, .int (Int32.ofInt y11)), (12, .int (Int32.ofInt y12))] → WV p l e 4 s m args below meth c G e0 α κ B Qm H locs 565 ls [] := by
  intro n
  induction n with
  | zero =>
    intro y8 y10 y11 y12 M hw hy8 hy10 hy11 hy12 H locs hR hS ls hl
    exact hw.elim
  | succ n ih =>
    intro y8 y10 y11 y12 M hw hy8 hy10 hy11 hy12 H locs hR hS ls hl
    have hw : (((M 112 0 0) ≤ y12 → wp_L_widths_639 Qm y10 y11 M) ∧ (y12 < (M 112 0 0) → ((y10 ≤ 0 → wp_L_widths_639 Qm y10 y11 M) ∧ (0 < y10 → (inR (4 * y12)) ∧ (0 ≤ (4 * y12) ∧ (4 * y12) < 16) ∧ ((M 104 0 (4 * y12)) = 0 → (inR (4 + y12)) ∧ (0 ≤ (4 + y12) ∧ (4 + y12) < 30) ∧ (0 ≤ y12 ∧ y12 < 30) ∧ (inR ((M 113 0 (4 + y12)) - (M 113 0 y12))) ∧ (inR (y10 * ((M 113 0 (4 + y12)) - (M 113 0 y12)))) ∧ (0 < y8) ∧ True) ∧ (inR (if ¬ (M 104 0 (4 * y12)) = 0 then (0 : Int) else (Int.tdiv (y10 * ((M 113 0 (4 + y12)) - (M 113 0 y12))) y8))) ∧ (inR (8 + y12)) ∧ (0 ≤ (8 + y12) ∧ (8 + y12) < 30) ∧ (inR ((M 113 0 (8 + y12)) + (if ¬ (M 104 0 (4 * y12)) = 0 then (0 : Int) else (Int.tdiv (y10 * ((M 113 0 (4 + y12)) - (M 113 0 y12))) y8)))) ∧ (0 ≤ (8 + y12) ∧ (8 + y12) < 30) ∧ ∀ M70 : Mem, M70 = up M 113 0 (8 + y12) ((M 113 0 (8 + y12)) + (if ¬ (M 104 0 (4 * y12)) = 0 then (0 : Int) else (Int.tdiv (y10 * ((M 113 0 (4 + y12)) - (M 113 0 y12))) y8))) → (inR (y11 + (if ¬ (M 104 0 (4 * y12)) = 0 then (0 : Int) else (Int.tdiv (y10 * ((M 113 0 (4 + y12)) - (M 113 0 y12))) y8)))) ∧ (inR (y12 + 1)) ∧ wp_L_widths_565 Qm n y8 y10 (y11 + (if ¬ (M 104 0 (4 * y12)) = 0 then (0 : Int) else (Int.tdiv (y10 * ((M 113 0 (4 + y12)) - (M 113 0 y12))) y8))) (y12 + 1) M70)))) := hw
    refine lv_iload X.1.1 X.1.2.1 dL_widths_565 (lv_at hl 6 rfl) ?_
    refine lv_aload X.1.1 X.1.2.1 dL_widths_567 (lv_at hl 1 rfl) ?_
    refine sa_const X.1 dL_widths_569 ?_
    refine ra_112 X hR (okf X.2.2.1 rfl) ⟨by decide, by decide⟩ dL_widths_570 ?_
    have r21 := hR.r 112 0 0
    refine sa_icmp_ge (tgt := 639) X.1 hy12 r21 dL_widths_571 (by decide) (fun hc => ?_) (fun hc => ?_)
    · have hw := hw.1 hc
      exact t_L_widths_639 X _ _ _ hw hy10 hy11 _ _ hR hS _ (lv_sub hl [0, 1, 2, 4, 5] rfl)
    · have hw := hw.2 hc
      refine lv_iload X.1.1 X.1.2.1 dL_widths_574 (lv_at hl 4 rfl) ?_
      refine sa_if_le (tgt := 639) X.1 hy10 dL_widths_576 (by decide) (fun hc => ?_) (fun hc => ?_)
      · have hw := hw.1 hc
        exact t_L_widths_639 X _ _ _ hw hy10 hy11 _ _ hR hS _ (lv_sub hl [0, 1, 2, 4, 5] rfl)
      · have hw := hw.2 hc
        refine lv_aload_n X.1.1 X.1.2.1 dL_widths_579 rfl (lv_at hl 0 rfl) ?_
        refine sa_const X.1 dL_widths_580 ?_
        refine lv_iload X.1.1 X.1.2.1 dL_widths_581 (lv_at hl 6 rfl) ?_
        have c52 := hw.1
        have hw := hw.2
        refine sa_imul X.1 dL_widths_583 ?_
        have c53 := hw.1
        have hw := hw.2
        refine ra_104 X hR (okf X.2.2.1 rfl) c53 dL_widths_584 ?_
        have r54 := hR.r 104 0 (4 * y12)
        have s61 := hw.1
        have hw := hw.2
        have c62 := hw.1
        have hw := hw.2
        refine cut_j (A := ∀ v63 : Int, v63 = (if ¬ (M 104 0 (4 * y12)) = 0 then (0 : Int) else (Int.tdiv (y10 * ((M 113 0 (4 + y12)) - (M 113 0 y12))) y8)) → WV p l e 4 s m args below meth c G e0 α κ B Qm H locs 611 ls [.int (Int32.ofInt v63)]) (fun J64 => ?_) ?_
        · refine sa_if_ne (tgt := 610) X.1 r54 dL_widths_585 (by decide) (fun hc => ?_) (fun hc => ?_)
          · skip
            refine sa_const X.1 dL_widths_610 ?_
            exact J64 (0) (if_pos (c := ¬ (M 104 0 (4 * y12)) = 0) hc).symm
          · have hw := s61 hc
            refine lv_iload X.1.1 X.1.2.1 dL_widths_588 (lv_at hl 4 rfl) ?_
            refine lv_aload X.1.1 X.1.2.1 dL_widths_590 (lv_at hl 2 rfl) ?_
            refine sa_const X.1 dL_widths_592 ?_
            refine lv_iload X.1.1 X.1.2.1 dL_widths_593 (lv_at hl 6 rfl) ?_
            have c55 := hw.1
            have hw := hw.2
            refine sa_iadd X.1 dL_widths_595 ?_
            have c56 := hw.1
            have hw := hw.2
            refine ra_113 X hR (okf X.2.2.1 rfl) c56 dL_widths_596 ?_
            refine lv_aload X.1.1 X.1.2.1 dL_widths_597 (lv_at hl 2 rfl) ?_
            refine lv_iload X.1.1 X.1.2.1 dL_widths_599 (lv_at hl 6 rfl) ?_
            have c57 := hw.1
            have hw := hw.2
            refine ra_113 X hR (okf X.2.2.1 rfl) c57 dL_widths_601 ?_
            have c58 := hw.1
            have hw := hw.2
            refine sa_isub X.1 dL_widths_602 ?_
            have c59 := hw.1
            have hw := hw.2
            refine sa_imul X.1 dL_widths_603 ?_
            refine lv_iload X.1.1 X.1.2.1 dL_widths_604 (lv_at hl 3 rfl) ?_
            have c60 := hw.1
            have hw := hw.2
            refine sa_idiv X.1 c59 hy8 (Int.ne_of_gt c60) dL_widths_606 ?_
            refine lv_goto (tgt := 611) X.1.1 X.1.2.1 dL_widths_607 (by decide) ?_
            exact J64 ((Int.tdiv (y10 * ((M 113 0 (4 + y12)) - (M 113 0 y12))) y8)) (if_neg (c := ¬ (M 104 0 (4 * y12)) = 0) (fun z => z hc)).symm
        intro v63 hv63
        subst hv63
        refine lv_istore (lv' := [(13, .int (Int32.ofInt (if ¬ (M 104 0 (4 * y12)) = 0 then (0 : Int) else (Int.tdiv (y10 * ((M 113 0 (4 + y12)) - (M 113 0 y12))) y8)))), (0, .ref (α 104 0)), (5, .ref (α 112 0)), (6, .ref (α 113 0)), (8, .int (Int32.ofInt y8)), (10, .int (Int32.ofInt y10)), (11, .int (Int32.ofInt y11)), (12, .int (Int32.ofInt y12))]) X.1.1 X.1.2.1 dL_widths_611 hl (by decide) rfl (fun ls hl => ?_)
        refine lv_aload X.1.1 X.1.2.1 dL_widths_613 (lv_at hl 3 rfl) ?_
        refine sa_bipush X.1 dL_widths_615 (by decide) ?_
        refine lv_iload X.1.1 X.1.2.1 dL_widths_617 (lv_at hl 7 rfl) ?_
        have c65 := hw.1
        have hw := hw.2
        refine sa_iadd X.1 dL_widths_619 ?_
        refine lv_dup2_11 X.1.1 X.1.2.1 dL_widths_620 rfl rfl ?_
        have c66 := hw.1
        have hw := hw.2
        refine ra_113 X hR (okf X.2.2.1 rfl) c66 dL_widths_621 ?_
        have r67 := hR.r 113 0 (8 + y12)
        refine lv_iload X.1.1 X.1.2.1 dL_widths_622 (lv_at hl 0 rfl) ?_
        have c68 := hw.1
        have hw := hw.2
        refine sa_iadd X.1 dL_widths_624 ?_
        have c69 := hw.1
        have hw := hw.2
        refine wa_113 X hR hS (okf X.2.2.1 rfl) c69 c68 dL_widths_625 (fun H locs hR hS => ?_)
        obtain ⟨M70, e71⟩ : ∃ z : Mem, z = up M 113 0 (8 + y12) ((M 113 0 (8 + y12)) + (if ¬ (M 104 0 (4 * y12)) = 0 then (0 : Int) else (Int.tdiv (y10 * ((M 113 0 (4 + y12)) - (M 113 0 y12))) y8))) := ⟨_, rfl⟩
        rw [← e71] at hR
        have hw := hw M70 e71
        refine lv_iload X.1.1 X.1.2.1 dL_widths_626 (lv_at hl 6 rfl) ?_
        refine lv_iload X.1.1 X.1.2.1 dL_widths_628 (lv_at hl 0 rfl) ?_
        have c72 := hw.1
        have hw := hw.2
        refine sa_iadd X.1 dL_widths_630 ?_
        refine lv_istore (lv' := [(11, .int (Int32.ofInt (y11 + (if ¬ (M 104 0 (4 * y12)) = 0 then (0 : Int) else (Int.tdiv (y10 * ((M 113 0 (4 + y12)) - (M 113 0 y12))) y8))))), (13, .int (Int32.ofInt (if ¬ (M 104 0 (4 * y12)) = 0 then (0 : Int) else (Int.tdiv (y10 * ((M 113 0 (4 + y12)) - (M 113 0 y12))) y8)))), (0, .ref (α 104 0)), (5, .ref (α 112 0)), (6, .ref (α 113 0)), (8, .int (Int32.ofInt y8)), (10, .int (Int32.ofInt y10)), (12, .int (Int32.ofInt y12))]) X.1.1 X.1.2.1 dL_widths_631 hl (by decide) rfl (fun ls hl => ?_)
        have c73 := hw.1
        have hw := hw.2
        refine lv_iinc (v := Int32.ofInt (y12 + 1)) (lv' := [(12, .int (Int32.ofInt (y12 + 1))), (11, .int (Int32.ofInt (y11 + (if ¬ (M 104 0 (4 * y12)) = 0 then (0 : Int) else (Int.tdiv (y10 * ((M 113 0 (4 + y12)) - (M 113 0 y12))) y8))))), (13, .int (Int32.ofInt (if ¬ (M 104 0 (4 * y12)) = 0 then (0 : Int) else (Int.tdiv (y10 * ((M 113 0 (4 + y12)) - (M 113 0 y12))) y8)))), (0, .ref (α 104 0)), (5, .ref (α 112 0)), (6, .ref (α 113 0)), (8, .int (Int32.ofInt y8)), (10, .int (Int32.ofInt y10))]) X.1.1 X.1.2.1 dL_widths_633 hl (k := 7) rfl (Int32.ofInt_add _ _).symm (by decide) rfl (fun ls hl => ?_)
        refine lv_goto (tgt := 565) X.1.1 X.1.2.1 dL_widths_636 (by decide) ?_
        exact ih _ _ _ _ _ hw hy8 hy10 c72 c73 _ _ hR hS _ (lv_sub hl [3, 4, 5, 6, 7, 1, 0] rfl)
set_option maxHeartbeats 4000000 in
set_option maxRecDepth 100000 in
theorem t_L_widths_283 (X : CX p m c cL_widths 14 s args RL G B κ meth none) {Qm : Mem → Prop} : ∀ n : Nat, ∀ y7 : Int, ∀ y8 : Int, ∀ y9 : Int, ∀ y10 : Int, ∀ M : Mem, wp_L_widths_283 Qm n y7 y8 y9 y10 M → inR y7 → inR y8 → inR y9 → inR y10 → ∀ (H : Heap) (locs : List Loc), Rp G e0 α κ B M H → va_S (fun q => B ≤ q) s.heap H locs → ∀ (ls : Array Slot), lv_has ls 14 [(0, .ref (α 104 0)), (5, .ref (α 112 0)), (6, .ref (α 113 0)), (7, .int (Int32.ofInt y7)), (8, .int (Int32.ofInt y8)), (9, .int (Int32.ofInt y9)), (10, .int (Int32.ofInt y10))] → WV p l e 4 s m args below meth c G e0 α κ B Qm H locs 283 ls [] := by
  intro n
  induction n with
  | zero =>
    intro y7 y8 y9 y10 M hw hy7 hy8 hy9 hy10 H locs hR hS ls hl
    exact hw.elim
  | succ n ih =>
    intro y7 y8 y9 y10 M hw hy7 hy8 hy9 hy10 H locs hR hS ls hl
    have hw : (((M 112 0 0) ≤ y10 → (∃ n74 : Nat, wp_L_widths_565 Qm n74 y8 (if y8 ≤ y7 then y8 else y7) 0 0 M)) ∧ (y10 < (M 112 0 0) → (inR (4 + y10)) ∧ (inR (4 + y10)) ∧ (0 ≤ (4 + y10) ∧ (4 + y10) < 30) ∧ (0 ≤ y10 ∧ y10 < 30) ∧ ((M 113 0 (4 + y10)) ≤ (M 113 0 y10) → (0 ≤ y10 ∧ y10 < 30) ∧ True) ∧ ((M 113 0 y10) < (M 113 0 (4 + y10)) → (inR (4 + y10)) ∧ (0 ≤ (4 + y10) ∧ (4 + y10) < 30) ∧ True) ∧ (0 ≤ (4 + y10) ∧ (4 + y10) < 30) ∧ ∀ M90 : Mem, M90 = up M 113 0 (4 + y10) (if (M 113 0 (4 + y10)) ≤ (M 113 0 y10) then (M 113 0 y10) else (M 113 0 (4 + y10))) → (inR (4 * y10)) ∧ (inR ((4 * y10) + 3)) ∧ (0 ≤ ((4 * y10) + 3) ∧ ((4 * y10) + 3) < 16) ∧ (¬ (M90 104 0 ((4 * y10) + 3)) = 1 → (0 ≤ y10 ∧ y10 < 30) ∧ True) ∧ (0 ≤ y10 ∧ y10 < 30) ∧ ∀ M102 : Mem, M102 = up M90 113 0 y10 (if ¬ (M90 104 0 ((4 * y10) + 3)) = 1 then (M90 113 0 y10) else 0) → (inR (4 + y10)) ∧ (inR (4 * y10)) ∧ (inR ((4 * y10) + 3)) ∧ (0 ≤ ((4 * y10) + 3) ∧ ((4 * y10) + 3) < 16) ∧ (¬ (M102 104 0 ((4 * y10) + 3)) = 1 → (inR (4 + y10)) ∧ (0 ≤ (4 + y10) ∧ (4 + y10) < 30) ∧ True) ∧ (0 ≤ (4 + y10) ∧ (4 + y10) < 30) ∧ ∀ M116 : Mem, M116 = up M102 113 0 (4 + y10) (if ¬ (M102 104 0 ((4 * y10) + 3)) = 1 then (M102 113 0 (4 + y10)) else 0) → (0 ≤ y9 → (inR (4 * y10)) ∧ (inR ((4 * y10) + 1)) ∧ (0 ≤ ((4 * y10) + 1) ∧ ((4 * y10) + 1) < 16) ∧ (inR (y9 * (M116 104 0 ((4 * y10) + 1)))) ∧ True) ∧ (inR (if y9 < 0 then (0 : Int) else (Int.tdiv (y9 * (M116 104 0 ((4 * y10) + 1))) 100))) ∧ (inR (4 * y10)) ∧ (0 ≤ (4 * y10) ∧ (4 * y10) < 16) ∧ (¬ (M116 104 0 (4 * y10)) = 1 → (inR (4 * y10)) ∧ (0 ≤ (4 * y10) ∧ (4 * y10) < 16) ∧ True) ∧ ((M116 104 0 (4 * y10)) = 1 → (inR (4 * y10)) ∧ (inR ((4 * y10) + 1)) ∧ (0 ≤ ((4 * y10) + 1) ∧ ((4 * y10) + 1) < 16) ∧ True) ∧ (inR (8 + y10)) ∧ (inR (4 * y10)) ∧ (inR ((4 * y10) + 3)) ∧ (0 ≤ ((4 * y10) + 3) ∧ ((4 * y10) + 3) < 16) ∧ (¬ (M116 104 0 ((4 * y10) + 3)) = 1 → (0 ≤ y10 ∧ y10 < 30) ∧ ((if ¬ (M116 104 0 (4 * y10)) = 1 then (if ¬ (M116 104 0 (4 * y10)) = 2 then (0 : Int) else (if y9 < 0 then (0 : Int) else (Int.tdiv (y9 * (M116 104 0 ((4 * y10) + 1))) 100))) else (M116 104 0 ((4 * y10) + 1))) ≤ (M116 113 0 y10) → (0 ≤ y10 ∧ y10 < 30) ∧ True) ∧ True) ∧ (0 ≤ (8 + y10) ∧ (8 + y10) < 30) ∧ ∀ M156 : Mem, M156 = up M116 113 0 (8 + y10) (if ¬ (M116 104 0 ((4 * y10) + 3)) = 1 then (if (if ¬ (M116 104 0 (4 * y10)) = 1 then (if ¬ (M116 104 0 (4 * y10)) = 2 then (0 : Int) else (if y9 < 0 then (0 : Int) else (Int.tdiv (y9 * (M116 104 0 ((4 * y10) + 1))) 100))) else (M116 104 0 ((4 * y10) + 1))) ≤ (M116 113 0 y10) then (M116 113 0 y10) else (if ¬ (M116 104 0 (4 * y10)) = 1 then (if ¬ (M116 104 0 (4 * y10)) = 2 then (0 : Int) else (if y9 < 0 then (0 : Int) else (Int.tdiv (y9 * (M116 104 0 ((4 * y10) + 1))) 100))) else (M116 104 0 ((4 * y10) + 1)))) else 0) → (inR (8 + y10)) ∧ (0 ≤ (8 + y10) ∧ (8 + y10) < 30) ∧ (inR (y7 - (M156 113 0 (8 + y10)))) ∧ (inR (4 * y10)) ∧ (0 ≤ (4 * y10) ∧ (4 * y10) < 16) ∧ ((M156 104 0 (4 * y10)) = 0 → (inR (4 + y10)) ∧ (0 ≤ (4 + y10) ∧ (4 + y10) < 30) ∧ (0 ≤ y10 ∧ y10 < 30) ∧ (inR ((M156 113 0 (4 + y10)) - (M156 113 0 y10))) ∧ True) ∧ (inR (if ¬ (M156 104 0 (4 * y10)) = 0 then (0 : Int) else ((M156 113 0 (4 + y10)) - (M156 113 0 y10)))) ∧ (inR (y8 + (if ¬ (M156 104 0 (4 * y10)) = 0 then (0 : Int) else ((M156 113 0 (4 + y10)) - (M156 113 0 y10))))) ∧ (inR (y10 + 1)) ∧ wp_L_widths_283 Qm n (y7 - (M156 113 0 (8 + y10))) (y8 + (if ¬ (M156 104 0 (4 * y10)) = 0 then (0 : Int) else ((M156 113 0 (4 + y10)) - (M156 113 0 y10)))) y9 (y10 + 1) M156)) := hw
    refine lv_iload X.1.1 X.1.2.1 dL_widths_283 (lv_at hl 6 rfl) ?_
    refine lv_aload X.1.1 X.1.2.1 dL_widths_285 (lv_at hl 1 rfl) ?_
    refine sa_const X.1 dL_widths_287 ?_
    refine ra_112 X hR (okf X.2.2.1 rfl) ⟨by decide, by decide⟩ dL_widths_288 ?_
    have r17 := hR.r 112 0 0
    refine sa_icmp_ge (tgt := 543) X.1 hy10 r17 dL_widths_289 (by decide) (fun hc => ?_) (fun hc => ?_)
    · have hw := hw.1 hc
      refine lv_iload X.1.1 X.1.2.1 dL_widths_543 (lv_at hl 3 rfl) ?_
      refine lv_iload X.1.1 X.1.2.1 dL_widths_545 (lv_at hl 4 rfl) ?_
      have r18 := inR_ite (c := y8 ≤ y7) hy8 hy7
      refine cut_j (A := ∀ v19 : Int, v19 = (if y8 ≤ y7 then y8 else y7) → WV p l e 4 s m args below meth c G e0 α κ B Qm H locs 557 ls [.int (Int32.ofInt v19)]) (fun J20 => ?_) ?_
      · refine sa_icmp_ge (tgt := 555) X.1 hy7 hy8 dL_widths_547 (by decide) (fun hc => ?_) (fun hc => ?_)
        · skip
          refine lv_iload X.1.1 X.1.2.1 dL_widths_555 (lv_at hl 4 rfl) ?_
          exact J20 (y8) (if_pos (c := y8 ≤ y7) hc).symm
        · skip
          refine lv_iload X.1.1 X.1.2.1 dL_widths_550 (lv_at hl 3 rfl) ?_
          refine lv_goto (tgt := 557) X.1.1 X.1.2.1 dL_widths_552 (by decide) ?_
          exact J20 (y7) (if_neg (c := y8 ≤ y7) (Int.not_le.mpr hc)).symm
      intro v19 hv19
      subst hv19
      refine lv_istore (lv' := [(10, .int (Int32.ofInt (if y8 ≤ y7 then y8 else y7))), (0, .ref (α 104 0)), (5, .ref (α 112 0)), (6, .ref (α 113 0)), (7, .int (Int32.ofInt y7)), (8, .int (Int32.ofInt y8)), (9, .int (Int32.ofInt y9))]) X.1.1 X.1.2.1 dL_widths_557 hl (by decide) rfl (fun ls hl => ?_)
      refine sa_const X.1 dL_widths_559 ?_
      refine lv_istore (lv' := [(11, .int (Int32.ofInt 0)), (10, .int (Int32.ofInt (if y8 ≤ y7 then y8 else y7))), (0, .ref (α 104 0)), (5, .ref (α 112 0)), (6, .ref (α 113 0)), (7, .int (Int32.ofInt y7)), (8, .int (Int32.ofInt y8)), (9, .int (Int32.ofInt y9))]) X.1.1 X.1.2.1 dL_widths_560 hl (by decide) rfl (fun ls hl => ?_)
      refine sa_const X.1 dL_widths_562 ?_
      refine lv_istore (lv' := [(12, .int (Int32.ofInt 0)), (11, .int (Int32.ofInt 0)), (10, .int (Int32.ofInt (if y8 ≤ y7 then y8 else y7))), (0, .ref (α 104 0)), (5, .ref (α 112 0)), (6, .ref (α 113 0)), (7, .int (Int32.ofInt y7)), (8, .int (Int32.ofInt y8)), (9, .int (Int32.ofInt y9))]) X.1.1 X.1.2.1 dL_widths_563 hl (by decide) rfl (fun ls hl => ?_)
      obtain ⟨n74, hw⟩ := hw
      exact t_L_widths_565 X n74 _ _ _ _ _ hw hy8 r18 (inR_c (a := 0) rfl) (inR_c (a := 0) rfl) _ _ hR hS _ (lv_sub hl [3, 4, 5, 7, 2, 1, 0] rfl)
    · have hw := hw.2 hc
      refine lv_aload X.1.1 X.1.2.1 dL_widths_292 (lv_at hl 2 rfl) ?_
      refine sa_const X.1 dL_widths_294 ?_
      refine lv_iload X.1.1 X.1.2.1 dL_widths_295 (lv_at hl 6 rfl) ?_
      have c75 := hw.1
      have hw := hw.2
      refine sa_iadd X.1 dL_widths_297 ?_
      refine lv_aload X.1.1 X.1.2.1 dL_widths_298 (lv_at hl 2 rfl) ?_
      refine sa_const X.1 dL_widths_300 ?_
      refine lv_iload X.1.1 X.1.2.1 dL_widths_301 (lv_at hl 6 rfl) ?_
      have c76 := hw.1
      have hw := hw.2
      refine sa_iadd X.1 dL_widths_303 ?_
      have c77 := hw.1
      have hw := hw.2
      refine ra_113 X hR (okf X.2.2.1 rfl) c77 dL_widths_304 ?_
      have r78 := hR.r 113 0 (4 + y10)
      refine lv_aload X.1.1 X.1.2.1 dL_widths_305 (lv_at hl 2 rfl) ?_
      refine lv_iload X.1.1 X.1.2.1 dL_widths_307 (lv_at hl 6 rfl) ?_
      have c79 := hw.1
      have hw := hw.2
      refine ra_113 X hR (okf X.2.2.1 rfl) c79 dL_widths_309 ?_
      have r80 := hR.r 113 0 y10
      have s84 := hw.1
      have hw := hw.2
      have s85 := hw.1
      have hw := hw.2
      have r86 := inR_ite (c := (M 113 0 (4 + y10)) ≤ (M 113 0 y10)) (hR.r 113 0 y10) (hR.r 113 0 (4 + y10))
      refine cut_j (A := ∀ v87 : Int, v87 = (if (M 113 0 (4 + y10)) ≤ (M 113 0 y10) then (M 113 0 y10) else (M 113 0 (4 + y10))) → WV p l e 4 s m args below meth c G e0 α κ B Qm H locs 328 ls [.int (Int32.ofInt v87), .int (Int32.ofInt (4 + y10)), .ref (α 113 0)]) (fun J88 => ?_) ?_
      · refine sa_icmp_le (tgt := 323) X.1 r78 r80 dL_widths_310 (by decide) (fun hc => ?_) (fun hc => ?_)
        · have hw := s84 hc
          refine lv_aload X.1.1 X.1.2.1 dL_widths_323 (lv_at hl 2 rfl) ?_
          refine lv_iload X.1.1 X.1.2.1 dL_widths_325 (lv_at hl 6 rfl) ?_
          have c81 := hw.1
          have hw := hw.2
          refine ra_113 X hR (okf X.2.2.1 rfl) c81 dL_widths_327 ?_
          exact J88 ((M 113 0 y10)) (if_pos (c := (M 113 0 (4 + y10)) ≤ (M 113 0 y10)) hc).symm
        · have hw := s85 hc
          refine lv_aload X.1.1 X.1.2.1 dL_widths_313 (lv_at hl 2 rfl) ?_
          refine sa_const X.1 dL_widths_315 ?_
          refine lv_iload X.1.1 X.1.2.1 dL_widths_316 (lv_at hl 6 rfl) ?_
          have c82 := hw.1
          have hw := hw.2
          refine sa_iadd X.1 dL_widths_318 ?_
          have c83 := hw.1
          have hw := hw.2
          refine ra_113 X hR (okf X.2.2.1 rfl) c83 dL_widths_319 ?_
          refine lv_goto (tgt := 328) X.1.1 X.1.2.1 dL_widths_320 (by decide) ?_
          exact J88 ((M 113 0 (4 + y10))) (if_neg (c := (M 113 0 (4 + y10)) ≤ (M 113 0 y10)) (Int.not_le.mpr hc)).symm
      intro v87 hv87
      subst hv87
      have c89 := hw.1
      have hw := hw.2
      refine wa_113 X hR hS (okf X.2.2.1 rfl) c89 r86 dL_widths_328 (fun H locs hR hS => ?_)
      obtain ⟨M90, e91⟩ : ∃ z : Mem, z = up M 113 0 (4 + y10) (if (M 113 0 (4 + y10)) ≤ (M 113 0 y10) then (M 113 0 y10) else (M 113 0 (4 + y10))) := ⟨_, rfl⟩
      rw [← e91] at hR
      have hw := hw M90 e91
      refine lv_aload X.1.1 X.1.2.1 dL_widths_329 (lv_at hl 2 rfl) ?_
      refine lv_iload X.1.1 X.1.2.1 dL_widths_331 (lv_at hl 6 rfl) ?_
      refine lv_aload_n X.1.1 X.1.2.1 dL_widths_333 rfl (lv_at hl 0 rfl) ?_
      refine sa_const X.1 dL_widths_334 ?_
      refine lv_iload X.1.1 X.1.2.1 dL_widths_335 (lv_at hl 6 rfl) ?_
      have c92 := hw.1
      have hw := hw.2
      refine sa_imul X.1 dL_widths_337 ?_
      refine sa_const X.1 dL_widths_338 ?_
      have c93 := hw.1
      have hw := hw.2
      refine sa_iadd X.1 dL_widths_339 ?_
      have c94 := hw.1
      have hw := hw.2
      refine ra_104 X hR (okf X.2.2.1 rfl) c94 dL_widths_340 ?_
      have r95 := hR.r 104 0 ((4 * y10) + 3)
      refine sa_const X.1 dL_widths_341 ?_
      have s97 := hw.1
      have hw := hw.2
      have r98 := inR_ite (c := ¬ (M90 104 0 ((4 * y10) + 3)) = 1) (hR.r 113 0 y10) (inR_c (a := 0) rfl)
      refine cut_j (A := ∀ v99 : Int, v99 = (if ¬ (M90 104 0 ((4 * y10) + 3)) = 1 then (M90 113 0 y10) else 0) → WV p l e 4 s m args below meth c G e0 α κ B Qm H locs 354 ls [.int (Int32.ofInt v99), .int (Int32.ofInt y10), .ref (α 113 0)]) (fun J100 => ?_) ?_
      · refine sa_icmp_ne (tgt := 349) X.1 r95 (inR_c (a := 1) rfl) dL_widths_342 (by decide) (fun hc => ?_) (fun hc => ?_)
        · have hw := s97 hc
          refine lv_aload X.1.1 X.1.2.1 dL_widths_349 (lv_at hl 2 rfl) ?_
          refine lv_iload X.1.1 X.1.2.1 dL_widths_351 (lv_at hl 6 rfl) ?_
          have c96 := hw.1
          have hw := hw.2
          refine ra_113 X hR (okf X.2.2.1 rfl) c96 dL_widths_353 ?_
          exact J100 ((M90 113 0 y10)) (if_pos (c := ¬ (M90 104 0 ((4 * y10) + 3)) = 1) hc).symm
        · skip
          refine sa_const X.1 dL_widths_345 ?_
          refine lv_goto (tgt := 354) X.1.1 X.1.2.1 dL_widths_346 (by decide) ?_
          exact J100 (0) (if_neg (c := ¬ (M90 104 0 ((4 * y10) + 3)) = 1) (fun z => z hc)).symm
      intro v99 hv99
      subst hv99
      have c101 := hw.1
      have hw := hw.2
      refine wa_113 X hR hS (okf X.2.2.1 rfl) c101 r98 dL_widths_354 (fun H locs hR hS => ?_)
      obtain ⟨M102, e103⟩ : ∃ z : Mem, z = up M90 113 0 y10 (if ¬ (M90 104 0 ((4 * y10) + 3)) = 1 then (M90 113 0 y10) else 0) := ⟨_, rfl⟩
      rw [← e103] at hR
      have hw := hw M102 e103
      refine lv_aload X.1.1 X.1.2.1 dL_widths_355 (lv_at hl 2 rfl) ?_
      refine sa_const X.1 dL_widths_357 ?_
      refine lv_iload X.1.1 X.1.2.1 dL_widths_358 (lv_at hl 6 rfl) ?_
      have c104 := hw.1
      have hw := hw.2
      refine sa_iadd X.1 dL_widths_360 ?_
      refine lv_aload_n X.1.1 X.1.2.1 dL_widths_361 rfl (lv_at hl 0 rfl) ?_
      refine sa_const X.1 dL_widths_362 ?_
      refine lv_iload X.1.1 X.1.2.1 dL_widths_363 (lv_at hl 6 rfl) ?_
      have c105 := hw.1
      have hw := hw.2
      refine sa_imul X.1 dL_widths_365 ?_
      refine sa_const X.1 dL_widths_366 ?_
      have c106 := hw.1
      have hw := hw.2
      refine sa_iadd X.1 dL_widths_367 ?_
      have c107 := hw.1
      have hw := hw.2
      refine ra_104 X hR (okf X.2.2.1 rfl) c107 dL_widths_368 ?_
      have r108 := hR.r 104 0 ((4 * y10) + 3)
      refine sa_const X.1 dL_widths_369 ?_
      have s111 := hw.1
      have hw := hw.2
      have r112 := inR_ite (c := ¬ (M102 104 0 ((4 * y10) + 3)) = 1) (hR.r 113 0 (4 + y10)) (inR_c (a := 0) rfl)
      refine cut_j (A := ∀ v113 : Int, v113 = (if ¬ (M102 104 0 ((4 * y10) + 3)) = 1 then (M102 113 0 (4 + y10)) else 0) → WV p l e 4 s m args below meth c G e0 α κ B Qm H locs 384 ls [.int (Int32.ofInt v113), .int (Int32.ofInt (4 + y10)), .ref (α 113 0)]) (fun J114 => ?_) ?_
      · refine sa_icmp_ne (tgt := 377) X.1 r108 (inR_c (a := 1) rfl) dL_widths_370 (by decide) (fun hc => ?_) (fun hc => ?_)
        · have hw := s111 hc
          refine lv_aload X.1.1 X.1.2.1 dL_widths_377 (lv_at hl 2 rfl) ?_
          refine sa_const X.1 dL_widths_379 ?_
          refine lv_iload X.1.1 X.1.2.1 dL_widths_380 (lv_at hl 6 rfl) ?_
          have c109 := hw.1
          have hw := hw.2
          refine sa_iadd X.1 dL_widths_382 ?_
          have c110 := hw.1
          have hw := hw.2
          refine ra_113 X hR (okf X.2.2.1 rfl) c110 dL_widths_383 ?_
          exact J114 ((M102 113 0 (4 + y10))) (if_pos (c := ¬ (M102 104 0 ((4 * y10) + 3)) = 1) hc).symm
        · skip
          refine sa_const X.1 dL_widths_373 ?_
          refine lv_goto (tgt := 384) X.1.1 X.1.2.1 dL_widths_374 (by decide) ?_
          exact J114 (0) (if_neg (c := ¬ (M102 104 0 ((4 * y10) + 3)) = 1) (fun z => z hc)).symm
      intro v113 hv113
      subst hv113
      have c115 := hw.1
      have hw := hw.2
      refine wa_113 X hR hS (okf X.2.2.1 rfl) c115 r112 dL_widths_384 (fun H locs hR hS => ?_)
      obtain ⟨M116, e117⟩ : ∃ z : Mem, z = up M102 113 0 (4 + y10) (if ¬ (M102 104 0 ((4 * y10) + 3)) = 1 then (M102 113 0 (4 + y10)) else 0) := ⟨_, rfl⟩
      rw [← e117] at hR
      have hw := hw M116 e117
      refine lv_iload X.1.1 X.1.2.1 dL_widths_385 (lv_at hl 5 rfl) ?_
      have s122 := hw.1
      have hw := hw.2
      have c123 := hw.1
      have hw := hw.2
      refine cut_j (A := ∀ v124 : Int, v124 = (if y9 < 0 then (0 : Int) else (Int.tdiv (y9 * (M116 104 0 ((4 * y10) + 1))) 100)) → WV p l e 4 s m args below meth c G e0 α κ B Qm H locs 408 ls [.int (Int32.ofInt v124)]) (fun J125 => ?_) ?_
      · refine sa_if_lt (tgt := 407) X.1 hy9 dL_widths_387 (by decide) (fun hc => ?_) (fun hc => ?_)
        · skip
          refine sa_const X.1 dL_widths_407 ?_
          exact J125 (0) (if_pos (c := y9 < 0) hc).symm
        · have hw := s122 hc
          refine lv_iload X.1.1 X.1.2.1 dL_widths_390 (lv_at hl 5 rfl) ?_
          refine lv_aload_n X.1.1 X.1.2.1 dL_widths_392 rfl (lv_at hl 0 rfl) ?_
          refine sa_const X.1 dL_widths_393 ?_
          refine lv_iload X.1.1 X.1.2.1 dL_widths_394 (lv_at hl 6 rfl) ?_
          have c118 := hw.1
          have hw := hw.2
          refine sa_imul X.1 dL_widths_396 ?_
          refine sa_const X.1 dL_widths_397 ?_
          have c119 := hw.1
          have hw := hw.2
          refine sa_iadd X.1 dL_widths_398 ?_
          have c120 := hw.1
          have hw := hw.2
          refine ra_104 X hR (okf X.2.2.1 rfl) c120 dL_widths_399 ?_
          have c121 := hw.1
          have hw := hw.2
          refine sa_imul X.1 dL_widths_400 ?_
          refine sa_bipush X.1 dL_widths_401 (by decide) ?_
          refine sa_idiv X.1 c121 (inR_c (a := 100) rfl) (Int.ne_of_gt (by decide)) dL_widths_403 ?_
          refine lv_goto (tgt := 408) X.1.1 X.1.2.1 dL_widths_404 (by decide) ?_
          exact J125 ((Int.tdiv (y9 * (M116 104 0 ((4 * y10) + 1))) 100)) (if_neg (c := y9 < 0) (Int.not_lt.mpr hc)).symm
      intro v124 hv124
      subst hv124
      refine lv_istore (lv' := [(11, .int (Int32.ofInt (if y9 < 0 then (0 : Int) else (Int.tdiv (y9 * (M116 104 0 ((4 * y10) + 1))) 100)))), (0, .ref (α 104 0)), (5, .ref (α 112 0)), (6, .ref (α 113 0)), (7, .int (Int32.ofInt y7)), (8, .int (Int32.ofInt y8)), (9, .int (Int32.ofInt y9)), (10, .int (Int32.ofInt y10))]) X.1.1 X.1.2.1 dL_widths_408 hl (by decide) rfl (fun ls hl => ?_)
      refine lv_aload_n X.1.1 X.1.2.1 dL_widths_410 rfl (lv_at hl 1 rfl) ?_
      refine sa_const X.1 dL_widths_411 ?_
      refine lv_iload X.1.1 X.1.2.1 dL_widths_412 (lv_at hl 7 rfl) ?_
      have c126 := hw.1
      have hw := hw.2
      refine sa_imul X.1 dL_widths_414 ?_
      have c127 := hw.1
      have hw := hw.2
      refine ra_104 X hR (okf X.2.2.1 rfl) c127 dL_widths_415 ?_
      have r128 := hR.r 104 0 (4 * y10)
      refine sa_const X.1 dL_widths_416 ?_
      have s136 := hw.1
      have hw := hw.2
      have s137 := hw.1
      have hw := hw.2
      have r138 := inR_ite (c := ¬ (M116 104 0 (4 * y10)) = 1) (inR_ite (c := ¬ (M116 104 0 (4 * y10)) = 2) (inR_c (a := 0) rfl) c123) (hR.r 104 0 ((4 * y10) + 1))
      refine cut_j (A := ∀ v139 : Int, v139 = (if ¬ (M116 104 0 (4 * y10)) = 1 then (if ¬ (M116 104 0 (4 * y10)) = 2 then (0 : Int) else (if y9 < 0 then (0 : Int) else (Int.tdiv (y9 * (M116 104 0 ((4 * y10) + 1))) 100))) else (M116 104 0 ((4 * y10) + 1))) → WV p l e 4 s m args below meth c G e0 α κ B Qm H locs 447 ls [.int (Int32.ofInt v139)]) (fun J140 => ?_) ?_
      · refine sa_icmp_ne (tgt := 431) X.1 r128 (inR_c (a := 1) rfl) dL_widths_417 (by decide) (fun hc => ?_) (fun hc => ?_)
        · have hw := s136 hc
          refine lv_aload_n X.1.1 X.1.2.1 dL_widths_431 rfl (lv_at hl 1 rfl) ?_
          refine sa_const X.1 dL_widths_432 ?_
          refine lv_iload X.1.1 X.1.2.1 dL_widths_433 (lv_at hl 7 rfl) ?_
          have c129 := hw.1
          have hw := hw.2
          refine sa_imul X.1 dL_widths_435 ?_
          have c130 := hw.1
          have hw := hw.2
          refine ra_104 X hR (okf X.2.2.1 rfl) c130 dL_widths_436 ?_
          refine sa_const X.1 dL_widths_437 ?_
          refine cut_j (A := ∀ v131 : Int, v131 = (if ¬ (M116 104 0 (4 * y10)) = 2 then (0 : Int) else (if y9 < 0 then (0 : Int) else (Int.tdiv (y9 * (M116 104 0 ((4 * y10) + 1))) 100))) → WV p l e 4 s m args below meth c G e0 α κ B Qm H locs 447 ls [.int (Int32.ofInt v131)]) (fun J132 => ?_) ?_
          · refine sa_icmp_ne (tgt := 446) X.1 (hR.r 104 0 (4 * y10)) (inR_c (a := 2) rfl) dL_widths_438 (by decide) (fun hc => ?_) (fun hc => ?_)
            · skip
              refine sa_const X.1 dL_widths_446 ?_
              exact J132 (0) (if_pos (c := ¬ (M116 104 0 (4 * y10)) = 2) hc).symm
            · skip
              refine lv_iload X.1.1 X.1.2.1 dL_widths_441 (lv_at hl 0 rfl) ?_
              refine lv_goto (tgt := 447) X.1.1 X.1.2.1 dL_widths_443 (by decide) ?_
              exact J132 ((if y9 < 0 then (0 : Int) else (Int.tdiv (y9 * (M116 104 0 ((4 * y10) + 1))) 100))) (if_neg (c := ¬ (M116 104 0 (4 * y10)) = 2) (fun z => z hc)).symm
          intro v131 hv131
          subst hv131
          exact J140 ((if ¬ (M116 104 0 (4 * y10)) = 2 then (0 : Int) else (if y9 < 0 then (0 : Int) else (Int.tdiv (y9 * (M116 104 0 ((4 * y10) + 1))) 100)))) (if_pos (c := ¬ (M116 104 0 (4 * y10)) = 1) hc).symm
        · have hw := s137 hc
          refine lv_aload_n X.1.1 X.1.2.1 dL_widths_420 rfl (lv_at hl 1 rfl) ?_
          refine sa_const X.1 dL_widths_421 ?_
          refine lv_iload X.1.1 X.1.2.1 dL_widths_422 (lv_at hl 7 rfl) ?_
          have c133 := hw.1
          have hw := hw.2
          refine sa_imul X.1 dL_widths_424 ?_
          refine sa_const X.1 dL_widths_425 ?_
          have c134 := hw.1
          have hw := hw.2
          refine sa_iadd X.1 dL_widths_426 ?_
          have c135 := hw.1
          have hw := hw.2
          refine ra_104 X hR (okf X.2.2.1 rfl) c135 dL_widths_427 ?_
          refine lv_goto (tgt := 447) X.1.1 X.1.2.1 dL_widths_428 (by decide) ?_
          exact J140 ((M116 104 0 ((4 * y10) + 1))) (if_neg (c := ¬ (M116 104 0 (4 * y10)) = 1) (fun z => z hc)).symm
      intro v139 hv139
      subst hv139
      refine lv_istore (lv' := [(12, .int (Int32.ofInt (if ¬ (M116 104 0 (4 * y10)) = 1 then (if ¬ (M116 104 0 (4 * y10)) = 2 then (0 : Int) else (if y9 < 0 then (0 : Int) else (Int.tdiv (y9 * (M116 104 0 ((4 * y10) + 1))) 100))) else (M116 104 0 ((4 * y10) + 1))))), (11, .int (Int32.ofInt (if y9 < 0 then (0 : Int) else (Int.tdiv (y9 * (M116 104 0 ((4 * y10) + 1))) 100)))), (0, .ref (α 104 0)), (5, .ref (α 112 0)), (6, .ref (α 113 0)), (7, .int (Int32.ofInt y7)), (8, .int (Int32.ofInt y8)), (9, .int (Int32.ofInt y9)), (10, .int (Int32.ofInt y10))]) X.1.1 X.1.2.1 dL_widths_447 hl (by decide) rfl (fun ls hl => ?_)
      refine lv_aload X.1.1 X.1.2.1 dL_widths_449 (lv_at hl 4 rfl) ?_
      refine sa_bipush X.1 dL_widths_451 (by decide) ?_
      refine lv_iload X.1.1 X.1.2.1 dL_widths_453 (lv_at hl 8 rfl) ?_
      have c141 := hw.1
      have hw := hw.2
      refine sa_iadd X.1 dL_widths_455 ?_
      refine lv_aload_n X.1.1 X.1.2.1 dL_widths_456 rfl (lv_at hl 2 rfl) ?_
      refine sa_const X.1 dL_widths_457 ?_
      refine lv_iload X.1.1 X.1.2.1 dL_widths_458 (lv_at hl 8 rfl) ?_
      have c142 := hw.1
      have hw := hw.2
      refine sa_imul X.1 dL_widths_460 ?_
      refine sa_const X.1 dL_widths_461 ?_
      have c143 := hw.1
      have hw := hw.2
      refine sa_iadd X.1 dL_widths_462 ?_
      have c144 := hw.1
      have hw := hw.2
      refine ra_104 X hR (okf X.2.2.1 rfl) c144 dL_widths_463 ?_
      have r145 := hR.r 104 0 ((4 * y10) + 3)
      refine sa_const X.1 dL_widths_464 ?_
      have s151 := hw.1
      have hw := hw.2
      have r152 := inR_ite (c := ¬ (M116 104 0 ((4 * y10) + 3)) = 1) (inR_ite (c := (if ¬ (M116 104 0 (4 * y10)) = 1 then (if ¬ (M116 104 0 (4 * y10)) = 2 then (0 : Int) else (if y9 < 0 then (0 : Int) else (Int.tdiv (y9 * (M116 104 0 ((4 * y10) + 1))) 100))) else (M116 104 0 ((4 * y10) + 1))) ≤ (M116 113 0 y10)) (hR.r 113 0 y10) r138) (inR_c (a := 0) rfl)
      refine cut_j (A := ∀ v153 : Int, v153 = (if ¬ (M116 104 0 ((4 * y10) + 3)) = 1 then (if (if ¬ (M116 104 0 (4 * y10)) = 1 then (if ¬ (M116 104 0 (4 * y10)) = 2 then (0 : Int) else (if y9 < 0 then (0 : Int) else (Int.tdiv (y9 * (M116 104 0 ((4 * y10) + 1))) 100))) else (M116 104 0 ((4 * y10) + 1))) ≤ (M116 113 0 y10) then (M116 113 0 y10) else (if ¬ (M116 104 0 (4 * y10)) = 1 then (if ¬ (M116 104 0 (4 * y10)) = 2 then (0 : Int) else (if y9 < 0 then (0 : Int) else (Int.tdiv (y9 * (M116 104 0 ((4 * y10) + 1))) 100))) else (M116 104 0 ((4 * y10) + 1)))) else 0) → WV p l e 4 s m args below meth c G e0 α κ B Qm H locs 492 ls [.int (Int32.ofInt v153), .int (Int32.ofInt (8 + y10)), .ref (α 113 0)]) (fun J154 => ?_) ?_
      · refine sa_icmp_ne (tgt := 472) X.1 r145 (inR_c (a := 1) rfl) dL_widths_465 (by decide) (fun hc => ?_) (fun hc => ?_)
        · have hw := s151 hc
          refine lv_iload X.1.1 X.1.2.1 dL_widths_472 (lv_at hl 0 rfl) ?_
          refine lv_aload X.1.1 X.1.2.1 dL_widths_474 (lv_at hl 4 rfl) ?_
          refine lv_iload X.1.1 X.1.2.1 dL_widths_476 (lv_at hl 8 rfl) ?_
          have c146 := hw.1
          have hw := hw.2
          refine ra_113 X hR (okf X.2.2.1 rfl) c146 dL_widths_478 ?_
          have s148 := hw.1
          have hw := hw.2
          refine cut_j (A := ∀ v149 : Int, v149 = (if (if ¬ (M116 104 0 (4 * y10)) = 1 then (if ¬ (M116 104 0 (4 * y10)) = 2 then (0 : Int) else (if y9 < 0 then (0 : Int) else (Int.tdiv (y9 * (M116 104 0 ((4 * y10) + 1))) 100))) else (M116 104 0 ((4 * y10) + 1))) ≤ (M116 113 0 y10) then (M116 113 0 y10) else (if ¬ (M116 104 0 (4 * y10)) = 1 then (if ¬ (M116 104 0 (4 * y10)) = 2 then (0 : Int) else (if y9 < 0 then (0 : Int) else (Int.tdiv (y9 * (M116 104 0 ((4 * y10) + 1))) 100))) else (M116 104 0 ((4 * y10) + 1)))) → WV p l e 4 s m args below meth c G e0 α κ B Qm H locs 492 ls [.int (Int32.ofInt v149), .int (Int32.ofInt (8 + y10)), .ref (α 113 0)]) (fun J150 => ?_) ?_
          · refine sa_icmp_le (tgt := 487) X.1 r138 (hR.r 113 0 y10) dL_widths_479 (by decide) (fun hc => ?_) (fun hc => ?_)
            · have hw := s148 hc
              refine lv_aload X.1.1 X.1.2.1 dL_widths_487 (lv_at hl 4 rfl) ?_
              refine lv_iload X.1.1 X.1.2.1 dL_widths_489 (lv_at hl 8 rfl) ?_
              have c147 := hw.1
              have hw := hw.2
              refine ra_113 X hR (okf X.2.2.1 rfl) c147 dL_widths_491 ?_
              exact J150 ((M116 113 0 y10)) (if_pos (c := (if ¬ (M116 104 0 (4 * y10)) = 1 then (if ¬ (M116 104 0 (4 * y10)) = 2 then (0 : Int) else (if y9 < 0 then (0 : Int) else (Int.tdiv (y9 * (M116 104 0 ((4 * y10) + 1))) 100))) else (M116 104 0 ((4 * y10) + 1))) ≤ (M116 113 0 y10)) hc).symm
            · skip
              refine lv_iload X.1.1 X.1.2.1 dL_widths_482 (lv_at hl 0 rfl) ?_
              refine lv_goto (tgt := 492) X.1.1 X.1.2.1 dL_widths_484 (by decide) ?_
              exact J150 ((if ¬ (M116 104 0 (4 * y10)) = 1 then (if ¬ (M116 104 0 (4 * y10)) = 2 then (0 : Int) else (if y9 < 0 then (0 : Int) else (Int.tdiv (y9 * (M116 104 0 ((4 * y10) + 1))) 100))) else (M116 104 0 ((4 * y10) + 1)))) (if_neg (c := (if ¬ (M116 104 0 (4 * y10)) = 1 then (if ¬ (M116 104 0 (4 * y10)) = 2 then (0 : Int) else (if y9 < 0 then (0 : Int) else (Int.tdiv (y9 * (M116 104 0 ((4 * y10) + 1))) 100))) else (M116 104 0 ((4 * y10) + 1))) ≤ (M116 113 0 y10)) (Int.not_le.mpr hc)).symm
          intro v149 hv149
          subst hv149
          exact J154 ((if (if ¬ (M116 104 0 (4 * y10)) = 1 then (if ¬ (M116 104 0 (4 * y10)) = 2 then (0 : Int) else (if y9 < 0 then (0 : Int) else (Int.tdiv (y9 * (M116 104 0 ((4 * y10) + 1))) 100))) else (M116 104 0 ((4 * y10) + 1))) ≤ (M116 113 0 y10) then (M116 113 0 y10) else (if ¬ (M116 104 0 (4 * y10)) = 1 then (if ¬ (M116 104 0 (4 * y10)) = 2 then (0 : Int) else (if y9 < 0 then (0 : Int) else (Int.tdiv (y9 * (M116 104 0 ((4 * y10) + 1))) 100))) else (M116 104 0 ((4 * y10) + 1))))) (if_pos (c := ¬ (M116 104 0 ((4 * y10) + 3)) = 1) hc).symm
        · skip
          refine sa_const X.1 dL_widths_468 ?_
          refine lv_goto (tgt := 492) X.1.1 X.1.2.1 dL_widths_469 (by decide) ?_
          exact J154 (0) (if_neg (c := ¬ (M116 104 0 ((4 * y10) + 3)) = 1) (fun z => z hc)).symm
      intro v153 hv153
      subst hv153
      have c155 := hw.1
      have hw := hw.2
      refine wa_113 X hR hS (okf X.2.2.1 rfl) c155 r152 dL_widths_492 (fun H locs hR hS => ?_)
      obtain ⟨M156, e157⟩ : ∃ z : Mem, z = up M116 113 0 (8 + y10) (if ¬ (M116 104 0 ((4 * y10) + 3)) = 1 then (if (if ¬ (M116 104 0 (4 * y10)) = 1 then (if ¬ (M116 104 0 (4 * y10)) = 2 then (0 : Int) else (if y9 < 0 then (0 : Int) else (Int.tdiv (y9 * (M116 104 0 ((4 * y10) + 1))) 100))) else (M116 104 0 ((4 * y10) + 1))) ≤ (M116 113 0 y10) then (M116 113 0 y10) else (if ¬ (M116 104 0 (4 * y10)) = 1 then (if ¬ (M116 104 0 (4 * y10)) = 2 then (0 : Int) else (if y9 < 0 then (0 : Int) else (Int.tdiv (y9 * (M116 104 0 ((4 * y10) + 1))) 100))) else (M116 104 0 ((4 * y10) + 1)))) else 0) := ⟨_, rfl⟩
      rw [← e157] at hR
      have hw := hw M156 e157
      refine lv_iload X.1.1 X.1.2.1 dL_widths_493 (lv_at hl 5 rfl) ?_
      refine lv_aload X.1.1 X.1.2.1 dL_widths_495 (lv_at hl 4 rfl) ?_
      refine sa_bipush X.1 dL_widths_497 (by decide) ?_
      refine lv_iload X.1.1 X.1.2.1 dL_widths_499 (lv_at hl 8 rfl) ?_
      have c158 := hw.1
      have hw := hw.2
      refine sa_iadd X.1 dL_widths_501 ?_
      have c159 := hw.1
      have hw := hw.2
      refine ra_113 X hR (okf X.2.2.1 rfl) c159 dL_widths_502 ?_
      have r160 := hR.r 113 0 (8 + y10)
      have c161 := hw.1
      have hw := hw.2
      refine sa_isub X.1 dL_widths_503 ?_
      refine lv_istore (lv' := [(7, .int (Int32.ofInt (y7 - (M156 113 0 (8 + y10))))), (12, .int (Int32.ofInt (if ¬ (M116 104 0 (4 * y10)) = 1 then (if ¬ (M116 104 0 (4 * y10)) = 2 then (0 : Int) else (if y9 < 0 then (0 : Int) else (Int.tdiv (y9 * (M116 104 0 ((4 * y10) + 1))) 100))) else (M116 104 0 ((4 * y10) + 1))))), (11, .int (Int32.ofInt (if y9 < 0 then (0 : Int) else (Int.tdiv (y9 * (M116 104 0 ((4 * y10) + 1))) 100)))), (0, .ref (α 104 0)), (5, .ref (α 112 0)), (6, .ref (α 113 0)), (8, .int (Int32.ofInt y8)), (9, .int (Int32.ofInt y9)), (10, .int (Int32.ofInt y10))]) X.1.1 X.1.2.1 dL_widths_504 hl (by decide) rfl (fun ls hl => ?_)
      refine lv_iload X.1.1 X.1.2.1 dL_widths_506 (lv_at hl 6 rfl) ?_
      refine lv_aload_n X.1.1 X.1.2.1 dL_widths_508 rfl (lv_at hl 3 rfl) ?_
      refine sa_const X.1 dL_widths_509 ?_
      refine lv_iload X.1.1 X.1.2.1 dL_widths_510 (lv_at hl 8 rfl) ?_
      have c162 := hw.1
      have hw := hw.2
      refine sa_imul X.1 dL_widths_512 ?_
      have c163 := hw.1
      have hw := hw.2
      refine ra_104 X hR (okf X.2.2.1 rfl) c163 dL_widths_513 ?_
      have r164 := hR.r 104 0 (4 * y10)
      have s169 := hw.1
      have hw := hw.2
      have c170 := hw.1
      have hw := hw.2
      refine cut_j (A := ∀ v171 : Int, v171 = (if ¬ (M156 104 0 (4 * y10)) = 0 then (0 : Int) else ((M156 113 0 (4 + y10)) - (M156 113 0 y10))) → WV p l e 4 s m args below meth c G e0 α κ B Qm H locs 534 ls [.int (Int32.ofInt v171), .int (Int32.ofInt y8)]) (fun J172 => ?_) ?_
      · refine sa_if_ne (tgt := 533) X.1 r164 dL_widths_514 (by decide) (fun hc => ?_) (fun hc => ?_)
        · skip
          refine sa_const X.1 dL_widths_533 ?_
          exact J172 (0) (if_pos (c := ¬ (M156 104 0 (4 * y10)) = 0) hc).symm
        · have hw := s169 hc
          refine lv_aload X.1.1 X.1.2.1 dL_widths_517 (lv_at hl 5 rfl) ?_
          refine sa_const X.1 dL_widths_519 ?_
          refine lv_iload X.1.1 X.1.2.1 dL_widths_520 (lv_at hl 8 rfl) ?_
          have c165 := hw.1
          have hw := hw.2
          refine sa_iadd X.1 dL_widths_522 ?_
          have c166 := hw.1
          have hw := hw.2
          refine ra_113 X hR (okf X.2.2.1 rfl) c166 dL_widths_523 ?_
          refine lv_aload X.1.1 X.1.2.1 dL_widths_524 (lv_at hl 5 rfl) ?_
          refine lv_iload X.1.1 X.1.2.1 dL_widths_526 (lv_at hl 8 rfl) ?_
          have c167 := hw.1
          have hw := hw.2
          refine ra_113 X hR (okf X.2.2.1 rfl) c167 dL_widths_528 ?_
          have c168 := hw.1
          have hw := hw.2
          refine sa_isub X.1 dL_widths_529 ?_
          refine lv_goto (tgt := 534) X.1.1 X.1.2.1 dL_widths_530 (by decide) ?_
          exact J172 (((M156 113 0 (4 + y10)) - (M156 113 0 y10))) (if_neg (c := ¬ (M156 104 0 (4 * y10)) = 0) (fun z => z hc)).symm
      intro v171 hv171
      subst hv171
      have c173 := hw.1
      have hw := hw.2
      refine sa_iadd X.1 dL_widths_534 ?_
      refine lv_istore (lv' := [(8, .int (Int32.ofInt (y8 + (if ¬ (M156 104 0 (4 * y10)) = 0 then (0 : Int) else ((M156 113 0 (4 + y10)) - (M156 113 0 y10)))))), (7, .int (Int32.ofInt (y7 - (M156 113 0 (8 + y10))))), (12, .int (Int32.ofInt (if ¬ (M116 104 0 (4 * y10)) = 1 then (if ¬ (M116 104 0 (4 * y10)) = 2 then (0 : Int) else (if y9 < 0 then (0 : Int) else (Int.tdiv (y9 * (M116 104 0 ((4 * y10) + 1))) 100))) else (M116 104 0 ((4 * y10) + 1))))), (11, .int (Int32.ofInt (if y9 < 0 then (0 : Int) else (Int.tdiv (y9 * (M116 104 0 ((4 * y10) + 1))) 100)))), (0, .ref (α 104 0)), (5, .ref (α 112 0)), (6, .ref (α 113 0)), (9, .int (Int32.ofInt y9)), (10, .int (Int32.ofInt y10))]) X.1.1 X.1.2.1 dL_widths_535 hl (by decide) rfl (fun ls hl => ?_)
      have c174 := hw.1
      have hw := hw.2
      refine lv_iinc (v := Int32.ofInt (y10 + 1)) (lv' := [(10, .int (Int32.ofInt (y10 + 1))), (8, .int (Int32.ofInt (y8 + (if ¬ (M156 104 0 (4 * y10)) = 0 then (0 : Int) else ((M156 113 0 (4 + y10)) - (M156 113 0 y10)))))), (7, .int (Int32.ofInt (y7 - (M156 113 0 (8 + y10))))), (12, .int (Int32.ofInt (if ¬ (M116 104 0 (4 * y10)) = 1 then (if ¬ (M116 104 0 (4 * y10)) = 2 then (0 : Int) else (if y9 < 0 then (0 : Int) else (Int.tdiv (y9 * (M116 104 0 ((4 * y10) + 1))) 100))) else (M116 104 0 ((4 * y10) + 1))))), (11, .int (Int32.ofInt (if y9 < 0 then (0 : Int) else (Int.tdiv (y9 * (M116 104 0 ((4 * y10) + 1))) 100)))), (0, .ref (α 104 0)), (5, .ref (α 112 0)), (6, .ref (α 113 0)), (9, .int (Int32.ofInt y9))]) X.1.1 X.1.2.1 dL_widths_537 hl (k := 8) rfl (Int32.ofInt_add _ _).symm (by decide) rfl (fun ls hl => ?_)
      refine lv_goto (tgt := 283) X.1.1 X.1.2.1 dL_widths_540 (by decide) ?_
      exact ih _ _ _ _ _ hw c161 c173 hy9 c174 _ _ hR hS _ (lv_sub hl [5, 6, 7, 2, 1, 8, 0] rfl)
set_option maxHeartbeats 4000000 in
set_option maxRecDepth 100000 in
theorem t_L_widths_211 (X : CX p m c cL_widths 14 s args RL G B κ meth none) {Qm : Mem → Prop} {K69 : Int → Mem → Prop} {K89 : Int → Int → Mem → Prop} (hK69 : ∀ y7 : Int, ∀ M : Mem, K69 y7 M → inR y7 → ∀ (H : Heap) (locs : List Loc), Rp G e0 α κ B M H → va_S (fun q => B ≤ q) s.heap H locs → ∀ (ls : Array Slot), lv_has ls 14 [(0, .ref (α 104 0)), (2, .ref (α 107 0)), (3, .ref (α 108 0)), (5, .ref (α 112 0)), (6, .ref (α 113 0)), (7, .int (Int32.ofInt y7))] → WV p l e 4 s m args below meth c G e0 α κ B Qm H locs 69 ls []) (hK89 : ∀ y7 : Int, ∀ y8 : Int, ∀ M : Mem, K89 y7 y8 M → inR y7 → inR y8 → ∀ (H : Heap) (locs : List Loc), Rp G e0 α κ B M H → va_S (fun q => B ≤ q) s.heap H locs → ∀ (ls : Array Slot), lv_has ls 14 [(0, .ref (α 104 0)), (2, .ref (α 107 0)), (3, .ref (α 108 0)), (5, .ref (α 112 0)), (6, .ref (α 113 0)), (7, .int (Int32.ofInt y7)), (8, .int (Int32.ofInt y8))] → WV p l e 4 s m args below meth c G e0 α κ B Qm H locs 89 ls []) : ∀ y7 : Int, ∀ y8 : Int, ∀ M : Mem, wp_L_widths_211 Qm K69 K89 y7 y8 M → inR y7 → inR y8 → ∀ (H : Heap) (locs : List Loc), Rp G e0 α κ B M H → va_S (fun q => B ≤ q) s.heap H locs → ∀ (ls : Array Slot), lv_has ls 14 [(0, .ref (α 104 0)), (2, .ref (α 107 0)), (3, .ref (α 108 0)), (5, .ref (α 112 0)), (6, .ref (α 113 0)), (7, .int (Int32.ofInt y7)), (8, .int (Int32.ofInt y8))] → WV p l e 4 s m args below meth c G e0 α κ B Qm H locs 211 ls [] := by
  intro y7 y8 M hw hy7 hy8 H locs hR hS ls hl
  have hw : (inR (y8 + 1)) ∧ K89 y7 (y8 + 1) M := hw
  have c193 := hw.1
  have hw := hw.2
  refine lv_iinc (v := Int32.ofInt (y8 + 1)) (lv' := [(8, .int (Int32.ofInt (y8 + 1))), (0, .ref (α 104 0)), (2, .ref (α 107 0)), (3, .ref (α 108 0)), (5, .ref (α 112 0)), (6, .ref (α 113 0)), (7, .int (Int32.ofInt y7))]) X.1.1 X.1.2.1 dL_widths_211 hl (k := 6) rfl (Int32.ofInt_add _ _).symm (by decide) rfl (fun ls hl => ?_)
  refine lv_goto (tgt := 89) X.1.1 X.1.2.1 dL_widths_214 (by decide) ?_
  exact hK89 _ _ _ hw hy7 c193 _ _ hR hS _ (lv_sub hl [1, 2, 3, 4, 5, 6, 0] rfl)
set_option maxHeartbeats 4000000 in
set_option maxRecDepth 100000 in
theorem t_L_widths_210 (X : CX p m c cL_widths 14 s args RL G B κ meth none) {Qm : Mem → Prop} {K69 : Int → Mem → Prop} {K89 : Int → Int → Mem → Prop} (hK69 : ∀ y7 : Int, ∀ M : Mem, K69 y7 M → inR y7 → ∀ (H : Heap) (locs : List Loc), Rp G e0 α κ B M H → va_S (fun q => B ≤ q) s.heap H locs → ∀ (ls : Array Slot), lv_has ls 14 [(0, .ref (α 104 0)), (2, .ref (α 107 0)), (3, .ref (α 108 0)), (5, .ref (α 112 0)), (6, .ref (α 113 0)), (7, .int (Int32.ofInt y7))] → WV p l e 4 s m args below meth c G e0 α κ B Qm H locs 69 ls []) (hK89 : ∀ y7 : Int, ∀ y8 : Int, ∀ M : Mem, K89 y7 y8 M → inR y7 → inR y8 → ∀ (H : Heap) (locs : List Loc), Rp G e0 α κ B M H → va_S (fun q => B ≤ q) s.heap H locs → ∀ (ls : Array Slot), lv_has ls 14 [(0, .ref (α 104 0)), (2, .ref (α 107 0)), (3, .ref (α 108 0)), (5, .ref (α 112 0)), (6, .ref (α 113 0)), (7, .int (Int32.ofInt y7)), (8, .int (Int32.ofInt y8))] → WV p l e 4 s m args below meth c G e0 α κ B Qm H locs 89 ls []) : ∀ y7 : Int, ∀ y8 : Int, ∀ z0 : Int, ∀ z1 : Int, ∀ M : Mem, wp_L_widths_210 Qm K69 K89 y7 y8 z0 z1 M → inR y7 → inR y8 → inR z0 → inR z1 → ∀ (H : Heap) (locs : List Loc), Rp G e0 α κ B M H → va_S (fun q => B ≤ q) s.heap H locs → ∀ (ls : Array Slot), lv_has ls 14 [(0, .ref (α 104 0)), (2, .ref (α 107 0)), (3, .ref (α 108 0)), (5, .ref (α 112 0)), (6, .ref (α 113 0)), (7, .int (Int32.ofInt y7)), (8, .int (Int32.ofInt y8))] → WV p l e 4 s m args below meth c G e0 α κ B Qm H locs 210 ls [.int (Int32.ofInt z0), .int (Int32.ofInt z1), .ref (α 113 0)] := by
  intro y7 y8 z0 z1 M hw hy7 hy8 hz0 hz1 H locs hR hS ls hl
  have hw : (0 ≤ z1 ∧ z1 < 30) ∧ ∀ M219 : Mem, M219 = up M 113 0 z1 z0 → wp_L_widths_211 Qm K69 K89 y7 y8 M219 := hw
  have c218 := hw.1
  have hw := hw.2
  refine wa_113 X hR hS (okf X.2.2.1 rfl) c218 hz0 dL_widths_210 (fun H locs hR hS => ?_)
  obtain ⟨M219, e220⟩ : ∃ z : Mem, z = up M 113 0 z1 z0 := ⟨_, rfl⟩
  rw [← e220] at hR
  have hw := hw M219 e220
  exact t_L_widths_211 X hK69 hK89 _ _ _ hw hy7 hy8 _ _ hR hS _ (lv_sub hl [0, 1, 2, 3, 4, 5, 6] rfl)
set_option maxHeartbeats 4000000 in
set_option maxRecDepth 100000 in
theorem t_L_widths_169 (X : CX p m c cL_widths 14 s args RL G B κ meth none) {Qm : Mem → Prop} {K69 : Int → Mem → Prop} {K89 : Int → Int → Mem → Prop} (hK69 : ∀ y7 : Int, ∀ M : Mem, K69 y7 M → inR y7 → ∀ (H : Heap) (locs : List Loc), Rp G e0 α κ B M H → va_S (fun q => B ≤ q) s.heap H locs → ∀ (ls : Array Slot), lv_has ls 14 [(0, .ref (α 104 0)), (2, .ref (α 107 0)), (3, .ref (α 108 0)), (5, .ref (α 112 0)), (6, .ref (α 113 0)), (7, .int (Int32.ofInt y7))] → WV p l e 4 s m args below meth c G e0 α κ B Qm H locs 69 ls []) (hK89 : ∀ y7 : Int, ∀ y8 : Int, ∀ M : Mem, K89 y7 y8 M → inR y7 → inR y8 → ∀ (H : Heap) (locs : List Loc), Rp G e0 α κ B M H → va_S (fun q => B ≤ q) s.heap H locs → ∀ (ls : Array Slot), lv_has ls 14 [(0, .ref (α 104 0)), (2, .ref (α 107 0)), (3, .ref (α 108 0)), (5, .ref (α 112 0)), (6, .ref (α 113 0)), (7, .int (Int32.ofInt y7)), (8, .int (Int32.ofInt y8))] → WV p l e 4 s m args below meth c G e0 α κ B Qm H locs 89 ls []) : ∀ y7 : Int, ∀ y8 : Int, ∀ z0 : Int, ∀ z1 : Int, ∀ M : Mem, wp_L_widths_169 Qm K69 K89 y7 y8 z0 z1 M → inR y7 → inR y8 → inR z0 → inR z1 → ∀ (H : Heap) (locs : List Loc), Rp G e0 α κ B M H → va_S (fun q => B ≤ q) s.heap H locs → ∀ (ls : Array Slot), lv_has ls 14 [(0, .ref (α 104 0)), (2, .ref (α 107 0)), (3, .ref (α 108 0)), (5, .ref (α 112 0)), (6, .ref (α 113 0)), (7, .int (Int32.ofInt y7)), (8, .int (Int32.ofInt y8))] → WV p l e 4 s m args below meth c G e0 α κ B Qm H locs 169 ls [.int (Int32.ofInt z0), .int (Int32.ofInt z1), .ref (α 113 0)] := by
  intro y7 y8 z0 z1 M hw hy7 hy8 hz0 hz1 H locs hR hS ls hl
  have hw : (0 ≤ z1 ∧ z1 < 30) ∧ ∀ M206 : Mem, M206 = up M 113 0 z1 z0 → (inR (4 + y8)) ∧ wp_L_wants y7 1 M206 fun (x210 : Int) (M209 : Mem) => (inR (4 + y8)) ∧ (0 ≤ (4 + y8) ∧ (4 + y8) < 30) ∧ ((x210 ≤ (M209 113 0 (4 + y8)) → (inR (4 + y8)) ∧ (0 ≤ (4 + y8) ∧ (4 + y8) < 30) ∧ wp_L_widths_210 Qm K69 K89 y7 y8 (M209 113 0 (4 + y8)) (4 + y8) M209) ∧ ((M209 113 0 (4 + y8)) < x210 → wp_L_wants y7 1 M209 fun (x222 : Int) (M221 : Mem) => wp_L_widths_210 Qm K69 K89 y7 y8 x222 (4 + y8) M221)) := hw
  have c205 := hw.1
  have hw := hw.2
  refine wa_113 X hR hS (okf X.2.2.1 rfl) c205 hz0 dL_widths_169 (fun H locs hR hS => ?_)
  obtain ⟨M206, e207⟩ : ∃ z : Mem, z = up M 113 0 z1 z0 := ⟨_, rfl⟩
  rw [← e207] at hR
  have hw := hw M206 e207
  refine lv_aload X.1.1 X.1.2.1 dL_widths_170 (lv_at hl 4 rfl) ?_
  refine sa_const X.1 dL_widths_172 ?_
  refine lv_iload X.1.1 X.1.2.1 dL_widths_173 (lv_at hl 6 rfl) ?_
  have c208 := hw.1
  have hw := hw.2
  refine sa_iadd X.1 dL_widths_175 ?_
  refine lv_aload_n X.1.1 X.1.2.1 dL_widths_176 rfl (lv_at hl 2 rfl) ?_
  refine lv_iload X.1.1 X.1.2.1 dL_widths_177 (lv_at hl 5 rfl) ?_
  refine sa_const X.1 dL_widths_179 ?_
  refine cs_L_wants X hy7 (inR_c (a := 1) rfl) (kc := 4) rmL_ok rm_c (by decide) hR hS kw_1238 hl.1 dL_widths_180 (Nat.le_of_ble_eq_true rfl) hw (fun x210 M209 H locs hw r211 hR hS => ?_)
  refine lv_aload X.1.1 X.1.2.1 dL_widths_183 (lv_at hl 4 rfl) ?_
  refine sa_const X.1 dL_widths_185 ?_
  refine lv_iload X.1.1 X.1.2.1 dL_widths_186 (lv_at hl 6 rfl) ?_
  have c212 := hw.1
  have hw := hw.2
  refine sa_iadd X.1 dL_widths_188 ?_
  have c213 := hw.1
  have hw := hw.2
  refine ra_113 X hR (okf X.2.2.1 rfl) c213 dL_widths_189 ?_
  have r214 := hR.r 113 0 (4 + y8)
  refine sa_icmp_le (tgt := 203) X.1 r211 r214 dL_widths_190 (by decide) (fun hc => ?_) (fun hc => ?_)
  · have hw := hw.1 hc
    refine lv_aload X.1.1 X.1.2.1 dL_widths_203 (lv_at hl 4 rfl) ?_
    refine sa_const X.1 dL_widths_205 ?_
    refine lv_iload X.1.1 X.1.2.1 dL_widths_206 (lv_at hl 6 rfl) ?_
    have c215 := hw.1
    have hw := hw.2
    refine sa_iadd X.1 dL_widths_208 ?_
    have c216 := hw.1
    have hw := hw.2
    refine ra_113 X hR (okf X.2.2.1 rfl) c216 dL_widths_209 ?_
    have r217 := hR.r 113 0 (4 + y8)
    exact t_L_widths_210 X hK69 hK89 _ _ _ _ _ hw hy7 hy8 r217 c208 _ _ hR hS _ (lv_sub hl [0, 1, 2, 3, 4, 5, 6] rfl)
  · have hw := hw.2 hc
    refine lv_aload_n X.1.1 X.1.2.1 dL_widths_193 rfl (lv_at hl 2 rfl) ?_
    refine lv_iload X.1.1 X.1.2.1 dL_widths_194 (lv_at hl 5 rfl) ?_
    refine sa_const X.1 dL_widths_196 ?_
    refine cs_L_wants X hy7 (inR_c (a := 1) rfl) (kc := 4) rmL_ok rm_c (by decide) hR hS kw_1238 hl.1 dL_widths_197 (Nat.le_of_ble_eq_true rfl) hw (fun x222 M221 H locs hw r223 hR hS => ?_)
    refine lv_goto (tgt := 210) X.1.1 X.1.2.1 dL_widths_200 (by decide) ?_
    exact t_L_widths_210 X hK69 hK89 _ _ _ _ _ hw hy7 hy8 r223 c208 _ _ hR hS _ (lv_sub hl [0, 1, 2, 3, 4, 5, 6] rfl)
set_option maxHeartbeats 4000000 in
set_option maxRecDepth 100000 in
theorem t_L_widths_89 (X : CX p m c cL_widths 14 s args RL G B κ meth none) {Qm : Mem → Prop} {K69 : Int → Mem → Prop} (hK69 : ∀ y7 : Int, ∀ M : Mem, K69 y7 M → inR y7 → ∀ (H : Heap) (locs : List Loc), Rp G e0 α κ B M H → va_S (fun q => B ≤ q) s.heap H locs → ∀ (ls : Array Slot), lv_has ls 14 [(0, .ref (α 104 0)), (2, .ref (α 107 0)), (3, .ref (α 108 0)), (5, .ref (α 112 0)), (6, .ref (α 113 0)), (7, .int (Int32.ofInt y7))] → WV p l e 4 s m args below meth c G e0 α κ B Qm H locs 69 ls []) : ∀ n : Nat, ∀ y7 : Int, ∀ y8 : Int, ∀ M : Mem, wp_L_widths_89 Qm K69 n y7 y8 M → inR y7 → inR y8 → ∀ (H : Heap) (locs : List Loc), Rp G e0 α κ B M H → va_S (fun q => B ≤ q) s.heap H locs → ∀ (ls : Array Slot), lv_has ls 14 [(0, .ref (α 104 0)), (2, .ref (α 107 0)), (3, .ref (α 108 0)), (5, .ref (α 112 0)), (6, .ref (α 113 0)), (7, .int (Int32.ofInt y7)), (8, .int (Int32.ofInt y8))] → WV p l e 4 s m args below meth c G e0 α κ B Qm H locs 89 ls [] := by
  intro n
  induction n with
  | zero =>
    intro y7 y8 M hw hy7 hy8 H locs hR hS ls hl
    exact hw.elim
  | succ n ih =>
    intro y7 y8 M hw hy7 hy8 H locs hR hS ls hl
    have hw : (inR (6 * y7)) ∧ (inR ((6 * y7) + 1)) ∧ (0 ≤ ((6 * y7) + 1) ∧ ((6 * y7) + 1) < 60) ∧ (inR (6 * y7)) ∧ (inR ((6 * y7) + 3)) ∧ (0 ≤ ((6 * y7) + 3) ∧ ((6 * y7) + 3) < 60) ∧ (inR ((M 107 0 ((6 * y7) + 1)) + (M 107 0 ((6 * y7) + 3)))) ∧ ((((M 107 0 ((6 * y7) + 1)) + (M 107 0 ((6 * y7) + 3))) ≤ y8 → (inR (y7 + 1)) ∧ K69 (y7 + 1) M) ∧ (y8 < ((M 107 0 ((6 * y7) + 1)) + (M 107 0 ((6 * y7) + 3))) → wp_L_shows y7 M fun (x191 : Int) (M190 : Mem) => ((¬ x191 = 1 → wp_L_widths_211 Qm K69 (wp_L_widths_89 Qm K69 n) y7 y8 M190) ∧ (x191 = 1 → (inR (4 * y8)) ∧ (inR ((4 * y8) + 3)) ∧ (0 ≤ ((4 * y8) + 3) ∧ ((4 * y8) + 3) < 16) ∧ ((¬ (M190 104 0 ((4 * y8) + 3)) = 0 → wp_L_widths_211 Qm K69 (wp_L_widths_89 Qm K69 n) y7 y8 M190) ∧ ((M190 104 0 ((4 * y8) + 3)) = 0 → wp_L_wants y7 0 M190 fun (x199 : Int) (M198 : Mem) => (0 ≤ y8 ∧ y8 < 30) ∧ ((x199 ≤ (M198 113 0 y8) → (0 ≤ y8 ∧ y8 < 30) ∧ wp_L_widths_169 Qm K69 (wp_L_widths_89 Qm K69 n) y7 y8 (M198 113 0 y8) y8 M198) ∧ ((M198 113 0 y8) < x199 → wp_L_wants y7 0 M198 fun (x225 : Int) (M224 : Mem) => wp_L_widths_169 Qm K69 (wp_L_widths_89 Qm K69 n) y7 y8 x225 y8 M224)))))))) := hw
    refine lv_iload X.1.1 X.1.2.1 dL_widths_89 (lv_at hl 6 rfl) ?_
    refine lv_aload_n X.1.1 X.1.2.1 dL_widths_91 rfl (lv_at hl 1 rfl) ?_
    refine sa_bipush X.1 dL_widths_92 (by decide) ?_
    refine lv_iload X.1.1 X.1.2.1 dL_widths_94 (lv_at hl 5 rfl) ?_
    have c180 := hw.1
    have hw := hw.2
    refine sa_imul X.1 dL_widths_96 ?_
    refine sa_const X.1 dL_widths_97 ?_
    have c181 := hw.1
    have hw := hw.2
    refine sa_iadd X.1 dL_widths_98 ?_
    have c182 := hw.1
    have hw := hw.2
    refine ra_107 X hR (okf X.2.2.1 rfl) c182 dL_widths_99 ?_
    have r183 := hR.r 107 0 ((6 * y7) + 1)
    refine lv_aload_n X.1.1 X.1.2.1 dL_widths_100 rfl (lv_at hl 1 rfl) ?_
    refine sa_bipush X.1 dL_widths_101 (by decide) ?_
    refine lv_iload X.1.1 X.1.2.1 dL_widths_103 (lv_at hl 5 rfl) ?_
    have c184 := hw.1
    have hw := hw.2
    refine sa_imul X.1 dL_widths_105 ?_
    refine sa_const X.1 dL_widths_106 ?_
    have c185 := hw.1
    have hw := hw.2
    refine sa_iadd X.1 dL_widths_107 ?_
    have c186 := hw.1
    have hw := hw.2
    refine ra_107 X hR (okf X.2.2.1 rfl) c186 dL_widths_108 ?_
    have r187 := hR.r 107 0 ((6 * y7) + 3)
    have c188 := hw.1
    have hw := hw.2
    refine sa_iadd X.1 dL_widths_109 ?_
    refine sa_icmp_ge (tgt := 217) X.1 hy8 c188 dL_widths_110 (by decide) (fun hc => ?_) (fun hc => ?_)
    · have hw := hw.1 hc
      have c189 := hw.1
      have hw := hw.2
      refine lv_iinc (v := Int32.ofInt (y7 + 1)) (lv' := [(7, .int (Int32.ofInt (y7 + 1))), (0, .ref (α 104 0)), (2, .ref (α 107 0)), (3, .ref (α 108 0)), (5, .ref (α 112 0)), (6, .ref (α 113 0)), (8, .int (Int32.ofInt y8))]) X.1.1 X.1.2.1 dL_widths_217 hl (k := 5) rfl (Int32.ofInt_add _ _).symm (by decide) rfl (fun ls hl => ?_)
      refine lv_goto (tgt := 69) X.1.1 X.1.2.1 dL_widths_220 (by decide) ?_
      exact hK69 _ _ hw c189 _ _ hR hS _ (lv_sub hl [1, 2, 3, 4, 5, 0] rfl)
    · have hw := hw.2 hc
      refine lv_aload_n X.1.1 X.1.2.1 dL_widths_113 rfl (lv_at hl 0 rfl) ?_
      refine lv_aload_n X.1.1 X.1.2.1 dL_widths_114 rfl (lv_at hl 1 rfl) ?_
      refine lv_iload X.1.1 X.1.2.1 dL_widths_115 (lv_at hl 5 rfl) ?_
      refine cs_L_shows X hy7 (kc := 4) rmL_ok rm_c (by decide) hR hS kw_1235 hl.1 dL_widths_117 (Nat.le_of_ble_eq_true rfl) hw (fun x191 M190 H locs hw r192 hR hS => ?_)
      refine sa_const X.1 dL_widths_120 ?_
      refine sa_icmp_ne (tgt := 211) X.1 r192 (inR_c (a := 1) rfl) dL_widths_121 (by decide) (fun hc => ?_) (fun hc => ?_)
      · have hw := hw.1 hc
        exact t_L_widths_211 X hK69 ih _ _ _ hw hy7 hy8 _ _ hR hS _ (lv_sub hl [0, 1, 2, 3, 4, 5, 6] rfl)
      · have hw := hw.2 hc
        refine lv_aload_n X.1.1 X.1.2.1 dL_widths_124 rfl (lv_at hl 0 rfl) ?_
        refine sa_const X.1 dL_widths_125 ?_
        refine lv_iload X.1.1 X.1.2.1 dL_widths_126 (lv_at hl 6 rfl) ?_
        have c194 := hw.1
        have hw := hw.2
        refine sa_imul X.1 dL_widths_128 ?_
        refine sa_const X.1 dL_widths_129 ?_
        have c195 := hw.1
        have hw := hw.2
        refine sa_iadd X.1 dL_widths_130 ?_
        have c196 := hw.1
        have hw := hw.2
        refine ra_104 X hR (okf X.2.2.1 rfl) c196 dL_widths_131 ?_
        have r197 := hR.r 104 0 ((4 * y8) + 3)
        refine sa_if_ne (tgt := 211) X.1 r197 dL_widths_132 (by decide) (fun hc => ?_) (fun hc => ?_)
        · have hw := hw.1 hc
          exact t_L_widths_211 X hK69 ih _ _ _ hw hy7 hy8 _ _ hR hS _ (lv_sub hl [0, 1, 2, 3, 4, 5, 6] rfl)
        · have hw := hw.2 hc
          refine lv_aload X.1.1 X.1.2.1 dL_widths_135 (lv_at hl 4 rfl) ?_
          refine lv_iload X.1.1 X.1.2.1 dL_widths_137 (lv_at hl 6 rfl) ?_
          refine lv_aload_n X.1.1 X.1.2.1 dL_widths_139 rfl (lv_at hl 2 rfl) ?_
          refine lv_iload X.1.1 X.1.2.1 dL_widths_140 (lv_at hl 5 rfl) ?_
          refine sa_const X.1 dL_widths_142 ?_
          refine cs_L_wants X hy7 (inR_c (a := 0) rfl) (kc := 4) rmL_ok rm_c (by decide) hR hS kw_1238 hl.1 dL_widths_143 (Nat.le_of_ble_eq_true rfl) hw (fun x199 M198 H locs hw r200 hR hS => ?_)
          refine lv_aload X.1.1 X.1.2.1 dL_widths_146 (lv_at hl 4 rfl) ?_
          refine lv_iload X.1.1 X.1.2.1 dL_widths_148 (lv_at hl 6 rfl) ?_
          have c201 := hw.1
          have hw := hw.2
          refine ra_113 X hR (okf X.2.2.1 rfl) c201 dL_widths_150 ?_
          have r202 := hR.r 113 0 y8
          refine sa_icmp_le (tgt := 164) X.1 r200 r202 dL_widths_151 (by decide) (fun hc => ?_) (fun hc => ?_)
          · have hw := hw.1 hc
            refine lv_aload X.1.1 X.1.2.1 dL_widths_164 (lv_at hl 4 rfl) ?_
            refine lv_iload X.1.1 X.1.2.1 dL_widths_166 (lv_at hl 6 rfl) ?_
            have c203 := hw.1
            have hw := hw.2
            refine ra_113 X hR (okf X.2.2.1 rfl) c203 dL_widths_168 ?_
            have r204 := hR.r 113 0 y8
            exact t_L_widths_169 X hK69 ih _ _ _ _ _ hw hy7 hy8 r204 hy8 _ _ hR hS _ (lv_sub hl [0, 1, 2, 3, 4, 5, 6] rfl)
          · have hw := hw.2 hc
            refine lv_aload_n X.1.1 X.1.2.1 dL_widths_154 rfl (lv_at hl 2 rfl) ?_
            refine lv_iload X.1.1 X.1.2.1 dL_widths_155 (lv_at hl 5 rfl) ?_
            refine sa_const X.1 dL_widths_157 ?_
            refine cs_L_wants X hy7 (inR_c (a := 0) rfl) (kc := 4) rmL_ok rm_c (by decide) hR hS kw_1238 hl.1 dL_widths_158 (Nat.le_of_ble_eq_true rfl) hw (fun x225 M224 H locs hw r226 hR hS => ?_)
            refine lv_goto (tgt := 169) X.1.1 X.1.2.1 dL_widths_161 (by decide) ?_
            exact t_L_widths_169 X hK69 ih _ _ _ _ _ hw hy7 hy8 r226 hy8 _ _ hR hS _ (lv_sub hl [0, 1, 2, 3, 4, 5, 6] rfl)
set_option maxHeartbeats 4000000 in
set_option maxRecDepth 100000 in
theorem t_L_widths_69 (X : CX p m c cL_widths 14 s args RL G B κ meth none) {Qm : Mem → Prop} : ∀ n : Nat, ∀ y7 : Int, ∀ M : Mem, wp_L_widths_69 Qm n y7 M → inR y7 → ∀ (H : Heap) (locs : List Loc), Rp G e0 α κ B M H → va_S (fun q => B ≤ q) s.heap H locs → ∀ (ls : Array Slot), lv_has ls 14 [(0, .ref (α 104 0)), (2, .ref (α 107 0)), (3, .ref (α 108 0)), (5, .ref (α 112 0)), (6, .ref (α 113 0)), (7, .int (Int32.ofInt y7))] → WV p l e 4 s m args below meth c G e0 α κ B Qm H locs 69 ls [] := by
  intro n
  induction n with
  | zero =>
    intro y7 M hw hy7 H locs hR hS ls hl
    exact hw.elim
  | succ n ih =>
    intro y7 M hw hy7 H locs hR hS ls hl
    have hw : (((M 112 0 2) ≤ y7 → wp_L_grow 0 0 M fun (M3 : Mem) => wp_L_grow 4 1 M3 fun (M4 : Mem) => wp_L_visible M4 fun (x7 : Int) (M6 : Mem) => (inR ((M4 112 0 3) - x7)) ∧ (inR (((M4 112 0 3) - x7) + 1)) ∧ wp_L_visible M6 fun (x13 : Int) (M12 : Mem) => (inR ((M6 112 0 3) - x13)) ∧ (inR (((M6 112 0 3) - x13) + 1)) ∧ (∃ n175 : Nat, wp_L_widths_283 Qm n175 (((M4 112 0 3) - x7) + 1) 0 (((M6 112 0 3) - x13) + 1) 0 M12)) ∧ (y7 < (M 112 0 2) → (inR (6 * y7)) ∧ (inR ((6 * y7) + 1)) ∧ (0 ≤ ((6 * y7) + 1) ∧ ((6 * y7) + 1) < 60) ∧ (∃ n227 : Nat, wp_L_widths_89 Qm (wp_L_widths_69 Qm n) n227 y7 (M 107 0 ((6 * y7) + 1)) M))) := hw
    refine lv_iload X.1.1 X.1.2.1 dL_widths_69 (lv_at hl 5 rfl) ?_
    refine lv_aload X.1.1 X.1.2.1 dL_widths_71 (lv_at hl 3 rfl) ?_
    refine sa_const X.1 dL_widths_73 ?_
    refine ra_112 X hR (okf X.2.2.1 rfl) ⟨by decide, by decide⟩ dL_widths_74 ?_
    have r2 := hR.r 112 0 2
    refine sa_icmp_ge (tgt := 223) X.1 hy7 r2 dL_widths_75 (by decide) (fun hc => ?_) (fun hc => ?_)
    · have hw := hw.1 hc
      refine lv_aload_n X.1.1 X.1.2.1 dL_widths_223 rfl (lv_at hl 0 rfl) ?_
      refine lv_aload_n X.1.1 X.1.2.1 dL_widths_224 rfl (lv_at hl 1 rfl) ?_
      refine lv_aload_n X.1.1 X.1.2.1 dL_widths_225 rfl (lv_at hl 2 rfl) ?_
      refine lv_aload X.1.1 X.1.2.1 dL_widths_226 (lv_at hl 3 rfl) ?_
      refine lv_aload X.1.1 X.1.2.1 dL_widths_228 (lv_at hl 4 rfl) ?_
      refine sa_const X.1 dL_widths_230 ?_
      refine sa_const X.1 dL_widths_231 ?_
      refine cs_L_grow X (inR_c (a := 0) rfl) (inR_c (a := 0) rfl) (kc := 4) rmL_ok rm_c (by decide) hR hS kw_1248 hl.1 dL_widths_232 (Nat.le_of_ble_eq_true rfl) hw (fun M3 H locs hw hR hS => ?_)
      refine lv_aload_n X.1.1 X.1.2.1 dL_widths_235 rfl (lv_at hl 0 rfl) ?_
      refine lv_aload_n X.1.1 X.1.2.1 dL_widths_236 rfl (lv_at hl 1 rfl) ?_
      refine lv_aload_n X.1.1 X.1.2.1 dL_widths_237 rfl (lv_at hl 2 rfl) ?_
      refine lv_aload X.1.1 X.1.2.1 dL_widths_238 (lv_at hl 3 rfl) ?_
      refine lv_aload X.1.1 X.1.2.1 dL_widths_240 (lv_at hl 4 rfl) ?_
      refine sa_const X.1 dL_widths_242 ?_
      refine sa_const X.1 dL_widths_243 ?_
      refine cs_L_grow X (inR_c (a := 4) rfl) (inR_c (a := 1) rfl) (kc := 4) rmL_ok rm_c (by decide) hR hS kw_1248 hl.1 dL_widths_244 (Nat.le_of_ble_eq_true rfl) hw (fun M4 H locs hw hR hS => ?_)
      refine lv_aload X.1.1 X.1.2.1 dL_widths_247 (lv_at hl 3 rfl) ?_
      refine sa_const X.1 dL_widths_249 ?_
      refine ra_112 X hR (okf X.2.2.1 rfl) ⟨by decide, by decide⟩ dL_widths_250 ?_
      have r5 := hR.r 112 0 3
      refine lv_aload_n X.1.1 X.1.2.1 dL_widths_251 rfl (lv_at hl 0 rfl) ?_
      refine lv_aload X.1.1 X.1.2.1 dL_widths_252 (lv_at hl 3 rfl) ?_
      refine cs_L_visible X  (kc := 4) rmL_ok rm_c (by decide) hR hS kw_1179 hl.1 dL_widths_254 (Nat.le_of_ble_eq_true rfl) hw (fun x7 M6 H locs hw r8 hR hS => ?_)
      have c9 := hw.1
      have hw := hw.2
      refine sa_isub X.1 dL_widths_257 ?_
      refine sa_const X.1 dL_widths_258 ?_
      have c10 := hw.1
      have hw := hw.2
      refine sa_iadd X.1 dL_widths_259 ?_
      refine lv_istore (lv' := [(7, .int (Int32.ofInt (((M4 112 0 3) - x7) + 1))), (0, .ref (α 104 0)), (2, .ref (α 107 0)), (3, .ref (α 108 0)), (5, .ref (α 112 0)), (6, .ref (α 113 0))]) X.1.1 X.1.2.1 dL_widths_260 hl (by decide) rfl (fun ls hl => ?_)
      refine sa_const X.1 dL_widths_262 ?_
      refine lv_istore (lv' := [(8, .int (Int32.ofInt 0)), (7, .int (Int32.ofInt (((M4 112 0 3) - x7) + 1))), (0, .ref (α 104 0)), (2, .ref (α 107 0)), (3, .ref (α 108 0)), (5, .ref (α 112 0)), (6, .ref (α 113 0))]) X.1.1 X.1.2.1 dL_widths_263 hl (by decide) rfl (fun ls hl => ?_)
      refine lv_aload X.1.1 X.1.2.1 dL_widths_265 (lv_at hl 5 rfl) ?_
      refine sa_const X.1 dL_widths_267 ?_
      refine ra_112 X hR (okf X.2.2.1 rfl) ⟨by decide, by decide⟩ dL_widths_268 ?_
      have r11 := hR.r 112 0 3
      refine lv_aload_n X.1.1 X.1.2.1 dL_widths_269 rfl (lv_at hl 2 rfl) ?_
      refine lv_aload X.1.1 X.1.2.1 dL_widths_270 (lv_at hl 5 rfl) ?_
      refine cs_L_visible X  (kc := 4) rmL_ok rm_c (by decide) hR hS kw_1179 hl.1 dL_widths_272 (Nat.le_of_ble_eq_true rfl) hw (fun x13 M12 H locs hw r14 hR hS => ?_)
      have c15 := hw.1
      have hw := hw.2
      refine sa_isub X.1 dL_widths_275 ?_
      refine sa_const X.1 dL_widths_276 ?_
      have c16 := hw.1
      have hw := hw.2
      refine sa_iadd X.1 dL_widths_277 ?_
      refine lv_istore (lv' := [(9, .int (Int32.ofInt (((M6 112 0 3) - x13) + 1))), (8, .int (Int32.ofInt 0)), (7, .int (Int32.ofInt (((M4 112 0 3) - x7) + 1))), (0, .ref (α 104 0)), (2, .ref (α 107 0)), (3, .ref (α 108 0)), (5, .ref (α 112 0)), (6, .ref (α 113 0))]) X.1.1 X.1.2.1 dL_widths_278 hl (by decide) rfl (fun ls hl => ?_)
      refine sa_const X.1 dL_widths_280 ?_
      refine lv_istore (lv' := [(10, .int (Int32.ofInt 0)), (9, .int (Int32.ofInt (((M6 112 0 3) - x13) + 1))), (8, .int (Int32.ofInt 0)), (7, .int (Int32.ofInt (((M4 112 0 3) - x7) + 1))), (0, .ref (α 104 0)), (2, .ref (α 107 0)), (3, .ref (α 108 0)), (5, .ref (α 112 0)), (6, .ref (α 113 0))]) X.1.1 X.1.2.1 dL_widths_281 hl (by decide) rfl (fun ls hl => ?_)
      obtain ⟨n175, hw⟩ := hw
      exact t_L_widths_283 X n175 _ _ _ _ _ hw c10 (inR_c (a := 0) rfl) c16 (inR_c (a := 0) rfl) _ _ hR hS _ (lv_sub hl [4, 7, 8, 3, 2, 1, 0] rfl)
    · have hw := hw.2 hc
      refine lv_aload_n X.1.1 X.1.2.1 dL_widths_78 rfl (lv_at hl 1 rfl) ?_
      refine sa_bipush X.1 dL_widths_79 (by decide) ?_
      refine lv_iload X.1.1 X.1.2.1 dL_widths_81 (lv_at hl 5 rfl) ?_
      have c176 := hw.1
      have hw := hw.2
      refine sa_imul X.1 dL_widths_83 ?_
      refine sa_const X.1 dL_widths_84 ?_
      have c177 := hw.1
      have hw := hw.2
      refine sa_iadd X.1 dL_widths_85 ?_
      have c178 := hw.1
      have hw := hw.2
      refine ra_107 X hR (okf X.2.2.1 rfl) c178 dL_widths_86 ?_
      have r179 := hR.r 107 0 ((6 * y7) + 1)
      refine lv_istore (lv' := [(8, .int (Int32.ofInt (M 107 0 ((6 * y7) + 1)))), (0, .ref (α 104 0)), (2, .ref (α 107 0)), (3, .ref (α 108 0)), (5, .ref (α 112 0)), (6, .ref (α 113 0)), (7, .int (Int32.ofInt y7))]) X.1.1 X.1.2.1 dL_widths_87 hl (by decide) rfl (fun ls hl => ?_)
      obtain ⟨n227, hw⟩ := hw
      exact t_L_widths_89 X ih n227 _ _ _ hw hy7 r179 _ _ hR hS _ (lv_sub hl [1, 2, 3, 4, 5, 6, 0] rfl)
set_option maxHeartbeats 4000000 in
set_option maxRecDepth 100000 in
theorem t_L_widths_3 (X : CX p m c cL_widths 14 s args RL G B κ meth none) {Qm : Mem → Prop} : ∀ n : Nat, ∀ y7 : Int, ∀ M : Mem, wp_L_widths_3 Qm n y7 M → inR y7 → ∀ (H : Heap) (locs : List Loc), Rp G e0 α κ B M H → va_S (fun q => B ≤ q) s.heap H locs → ∀ (ls : Array Slot), lv_has ls 14 [(0, .ref (α 104 0)), (1, .ref (α 105 0)), (2, .ref (α 107 0)), (3, .ref (α 108 0)), (4, .ref (α 109 0)), (5, .ref (α 112 0)), (6, .ref (α 113 0)), (7, .int (Int32.ofInt y7))] → WV p l e 4 s m args below meth c G e0 α κ B Qm H locs 3 ls [] := by
  intro n
  induction n with
  | zero =>
    intro y7 M hw hy7 H locs hR hS ls hl
    exact hw.elim
  | succ n ih =>
    intro y7 M hw hy7 H locs hR hS ls hl
    have hw : (((M 112 0 0) ≤ y7 → (∃ n228 : Nat, wp_L_widths_69 Qm n228 0 M)) ∧ (y7 < (M 112 0 0) → wp_L_figures y7 M fun (M229 : Mem) => (inR (12 + y7)) ∧ (0 ≤ (12 + y7) ∧ (12 + y7) < 30) ∧ (inR (16 + y7)) ∧ (0 ≤ (16 + y7) ∧ (16 + y7) < 30) ∧ (inR ((M229 113 0 (12 + y7)) + (M229 113 0 (16 + y7)))) ∧ (0 ≤ y7 ∧ y7 < 30) ∧ ∀ M238 : Mem, M238 = up M229 113 0 y7 ((M229 113 0 (12 + y7)) + (M229 113 0 (16 + y7))) → (inR (4 + y7)) ∧ (0 ≤ y7 ∧ y7 < 30) ∧ (0 ≤ (4 + y7) ∧ (4 + y7) < 30) ∧ ∀ M244 : Mem, M244 = up M238 113 0 (4 + y7) (M238 113 0 y7) → (inR (y7 + 1)) ∧ wp_L_widths_3 Qm n (y7 + 1) M244)) := hw
    refine lv_iload X.1.1 X.1.2.1 dL_widths_3 (lv_at hl 7 rfl) ?_
    refine lv_aload X.1.1 X.1.2.1 dL_widths_5 (lv_at hl 5 rfl) ?_
    refine sa_const X.1 dL_widths_7 ?_
    refine ra_112 X hR (okf X.2.2.1 rfl) ⟨by decide, by decide⟩ dL_widths_8 ?_
    have r1 := hR.r 112 0 0
    refine sa_icmp_ge (tgt := 66) X.1 hy7 r1 dL_widths_9 (by decide) (fun hc => ?_) (fun hc => ?_)
    · have hw := hw.1 hc
      refine sa_const X.1 dL_widths_66 ?_
      refine lv_istore (lv' := [(7, .int (Int32.ofInt 0)), (0, .ref (α 104 0)), (1, .ref (α 105 0)), (2, .ref (α 107 0)), (3, .ref (α 108 0)), (4, .ref (α 109 0)), (5, .ref (α 112 0)), (6, .ref (α 113 0))]) X.1.1 X.1.2.1 dL_widths_67 hl (by decide) rfl (fun ls hl => ?_)
      obtain ⟨n228, hw⟩ := hw
      exact t_L_widths_69 X n228 _ _ hw (inR_c (a := 0) rfl) _ _ hR hS _ (lv_sub hl [1, 3, 4, 6, 7, 0] rfl)
    · have hw := hw.2 hc
      refine lv_aload_n X.1.1 X.1.2.1 dL_widths_12 rfl (lv_at hl 0 rfl) ?_
      refine lv_aload_n X.1.1 X.1.2.1 dL_widths_13 rfl (lv_at hl 1 rfl) ?_
      refine lv_aload_n X.1.1 X.1.2.1 dL_widths_14 rfl (lv_at hl 2 rfl) ?_
      refine lv_aload X.1.1 X.1.2.1 dL_widths_15 (lv_at hl 4 rfl) ?_
      refine lv_aload X.1.1 X.1.2.1 dL_widths_17 (lv_at hl 5 rfl) ?_
      refine lv_aload X.1.1 X.1.2.1 dL_widths_19 (lv_at hl 6 rfl) ?_
      refine lv_iload X.1.1 X.1.2.1 dL_widths_21 (lv_at hl 7 rfl) ?_
      refine cs_L_figures X hy7 (kc := 4) rmL_ok rm_c (by decide) hR hS kw_1228 hl.1 dL_widths_23 (Nat.le_of_ble_eq_true rfl) hw (fun M229 H locs hw hR hS => ?_)
      refine lv_aload X.1.1 X.1.2.1 dL_widths_26 (lv_at hl 6 rfl) ?_
      refine lv_iload X.1.1 X.1.2.1 dL_widths_28 (lv_at hl 7 rfl) ?_
      refine lv_aload X.1.1 X.1.2.1 dL_widths_30 (lv_at hl 6 rfl) ?_
      refine sa_bipush X.1 dL_widths_32 (by decide) ?_
      refine lv_iload X.1.1 X.1.2.1 dL_widths_34 (lv_at hl 7 rfl) ?_
      have c230 := hw.1
      have hw := hw.2
      refine sa_iadd X.1 dL_widths_36 ?_
      have c231 := hw.1
      have hw := hw.2
      refine ra_113 X hR (okf X.2.2.1 rfl) c231 dL_widths_37 ?_
      have r232 := hR.r 113 0 (12 + y7)
      refine lv_aload X.1.1 X.1.2.1 dL_widths_38 (lv_at hl 6 rfl) ?_
      refine sa_bipush X.1 dL_widths_40 (by decide) ?_
      refine lv_iload X.1.1 X.1.2.1 dL_widths_42 (lv_at hl 7 rfl) ?_
      have c233 := hw.1
      have hw := hw.2
      refine sa_iadd X.1 dL_widths_44 ?_
      have c234 := hw.1
      have hw := hw.2
      refine ra_113 X hR (okf X.2.2.1 rfl) c234 dL_widths_45 ?_
      have r235 := hR.r 113 0 (16 + y7)
      have c236 := hw.1
      have hw := hw.2
      refine sa_iadd X.1 dL_widths_46 ?_
      have c237 := hw.1
      have hw := hw.2
      refine wa_113 X hR hS (okf X.2.2.1 rfl) c237 c236 dL_widths_47 (fun H locs hR hS => ?_)
      obtain ⟨M238, e239⟩ : ∃ z : Mem, z = up M229 113 0 y7 ((M229 113 0 (12 + y7)) + (M229 113 0 (16 + y7))) := ⟨_, rfl⟩
      rw [← e239] at hR
      have hw := hw M238 e239
      refine lv_aload X.1.1 X.1.2.1 dL_widths_48 (lv_at hl 6 rfl) ?_
      refine sa_const X.1 dL_widths_50 ?_
      refine lv_iload X.1.1 X.1.2.1 dL_widths_51 (lv_at hl 7 rfl) ?_
      have c240 := hw.1
      have hw := hw.2
      refine sa_iadd X.1 dL_widths_53 ?_
      refine lv_aload X.1.1 X.1.2.1 dL_widths_54 (lv_at hl 6 rfl) ?_
      refine lv_iload X.1.1 X.1.2.1 dL_widths_56 (lv_at hl 7 rfl) ?_
      have c241 := hw.1
      have hw := hw.2
      refine ra_113 X hR (okf X.2.2.1 rfl) c241 dL_widths_58 ?_
      have r242 := hR.r 113 0 y7
      have c243 := hw.1
      have hw := hw.2
      refine wa_113 X hR hS (okf X.2.2.1 rfl) c243 r242 dL_widths_59 (fun H locs hR hS => ?_)
      obtain ⟨M244, e245⟩ : ∃ z : Mem, z = up M238 113 0 (4 + y7) (M238 113 0 y7) := ⟨_, rfl⟩
      rw [← e245] at hR
      have hw := hw M244 e245
      have c246 := hw.1
      have hw := hw.2
      refine lv_iinc (v := Int32.ofInt (y7 + 1)) (lv' := [(7, .int (Int32.ofInt (y7 + 1))), (0, .ref (α 104 0)), (1, .ref (α 105 0)), (2, .ref (α 107 0)), (3, .ref (α 108 0)), (4, .ref (α 109 0)), (5, .ref (α 112 0)), (6, .ref (α 113 0))]) X.1.1 X.1.2.1 dL_widths_60 hl (k := 7) rfl (Int32.ofInt_add _ _).symm (by decide) rfl (fun ls hl => ?_)
      refine lv_goto (tgt := 3) X.1.1 X.1.2.1 dL_widths_63 (by decide) ?_
      exact ih _ _ hw c246 _ _ hR hS _ (lv_sub hl [1, 2, 3, 4, 5, 6, 7, 0] rfl)
set_option maxHeartbeats 4000000 in
set_option maxRecDepth 100000 in
theorem t_L_widths (X : CX p m c cL_widths 14 s args RL G B κ meth none) {M : Mem} {Qm : Mem → Prop} (hw : wp_L_widths M Qm) (H : Heap) (locs : List Loc) (hR : Rp G e0 α κ B M H) (hS : va_S (fun q => B ≤ q) s.heap H locs) (ls : Array Slot) (hl : lv_has ls 14 [(0, .ref (α 104 0)), (1, .ref (α 105 0)), (2, .ref (α 107 0)), (3, .ref (α 108 0)), (4, .ref (α 109 0)), (5, .ref (α 112 0)), (6, .ref (α 113 0))]) : WV p l e 4 s m args below meth c G e0 α κ B Qm H locs 0 ls [] := by
  have hw : (∃ n247 : Nat, wp_L_widths_3 Qm n247 0 M) := hw
  refine sa_const X.1 dL_widths_0 ?_
  refine lv_istore (lv' := [(7, .int (Int32.ofInt 0)), (0, .ref (α 104 0)), (1, .ref (α 105 0)), (2, .ref (α 107 0)), (3, .ref (α 108 0)), (4, .ref (α 109 0)), (5, .ref (α 112 0)), (6, .ref (α 113 0))]) X.1.1 X.1.2.1 dL_widths_1 hl (by decide) rfl (fun ls hl => ?_)
  obtain ⟨n247, hw⟩ := hw
  exact t_L_widths_3 X n247 _ _ hw (inR_c (a := 0) rfl) _ _ hR hS _ (lv_sub hl [1, 2, 3, 4, 5, 6, 7, 0] rfl)
theorem m_L_widths {l : Launch} {G : Gx} {e0 : Nat} {α : Ax} {κ : Nat → Int} {B : Nat} (hκ : kOK κ) {M : Mem} {Qm : Mem → Prop} (hw : wp_L_widths M Qm) : CV l yL_widths (Cond.code yL_widths cL_widths 14 none) 4 G e0 α κ B [.ref (α 104 0), .ref (α 105 0), .ref (α 107 0), .ref (α 108 0), .ref (α 109 0), .ref (α 112 0), .ref (α 113 0)] M Qm :=
  CV.mk hκ (by decide +kernel) rfl (Nat.le_of_ble_eq_true rfl) (lv := [(0, .ref (α 104 0)), (1, .ref (α 105 0)), (2, .ref (α 107 0)), (3, .ref (α 108 0)), (4, .ref (α 109 0)), (5, .ref (α 112 0)), (6, .ref (α 113 0))]) rfl (fun p e s m args below meth c ls X hR hS hl => t_L_widths X hw _ _ hR hS ls hl)
theorem cs_L_widths {cc : ByteArray} {nL : Nat} {own : String} {ret : Option FieldType} {idx pc : Nat} (X : CX p m c cc nL s args own G B κ meth ret) {kc : Nat} {R : Room} {cells slots : Nat} (hRr : RmOK R kc) (hcel : cells ≤ R.cells ∧ slots ≤ R.slots) (hk : 4 + 1 ≤ kc) {M : Mem} {H : Heap} {locs : List Loc} (hR : Rp G e0 α κ B M H) (hS : va_S (fun q => B ≤ q) s.heap H locs) (k1 : Cond.methodLink own idx yL_widths ∈ gw) {ls : Array Slot} (hml : ls.size = nL) {rest : List Value} (hd : decode cc pc = .ok (.invokestatic idx, 3)) (hrest : (rest.map fun v => v.category).sum ≤ 8) {Q : State → Prop} {Qm : Mem → Prop} (hw : wp_L_widths M Qm) (kk : ∀ (M1 : Mem) (H1 : Heap) (locs1 : List Loc), Qm M1 → Rp G e0 α κ B M1 H1 → va_S (fun q => B ≤ q) s.heap H1 locs1 → W p l e R s m args below meth c H1 locs1 cells slots Q (F0 m (pc + 3) ls (rest))) : W p l e R s m args below meth c H locs cells slots Q (F0 m pc ls (.ref (α 113 0) :: .ref (α 112 0) :: .ref (α 109 0) :: .ref (α 108 0) :: .ref (α 107 0) :: .ref (α 105 0) :: .ref (α 104 0) :: rest)) :=
  sa_callSV 4 (n := 7) (As := [.ref (α 104 0), .ref (α 105 0), .ref (α 107 0), .ref (α 108 0), .ref (α 109 0), .ref (α 112 0), .ref (α 113 0)]) (rest := rest) X.1 X.2.1 hR hS (m_L_widths X.2.2.1 hw) k1 kw_1226 kw_37 kw_1227 ⟨by decide +kernel, by decide +kernel, by decide +kernel⟩ (rm_ok hRr hk (by decide)) rfl rfl hrest hml hd hcel kk
def wp_L_across_13 (p3 : Int) (Qm : Int → Mem → Prop) : Nat → Int → Int → Mem → Prop
  | 0 => fun _ _ _ => False
  | n + 1 => fun y4 y5 M => (inR (6 * p3)) ∧ (inR ((6 * p3) + 1)) ∧ (0 ≤ ((6 * p3) + 1) ∧ ((6 * p3) + 1) < 60) ∧ (inR (6 * p3)) ∧ (inR ((6 * p3) + 3)) ∧ (0 ≤ ((6 * p3) + 3) ∧ ((6 * p3) + 3) < 60) ∧ (inR ((M 107 0 ((6 * p3) + 1)) + (M 107 0 ((6 * p3) + 3)))) ∧ ((((M 107 0 ((6 * p3) + 1)) + (M 107 0 ((6 * p3) + 3))) ≤ y5 → Qm y4 M) ∧ (y5 < ((M 107 0 ((6 * p3) + 1)) + (M 107 0 ((6 * p3) + 3))) → (inR (4 * y5)) ∧ (inR ((4 * y5) + 3)) ∧ (0 ≤ ((4 * y5) + 3) ∧ ((4 * y5) + 3) < 16) ∧ (¬ (M 104 0 ((4 * y5) + 3)) = 1 → (inR (8 + y5)) ∧ (0 ≤ (8 + y5) ∧ (8 + y5) < 30) ∧ (inR (1 + (M 113 0 (8 + y5)))) ∧ True) ∧ (inR (if ¬ (M 104 0 ((4 * y5) + 3)) = 1 then (1 + (M 113 0 (8 + y5))) else 0)) ∧ (inR (y4 + (if ¬ (M 104 0 ((4 * y5) + 3)) = 1 then (1 + (M 113 0 (8 + y5))) else 0))) ∧ (inR (y5 + 1)) ∧ wp_L_across_13 p3 Qm n (y4 + (if ¬ (M 104 0 ((4 * y5) + 3)) = 1 then (1 + (M 113 0 (8 + y5))) else 0)) (y5 + 1) M))
def wp_L_across (p3 : Int) (M : Mem) (Qm : Int → Mem → Prop) : Prop := (inR (6 * p3)) ∧ (inR ((6 * p3) + 1)) ∧ (0 ≤ ((6 * p3) + 1) ∧ ((6 * p3) + 1) < 60) ∧ (∃ n27 : Nat, wp_L_across_13 p3 Qm n27 (-1) (M 107 0 ((6 * p3) + 1)) M)
set_option maxHeartbeats 4000000 in
set_option maxRecDepth 100000 in
theorem t_L_across_13 {p3 : Int} (X : CX p m c cL_across 6 s args RL G B κ meth (some .int)) (hp3 : inR p3) {Qm : Int → Mem → Prop} : ∀ n : Nat, ∀ y4 : Int, ∀ y5 : Int, ∀ M : Mem, wp_L_across_13 p3 Qm n y4 y5 M → inR y4 → inR y5 → ∀ (H : Heap) (locs : List Loc), Rp G e0 α κ B M H → va_S (fun q => B ≤ q) s.heap H locs → ∀ (ls : Array Slot), lv_has ls 6 [(0, .ref (α 104 0)), (1, .ref (α 107 0)), (2, .ref (α 113 0)), (3, .int (Int32.ofInt p3)), (4, .int (Int32.ofInt y4)), (5, .int (Int32.ofInt y5))] → WI p l e 0 s m args below meth c G e0 α κ B Qm H locs 13 ls [] := by
  intro n
  induction n with
  | zero =>
    intro y4 y5 M hw hy4 hy5 H locs hR hS ls hl
    exact hw.elim
  | succ n ih =>
    intro y4 y5 M hw hy4 hy5 H locs hR hS ls hl
    have hw : (inR (6 * p3)) ∧ (inR ((6 * p3) + 1)) ∧ (0 ≤ ((6 * p3) + 1) ∧ ((6 * p3) + 1) < 60) ∧ (inR (6 * p3)) ∧ (inR ((6 * p3) + 3)) ∧ (0 ≤ ((6 * p3) + 3) ∧ ((6 * p3) + 3) < 60) ∧ (inR ((M 107 0 ((6 * p3) + 1)) + (M 107 0 ((6 * p3) + 3)))) ∧ ((((M 107 0 ((6 * p3) + 1)) + (M 107 0 ((6 * p3) + 3))) ≤ y5 → Qm y4 M) ∧ (y5 < ((M 107 0 ((6 * p3) + 1)) + (M 107 0 ((6 * p3) + 3))) → (inR (4 * y5)) ∧ (inR ((4 * y5) + 3)) ∧ (0 ≤ ((4 * y5) + 3) ∧ ((4 * y5) + 3) < 16) ∧ (¬ (M 104 0 ((4 * y5) + 3)) = 1 → (inR (8 + y5)) ∧ (0 ≤ (8 + y5) ∧ (8 + y5) < 30) ∧ (inR (1 + (M 113 0 (8 + y5)))) ∧ True) ∧ (inR (if ¬ (M 104 0 ((4 * y5) + 3)) = 1 then (1 + (M 113 0 (8 + y5))) else 0)) ∧ (inR (y4 + (if ¬ (M 104 0 ((4 * y5) + 3)) = 1 then (1 + (M 113 0 (8 + y5))) else 0))) ∧ (inR (y5 + 1)) ∧ wp_L_across_13 p3 Qm n (y4 + (if ¬ (M 104 0 ((4 * y5) + 3)) = 1 then (1 + (M 113 0 (8 + y5))) else 0)) (y5 + 1) M)) := hw
    refine lv_iload X.1.1 X.1.2.1 dL_across_13 (lv_at hl 5 rfl) ?_
    refine lv_aload_n X.1.1 X.1.2.1 dL_across_15 rfl (lv_at hl 1 rfl) ?_
    refine sa_bipush X.1 dL_across_16 (by decide) ?_
    refine lv_iload_n X.1.1 X.1.2.1 dL_across_18 rfl (lv_at hl 3 rfl) ?_
    have c5 := hw.1
    have hw := hw.2
    refine sa_imul X.1 dL_across_19 ?_
    refine sa_const X.1 dL_across_20 ?_
    have c6 := hw.1
    have hw := hw.2
    refine sa_iadd X.1 dL_across_21 ?_
    have c7 := hw.1
    have hw := hw.2
    refine ra_107 X hR (okf X.2.2.1 rfl) c7 dL_across_22 ?_
    have r8 := hR.r 107 0 ((6 * p3) + 1)
    refine lv_aload_n X.1.1 X.1.2.1 dL_across_23 rfl (lv_at hl 1 rfl) ?_
    refine sa_bipush X.1 dL_across_24 (by decide) ?_
    refine lv_iload_n X.1.1 X.1.2.1 dL_across_26 rfl (lv_at hl 3 rfl) ?_
    have c9 := hw.1
    have hw := hw.2
    refine sa_imul X.1 dL_across_27 ?_
    refine sa_const X.1 dL_across_28 ?_
    have c10 := hw.1
    have hw := hw.2
    refine sa_iadd X.1 dL_across_29 ?_
    have c11 := hw.1
    have hw := hw.2
    refine ra_107 X hR (okf X.2.2.1 rfl) c11 dL_across_30 ?_
    have r12 := hR.r 107 0 ((6 * p3) + 3)
    have c13 := hw.1
    have hw := hw.2
    refine sa_iadd X.1 dL_across_31 ?_
    refine sa_icmp_ge (tgt := 71) X.1 hy5 c13 dL_across_32 (by decide) (fun hc => ?_) (fun hc => ?_)
    · have hw := hw.1 hc
      refine lv_iload X.1.1 X.1.2.1 dL_across_71 (lv_at hl 4 rfl) ?_
      exact sa_iret X.1 X.2.2.2.1 X.2.2.2.2 hR hS hy4 hw dL_across_73
    · have hw := hw.2 hc
      refine lv_iload X.1.1 X.1.2.1 dL_across_35 (lv_at hl 4 rfl) ?_
      refine lv_aload_n X.1.1 X.1.2.1 dL_across_37 rfl (lv_at hl 0 rfl) ?_
      refine sa_const X.1 dL_across_38 ?_
      refine lv_iload X.1.1 X.1.2.1 dL_across_39 (lv_at hl 5 rfl) ?_
      have c14 := hw.1
      have hw := hw.2
      refine sa_imul X.1 dL_across_41 ?_
      refine sa_const X.1 dL_across_42 ?_
      have c15 := hw.1
      have hw := hw.2
      refine sa_iadd X.1 dL_across_43 ?_
      have c16 := hw.1
      have hw := hw.2
      refine ra_104 X hR (okf X.2.2.1 rfl) c16 dL_across_44 ?_
      have r17 := hR.r 104 0 ((4 * y5) + 3)
      refine sa_const X.1 dL_across_45 ?_
      have s21 := hw.1
      have hw := hw.2
      have c22 := hw.1
      have hw := hw.2
      refine cut_j (A := ∀ v23 : Int, v23 = (if ¬ (M 104 0 ((4 * y5) + 3)) = 1 then (1 + (M 113 0 (8 + y5))) else 0) → WI p l e 0 s m args below meth c G e0 α κ B Qm H locs 62 ls [.int (Int32.ofInt v23), .int (Int32.ofInt y4)]) (fun J24 => ?_) ?_
      · refine sa_icmp_ne (tgt := 53) X.1 r17 (inR_c (a := 1) rfl) dL_across_46 (by decide) (fun hc => ?_) (fun hc => ?_)
        · have hw := s21 hc
          refine sa_const X.1 dL_across_53 ?_
          refine lv_aload_n X.1.1 X.1.2.1 dL_across_54 rfl (lv_at hl 2 rfl) ?_
          refine sa_bipush X.1 dL_across_55 (by decide) ?_
          refine lv_iload X.1.1 X.1.2.1 dL_across_57 (lv_at hl 5 rfl) ?_
          have c18 := hw.1
          have hw := hw.2
          refine sa_iadd X.1 dL_across_59 ?_
          have c19 := hw.1
          have hw := hw.2
          refine ra_113 X hR (okf X.2.2.1 rfl) c19 dL_across_60 ?_
          have c20 := hw.1
          have hw := hw.2
          refine sa_iadd X.1 dL_across_61 ?_
          exact J24 ((1 + (M 113 0 (8 + y5)))) (if_pos (c := ¬ (M 104 0 ((4 * y5) + 3)) = 1) hc).symm
        · skip
          refine sa_const X.1 dL_across_49 ?_
          refine lv_goto (tgt := 62) X.1.1 X.1.2.1 dL_across_50 (by decide) ?_
          exact J24 (0) (if_neg (c := ¬ (M 104 0 ((4 * y5) + 3)) = 1) (fun z => z hc)).symm
      intro v23 hv23
      subst hv23
      have c25 := hw.1
      have hw := hw.2
      refine sa_iadd X.1 dL_across_62 ?_
      refine lv_istore (lv' := [(4, .int (Int32.ofInt (y4 + (if ¬ (M 104 0 ((4 * y5) + 3)) = 1 then (1 + (M 113 0 (8 + y5))) else 0)))), (0, .ref (α 104 0)), (1, .ref (α 107 0)), (2, .ref (α 113 0)), (3, .int (Int32.ofInt p3)), (5, .int (Int32.ofInt y5))]) X.1.1 X.1.2.1 dL_across_63 hl (by decide) rfl (fun ls hl => ?_)
      have c26 := hw.1
      have hw := hw.2
      refine lv_iinc (v := Int32.ofInt (y5 + 1)) (lv' := [(5, .int (Int32.ofInt (y5 + 1))), (4, .int (Int32.ofInt (y4 + (if ¬ (M 104 0 ((4 * y5) + 3)) = 1 then (1 + (M 113 0 (8 + y5))) else 0)))), (0, .ref (α 104 0)), (1, .ref (α 107 0)), (2, .ref (α 113 0)), (3, .int (Int32.ofInt p3))]) X.1.1 X.1.2.1 dL_across_65 hl (k := 5) rfl (Int32.ofInt_add _ _).symm (by decide) rfl (fun ls hl => ?_)
      refine lv_goto (tgt := 13) X.1.1 X.1.2.1 dL_across_68 (by decide) ?_
      exact ih _ _ _ hw c25 c26 _ _ hR hS _ (lv_sub hl [2, 3, 4, 5, 1, 0] rfl)
set_option maxHeartbeats 4000000 in
set_option maxRecDepth 100000 in
theorem t_L_across {p3 : Int} (X : CX p m c cL_across 6 s args RL G B κ meth (some .int)) (hp3 : inR p3) {M : Mem} {Qm : Int → Mem → Prop} (hw : wp_L_across p3 M Qm) (H : Heap) (locs : List Loc) (hR : Rp G e0 α κ B M H) (hS : va_S (fun q => B ≤ q) s.heap H locs) (ls : Array Slot) (hl : lv_has ls 6 [(0, .ref (α 104 0)), (1, .ref (α 107 0)), (2, .ref (α 113 0)), (3, .int (Int32.ofInt p3))]) : WI p l e 0 s m args below meth c G e0 α κ B Qm H locs 0 ls [] := by
  have hw : (inR (6 * p3)) ∧ (inR ((6 * p3) + 1)) ∧ (0 ≤ ((6 * p3) + 1) ∧ ((6 * p3) + 1) < 60) ∧ (∃ n27 : Nat, wp_L_across_13 p3 Qm n27 (-1) (M 107 0 ((6 * p3) + 1)) M) := hw
  refine sa_const X.1 dL_across_0 ?_
  refine lv_istore (lv' := [(4, .int (Int32.ofInt (-1))), (0, .ref (α 104 0)), (1, .ref (α 107 0)), (2, .ref (α 113 0)), (3, .int (Int32.ofInt p3))]) X.1.1 X.1.2.1 dL_across_1 hl (by decide) rfl (fun ls hl => ?_)
  refine lv_aload_n X.1.1 X.1.2.1 dL_across_3 rfl (lv_at hl 2 rfl) ?_
  refine sa_bipush X.1 dL_across_4 (by decide) ?_
  refine lv_iload_n X.1.1 X.1.2.1 dL_across_6 rfl (lv_at hl 4 rfl) ?_
  have c1 := hw.1
  have hw := hw.2
  refine sa_imul X.1 dL_across_7 ?_
  refine sa_const X.1 dL_across_8 ?_
  have c2 := hw.1
  have hw := hw.2
  refine sa_iadd X.1 dL_across_9 ?_
  have c3 := hw.1
  have hw := hw.2
  refine ra_107 X hR (okf X.2.2.1 rfl) c3 dL_across_10 ?_
  have r4 := hR.r 107 0 ((6 * p3) + 1)
  refine lv_istore (lv' := [(5, .int (Int32.ofInt (M 107 0 ((6 * p3) + 1)))), (4, .int (Int32.ofInt (-1))), (0, .ref (α 104 0)), (1, .ref (α 107 0)), (2, .ref (α 113 0)), (3, .int (Int32.ofInt p3))]) X.1.1 X.1.2.1 dL_across_11 hl (by decide) rfl (fun ls hl => ?_)
  obtain ⟨n27, hw⟩ := hw
  exact t_L_across_13 X hp3 n27 _ _ _ hw (inR_c (a := -1) rfl) r4 _ _ hR hS _ (lv_sub hl [2, 3, 4, 5, 1, 0] rfl)
theorem m_L_across {l : Launch} {G : Gx} {e0 : Nat} {α : Ax} {κ : Nat → Int} {B : Nat} {p3 : Int} (hκ : kOK κ) (hp3 : inR p3) {M : Mem} {Qm : Int → Mem → Prop} (hw : wp_L_across p3 M Qm) : CI l yL_across (Cond.code yL_across cL_across 6 (some .int)) 0 G e0 α κ B [.ref (α 104 0), .ref (α 107 0), .ref (α 113 0), .int (Int32.ofInt p3)] M Qm :=
  CI.mk hκ (by decide +kernel) rfl (Nat.le_of_ble_eq_true rfl) (lv := [(0, .ref (α 104 0)), (1, .ref (α 107 0)), (2, .ref (α 113 0)), (3, .int (Int32.ofInt p3))]) rfl (fun p e s m args below meth c ls X hR hS hl => t_L_across X hp3 hw _ _ hR hS ls hl)
theorem cs_L_across {cc : ByteArray} {nL : Nat} {own : String} {ret : Option FieldType} {idx pc : Nat} {p3 : Int} (X : CX p m c cc nL s args own G B κ meth ret) (hp3 : inR p3) {kc : Nat} {R : Room} {cells slots : Nat} (hRr : RmOK R kc) (hcel : cells ≤ R.cells ∧ slots ≤ R.slots) (hk : 0 + 1 ≤ kc) {M : Mem} {H : Heap} {locs : List Loc} (hR : Rp G e0 α κ B M H) (hS : va_S (fun q => B ≤ q) s.heap H locs) (k1 : Cond.methodLink own idx yL_across ∈ gw) {ls : Array Slot} (hml : ls.size = nL) {rest : List Value} (hd : decode cc pc = .ok (.invokestatic idx, 3)) (hrest : (rest.map fun v => v.category).sum ≤ 8) {Q : State → Prop} {Qm : Int → Mem → Prop} (hw : wp_L_across p3 M Qm) (kk : ∀ (r : Int) (M1 : Mem) (H1 : Heap) (locs1 : List Loc), Qm r M1 → inR r → Rp G e0 α κ B M1 H1 → va_S (fun q => B ≤ q) s.heap H1 locs1 → W p l e R s m args below meth c H1 locs1 cells slots Q (F0 m (pc + 3) ls (.int (Int32.ofInt r) :: rest))) : W p l e R s m args below meth c H locs cells slots Q (F0 m pc ls (.int (Int32.ofInt p3) :: .ref (α 113 0) :: .ref (α 107 0) :: .ref (α 104 0) :: rest)) :=
  sa_callSI 0 (n := 4) (As := [.ref (α 104 0), .ref (α 107 0), .ref (α 113 0), .int (Int32.ofInt p3)]) (rest := rest) X.1 X.2.1 hR hS (m_L_across X.2.2.1 hp3 hw) k1 kw_1258 kw_37 kw_1259 ⟨by decide +kernel, by decide +kernel, by decide +kernel⟩ (rm_ok hRr hk (by decide)) rfl rfl hrest hml hd hcel kk
end
