theorem dL_areWidths_0 : decode cL_areWidths 0 = .ok (.aload_n 1, 1) := by decide +kernel
theorem dL_areWidths_1 : decode cL_areWidths 1 = .ok (.aload_n 2, 1) := by decide +kernel
theorem dL_areWidths_2 : decode cL_areWidths 2 = .ok (.aload 4, 2) := by decide +kernel
theorem dL_areWidths_4 : decode cL_areWidths 4 = .ok (.aload 5, 2) := by decide +kernel
theorem dL_areWidths_6 : decode cL_areWidths 6 = .ok (.aload 6, 2) := by decide +kernel
theorem dL_areWidths_8 : decode cL_areWidths 8 = .ok (.aload 7, 2) := by decide +kernel
theorem dL_areWidths_10 : decode cL_areWidths 10 = .ok (.aload 8, 2) := by decide +kernel
theorem dL_areWidths_12 : decode cL_areWidths 12 = .ok (.invokestatic 90, 3) := by decide +kernel
theorem dL_areWidths_15 : decode cL_areWidths 15 = .ok (.aload_n 1, 1) := by decide +kernel
theorem dL_areWidths_16 : decode cL_areWidths 16 = .ok (.aload_n 3, 1) := by decide +kernel
theorem dL_areWidths_17 : decode cL_areWidths 17 = .ok (.aload 4, 2) := by decide +kernel
theorem dL_areWidths_19 : decode cL_areWidths 19 = .ok (.aload 5, 2) := by decide +kernel
theorem dL_areWidths_21 : decode cL_areWidths 21 = .ok (.aload 7, 2) := by decide +kernel
theorem dL_areWidths_23 : decode cL_areWidths 23 = .ok (.aload 8, 2) := by decide +kernel
theorem dL_areWidths_25 : decode cL_areWidths 25 = .ok (.invokestatic 94, 3) := by decide +kernel
theorem dL_areWidths_28 : decode cL_areWidths 28 = .ok (.aload_n 1, 1) := by decide +kernel
theorem dL_areWidths_29 : decode cL_areWidths 29 = .ok (.aload 7, 2) := by decide +kernel
theorem dL_areWidths_31 : decode cL_areWidths 31 = .ok (.invokestatic 49, 3) := by decide +kernel
theorem dL_areWidths_34 : decode cL_areWidths 34 = .ok (.iconst 1, 1) := by decide +kernel
theorem dL_areWidths_35 : decode cL_areWidths 35 = .ok (.isub, 1) := by decide +kernel
theorem dL_areWidths_36 : decode cL_areWidths 36 = .ok (.istore 9, 2) := by decide +kernel
theorem dL_areWidths_38 : decode cL_areWidths 38 = .ok (.iconst 0, 1) := by decide +kernel
theorem dL_areWidths_39 : decode cL_areWidths 39 = .ok (.istore 10, 2) := by decide +kernel
theorem dL_areWidths_41 : decode cL_areWidths 41 = .ok (.iconst 1, 1) := by decide +kernel
theorem dL_areWidths_42 : decode cL_areWidths 42 = .ok (.istore 11, 2) := by decide +kernel
theorem dL_areWidths_44 : decode cL_areWidths 44 = .ok (.iconst 0, 1) := by decide +kernel
theorem dL_areWidths_45 : decode cL_areWidths 45 = .ok (.istore 12, 2) := by decide +kernel
theorem dL_areWidths_47 : decode cL_areWidths 47 = .ok (.iload 12, 2) := by decide +kernel
theorem dL_areWidths_49 : decode cL_areWidths 49 = .ok (.aload 7, 2) := by decide +kernel
theorem dL_areWidths_51 : decode cL_areWidths 51 = .ok (.iconst 0, 1) := by decide +kernel
theorem dL_areWidths_52 : decode cL_areWidths 52 = .ok (.iaload, 1) := by decide +kernel
theorem dL_areWidths_53 : decode cL_areWidths 53 = .ok (.if_icmp .ge 81, 3) := by decide +kernel
theorem dL_areWidths_56 : decode cL_areWidths 56 = .ok (.iload 11, 2) := by decide +kernel
theorem dL_areWidths_58 : decode cL_areWidths 58 = .ok (.ifCond .eq 76, 3) := by decide +kernel
theorem dL_areWidths_61 : decode cL_areWidths 61 = .ok (.iload 9, 2) := by decide +kernel
theorem dL_areWidths_63 : decode cL_areWidths 63 = .ok (.aload 8, 2) := by decide +kernel
theorem dL_areWidths_65 : decode cL_areWidths 65 = .ok (.bipush 8, 2) := by decide +kernel
theorem dL_areWidths_67 : decode cL_areWidths 67 = .ok (.iload 12, 2) := by decide +kernel
theorem dL_areWidths_69 : decode cL_areWidths 69 = .ok (.iadd, 1) := by decide +kernel
theorem dL_areWidths_70 : decode cL_areWidths 70 = .ok (.iaload, 1) := by decide +kernel
theorem dL_areWidths_71 : decode cL_areWidths 71 = .ok (.iadd, 1) := by decide +kernel
theorem dL_areWidths_72 : decode cL_areWidths 72 = .ok (.istore 9, 2) := by decide +kernel
theorem dL_areWidths_74 : decode cL_areWidths 74 = .ok (.aload_n 0, 1) := by decide +kernel
theorem dL_areWidths_75 : decode cL_areWidths 75 = .ok (.iload 12, 2) := by decide +kernel
theorem dL_areWidths_77 : decode cL_areWidths 77 = .ok (.invokevirtual 98, 3) := by decide +kernel
theorem dL_areWidths_80 : decode cL_areWidths 80 = .ok (.aload 8, 2) := by decide +kernel
theorem dL_areWidths_82 : decode cL_areWidths 82 = .ok (.iload 12, 2) := by decide +kernel
theorem dL_areWidths_84 : decode cL_areWidths 84 = .ok (.iaload, 1) := by decide +kernel
theorem dL_areWidths_85 : decode cL_areWidths 85 = .ok (.if_icmp .ne 40, 3) := by decide +kernel
theorem dL_areWidths_88 : decode cL_areWidths 88 = .ok (.aload_n 0, 1) := by decide +kernel
theorem dL_areWidths_89 : decode cL_areWidths 89 = .ok (.iload 12, 2) := by decide +kernel
theorem dL_areWidths_91 : decode cL_areWidths 91 = .ok (.invokevirtual 101, 3) := by decide +kernel
theorem dL_areWidths_94 : decode cL_areWidths 94 = .ok (.aload 8, 2) := by decide +kernel
theorem dL_areWidths_96 : decode cL_areWidths 96 = .ok (.iconst 4, 1) := by decide +kernel
theorem dL_areWidths_97 : decode cL_areWidths 97 = .ok (.iload 12, 2) := by decide +kernel
theorem dL_areWidths_99 : decode cL_areWidths 99 = .ok (.iadd, 1) := by decide +kernel
theorem dL_areWidths_100 : decode cL_areWidths 100 = .ok (.iaload, 1) := by decide +kernel
theorem dL_areWidths_101 : decode cL_areWidths 101 = .ok (.if_icmp .ne 24, 3) := by decide +kernel
theorem dL_areWidths_104 : decode cL_areWidths 104 = .ok (.aload_n 0, 1) := by decide +kernel
theorem dL_areWidths_105 : decode cL_areWidths 105 = .ok (.iload 12, 2) := by decide +kernel
theorem dL_areWidths_107 : decode cL_areWidths 107 = .ok (.invokevirtual 104, 3) := by decide +kernel
theorem dL_areWidths_110 : decode cL_areWidths 110 = .ok (.aload 8, 2) := by decide +kernel
theorem dL_areWidths_112 : decode cL_areWidths 112 = .ok (.bipush 8, 2) := by decide +kernel
theorem dL_areWidths_114 : decode cL_areWidths 114 = .ok (.iload 12, 2) := by decide +kernel
theorem dL_areWidths_116 : decode cL_areWidths 116 = .ok (.iadd, 1) := by decide +kernel
theorem dL_areWidths_117 : decode cL_areWidths 117 = .ok (.iaload, 1) := by decide +kernel
theorem dL_areWidths_118 : decode cL_areWidths 118 = .ok (.if_icmp .ne 7, 3) := by decide +kernel
theorem dL_areWidths_121 : decode cL_areWidths 121 = .ok (.iconst 1, 1) := by decide +kernel
theorem dL_areWidths_122 : decode cL_areWidths 122 = .ok (.goto 4, 3) := by decide +kernel
theorem dL_areWidths_125 : decode cL_areWidths 125 = .ok (.iconst 0, 1) := by decide +kernel
theorem dL_areWidths_126 : decode cL_areWidths 126 = .ok (.istore 11, 2) := by decide +kernel
theorem dL_areWidths_128 : decode cL_areWidths 128 = .ok (.iinc 12 1, 3) := by decide +kernel
theorem dL_areWidths_131 : decode cL_areWidths 131 = .ok (.goto (-84), 3) := by decide +kernel
theorem dL_areWidths_134 : decode cL_areWidths 134 = .ok (.iconst 0, 1) := by decide +kernel
theorem dL_areWidths_135 : decode cL_areWidths 135 = .ok (.istore 12, 2) := by decide +kernel
theorem dL_areWidths_137 : decode cL_areWidths 137 = .ok (.iload 12, 2) := by decide +kernel
theorem dL_areWidths_139 : decode cL_areWidths 139 = .ok (.aload 7, 2) := by decide +kernel
theorem dL_areWidths_141 : decode cL_areWidths 141 = .ok (.iconst 1, 1) := by decide +kernel
theorem dL_areWidths_142 : decode cL_areWidths 142 = .ok (.iaload, 1) := by decide +kernel
theorem dL_areWidths_143 : decode cL_areWidths 143 = .ok (.if_icmp .ge 89, 3) := by decide +kernel
theorem dL_areWidths_146 : decode cL_areWidths 146 = .ok (.iload 11, 2) := by decide +kernel
theorem dL_areWidths_148 : decode cL_areWidths 148 = .ok (.ifCond .eq 84, 3) := by decide +kernel
theorem dL_areWidths_151 : decode cL_areWidths 151 = .ok (.iload 10, 2) := by decide +kernel
theorem dL_areWidths_153 : decode cL_areWidths 153 = .ok (.aload_n 2, 1) := by decide +kernel
theorem dL_areWidths_154 : decode cL_areWidths 154 = .ok (.iconst 3, 1) := by decide +kernel
theorem dL_areWidths_155 : decode cL_areWidths 155 = .ok (.iload 12, 2) := by decide +kernel
theorem dL_areWidths_157 : decode cL_areWidths 157 = .ok (.imul, 1) := by decide +kernel
theorem dL_areWidths_158 : decode cL_areWidths 158 = .ok (.iaload, 1) := by decide +kernel
theorem dL_areWidths_159 : decode cL_areWidths 159 = .ok (.iconst 1, 1) := by decide +kernel
theorem dL_areWidths_160 : decode cL_areWidths 160 = .ok (.if_icmp .ne 14, 3) := by decide +kernel
theorem dL_areWidths_163 : decode cL_areWidths 163 = .ok (.aload 8, 2) := by decide +kernel
theorem dL_areWidths_165 : decode cL_areWidths 165 = .ok (.bipush 20, 2) := by decide +kernel
theorem dL_areWidths_167 : decode cL_areWidths 167 = .ok (.iload 12, 2) := by decide +kernel
theorem dL_areWidths_169 : decode cL_areWidths 169 = .ok (.iadd, 1) := by decide +kernel
theorem dL_areWidths_170 : decode cL_areWidths 170 = .ok (.iaload, 1) := by decide +kernel
theorem dL_areWidths_171 : decode cL_areWidths 171 = .ok (.goto 4, 3) := by decide +kernel
theorem dL_areWidths_174 : decode cL_areWidths 174 = .ok (.iconst 0, 1) := by decide +kernel
theorem dL_areWidths_175 : decode cL_areWidths 175 = .ok (.iadd, 1) := by decide +kernel
theorem dL_areWidths_176 : decode cL_areWidths 176 = .ok (.istore 10, 2) := by decide +kernel
theorem dL_areWidths_178 : decode cL_areWidths 178 = .ok (.aload_n 0, 1) := by decide +kernel
theorem dL_areWidths_179 : decode cL_areWidths 179 = .ok (.iload 12, 2) := by decide +kernel
theorem dL_areWidths_181 : decode cL_areWidths 181 = .ok (.invokevirtual 107, 3) := by decide +kernel
theorem dL_areWidths_184 : decode cL_areWidths 184 = .ok (.aload 8, 2) := by decide +kernel
theorem dL_areWidths_186 : decode cL_areWidths 186 = .ok (.bipush 20, 2) := by decide +kernel
theorem dL_areWidths_188 : decode cL_areWidths 188 = .ok (.iload 12, 2) := by decide +kernel
theorem dL_areWidths_190 : decode cL_areWidths 190 = .ok (.iadd, 1) := by decide +kernel
theorem dL_areWidths_191 : decode cL_areWidths 191 = .ok (.iaload, 1) := by decide +kernel
theorem dL_areWidths_192 : decode cL_areWidths 192 = .ok (.if_icmp .ne 31, 3) := by decide +kernel
theorem dL_areWidths_195 : decode cL_areWidths 195 = .ok (.iload 12, 2) := by decide +kernel
theorem dL_areWidths_197 : decode cL_areWidths 197 = .ok (.iconst 3, 1) := by decide +kernel
theorem dL_areWidths_198 : decode cL_areWidths 198 = .ok (.irem, 1) := by decide +kernel
theorem dL_areWidths_199 : decode cL_areWidths 199 = .ok (.ifCond .gt 20, 3) := by decide +kernel
theorem dL_areWidths_202 : decode cL_areWidths 202 = .ok (.aload_n 0, 1) := by decide +kernel
theorem dL_areWidths_203 : decode cL_areWidths 203 = .ok (.iload 12, 2) := by decide +kernel
theorem dL_areWidths_205 : decode cL_areWidths 205 = .ok (.invokevirtual 110, 3) := by decide +kernel
theorem dL_areWidths_208 : decode cL_areWidths 208 = .ok (.aload 8, 2) := by decide +kernel
theorem dL_areWidths_210 : decode cL_areWidths 210 = .ok (.bipush 20, 2) := by decide +kernel
theorem dL_areWidths_212 : decode cL_areWidths 212 = .ok (.iload 12, 2) := by decide +kernel
theorem dL_areWidths_214 : decode cL_areWidths 214 = .ok (.iadd, 1) := by decide +kernel
theorem dL_areWidths_215 : decode cL_areWidths 215 = .ok (.iaload, 1) := by decide +kernel
theorem dL_areWidths_216 : decode cL_areWidths 216 = .ok (.if_icmp .ne 7, 3) := by decide +kernel
theorem dL_areWidths_219 : decode cL_areWidths 219 = .ok (.iconst 1, 1) := by decide +kernel
theorem dL_areWidths_220 : decode cL_areWidths 220 = .ok (.goto 4, 3) := by decide +kernel
theorem dL_areWidths_223 : decode cL_areWidths 223 = .ok (.iconst 0, 1) := by decide +kernel
theorem dL_areWidths_224 : decode cL_areWidths 224 = .ok (.istore 11, 2) := by decide +kernel
theorem dL_areWidths_226 : decode cL_areWidths 226 = .ok (.iinc 12 1, 3) := by decide +kernel
theorem dL_areWidths_229 : decode cL_areWidths 229 = .ok (.goto (-92), 3) := by decide +kernel
theorem dL_areWidths_232 : decode cL_areWidths 232 = .ok (.iconst 0, 1) := by decide +kernel
theorem dL_areWidths_233 : decode cL_areWidths 233 = .ok (.istore 12, 2) := by decide +kernel
theorem dL_areWidths_235 : decode cL_areWidths 235 = .ok (.iload 12, 2) := by decide +kernel
theorem dL_areWidths_237 : decode cL_areWidths 237 = .ok (.aload 7, 2) := by decide +kernel
theorem dL_areWidths_239 : decode cL_areWidths 239 = .ok (.iconst 2, 1) := by decide +kernel
theorem dL_areWidths_240 : decode cL_areWidths 240 = .ok (.iaload, 1) := by decide +kernel
theorem dL_areWidths_241 : decode cL_areWidths 241 = .ok (.if_icmp .ge 168, 3) := by decide +kernel
theorem dL_areWidths_244 : decode cL_areWidths 244 = .ok (.iload 11, 2) := by decide +kernel
theorem dL_areWidths_246 : decode cL_areWidths 246 = .ok (.ifCond .eq 163, 3) := by decide +kernel
theorem dL_areWidths_249 : decode cL_areWidths 249 = .ok (.aload 4, 2) := by decide +kernel
theorem dL_areWidths_251 : decode cL_areWidths 251 = .ok (.bipush 6, 2) := by decide +kernel
theorem dL_areWidths_253 : decode cL_areWidths 253 = .ok (.iload 12, 2) := by decide +kernel
theorem dL_areWidths_255 : decode cL_areWidths 255 = .ok (.imul, 1) := by decide +kernel
theorem dL_areWidths_256 : decode cL_areWidths 256 = .ok (.iconst 5, 1) := by decide +kernel
theorem dL_areWidths_257 : decode cL_areWidths 257 = .ok (.iadd, 1) := by decide +kernel
theorem dL_areWidths_258 : decode cL_areWidths 258 = .ok (.iaload, 1) := by decide +kernel
theorem dL_areWidths_259 : decode cL_areWidths 259 = .ok (.ifCond .lt 18, 3) := by decide +kernel
theorem dL_areWidths_262 : decode cL_areWidths 262 = .ok (.aload_n 1, 1) := by decide +kernel
theorem dL_areWidths_263 : decode cL_areWidths 263 = .ok (.aload 4, 2) := by decide +kernel
theorem dL_areWidths_265 : decode cL_areWidths 265 = .ok (.iload 12, 2) := by decide +kernel
theorem dL_areWidths_267 : decode cL_areWidths 267 = .ok (.invokestatic 33, 3) := by decide +kernel
theorem dL_areWidths_270 : decode cL_areWidths 270 = .ok (.ifCond .le 7, 3) := by decide +kernel
theorem dL_areWidths_273 : decode cL_areWidths 273 = .ok (.iconst 1, 1) := by decide +kernel
theorem dL_areWidths_274 : decode cL_areWidths 274 = .ok (.goto 4, 3) := by decide +kernel
theorem dL_areWidths_277 : decode cL_areWidths 277 = .ok (.iconst 0, 1) := by decide +kernel
theorem dL_areWidths_278 : decode cL_areWidths 278 = .ok (.istore 13, 2) := by decide +kernel
theorem dL_areWidths_280 : decode cL_areWidths 280 = .ok (.aload 4, 2) := by decide +kernel
theorem dL_areWidths_282 : decode cL_areWidths 282 = .ok (.bipush 6, 2) := by decide +kernel
theorem dL_areWidths_284 : decode cL_areWidths 284 = .ok (.iload 12, 2) := by decide +kernel
theorem dL_areWidths_286 : decode cL_areWidths 286 = .ok (.imul, 1) := by decide +kernel
theorem dL_areWidths_287 : decode cL_areWidths 287 = .ok (.iconst 1, 1) := by decide +kernel
theorem dL_areWidths_288 : decode cL_areWidths 288 = .ok (.iadd, 1) := by decide +kernel
theorem dL_areWidths_289 : decode cL_areWidths 289 = .ok (.iaload, 1) := by decide +kernel
theorem dL_areWidths_290 : decode cL_areWidths 290 = .ok (.istore 14, 2) := by decide +kernel
theorem dL_areWidths_292 : decode cL_areWidths 292 = .ok (.aload_n 0, 1) := by decide +kernel
theorem dL_areWidths_293 : decode cL_areWidths 293 = .ok (.iload 12, 2) := by decide +kernel
theorem dL_areWidths_295 : decode cL_areWidths 295 = .ok (.invokevirtual 113, 3) := by decide +kernel
theorem dL_areWidths_298 : decode cL_areWidths 298 = .ok (.aload_n 1, 1) := by decide +kernel
theorem dL_areWidths_299 : decode cL_areWidths 299 = .ok (.aload 4, 2) := by decide +kernel
theorem dL_areWidths_301 : decode cL_areWidths 301 = .ok (.aload 5, 2) := by decide +kernel
theorem dL_areWidths_303 : decode cL_areWidths 303 = .ok (.aload 8, 2) := by decide +kernel
theorem dL_areWidths_305 : decode cL_areWidths 305 = .ok (.iload 12, 2) := by decide +kernel
theorem dL_areWidths_307 : decode cL_areWidths 307 = .ok (.invokestatic 57, 3) := by decide +kernel
theorem dL_areWidths_310 : decode cL_areWidths 310 = .ok (.if_icmp .ne 90, 3) := by decide +kernel
theorem dL_areWidths_313 : decode cL_areWidths 313 = .ok (.aload_n 0, 1) := by decide +kernel
theorem dL_areWidths_314 : decode cL_areWidths 314 = .ok (.iconst 0, 1) := by decide +kernel
theorem dL_areWidths_315 : decode cL_areWidths 315 = .ok (.iload 12, 2) := by decide +kernel
theorem dL_areWidths_317 : decode cL_areWidths 317 = .ok (.invokestatic 115, 3) := by decide +kernel
theorem dL_areWidths_320 : decode cL_areWidths 320 = .ok (.iload 13, 2) := by decide +kernel
theorem dL_areWidths_322 : decode cL_areWidths 322 = .ok (.ifCond .eq 23, 3) := by decide +kernel
theorem dL_areWidths_325 : decode cL_areWidths 325 = .ok (.aload 8, 2) := by decide +kernel
theorem dL_areWidths_327 : decode cL_areWidths 327 = .ok (.bipush 8, 2) := by decide +kernel
theorem dL_areWidths_329 : decode cL_areWidths 329 = .ok (.iload 14, 2) := by decide +kernel
theorem dL_areWidths_331 : decode cL_areWidths 331 = .ok (.iadd, 1) := by decide +kernel
theorem dL_areWidths_332 : decode cL_areWidths 332 = .ok (.iaload, 1) := by decide +kernel
theorem dL_areWidths_333 : decode cL_areWidths 333 = .ok (.aload 8, 2) := by decide +kernel
theorem dL_areWidths_335 : decode cL_areWidths 335 = .ok (.bipush 16, 2) := by decide +kernel
theorem dL_areWidths_337 : decode cL_areWidths 337 = .ok (.iload 14, 2) := by decide +kernel
theorem dL_areWidths_339 : decode cL_areWidths 339 = .ok (.iadd, 1) := by decide +kernel
theorem dL_areWidths_340 : decode cL_areWidths 340 = .ok (.iaload, 1) := by decide +kernel
theorem dL_areWidths_341 : decode cL_areWidths 341 = .ok (.isub, 1) := by decide +kernel
theorem dL_areWidths_342 : decode cL_areWidths 342 = .ok (.goto 5, 3) := by decide +kernel
theorem dL_areWidths_345 : decode cL_areWidths 345 = .ok (.bipush (-7), 2) := by decide +kernel
theorem dL_areWidths_347 : decode cL_areWidths 347 = .ok (.if_icmp .ne 53, 3) := by decide +kernel
theorem dL_areWidths_350 : decode cL_areWidths 350 = .ok (.aload_n 0, 1) := by decide +kernel
theorem dL_areWidths_351 : decode cL_areWidths 351 = .ok (.iconst 1, 1) := by decide +kernel
theorem dL_areWidths_352 : decode cL_areWidths 352 = .ok (.iload 12, 2) := by decide +kernel
theorem dL_areWidths_354 : decode cL_areWidths 354 = .ok (.invokestatic 115, 3) := by decide +kernel
theorem dL_areWidths_357 : decode cL_areWidths 357 = .ok (.iload 13, 2) := by decide +kernel
theorem dL_areWidths_359 : decode cL_areWidths 359 = .ok (.ifCond .eq 32, 3) := by decide +kernel
theorem dL_areWidths_362 : decode cL_areWidths 362 = .ok (.aload 8, 2) := by decide +kernel
theorem dL_areWidths_364 : decode cL_areWidths 364 = .ok (.bipush 8, 2) := by decide +kernel
theorem dL_areWidths_366 : decode cL_areWidths 366 = .ok (.iload 14, 2) := by decide +kernel
theorem dL_areWidths_368 : decode cL_areWidths 368 = .ok (.iadd, 1) := by decide +kernel
theorem dL_areWidths_369 : decode cL_areWidths 369 = .ok (.iaload, 1) := by decide +kernel
theorem dL_areWidths_370 : decode cL_areWidths 370 = .ok (.aload 8, 2) := by decide +kernel
theorem dL_areWidths_372 : decode cL_areWidths 372 = .ok (.bipush 16, 2) := by decide +kernel
theorem dL_areWidths_374 : decode cL_areWidths 374 = .ok (.iload 14, 2) := by decide +kernel
theorem dL_areWidths_376 : decode cL_areWidths 376 = .ok (.iadd, 1) := by decide +kernel
theorem dL_areWidths_377 : decode cL_areWidths 377 = .ok (.iaload, 1) := by decide +kernel
theorem dL_areWidths_378 : decode cL_areWidths 378 = .ok (.isub, 1) := by decide +kernel
theorem dL_areWidths_379 : decode cL_areWidths 379 = .ok (.aload 6, 2) := by decide +kernel
theorem dL_areWidths_381 : decode cL_areWidths 381 = .ok (.iload 12, 2) := by decide +kernel
theorem dL_areWidths_383 : decode cL_areWidths 383 = .ok (.iaload, 1) := by decide +kernel
theorem dL_areWidths_384 : decode cL_areWidths 384 = .ok (.invokestatic 29, 3) := by decide +kernel
theorem dL_areWidths_387 : decode cL_areWidths 387 = .ok (.isub, 1) := by decide +kernel
theorem dL_areWidths_388 : decode cL_areWidths 388 = .ok (.goto 5, 3) := by decide +kernel
theorem dL_areWidths_391 : decode cL_areWidths 391 = .ok (.bipush (-7), 2) := by decide +kernel
theorem dL_areWidths_393 : decode cL_areWidths 393 = .ok (.if_icmp .ne 7, 3) := by decide +kernel
theorem dL_areWidths_396 : decode cL_areWidths 396 = .ok (.iconst 1, 1) := by decide +kernel
theorem dL_areWidths_397 : decode cL_areWidths 397 = .ok (.goto 4, 3) := by decide +kernel
theorem dL_areWidths_400 : decode cL_areWidths 400 = .ok (.iconst 0, 1) := by decide +kernel
theorem dL_areWidths_401 : decode cL_areWidths 401 = .ok (.istore 11, 2) := by decide +kernel
theorem dL_areWidths_403 : decode cL_areWidths 403 = .ok (.iinc 12 1, 3) := by decide +kernel
theorem dL_areWidths_406 : decode cL_areWidths 406 = .ok (.goto (-171), 3) := by decide +kernel
theorem dL_areWidths_409 : decode cL_areWidths 409 = .ok (.iload 11, 2) := by decide +kernel
theorem dL_areWidths_411 : decode cL_areWidths 411 = .ok (.ifCond .eq 43, 3) := by decide +kernel
theorem dL_areWidths_414 : decode cL_areWidths 414 = .ok (.aload_n 0, 1) := by decide +kernel
theorem dL_areWidths_415 : decode cL_areWidths 415 = .ok (.invokevirtual 118, 3) := by decide +kernel
theorem dL_areWidths_418 : decode cL_areWidths 418 = .ok (.iload 9, 2) := by decide +kernel
theorem dL_areWidths_420 : decode cL_areWidths 420 = .ok (.aload 7, 2) := by decide +kernel
theorem dL_areWidths_422 : decode cL_areWidths 422 = .ok (.iconst 3, 1) := by decide +kernel
theorem dL_areWidths_423 : decode cL_areWidths 423 = .ok (.iaload, 1) := by decide +kernel
theorem dL_areWidths_424 : decode cL_areWidths 424 = .ok (.if_icmp .le 13, 3) := by decide +kernel
theorem dL_areWidths_427 : decode cL_areWidths 427 = .ok (.iload 9, 2) := by decide +kernel
theorem dL_areWidths_429 : decode cL_areWidths 429 = .ok (.aload 7, 2) := by decide +kernel
theorem dL_areWidths_431 : decode cL_areWidths 431 = .ok (.iconst 3, 1) := by decide +kernel
theorem dL_areWidths_432 : decode cL_areWidths 432 = .ok (.iaload, 1) := by decide +kernel
theorem dL_areWidths_433 : decode cL_areWidths 433 = .ok (.isub, 1) := by decide +kernel
theorem dL_areWidths_434 : decode cL_areWidths 434 = .ok (.goto 4, 3) := by decide +kernel
theorem dL_areWidths_437 : decode cL_areWidths 437 = .ok (.iconst 0, 1) := by decide +kernel
theorem dL_areWidths_438 : decode cL_areWidths 438 = .ok (.if_icmp .ne 16, 3) := by decide +kernel
theorem dL_areWidths_441 : decode cL_areWidths 441 = .ok (.aload_n 0, 1) := by decide +kernel
theorem dL_areWidths_442 : decode cL_areWidths 442 = .ok (.invokevirtual 121, 3) := by decide +kernel
theorem dL_areWidths_445 : decode cL_areWidths 445 = .ok (.iload 10, 2) := by decide +kernel
theorem dL_areWidths_447 : decode cL_areWidths 447 = .ok (.if_icmp .ne 7, 3) := by decide +kernel
theorem dL_areWidths_450 : decode cL_areWidths 450 = .ok (.iconst 1, 1) := by decide +kernel
theorem dL_areWidths_451 : decode cL_areWidths 451 = .ok (.goto 4, 3) := by decide +kernel
theorem dL_areWidths_454 : decode cL_areWidths 454 = .ok (.iconst 0, 1) := by decide +kernel
theorem dL_areWidths_455 : decode cL_areWidths 455 = .ok (.ireturn, 1) := by decide +kernel
theorem dL_arePages_0 : decode cL_arePages 0 = .ok (.bipush 13, 2) := by decide +kernel
theorem dL_arePages_2 : decode cL_arePages 2 = .ok (.newarray .int, 2) := by decide +kernel
theorem dL_arePages_4 : decode cL_arePages 4 = .ok (.astore 10, 2) := by decide +kernel
theorem dL_arePages_6 : decode cL_arePages 6 = .ok (.bipush 60, 2) := by decide +kernel
theorem dL_arePages_8 : decode cL_arePages 8 = .ok (.newarray .int, 2) := by decide +kernel
theorem dL_arePages_10 : decode cL_arePages 10 = .ok (.astore 11, 2) := by decide +kernel
theorem dL_arePages_12 : decode cL_arePages 12 = .ok (.bipush 10, 2) := by decide +kernel
theorem dL_arePages_14 : decode cL_arePages 14 = .ok (.newarray .int, 2) := by decide +kernel
theorem dL_arePages_16 : decode cL_arePages 16 = .ok (.astore 12, 2) := by decide +kernel
theorem dL_arePages_18 : decode cL_arePages 18 = .ok (.aload_n 1, 1) := by decide +kernel
theorem dL_arePages_19 : decode cL_arePages 19 = .ok (.aload_n 2, 1) := by decide +kernel
theorem dL_arePages_20 : decode cL_arePages 20 = .ok (.aload_n 3, 1) := by decide +kernel
theorem dL_arePages_21 : decode cL_arePages 21 = .ok (.aload 4, 2) := by decide +kernel
theorem dL_arePages_23 : decode cL_arePages 23 = .ok (.aload 7, 2) := by decide +kernel
theorem dL_arePages_25 : decode cL_arePages 25 = .ok (.aload 8, 2) := by decide +kernel
theorem dL_arePages_27 : decode cL_arePages 27 = .ok (.aload 10, 2) := by decide +kernel
theorem dL_arePages_29 : decode cL_arePages 29 = .ok (.aload 11, 2) := by decide +kernel
theorem dL_arePages_31 : decode cL_arePages 31 = .ok (.aload 12, 2) := by decide +kernel
theorem dL_arePages_33 : decode cL_arePages 33 = .ok (.invokestatic 124, 3) := by decide +kernel
theorem dL_arePages_36 : decode cL_arePages 36 = .ok (.aload_n 0, 1) := by decide +kernel
theorem dL_arePages_37 : decode cL_arePages 37 = .ok (.invokestatic 128, 3) := by decide +kernel
theorem dL_arePages_40 : decode cL_arePages 40 = .ok (.aload 10, 2) := by decide +kernel
theorem dL_arePages_42 : decode cL_arePages 42 = .ok (.iconst 0, 1) := by decide +kernel
theorem dL_arePages_43 : decode cL_arePages 43 = .ok (.iaload, 1) := by decide +kernel
theorem dL_arePages_44 : decode cL_arePages 44 = .ok (.if_icmp .ne 7, 3) := by decide +kernel
theorem dL_arePages_47 : decode cL_arePages 47 = .ok (.iconst 1, 1) := by decide +kernel
theorem dL_arePages_48 : decode cL_arePages 48 = .ok (.goto 4, 3) := by decide +kernel
theorem dL_arePages_51 : decode cL_arePages 51 = .ok (.iconst 0, 1) := by decide +kernel
theorem dL_arePages_52 : decode cL_arePages 52 = .ok (.istore 13, 2) := by decide +kernel
theorem dL_arePages_54 : decode cL_arePages 54 = .ok (.iload 9, 2) := by decide +kernel
theorem dL_arePages_56 : decode cL_arePages 56 = .ok (.aload 7, 2) := by decide +kernel
theorem dL_arePages_58 : decode cL_arePages 58 = .ok (.iconst 0, 1) := by decide +kernel
theorem dL_arePages_59 : decode cL_arePages 59 = .ok (.iaload, 1) := by decide +kernel
theorem dL_arePages_60 : decode cL_arePages 60 = .ok (.irem, 1) := by decide +kernel
theorem dL_arePages_61 : decode cL_arePages 61 = .ok (.istore 14, 2) := by decide +kernel
theorem dL_arePages_63 : decode cL_arePages 63 = .ok (.iconst 0, 1) := by decide +kernel
theorem dL_arePages_64 : decode cL_arePages 64 = .ok (.istore 15, 2) := by decide +kernel
theorem dL_arePages_66 : decode cL_arePages 66 = .ok (.iconst 0, 1) := by decide +kernel
theorem dL_arePages_67 : decode cL_arePages 67 = .ok (.istore 16, 2) := by decide +kernel
theorem dL_arePages_69 : decode cL_arePages 69 = .ok (.iload 16, 2) := by decide +kernel
theorem dL_arePages_71 : decode cL_arePages 71 = .ok (.aload 7, 2) := by decide +kernel
theorem dL_arePages_73 : decode cL_arePages 73 = .ok (.iconst 1, 1) := by decide +kernel
theorem dL_arePages_74 : decode cL_arePages 74 = .ok (.iaload, 1) := by decide +kernel
theorem dL_arePages_75 : decode cL_arePages 75 = .ok (.if_icmp .ge 42, 3) := by decide +kernel
theorem dL_arePages_78 : decode cL_arePages 78 = .ok (.iload 15, 2) := by decide +kernel
theorem dL_arePages_80 : decode cL_arePages 80 = .ok (.aload_n 2, 1) := by decide +kernel
theorem dL_arePages_81 : decode cL_arePages 81 = .ok (.iconst 3, 1) := by decide +kernel
theorem dL_arePages_82 : decode cL_arePages 82 = .ok (.iload 16, 2) := by decide +kernel
theorem dL_arePages_84 : decode cL_arePages 84 = .ok (.imul, 1) := by decide +kernel
theorem dL_arePages_85 : decode cL_arePages 85 = .ok (.iaload, 1) := by decide +kernel
theorem dL_arePages_86 : decode cL_arePages 86 = .ok (.iconst 1, 1) := by decide +kernel
theorem dL_arePages_87 : decode cL_arePages 87 = .ok (.if_icmp .ne 20, 3) := by decide +kernel
theorem dL_arePages_90 : decode cL_arePages 90 = .ok (.aload_n 1, 1) := by decide +kernel
theorem dL_arePages_91 : decode cL_arePages 91 = .ok (.aload 4, 2) := by decide +kernel
theorem dL_arePages_93 : decode cL_arePages 93 = .ok (.aload 6, 2) := by decide +kernel
theorem dL_arePages_95 : decode cL_arePages 95 = .ok (.aload 7, 2) := by decide +kernel
theorem dL_arePages_97 : decode cL_arePages 97 = .ok (.iload 16, 2) := by decide +kernel
theorem dL_arePages_99 : decode cL_arePages 99 = .ok (.iload 14, 2) := by decide +kernel
theorem dL_arePages_101 : decode cL_arePages 101 = .ok (.invokestatic 131, 3) := by decide +kernel
theorem dL_arePages_104 : decode cL_arePages 104 = .ok (.goto 4, 3) := by decide +kernel
theorem dL_arePages_107 : decode cL_arePages 107 = .ok (.iconst 0, 1) := by decide +kernel
theorem dL_arePages_108 : decode cL_arePages 108 = .ok (.iadd, 1) := by decide +kernel
theorem dL_arePages_109 : decode cL_arePages 109 = .ok (.istore 15, 2) := by decide +kernel
theorem dL_arePages_111 : decode cL_arePages 111 = .ok (.iinc 16 1, 3) := by decide +kernel
theorem dL_arePages_114 : decode cL_arePages 114 = .ok (.goto (-45), 3) := by decide +kernel
theorem dL_arePages_117 : decode cL_arePages 117 = .ok (.iload 13, 2) := by decide +kernel
theorem dL_arePages_119 : decode cL_arePages 119 = .ok (.ifCond .eq 18, 3) := by decide +kernel
theorem dL_arePages_122 : decode cL_arePages 122 = .ok (.aload_n 0, 1) := by decide +kernel
theorem dL_arePages_123 : decode cL_arePages 123 = .ok (.iload 14, 2) := by decide +kernel
theorem dL_arePages_125 : decode cL_arePages 125 = .ok (.invokevirtual 135, 3) := by decide +kernel
theorem dL_arePages_128 : decode cL_arePages 128 = .ok (.iload 15, 2) := by decide +kernel
theorem dL_arePages_130 : decode cL_arePages 130 = .ok (.if_icmp .ne 7, 3) := by decide +kernel
theorem dL_arePages_133 : decode cL_arePages 133 = .ok (.iconst 1, 1) := by decide +kernel
theorem dL_arePages_134 : decode cL_arePages 134 = .ok (.goto 4, 3) := by decide +kernel
theorem dL_arePages_137 : decode cL_arePages 137 = .ok (.iconst 0, 1) := by decide +kernel
theorem dL_arePages_138 : decode cL_arePages 138 = .ok (.istore 13, 2) := by decide +kernel
theorem dL_arePages_140 : decode cL_arePages 140 = .ok (.iconst 0, 1) := by decide +kernel
theorem dL_arePages_141 : decode cL_arePages 141 = .ok (.istore 16, 2) := by decide +kernel
theorem dL_arePages_143 : decode cL_arePages 143 = .ok (.iload 16, 2) := by decide +kernel
theorem dL_arePages_145 : decode cL_arePages 145 = .ok (.aload 7, 2) := by decide +kernel
theorem dL_arePages_147 : decode cL_arePages 147 = .ok (.iconst 1, 1) := by decide +kernel
theorem dL_arePages_148 : decode cL_arePages 148 = .ok (.iaload, 1) := by decide +kernel
theorem dL_arePages_149 : decode cL_arePages 149 = .ok (.if_icmp .ge 100, 3) := by decide +kernel
theorem dL_arePages_152 : decode cL_arePages 152 = .ok (.iload 13, 2) := by decide +kernel
theorem dL_arePages_154 : decode cL_arePages 154 = .ok (.ifCond .eq 95, 3) := by decide +kernel
theorem dL_arePages_157 : decode cL_arePages 157 = .ok (.aload 10, 2) := by decide +kernel
theorem dL_arePages_159 : decode cL_arePages 159 = .ok (.iconst 0, 1) := by decide +kernel
theorem dL_arePages_160 : decode cL_arePages 160 = .ok (.iaload, 1) := by decide +kernel
theorem dL_arePages_161 : decode cL_arePages 161 = .ok (.ifCond .le 88, 3) := by decide +kernel
theorem dL_arePages_164 : decode cL_arePages 164 = .ok (.iconst 0, 1) := by decide +kernel
theorem dL_arePages_165 : decode cL_arePages 165 = .ok (.istore 17, 2) := by decide +kernel
theorem dL_arePages_167 : decode cL_arePages 167 = .ok (.iload 17, 2) := by decide +kernel
theorem dL_arePages_169 : decode cL_arePages 169 = .ok (.bipush 6, 2) := by decide +kernel
theorem dL_arePages_171 : decode cL_arePages 171 = .ok (.if_icmp .ge 72, 3) := by decide +kernel
theorem dL_arePages_174 : decode cL_arePages 174 = .ok (.iload 13, 2) := by decide +kernel
theorem dL_arePages_176 : decode cL_arePages 176 = .ok (.ifCond .eq 67, 3) := by decide +kernel
theorem dL_arePages_179 : decode cL_arePages 179 = .ok (.aload_n 2, 1) := by decide +kernel
theorem dL_arePages_180 : decode cL_arePages 180 = .ok (.iconst 3, 1) := by decide +kernel
theorem dL_arePages_181 : decode cL_arePages 181 = .ok (.iload 16, 2) := by decide +kernel
theorem dL_arePages_183 : decode cL_arePages 183 = .ok (.imul, 1) := by decide +kernel
theorem dL_arePages_184 : decode cL_arePages 184 = .ok (.iaload, 1) := by decide +kernel
theorem dL_arePages_185 : decode cL_arePages 185 = .ok (.iconst 1, 1) := by decide +kernel
theorem dL_arePages_186 : decode cL_arePages 186 = .ok (.if_icmp .ne 57, 3) := by decide +kernel
theorem dL_arePages_189 : decode cL_arePages 189 = .ok (.aload_n 0, 1) := by decide +kernel
theorem dL_arePages_190 : decode cL_arePages 190 = .ok (.iload 16, 2) := by decide +kernel
theorem dL_arePages_192 : decode cL_arePages 192 = .ok (.iload 17, 2) := by decide +kernel
theorem dL_arePages_194 : decode cL_arePages 194 = .ok (.invokevirtual 138, 3) := by decide +kernel
theorem dL_arePages_197 : decode cL_arePages 197 = .ok (.aload 11, 2) := by decide +kernel
theorem dL_arePages_199 : decode cL_arePages 199 = .ok (.bipush 6, 2) := by decide +kernel
theorem dL_arePages_201 : decode cL_arePages 201 = .ok (.iload 16, 2) := by decide +kernel
theorem dL_arePages_203 : decode cL_arePages 203 = .ok (.imul, 1) := by decide +kernel
theorem dL_arePages_204 : decode cL_arePages 204 = .ok (.iload 17, 2) := by decide +kernel
theorem dL_arePages_206 : decode cL_arePages 206 = .ok (.iadd, 1) := by decide +kernel
theorem dL_arePages_207 : decode cL_arePages 207 = .ok (.iaload, 1) := by decide +kernel
theorem dL_arePages_208 : decode cL_arePages 208 = .ok (.if_icmp .ne 26, 3) := by decide +kernel
theorem dL_arePages_211 : decode cL_arePages 211 = .ok (.iload 17, 2) := by decide +kernel
theorem dL_arePages_213 : decode cL_arePages 213 = .ok (.ifCond .gt 17, 3) := by decide +kernel
theorem dL_arePages_216 : decode cL_arePages 216 = .ok (.aload_n 0, 1) := by decide +kernel
theorem dL_arePages_217 : decode cL_arePages 217 = .ok (.iload 16, 2) := by decide +kernel
theorem dL_arePages_219 : decode cL_arePages 219 = .ok (.invokevirtual 142, 3) := by decide +kernel
theorem dL_arePages_222 : decode cL_arePages 222 = .ok (.aload 12, 2) := by decide +kernel
theorem dL_arePages_224 : decode cL_arePages 224 = .ok (.iload 16, 2) := by decide +kernel
theorem dL_arePages_226 : decode cL_arePages 226 = .ok (.iaload, 1) := by decide +kernel
theorem dL_arePages_227 : decode cL_arePages 227 = .ok (.if_icmp .ne 7, 3) := by decide +kernel
theorem dL_arePages_230 : decode cL_arePages 230 = .ok (.iconst 1, 1) := by decide +kernel
theorem dL_arePages_231 : decode cL_arePages 231 = .ok (.goto 4, 3) := by decide +kernel
theorem dL_arePages_234 : decode cL_arePages 234 = .ok (.iconst 0, 1) := by decide +kernel
theorem dL_arePages_235 : decode cL_arePages 235 = .ok (.istore 13, 2) := by decide +kernel
theorem dL_arePages_237 : decode cL_arePages 237 = .ok (.iinc 17 1, 3) := by decide +kernel
theorem dL_arePages_240 : decode cL_arePages 240 = .ok (.goto (-73), 3) := by decide +kernel
theorem dL_arePages_243 : decode cL_arePages 243 = .ok (.iinc 16 1, 3) := by decide +kernel
theorem dL_arePages_246 : decode cL_arePages 246 = .ok (.goto (-103), 3) := by decide +kernel
theorem dL_arePages_249 : decode cL_arePages 249 = .ok (.iconst 0, 1) := by decide +kernel
theorem dL_arePages_250 : decode cL_arePages 250 = .ok (.istore 16, 2) := by decide +kernel
theorem dL_arePages_252 : decode cL_arePages 252 = .ok (.iload 16, 2) := by decide +kernel
theorem dL_arePages_254 : decode cL_arePages 254 = .ok (.bipush 6, 2) := by decide +kernel
theorem dL_arePages_256 : decode cL_arePages 256 = .ok (.if_icmp .ge 160, 3) := by decide +kernel
theorem dL_arePages_259 : decode cL_arePages 259 = .ok (.iload 16, 2) := by decide +kernel
theorem dL_arePages_261 : decode cL_arePages 261 = .ok (.aload 10, 2) := by decide +kernel
theorem dL_arePages_263 : decode cL_arePages 263 = .ok (.iconst 0, 1) := by decide +kernel
theorem dL_arePages_264 : decode cL_arePages 264 = .ok (.iaload, 1) := by decide +kernel
theorem dL_arePages_265 : decode cL_arePages 265 = .ok (.if_icmp .ge 151, 3) := by decide +kernel
theorem dL_arePages_268 : decode cL_arePages 268 = .ok (.iload 13, 2) := by decide +kernel
theorem dL_arePages_270 : decode cL_arePages 270 = .ok (.ifCond .eq 146, 3) := by decide +kernel
theorem dL_arePages_273 : decode cL_arePages 273 = .ok (.iconst 0, 1) := by decide +kernel
theorem dL_arePages_274 : decode cL_arePages 274 = .ok (.istore 17, 2) := by decide +kernel
theorem dL_arePages_276 : decode cL_arePages 276 = .ok (.iconst 0, 1) := by decide +kernel
theorem dL_arePages_277 : decode cL_arePages 277 = .ok (.istore 18, 2) := by decide +kernel
theorem dL_arePages_279 : decode cL_arePages 279 = .ok (.iload 18, 2) := by decide +kernel
theorem dL_arePages_281 : decode cL_arePages 281 = .ok (.aload 7, 2) := by decide +kernel
theorem dL_arePages_283 : decode cL_arePages 283 = .ok (.iconst 1, 1) := by decide +kernel
theorem dL_arePages_284 : decode cL_arePages 284 = .ok (.iaload, 1) := by decide +kernel
theorem dL_arePages_285 : decode cL_arePages 285 = .ok (.if_icmp .ge 52, 3) := by decide +kernel
theorem dL_arePages_288 : decode cL_arePages 288 = .ok (.iload 17, 2) := by decide +kernel
theorem dL_arePages_290 : decode cL_arePages 290 = .ok (.aload_n 2, 1) := by decide +kernel
theorem dL_arePages_291 : decode cL_arePages 291 = .ok (.iconst 3, 1) := by decide +kernel
theorem dL_arePages_292 : decode cL_arePages 292 = .ok (.iload 18, 2) := by decide +kernel
theorem dL_arePages_294 : decode cL_arePages 294 = .ok (.imul, 1) := by decide +kernel
theorem dL_arePages_295 : decode cL_arePages 295 = .ok (.iaload, 1) := by decide +kernel
theorem dL_arePages_296 : decode cL_arePages 296 = .ok (.iconst 1, 1) := by decide +kernel
theorem dL_arePages_297 : decode cL_arePages 297 = .ok (.if_icmp .ne 30, 3) := by decide +kernel
theorem dL_arePages_300 : decode cL_arePages 300 = .ok (.aload 12, 2) := by decide +kernel
theorem dL_arePages_302 : decode cL_arePages 302 = .ok (.iload 18, 2) := by decide +kernel
theorem dL_arePages_304 : decode cL_arePages 304 = .ok (.iaload, 1) := by decide +kernel
theorem dL_arePages_305 : decode cL_arePages 305 = .ok (.iload 16, 2) := by decide +kernel
theorem dL_arePages_307 : decode cL_arePages 307 = .ok (.if_icmp .gt 20, 3) := by decide +kernel
theorem dL_arePages_310 : decode cL_arePages 310 = .ok (.aload_n 1, 1) := by decide +kernel
theorem dL_arePages_311 : decode cL_arePages 311 = .ok (.aload 4, 2) := by decide +kernel
theorem dL_arePages_313 : decode cL_arePages 313 = .ok (.aload 6, 2) := by decide +kernel
theorem dL_arePages_315 : decode cL_arePages 315 = .ok (.aload 7, 2) := by decide +kernel
theorem dL_arePages_317 : decode cL_arePages 317 = .ok (.iload 18, 2) := by decide +kernel
theorem dL_arePages_319 : decode cL_arePages 319 = .ok (.iload 14, 2) := by decide +kernel
theorem dL_arePages_321 : decode cL_arePages 321 = .ok (.invokestatic 131, 3) := by decide +kernel
theorem dL_arePages_324 : decode cL_arePages 324 = .ok (.goto 4, 3) := by decide +kernel
theorem dL_arePages_327 : decode cL_arePages 327 = .ok (.iconst 0, 1) := by decide +kernel
theorem dL_arePages_328 : decode cL_arePages 328 = .ok (.iadd, 1) := by decide +kernel
theorem dL_arePages_329 : decode cL_arePages 329 = .ok (.istore 17, 2) := by decide +kernel
theorem dL_arePages_331 : decode cL_arePages 331 = .ok (.iinc 18 1, 3) := by decide +kernel
theorem dL_arePages_334 : decode cL_arePages 334 = .ok (.goto (-55), 3) := by decide +kernel
theorem dL_arePages_337 : decode cL_arePages 337 = .ok (.aload_n 0, 1) := by decide +kernel
theorem dL_arePages_338 : decode cL_arePages 338 = .ok (.iload 16, 2) := by decide +kernel
theorem dL_arePages_340 : decode cL_arePages 340 = .ok (.invokevirtual 145, 3) := by decide +kernel
theorem dL_arePages_343 : decode cL_arePages 343 = .ok (.aload 10, 2) := by decide +kernel
theorem dL_arePages_345 : decode cL_arePages 345 = .ok (.iconst 1, 1) := by decide +kernel
theorem dL_arePages_346 : decode cL_arePages 346 = .ok (.iload 16, 2) := by decide +kernel
theorem dL_arePages_348 : decode cL_arePages 348 = .ok (.iadd, 1) := by decide +kernel
theorem dL_arePages_349 : decode cL_arePages 349 = .ok (.iaload, 1) := by decide +kernel
theorem dL_arePages_350 : decode cL_arePages 350 = .ok (.if_icmp .ne 57, 3) := by decide +kernel
theorem dL_arePages_353 : decode cL_arePages 353 = .ok (.aload_n 0, 1) := by decide +kernel
theorem dL_arePages_354 : decode cL_arePages 354 = .ok (.iload 16, 2) := by decide +kernel
theorem dL_arePages_356 : decode cL_arePages 356 = .ok (.invokevirtual 148, 3) := by decide +kernel
theorem dL_arePages_359 : decode cL_arePages 359 = .ok (.aload 10, 2) := by decide +kernel
theorem dL_arePages_361 : decode cL_arePages 361 = .ok (.bipush 7, 2) := by decide +kernel
theorem dL_arePages_363 : decode cL_arePages 363 = .ok (.iload 16, 2) := by decide +kernel
theorem dL_arePages_365 : decode cL_arePages 365 = .ok (.iadd, 1) := by decide +kernel
theorem dL_arePages_366 : decode cL_arePages 366 = .ok (.iaload, 1) := by decide +kernel
theorem dL_arePages_367 : decode cL_arePages 367 = .ok (.if_icmp .ne 40, 3) := by decide +kernel
theorem dL_arePages_370 : decode cL_arePages 370 = .ok (.aload_n 0, 1) := by decide +kernel
theorem dL_arePages_371 : decode cL_arePages 371 = .ok (.iload 16, 2) := by decide +kernel
theorem dL_arePages_373 : decode cL_arePages 373 = .ok (.iload 14, 2) := by decide +kernel
theorem dL_arePages_375 : decode cL_arePages 375 = .ok (.invokevirtual 151, 3) := by decide +kernel
theorem dL_arePages_378 : decode cL_arePages 378 = .ok (.iload 17, 2) := by decide +kernel
theorem dL_arePages_380 : decode cL_arePages 380 = .ok (.if_icmp .ne 27, 3) := by decide +kernel
theorem dL_arePages_383 : decode cL_arePages 383 = .ok (.iload 9, 2) := by decide +kernel
theorem dL_arePages_385 : decode cL_arePages 385 = .ok (.iconst 3, 1) := by decide +kernel
theorem dL_arePages_386 : decode cL_arePages 386 = .ok (.irem, 1) := by decide +kernel
theorem dL_arePages_387 : decode cL_arePages 387 = .ok (.ifCond .gt 16, 3) := by decide +kernel
theorem dL_arePages_390 : decode cL_arePages 390 = .ok (.aload_n 0, 1) := by decide +kernel
theorem dL_arePages_391 : decode cL_arePages 391 = .ok (.iload 16, 2) := by decide +kernel
theorem dL_arePages_393 : decode cL_arePages 393 = .ok (.iload 14, 2) := by decide +kernel
theorem dL_arePages_395 : decode cL_arePages 395 = .ok (.invokevirtual 154, 3) := by decide +kernel
theorem dL_arePages_398 : decode cL_arePages 398 = .ok (.iload 17, 2) := by decide +kernel
theorem dL_arePages_400 : decode cL_arePages 400 = .ok (.if_icmp .ne 7, 3) := by decide +kernel
theorem dL_arePages_403 : decode cL_arePages 403 = .ok (.iconst 1, 1) := by decide +kernel
theorem dL_arePages_404 : decode cL_arePages 404 = .ok (.goto 4, 3) := by decide +kernel
theorem dL_arePages_407 : decode cL_arePages 407 = .ok (.iconst 0, 1) := by decide +kernel
theorem dL_arePages_408 : decode cL_arePages 408 = .ok (.istore 13, 2) := by decide +kernel
theorem dL_arePages_410 : decode cL_arePages 410 = .ok (.iinc 16 1, 3) := by decide +kernel
theorem dL_arePages_413 : decode cL_arePages 413 = .ok (.goto (-161), 3) := by decide +kernel
theorem dL_arePages_416 : decode cL_arePages 416 = .ok (.iconst 0, 1) := by decide +kernel
theorem dL_arePages_417 : decode cL_arePages 417 = .ok (.istore 16, 2) := by decide +kernel
theorem dL_arePages_419 : decode cL_arePages 419 = .ok (.iload 16, 2) := by decide +kernel
theorem dL_arePages_421 : decode cL_arePages 421 = .ok (.aload 7, 2) := by decide +kernel
theorem dL_arePages_423 : decode cL_arePages 423 = .ok (.iconst 2, 1) := by decide +kernel
theorem dL_arePages_424 : decode cL_arePages 424 = .ok (.iaload, 1) := by decide +kernel
theorem dL_arePages_425 : decode cL_arePages 425 = .ok (.if_icmp .ge 189, 3) := by decide +kernel
theorem dL_arePages_428 : decode cL_arePages 428 = .ok (.iload 13, 2) := by decide +kernel
theorem dL_arePages_430 : decode cL_arePages 430 = .ok (.ifCond .eq 184, 3) := by decide +kernel
theorem dL_arePages_433 : decode cL_arePages 433 = .ok (.aload 10, 2) := by decide +kernel
theorem dL_arePages_435 : decode cL_arePages 435 = .ok (.iconst 0, 1) := by decide +kernel
theorem dL_arePages_436 : decode cL_arePages 436 = .ok (.iaload, 1) := by decide +kernel
theorem dL_arePages_437 : decode cL_arePages 437 = .ok (.ifCond .le 177, 3) := by decide +kernel
theorem dL_arePages_440 : decode cL_arePages 440 = .ok (.aload 10, 2) := by decide +kernel
theorem dL_arePages_442 : decode cL_arePages 442 = .ok (.iconst 0, 1) := by decide +kernel
theorem dL_arePages_443 : decode cL_arePages 443 = .ok (.iaload, 1) := by decide +kernel
theorem dL_arePages_444 : decode cL_arePages 444 = .ok (.bipush 7, 2) := by decide +kernel
theorem dL_arePages_446 : decode cL_arePages 446 = .ok (.if_icmp .ge 168, 3) := by decide +kernel
theorem dL_arePages_449 : decode cL_arePages 449 = .ok (.aload_n 1, 1) := by decide +kernel
theorem dL_arePages_450 : decode cL_arePages 450 = .ok (.aload 4, 2) := by decide +kernel
theorem dL_arePages_452 : decode cL_arePages 452 = .ok (.aload 5, 2) := by decide +kernel
theorem dL_arePages_454 : decode cL_arePages 454 = .ok (.aload 8, 2) := by decide +kernel
theorem dL_arePages_456 : decode cL_arePages 456 = .ok (.iload 16, 2) := by decide +kernel
theorem dL_arePages_458 : decode cL_arePages 458 = .ok (.invokestatic 57, 3) := by decide +kernel
theorem dL_arePages_461 : decode cL_arePages 461 = .ok (.istore 17, 2) := by decide +kernel
theorem dL_arePages_463 : decode cL_arePages 463 = .ok (.aload_n 3, 1) := by decide +kernel
theorem dL_arePages_464 : decode cL_arePages 464 = .ok (.aload 4, 2) := by decide +kernel
theorem dL_arePages_466 : decode cL_arePages 466 = .ok (.bipush 6, 2) := by decide +kernel
theorem dL_arePages_468 : decode cL_arePages 468 = .ok (.iload 16, 2) := by decide +kernel
theorem dL_arePages_470 : decode cL_arePages 470 = .ok (.imul, 1) := by decide +kernel
theorem dL_arePages_471 : decode cL_arePages 471 = .ok (.iaload, 1) := by decide +kernel
theorem dL_arePages_472 : decode cL_arePages 472 = .ok (.invokestatic 9, 3) := by decide +kernel
theorem dL_arePages_475 : decode cL_arePages 475 = .ok (.istore 18, 2) := by decide +kernel
theorem dL_arePages_477 : decode cL_arePages 477 = .ok (.iconst 0, 1) := by decide +kernel
theorem dL_arePages_478 : decode cL_arePages 478 = .ok (.istore 19, 2) := by decide +kernel
theorem dL_arePages_480 : decode cL_arePages 480 = .ok (.iload 19, 2) := by decide +kernel
theorem dL_arePages_482 : decode cL_arePages 482 = .ok (.aload 10, 2) := by decide +kernel
theorem dL_arePages_484 : decode cL_arePages 484 = .ok (.iconst 0, 1) := by decide +kernel
theorem dL_arePages_485 : decode cL_arePages 485 = .ok (.iaload, 1) := by decide +kernel
theorem dL_arePages_486 : decode cL_arePages 486 = .ok (.if_icmp .ge 122, 3) := by decide +kernel
theorem dL_arePages_489 : decode cL_arePages 489 = .ok (.iload 13, 2) := by decide +kernel
theorem dL_arePages_491 : decode cL_arePages 491 = .ok (.ifCond .eq 117, 3) := by decide +kernel
theorem dL_arePages_494 : decode cL_arePages 494 = .ok (.aload_n 2, 1) := by decide +kernel
theorem dL_arePages_495 : decode cL_arePages 495 = .ok (.iconst 3, 1) := by decide +kernel
theorem dL_arePages_496 : decode cL_arePages 496 = .ok (.aload 4, 2) := by decide +kernel
theorem dL_arePages_498 : decode cL_arePages 498 = .ok (.bipush 6, 2) := by decide +kernel
theorem dL_arePages_500 : decode cL_arePages 500 = .ok (.iload 16, 2) := by decide +kernel
theorem dL_arePages_502 : decode cL_arePages 502 = .ok (.imul, 1) := by decide +kernel
theorem dL_arePages_503 : decode cL_arePages 503 = .ok (.iaload, 1) := by decide +kernel
theorem dL_arePages_504 : decode cL_arePages 504 = .ok (.imul, 1) := by decide +kernel
theorem dL_arePages_505 : decode cL_arePages 505 = .ok (.iaload, 1) := by decide +kernel
theorem dL_arePages_506 : decode cL_arePages 506 = .ok (.iconst 1, 1) := by decide +kernel
theorem dL_arePages_507 : decode cL_arePages 507 = .ok (.if_icmp .ne 101, 3) := by decide +kernel
theorem dL_arePages_510 : decode cL_arePages 510 = .ok (.iconst 0, 1) := by decide +kernel
theorem dL_arePages_511 : decode cL_arePages 511 = .ok (.istore 20, 2) := by decide +kernel
theorem dL_arePages_513 : decode cL_arePages 513 = .ok (.iload 18, 2) := by decide +kernel
theorem dL_arePages_515 : decode cL_arePages 515 = .ok (.istore 21, 2) := by decide +kernel
theorem dL_arePages_517 : decode cL_arePages 517 = .ok (.iload 21, 2) := by decide +kernel
theorem dL_arePages_519 : decode cL_arePages 519 = .ok (.iload 18, 2) := by decide +kernel
theorem dL_arePages_521 : decode cL_arePages 521 = .ok (.aload 4, 2) := by decide +kernel
theorem dL_arePages_523 : decode cL_arePages 523 = .ok (.bipush 6, 2) := by decide +kernel
theorem dL_arePages_525 : decode cL_arePages 525 = .ok (.iload 16, 2) := by decide +kernel
theorem dL_arePages_527 : decode cL_arePages 527 = .ok (.imul, 1) := by decide +kernel
theorem dL_arePages_528 : decode cL_arePages 528 = .ok (.iconst 2, 1) := by decide +kernel
theorem dL_arePages_529 : decode cL_arePages 529 = .ok (.iadd, 1) := by decide +kernel
theorem dL_arePages_530 : decode cL_arePages 530 = .ok (.iaload, 1) := by decide +kernel
theorem dL_arePages_531 : decode cL_arePages 531 = .ok (.iadd, 1) := by decide +kernel
theorem dL_arePages_532 : decode cL_arePages 532 = .ok (.if_icmp .ge 27, 3) := by decide +kernel
theorem dL_arePages_535 : decode cL_arePages 535 = .ok (.iload 20, 2) := by decide +kernel
theorem dL_arePages_537 : decode cL_arePages 537 = .ok (.aload 11, 2) := by decide +kernel
theorem dL_arePages_539 : decode cL_arePages 539 = .ok (.bipush 6, 2) := by decide +kernel
theorem dL_arePages_541 : decode cL_arePages 541 = .ok (.aload_n 3, 1) := by decide +kernel
theorem dL_arePages_542 : decode cL_arePages 542 = .ok (.iload 21, 2) := by decide +kernel
theorem dL_arePages_544 : decode cL_arePages 544 = .ok (.iaload, 1) := by decide +kernel
theorem dL_arePages_545 : decode cL_arePages 545 = .ok (.imul, 1) := by decide +kernel
theorem dL_arePages_546 : decode cL_arePages 546 = .ok (.iload 19, 2) := by decide +kernel
theorem dL_arePages_548 : decode cL_arePages 548 = .ok (.iadd, 1) := by decide +kernel
theorem dL_arePages_549 : decode cL_arePages 549 = .ok (.iaload, 1) := by decide +kernel
theorem dL_arePages_550 : decode cL_arePages 550 = .ok (.iadd, 1) := by decide +kernel
theorem dL_arePages_551 : decode cL_arePages 551 = .ok (.istore 20, 2) := by decide +kernel
theorem dL_arePages_553 : decode cL_arePages 553 = .ok (.iinc 21 1, 3) := by decide +kernel
theorem dL_arePages_556 : decode cL_arePages 556 = .ok (.goto (-39), 3) := by decide +kernel
theorem dL_arePages_559 : decode cL_arePages 559 = .ok (.iload 17, 2) := by decide +kernel
theorem dL_arePages_561 : decode cL_arePages 561 = .ok (.iload 20, 2) := by decide +kernel
theorem dL_arePages_563 : decode cL_arePages 563 = .ok (.if_icmp .ge 8, 3) := by decide +kernel
theorem dL_arePages_566 : decode cL_arePages 566 = .ok (.iload 17, 2) := by decide +kernel
theorem dL_arePages_568 : decode cL_arePages 568 = .ok (.goto 5, 3) := by decide +kernel
theorem dL_arePages_571 : decode cL_arePages 571 = .ok (.iload 20, 2) := by decide +kernel
theorem dL_arePages_573 : decode cL_arePages 573 = .ok (.istore 21, 2) := by decide +kernel
theorem dL_arePages_575 : decode cL_arePages 575 = .ok (.iload 17, 2) := by decide +kernel
theorem dL_arePages_577 : decode cL_arePages 577 = .ok (.iload 21, 2) := by decide +kernel
theorem dL_arePages_579 : decode cL_arePages 579 = .ok (.isub, 1) := by decide +kernel
theorem dL_arePages_580 : decode cL_arePages 580 = .ok (.istore 17, 2) := by decide +kernel
theorem dL_arePages_582 : decode cL_arePages 582 = .ok (.aload_n 0, 1) := by decide +kernel
theorem dL_arePages_583 : decode cL_arePages 583 = .ok (.iload 16, 2) := by decide +kernel
theorem dL_arePages_585 : decode cL_arePages 585 = .ok (.iload 19, 2) := by decide +kernel
theorem dL_arePages_587 : decode cL_arePages 587 = .ok (.invokevirtual 157, 3) := by decide +kernel
theorem dL_arePages_590 : decode cL_arePages 590 = .ok (.iload 21, 2) := by decide +kernel
theorem dL_arePages_592 : decode cL_arePages 592 = .ok (.if_icmp .ne 7, 3) := by decide +kernel
theorem dL_arePages_595 : decode cL_arePages 595 = .ok (.iconst 1, 1) := by decide +kernel
theorem dL_arePages_596 : decode cL_arePages 596 = .ok (.goto 4, 3) := by decide +kernel
theorem dL_arePages_599 : decode cL_arePages 599 = .ok (.iconst 0, 1) := by decide +kernel
theorem dL_arePages_600 : decode cL_arePages 600 = .ok (.istore 13, 2) := by decide +kernel
theorem dL_arePages_602 : decode cL_arePages 602 = .ok (.iinc 19 1, 3) := by decide +kernel
theorem dL_arePages_605 : decode cL_arePages 605 = .ok (.goto (-125), 3) := by decide +kernel
theorem dL_arePages_608 : decode cL_arePages 608 = .ok (.iinc 16 1, 3) := by decide +kernel
theorem dL_arePages_611 : decode cL_arePages 611 = .ok (.goto (-192), 3) := by decide +kernel
theorem dL_arePages_614 : decode cL_arePages 614 = .ok (.iload 13, 2) := by decide +kernel
theorem dL_arePages_616 : decode cL_arePages 616 = .ok (.ireturn, 1) := by decide +kernel
section
variable {p : Program} {l : Launch} {e : Env} {s : State} {m : MethodId} {args : Array Value} {below : List Frame} {meth : Method} {c : Code} {G : Gx} {e0 : Nat} {α : Ax} {κ : Nat → Int} {B : Nat}
def wp_L_areWidths_454 (Qm : Int → Mem → Prop) (M : Mem) : Prop := Qm 0 M
def wp_L_areWidths_409 (Qm : Int → Mem → Prop) (y9 : Int) (y10 : Int) (y11 : Int) (M : Mem) : Prop := ((y11 = 0 → wp_L_areWidths_454 Qm M) ∧ (¬ y11 = 0 → wp_X9_over M fun (x11 : Int) (M10 : Mem) => ((M10 112 0 3) < y9 → (inR (y9 - (M10 112 0 3))) ∧ True) ∧ (inR (if y9 ≤ (M10 112 0 3) then (0 : Int) else (y9 - (M10 112 0 3)))) ∧ ((¬ x11 = (if y9 ≤ (M10 112 0 3) then (0 : Int) else (y9 - (M10 112 0 3))) → wp_L_areWidths_454 Qm M10) ∧ (x11 = (if y9 ≤ (M10 112 0 3) then (0 : Int) else (y9 - (M10 112 0 3))) → wp_X9_tableHeight M10 fun (x20 : Int) (M19 : Mem) => (bit (if ¬ x20 = y10 then (0 : Int) else 1)) ∧ Qm (if ¬ x20 = y10 then (0 : Int) else 1) M19))))
def wp_L_areWidths_400 (Qm : Int → Mem → Prop) (K235 : Int → Int → Int → Int → Mem → Prop) (y9 : Int) (y10 : Int) (y12 : Int) (M : Mem) : Prop := (inR (y12 + 1)) ∧ K235 y9 y10 0 (y12 + 1) M
def wp_L_areWidths_393 (Qm : Int → Mem → Prop) (K235 : Int → Int → Int → Int → Mem → Prop) (y9 : Int) (y10 : Int) (y12 : Int) (z0 : Int) (z1 : Int) (M : Mem) : Prop := (inR (y12 + 1)) ∧ K235 y9 y10 (if ¬ z1 = z0 then (0 : Int) else 1) (y12 + 1) M
def wp_L_areWidths_277 (Qm : Int → Mem → Prop) (K235 : Int → Int → Int → Int → Mem → Prop) (y9 : Int) (y10 : Int) (y12 : Int) (M : Mem) : Prop := (inR (6 * y12)) ∧ (inR ((6 * y12) + 1)) ∧ (0 ≤ ((6 * y12) + 1) ∧ ((6 * y12) + 1) < 60) ∧ wo_X9_lines y12 M fun (x35 : Int) (M34 : Mem) => wp_L_lines y12 M34 fun (x38 : Int) (M37 : Mem) => ((¬ x35 = x38 → wp_L_areWidths_400 Qm K235 y9 y10 y12 M37) ∧ (x35 = x38 → wp_L_point 0 y12 M37 fun (x41 : Int) (M43 : Mem) => ((¬ x41 = (-7) → wp_L_areWidths_400 Qm K235 y9 y10 y12 M43) ∧ (x41 = (-7) → wp_L_point 1 y12 M43 fun (x44 : Int) (M46 : Mem) => wp_L_areWidths_393 Qm K235 y9 y10 y12 (-7) x44 M46))))
def wp_L_areWidths_235 (Qm : Int → Mem → Prop) : Nat → Int → Int → Int → Int → Mem → Prop
  | 0 => fun _ _ _ _ _ => False
  | n + 1 => fun y9 y10 y11 y12 M => (((M 112 0 2) ≤ y12 → wp_L_areWidths_409 Qm y9 y10 y11 M) ∧ (y12 < (M 112 0 2) → ((y11 = 0 → wp_L_areWidths_409 Qm y9 y10 y11 M) ∧ (¬ y11 = 0 → (inR (6 * y12)) ∧ (inR ((6 * y12) + 5)) ∧ (0 ≤ ((6 * y12) + 5) ∧ ((6 * y12) + 5) < 60) ∧ (((M 107 0 ((6 * y12) + 5)) < 0 → wp_L_areWidths_277 Qm (wp_L_areWidths_235 Qm n) y9 y10 y12 M) ∧ (0 ≤ (M 107 0 ((6 * y12) + 5)) → wp_L_shows y12 M fun (x52 : Int) (M51 : Mem) => (inR (6 * y12)) ∧ (inR ((6 * y12) + 1)) ∧ (0 ≤ ((6 * y12) + 1) ∧ ((6 * y12) + 1) < 60) ∧ wo_X9_lines y12 M51 fun (x62 : Int) (M61 : Mem) => wp_L_lines y12 M61 fun (x65 : Int) (M64 : Mem) => ((¬ x62 = x65 → wp_L_areWidths_400 Qm (wp_L_areWidths_235 Qm n) y9 y10 y12 M64) ∧ (x62 = x65 → wp_L_point 0 y12 M64 fun (x67 : Int) (M69 : Mem) => (¬ (if x52 ≤ 0 then (0 : Int) else 1) = 0 → (inR (8 + (M51 107 0 ((6 * y12) + 1)))) ∧ (0 ≤ (8 + (M51 107 0 ((6 * y12) + 1))) ∧ (8 + (M51 107 0 ((6 * y12) + 1))) < 30) ∧ (inR (16 + (M51 107 0 ((6 * y12) + 1)))) ∧ (0 ≤ (16 + (M51 107 0 ((6 * y12) + 1))) ∧ (16 + (M51 107 0 ((6 * y12) + 1))) < 30) ∧ (inR ((M69 113 0 (8 + (M51 107 0 ((6 * y12) + 1)))) - (M69 113 0 (16 + (M51 107 0 ((6 * y12) + 1)))))) ∧ True) ∧ (inR (if (if x52 ≤ 0 then (0 : Int) else 1) = 0 then ((-7) : Int) else ((M69 113 0 (8 + (M51 107 0 ((6 * y12) + 1)))) - (M69 113 0 (16 + (M51 107 0 ((6 * y12) + 1))))))) ∧ ((¬ x67 = (if (if x52 ≤ 0 then (0 : Int) else 1) = 0 then ((-7) : Int) else ((M69 113 0 (8 + (M51 107 0 ((6 * y12) + 1)))) - (M69 113 0 (16 + (M51 107 0 ((6 * y12) + 1)))))) → wp_L_areWidths_400 Qm (wp_L_areWidths_235 Qm n) y9 y10 y12 M69) ∧ (x67 = (if (if x52 ≤ 0 then (0 : Int) else 1) = 0 then ((-7) : Int) else ((M69 113 0 (8 + (M51 107 0 ((6 * y12) + 1)))) - (M69 113 0 (16 + (M51 107 0 ((6 * y12) + 1)))))) → wp_L_point 1 y12 M69 fun (x79 : Int) (M81 : Mem) => (((if x52 ≤ 0 then (0 : Int) else 1) = 0 → wp_L_areWidths_393 Qm (wp_L_areWidths_235 Qm n) y9 y10 y12 (-7) x79 M81) ∧ (¬ (if x52 ≤ 0 then (0 : Int) else 1) = 0 → (inR (8 + (M51 107 0 ((6 * y12) + 1)))) ∧ (0 ≤ (8 + (M51 107 0 ((6 * y12) + 1))) ∧ (8 + (M51 107 0 ((6 * y12) + 1))) < 30) ∧ (inR (16 + (M51 107 0 ((6 * y12) + 1)))) ∧ (0 ≤ (16 + (M51 107 0 ((6 * y12) + 1))) ∧ (16 + (M51 107 0 ((6 * y12) + 1))) < 30) ∧ (inR ((M81 113 0 (8 + (M51 107 0 ((6 * y12) + 1)))) - (M81 113 0 (16 + (M51 107 0 ((6 * y12) + 1)))))) ∧ (0 ≤ y12 ∧ y12 < 10) ∧ wp_L_leftOf (M81 109 0 y12) M81 fun (x92 : Int) (M91 : Mem) => (inR (((M81 113 0 (8 + (M51 107 0 ((6 * y12) + 1)))) - (M81 113 0 (16 + (M51 107 0 ((6 * y12) + 1))))) - x92)) ∧ wp_L_areWidths_393 Qm (wp_L_areWidths_235 Qm n) y9 y10 y12 (((M81 113 0 (8 + (M51 107 0 ((6 * y12) + 1)))) - (M81 113 0 (16 + (M51 107 0 ((6 * y12) + 1))))) - x92) x79 M91))))))))))))
def wp_L_areWidths_232 (Qm : Int → Mem → Prop) (y9 : Int) (y10 : Int) (y11 : Int) (M : Mem) : Prop := (∃ n95 : Nat, n95 ≤ 11 ∧ wp_L_areWidths_235 Qm n95 y9 y10 y11 0 M)
def wp_L_areWidths_223 (Qm : Int → Mem → Prop) (K137 : Int → Int → Int → Int → Mem → Prop) (y9 : Int) (y10 : Int) (y12 : Int) (M : Mem) : Prop := (inR (y12 + 1)) ∧ K137 y9 y10 0 (y12 + 1) M
def wp_L_areWidths_219 (Qm : Int → Mem → Prop) (K137 : Int → Int → Int → Int → Mem → Prop) (y9 : Int) (y10 : Int) (y12 : Int) (M : Mem) : Prop := (inR (y12 + 1)) ∧ K137 y9 y10 1 (y12 + 1) M
def wp_L_areWidths_137 (Qm : Int → Mem → Prop) : Nat → Int → Int → Int → Int → Mem → Prop
  | 0 => fun _ _ _ _ _ => False
  | n + 1 => fun y9 y10 y11 y12 M => (((M 112 0 1) ≤ y12 → wp_L_areWidths_232 Qm y9 y10 y11 M) ∧ (y12 < (M 112 0 1) → ((y11 = 0 → wp_L_areWidths_232 Qm y9 y10 y11 M) ∧ (¬ y11 = 0 → (inR (3 * y12)) ∧ (0 ≤ (3 * y12) ∧ (3 * y12) < 30) ∧ ((M 105 0 (3 * y12)) = 1 → (inR (20 + y12)) ∧ (0 ≤ (20 + y12) ∧ (20 + y12) < 30) ∧ True) ∧ (inR (y10 + (if ¬ (M 105 0 (3 * y12)) = 1 then (0 : Int) else (M 113 0 (20 + y12))))) ∧ wo_X9_height y12 M fun (x107 : Int) (M106 : Mem) => (inR (20 + y12)) ∧ (0 ≤ (20 + y12) ∧ (20 + y12) < 30) ∧ ((¬ x107 = (M106 113 0 (20 + y12)) → wp_L_areWidths_223 Qm (wp_L_areWidths_137 Qm n) y9 (y10 + (if ¬ (M 105 0 (3 * y12)) = 1 then (0 : Int) else (M 113 0 (20 + y12)))) y12 M106) ∧ (x107 = (M106 113 0 (20 + y12)) → ((0 < (Int.tmod y12 3) → wp_L_areWidths_219 Qm (wp_L_areWidths_137 Qm n) y9 (y10 + (if ¬ (M 105 0 (3 * y12)) = 1 then (0 : Int) else (M 113 0 (20 + y12)))) y12 M106) ∧ ((Int.tmod y12 3) ≤ 0 → wo_X9_heightByCells y12 M106 fun (x116 : Int) (M115 : Mem) => (inR (20 + y12)) ∧ (0 ≤ (20 + y12) ∧ (20 + y12) < 30) ∧ (inR (y12 + 1)) ∧ wp_L_areWidths_137 Qm n y9 (y10 + (if ¬ (M 105 0 (3 * y12)) = 1 then (0 : Int) else (M 113 0 (20 + y12)))) (if ¬ x116 = (M115 113 0 (20 + y12)) then (0 : Int) else 1) (y12 + 1) M115))))))))
def wp_L_areWidths_134 (Qm : Int → Mem → Prop) (y9 : Int) (y10 : Int) (y11 : Int) (M : Mem) : Prop := (∃ n125 : Nat, wp_L_areWidths_137 Qm n125 y9 y10 y11 0 M)
def wp_L_areWidths_125 (Qm : Int → Mem → Prop) (K47 : Int → Int → Int → Int → Mem → Prop) (y9 : Int) (y10 : Int) (y12 : Int) (M : Mem) : Prop := (inR (y12 + 1)) ∧ K47 y9 y10 0 (y12 + 1) M
def wp_L_areWidths_47 (Qm : Int → Mem → Prop) : Nat → Int → Int → Int → Int → Mem → Prop
  | 0 => fun _ _ _ _ _ => False
  | n + 1 => fun y9 y10 y11 y12 M => (((M 112 0 0) ≤ y12 → wp_L_areWidths_134 Qm y9 y10 y11 M) ∧ (y12 < (M 112 0 0) → ((y11 = 0 → wp_L_areWidths_134 Qm y9 y10 y11 M) ∧ (¬ y11 = 0 → (inR (8 + y12)) ∧ (0 ≤ (8 + y12) ∧ (8 + y12) < 30) ∧ (inR (y9 + (M 113 0 (8 + y12)))) ∧ wo_X9_least y12 M fun (x131 : Int) (M130 : Mem) => (0 ≤ y12 ∧ y12 < 30) ∧ ((¬ x131 = (M130 113 0 y12) → wp_L_areWidths_125 Qm (wp_L_areWidths_47 Qm n) (y9 + (M 113 0 (8 + y12))) y10 y12 M130) ∧ (x131 = (M130 113 0 y12) → wo_X9_most y12 M130 fun (x137 : Int) (M136 : Mem) => (inR (4 + y12)) ∧ (0 ≤ (4 + y12) ∧ (4 + y12) < 30) ∧ ((¬ x137 = (M136 113 0 (4 + y12)) → wp_L_areWidths_125 Qm (wp_L_areWidths_47 Qm n) (y9 + (M 113 0 (8 + y12))) y10 y12 M136) ∧ (x137 = (M136 113 0 (4 + y12)) → wo_X9_width y12 M136 fun (x143 : Int) (M142 : Mem) => (inR (8 + y12)) ∧ (0 ≤ (8 + y12) ∧ (8 + y12) < 30) ∧ (inR (y12 + 1)) ∧ wp_L_areWidths_47 Qm n (y9 + (M 113 0 (8 + y12))) y10 (if ¬ x143 = (M142 113 0 (8 + y12)) then (0 : Int) else 1) (y12 + 1) M142))))))))
def wp_L_areWidths (M : Mem) (Qm : Int → Mem → Prop) : Prop := wp_L_widths M fun (M1 : Mem) => wp_L_heights M1 fun (M2 : Mem) => wp_L_visible M2 fun (x4 : Int) (M3 : Mem) => (inR (x4 - 1)) ∧ (∃ n152 : Nat, wp_L_areWidths_47 Qm n152 (x4 - 1) 0 1 0 M3)
set_option maxHeartbeats 4000000 in
set_option maxRecDepth 100000 in
theorem t_L_areWidths_454 {α0 : Ax} {κ0 : Nat → Int} (X : CX p m c cL_areWidths 15 s args RL G B κ meth (some .boolean)) (N : NcA s) (hlt : l.stackTraces = false) (hb : Bk G e0 α κ α0 κ0 B) {Qm : Int → Mem → Prop} : ∀ M : Mem, wp_L_areWidths_454 Qm M → ∀ cl sl : Nat, cl + 0 ≤ 44 → sl + 0 ≤ 264 → ∀ (H : Heap) (locs : List Loc), Rp G e0 α κ B M H → va_S (fun q => B ≤ q) s.heap H locs → ∀ (ls : Array Slot), lv_has ls 15 [] → WU p l e 10 44 264 s m args below meth c G e0 α0 κ0 B Qm H locs cl sl 454 ls [] := by
  intro M hw cl sl hc1 hc2 H locs hR hS ls hl
  have hw : Qm 0 M := hw
  refine sa_const X.1 dL_areWidths_454 ?_
  exact su_zret X hb hR hS (Or.inl rfl) hw dL_areWidths_455 (by omega) (by omega)
set_option maxHeartbeats 4000000 in
set_option maxRecDepth 100000 in
theorem t_L_areWidths_409 {α0 : Ax} {κ0 : Nat → Int} (X : CX p m c cL_areWidths 15 s args RL G B κ meth (some .boolean)) (N : NcA s) (hlt : l.stackTraces = false) (hb : Bk G e0 α κ α0 κ0 B) {Qm : Int → Mem → Prop} : ∀ y9 : Int, ∀ y10 : Int, ∀ y11 : Int, ∀ M : Mem, wp_L_areWidths_409 Qm y9 y10 y11 M → inR y9 → inR y10 → inR y11 → ∀ cl sl : Nat, cl + 0 ≤ 44 → sl + 0 ≤ 264 → ∀ (H : Heap) (locs : List Loc), Rp G e0 α κ B M H → va_S (fun q => B ≤ q) s.heap H locs → ∀ (ls : Array Slot), lv_has ls 15 [(0, .ref (α 10 0)), (7, .ref (α 112 0)), (9, .int (Int32.ofInt y9)), (10, .int (Int32.ofInt y10)), (11, .int (Int32.ofInt y11))] → WU p l e 10 44 264 s m args below meth c G e0 α0 κ0 B Qm H locs cl sl 409 ls [] := by
  intro y9 y10 y11 M hw hy9 hy10 hy11 cl sl hc1 hc2 H locs hR hS ls hl
  have hw : ((y11 = 0 → wp_L_areWidths_454 Qm M) ∧ (¬ y11 = 0 → wp_X9_over M fun (x11 : Int) (M10 : Mem) => ((M10 112 0 3) < y9 → (inR (y9 - (M10 112 0 3))) ∧ True) ∧ (inR (if y9 ≤ (M10 112 0 3) then (0 : Int) else (y9 - (M10 112 0 3)))) ∧ ((¬ x11 = (if y9 ≤ (M10 112 0 3) then (0 : Int) else (y9 - (M10 112 0 3))) → wp_L_areWidths_454 Qm M10) ∧ (x11 = (if y9 ≤ (M10 112 0 3) then (0 : Int) else (y9 - (M10 112 0 3))) → wp_X9_tableHeight M10 fun (x20 : Int) (M19 : Mem) => (bit (if ¬ x20 = y10 then (0 : Int) else 1)) ∧ Qm (if ¬ x20 = y10 then (0 : Int) else 1) M19)))) := hw
  refine lv_iload X.1.1 X.1.2.1 dL_areWidths_409 (lv_at hl 4 rfl) ?_
  refine sa_if_eq (tgt := 454) X.1 hy11 dL_areWidths_411 (by decide) (fun hc => ?_) (fun hc => ?_)
  · have hw := hw.1 hc
    exact t_L_areWidths_454 X N hlt hb _ hw _ _ (by omega) (by omega) _ _ hR hS _ (lv_sub hl [] rfl)
  · have hw := hw.2 hc
    refine lv_aload_n X.1.1 X.1.2.1 dL_areWidths_414 rfl (lv_at hl 0 rfl) ?_
    refine cs_X9_over X  (kc := 10) rmX_ok ⟨by show _ ≤ 44; omega, by show _ ≤ 264; omega⟩ (by decide) hR hS kw_1309 hl.1 dL_areWidths_415 (Nat.le_of_ble_eq_true rfl) hw (fun x11 M10 H locs hw r12 hR hS => ?_)
    refine lv_iload X.1.1 X.1.2.1 dL_areWidths_418 (lv_at hl 2 rfl) ?_
    refine lv_aload X.1.1 X.1.2.1 dL_areWidths_420 (lv_at hl 1 rfl) ?_
    refine sa_const X.1 dL_areWidths_422 ?_
    refine ra_112 X hR (okf X.2.2.1 rfl) ⟨by decide, by decide⟩ dL_areWidths_423 ?_
    have r13 := hR.r 112 0 3
    have s15 := hw.1
    have hw := hw.2
    have c16 := hw.1
    have hw := hw.2
    refine cut_j (A := ∀ v17 : Int, v17 = (if y9 ≤ (M10 112 0 3) then (0 : Int) else (y9 - (M10 112 0 3))) → WU p l e 10 44 264 s m args below meth c G e0 α0 κ0 B Qm H locs cl sl 438 ls [.int (Int32.ofInt v17), .int (Int32.ofInt x11)]) (fun J18 => ?_) ?_
    · refine sa_icmp_le (tgt := 437) X.1 hy9 r13 dL_areWidths_424 (by decide) (fun hc => ?_) (fun hc => ?_)
      · skip
        refine sa_const X.1 dL_areWidths_437 ?_
        exact J18 (0) (if_pos (c := y9 ≤ (M10 112 0 3)) hc).symm
      · have hw := s15 hc
        refine lv_iload X.1.1 X.1.2.1 dL_areWidths_427 (lv_at hl 2 rfl) ?_
        refine lv_aload X.1.1 X.1.2.1 dL_areWidths_429 (lv_at hl 1 rfl) ?_
        refine sa_const X.1 dL_areWidths_431 ?_
        refine ra_112 X hR (okf X.2.2.1 rfl) ⟨by decide, by decide⟩ dL_areWidths_432 ?_
        have c14 := hw.1
        have hw := hw.2
        refine sa_isub X.1 dL_areWidths_433 ?_
        refine lv_goto (tgt := 438) X.1.1 X.1.2.1 dL_areWidths_434 (by decide) ?_
        exact J18 ((y9 - (M10 112 0 3))) (if_neg (c := y9 ≤ (M10 112 0 3)) (Int.not_le.mpr hc)).symm
    intro v17 hv17
    subst hv17
    refine sa_icmp_ne (tgt := 454) X.1 r12 c16 dL_areWidths_438 (by decide) (fun hc => ?_) (fun hc => ?_)
    · have hw := hw.1 hc
      exact t_L_areWidths_454 X N hlt hb _ hw _ _ (by omega) (by omega) _ _ hR hS _ (lv_sub hl [] rfl)
    · have hw := hw.2 hc
      refine lv_aload_n X.1.1 X.1.2.1 dL_areWidths_441 rfl (lv_at hl 0 rfl) ?_
      refine cs_X9_tableHeight X  (kc := 10) rmX_ok ⟨by show _ ≤ 44; omega, by show _ ≤ 264; omega⟩ (by decide) hR hS kw_1319 hl.1 dL_areWidths_442 (Nat.le_of_ble_eq_true rfl) hw (fun x20 M19 H locs hw r21 hR hS => ?_)
      refine lv_iload X.1.1 X.1.2.1 dL_areWidths_445 (lv_at hl 3 rfl) ?_
      have r22 := inR_ite (c := ¬ x20 = y10) (inR_c (a := 0) rfl) (inR_c (a := 1) rfl)
      refine cut_j (A := ∀ v23 : Int, v23 = (if ¬ x20 = y10 then (0 : Int) else 1) → WU p l e 10 44 264 s m args below meth c G e0 α0 κ0 B Qm H locs cl sl 455 ls [.int (Int32.ofInt v23)]) (fun J24 => ?_) ?_
      · refine sa_icmp_ne (tgt := 454) X.1 r21 hy10 dL_areWidths_447 (by decide) (fun hc => ?_) (fun hc => ?_)
        · skip
          refine sa_const X.1 dL_areWidths_454 ?_
          exact J24 (0) (if_pos (c := ¬ x20 = y10) hc).symm
        · skip
          refine sa_const X.1 dL_areWidths_450 ?_
          refine lv_goto (tgt := 455) X.1.1 X.1.2.1 dL_areWidths_451 (by decide) ?_
          exact J24 (1) (if_neg (c := ¬ x20 = y10) (fun z => z hc)).symm
      intro v23 hv23
      subst hv23
      have c25 := hw.1
      have hw := hw.2
      exact su_zret X hb hR hS c25 hw dL_areWidths_455 (by omega) (by omega)
set_option maxHeartbeats 4000000 in
set_option maxRecDepth 100000 in
theorem t_L_areWidths_400 {α0 : Ax} {κ0 : Nat → Int} (X : CX p m c cL_areWidths 15 s args RL G B κ meth (some .boolean)) (N : NcA s) (hlt : l.stackTraces = false) (hb : Bk G e0 α κ α0 κ0 B) {Qm : Int → Mem → Prop} {rk rks : Nat} {K235 : Int → Int → Int → Int → Mem → Prop} (hK235 : ∀ y9 : Int, ∀ y10 : Int, ∀ y11 : Int, ∀ y12 : Int, ∀ M : Mem, K235 y9 y10 y11 y12 M → inR y9 → inR y10 → inR y11 → inR y12 → ∀ cl sl : Nat, cl + rk ≤ 44 → sl + rks ≤ 264 → ∀ (H : Heap) (locs : List Loc), Rp G e0 α κ B M H → va_S (fun q => B ≤ q) s.heap H locs → ∀ (ls : Array Slot), lv_has ls 15 [(0, .ref (α 10 0)), (1, .ref (α 104 0)), (4, .ref (α 107 0)), (5, .ref (α 108 0)), (6, .ref (α 109 0)), (7, .ref (α 112 0)), (8, .ref (α 113 0)), (9, .int (Int32.ofInt y9)), (10, .int (Int32.ofInt y10)), (11, .int (Int32.ofInt y11)), (12, .int (Int32.ofInt y12))] → WU p l e 10 44 264 s m args below meth c G e0 α0 κ0 B Qm H locs cl sl 235 ls []) (hrk : 0 ≤ rk ∧ 0 ≤ rks) : ∀ y9 : Int, ∀ y10 : Int, ∀ y12 : Int, ∀ M : Mem, wp_L_areWidths_400 Qm K235 y9 y10 y12 M → inR y9 → inR y10 → inR y12 → ∀ cl sl : Nat, cl + (0 + rk) ≤ 44 → sl + (0 + rks) ≤ 264 → ∀ (H : Heap) (locs : List Loc), Rp G e0 α κ B M H → va_S (fun q => B ≤ q) s.heap H locs → ∀ (ls : Array Slot), lv_has ls 15 [(0, .ref (α 10 0)), (1, .ref (α 104 0)), (4, .ref (α 107 0)), (5, .ref (α 108 0)), (6, .ref (α 109 0)), (7, .ref (α 112 0)), (8, .ref (α 113 0)), (9, .int (Int32.ofInt y9)), (10, .int (Int32.ofInt y10)), (12, .int (Int32.ofInt y12))] → WU p l e 10 44 264 s m args below meth c G e0 α0 κ0 B Qm H locs cl sl 400 ls [] := by
  intro y9 y10 y12 M hw hy9 hy10 hy12 cl sl hc1 hc2 H locs hR hS ls hl
  have hw : (inR (y12 + 1)) ∧ K235 y9 y10 0 (y12 + 1) M := hw
  refine sa_const X.1 dL_areWidths_400 ?_
  refine lv_istore (lv' := [(11, .int (Int32.ofInt 0)), (0, .ref (α 10 0)), (1, .ref (α 104 0)), (4, .ref (α 107 0)), (5, .ref (α 108 0)), (6, .ref (α 109 0)), (7, .ref (α 112 0)), (8, .ref (α 113 0)), (9, .int (Int32.ofInt y9)), (10, .int (Int32.ofInt y10)), (12, .int (Int32.ofInt y12))]) X.1.1 X.1.2.1 dL_areWidths_401 hl (by decide) rfl (fun ls hl => ?_)
  have c40 := hw.1
  have hw := hw.2
  refine lv_iinc (v := Int32.ofInt (y12 + 1)) (lv' := [(12, .int (Int32.ofInt (y12 + 1))), (11, .int (Int32.ofInt 0)), (0, .ref (α 10 0)), (1, .ref (α 104 0)), (4, .ref (α 107 0)), (5, .ref (α 108 0)), (6, .ref (α 109 0)), (7, .ref (α 112 0)), (8, .ref (α 113 0)), (9, .int (Int32.ofInt y9)), (10, .int (Int32.ofInt y10))]) X.1.1 X.1.2.1 dL_areWidths_403 hl (k := 10) rfl (Int32.ofInt_add _ _).symm (by decide) rfl (fun ls hl => ?_)
  refine lv_goto (tgt := 235) X.1.1 X.1.2.1 dL_areWidths_406 (by decide) ?_
  exact hK235 _ _ _ _ _ hw hy9 hy10 (inR_c (a := 0) rfl) c40 _ _ (by omega) (by omega) _ _ hR hS _ (lv_sub hl [2, 3, 4, 5, 6, 7, 8, 9, 10, 1, 0] rfl)
set_option maxHeartbeats 4000000 in
set_option maxRecDepth 100000 in
theorem t_L_areWidths_393 {α0 : Ax} {κ0 : Nat → Int} (X : CX p m c cL_areWidths 15 s args RL G B κ meth (some .boolean)) (N : NcA s) (hlt : l.stackTraces = false) (hb : Bk G e0 α κ α0 κ0 B) {Qm : Int → Mem → Prop} {rk rks : Nat} {K235 : Int → Int → Int → Int → Mem → Prop} (hK235 : ∀ y9 : Int, ∀ y10 : Int, ∀ y11 : Int, ∀ y12 : Int, ∀ M : Mem, K235 y9 y10 y11 y12 M → inR y9 → inR y10 → inR y11 → inR y12 → ∀ cl sl : Nat, cl + rk ≤ 44 → sl + rks ≤ 264 → ∀ (H : Heap) (locs : List Loc), Rp G e0 α κ B M H → va_S (fun q => B ≤ q) s.heap H locs → ∀ (ls : Array Slot), lv_has ls 15 [(0, .ref (α 10 0)), (1, .ref (α 104 0)), (4, .ref (α 107 0)), (5, .ref (α 108 0)), (6, .ref (α 109 0)), (7, .ref (α 112 0)), (8, .ref (α 113 0)), (9, .int (Int32.ofInt y9)), (10, .int (Int32.ofInt y10)), (11, .int (Int32.ofInt y11)), (12, .int (Int32.ofInt y12))] → WU p l e 10 44 264 s m args below meth c G e0 α0 κ0 B Qm H locs cl sl 235 ls []) (hrk : 0 ≤ rk ∧ 0 ≤ rks) : ∀ y9 : Int, ∀ y10 : Int, ∀ y12 : Int, ∀ z0 : Int, ∀ z1 : Int, ∀ M : Mem, wp_L_areWidths_393 Qm K235 y9 y10 y12 z0 z1 M → inR y9 → inR y10 → inR y12 → inR z0 → inR z1 → ∀ cl sl : Nat, cl + (0 + rk) ≤ 44 → sl + (0 + rks) ≤ 264 → ∀ (H : Heap) (locs : List Loc), Rp G e0 α κ B M H → va_S (fun q => B ≤ q) s.heap H locs → ∀ (ls : Array Slot), lv_has ls 15 [(0, .ref (α 10 0)), (1, .ref (α 104 0)), (4, .ref (α 107 0)), (5, .ref (α 108 0)), (6, .ref (α 109 0)), (7, .ref (α 112 0)), (8, .ref (α 113 0)), (9, .int (Int32.ofInt y9)), (10, .int (Int32.ofInt y10)), (12, .int (Int32.ofInt y12))] → WU p l e 10 44 264 s m args below meth c G e0 α0 κ0 B Qm H locs cl sl 393 ls [.int (Int32.ofInt z0), .int (Int32.ofInt z1)] := by
  intro y9 y10 y12 z0 z1 M hw hy9 hy10 hy12 hz0 hz1 cl sl hc1 hc2 H locs hR hS ls hl
  have hw : (inR (y12 + 1)) ∧ K235 y9 y10 (if ¬ z1 = z0 then (0 : Int) else 1) (y12 + 1) M := hw
  have r47 := inR_ite (c := ¬ z1 = z0) (inR_c (a := 0) rfl) (inR_c (a := 1) rfl)
  refine cut_j (A := ∀ v48 : Int, v48 = (if ¬ z1 = z0 then (0 : Int) else 1) → WU p l e 10 44 264 s m args below meth c G e0 α0 κ0 B Qm H locs cl sl 401 ls [.int (Int32.ofInt v48)]) (fun J49 => ?_) ?_
  · refine sa_icmp_ne (tgt := 400) X.1 hz1 hz0 dL_areWidths_393 (by decide) (fun hc => ?_) (fun hc => ?_)
    · skip
      refine sa_const X.1 dL_areWidths_400 ?_
      exact J49 (0) (if_pos (c := ¬ z1 = z0) hc).symm
    · skip
      refine sa_const X.1 dL_areWidths_396 ?_
      refine lv_goto (tgt := 401) X.1.1 X.1.2.1 dL_areWidths_397 (by decide) ?_
      exact J49 (1) (if_neg (c := ¬ z1 = z0) (fun z => z hc)).symm
  intro v48 hv48
  subst hv48
  refine lv_istore (lv' := [(11, .int (Int32.ofInt (if ¬ z1 = z0 then (0 : Int) else 1))), (0, .ref (α 10 0)), (1, .ref (α 104 0)), (4, .ref (α 107 0)), (5, .ref (α 108 0)), (6, .ref (α 109 0)), (7, .ref (α 112 0)), (8, .ref (α 113 0)), (9, .int (Int32.ofInt y9)), (10, .int (Int32.ofInt y10)), (12, .int (Int32.ofInt y12))]) X.1.1 X.1.2.1 dL_areWidths_401 hl (by decide) rfl (fun ls hl => ?_)
  have c50 := hw.1
  have hw := hw.2
  refine lv_iinc (v := Int32.ofInt (y12 + 1)) (lv' := [(12, .int (Int32.ofInt (y12 + 1))), (11, .int (Int32.ofInt (if ¬ z1 = z0 then (0 : Int) else 1))), (0, .ref (α 10 0)), (1, .ref (α 104 0)), (4, .ref (α 107 0)), (5, .ref (α 108 0)), (6, .ref (α 109 0)), (7, .ref (α 112 0)), (8, .ref (α 113 0)), (9, .int (Int32.ofInt y9)), (10, .int (Int32.ofInt y10))]) X.1.1 X.1.2.1 dL_areWidths_403 hl (k := 10) rfl (Int32.ofInt_add _ _).symm (by decide) rfl (fun ls hl => ?_)
  refine lv_goto (tgt := 235) X.1.1 X.1.2.1 dL_areWidths_406 (by decide) ?_
  exact hK235 _ _ _ _ _ hw hy9 hy10 r47 c50 _ _ (by omega) (by omega) _ _ hR hS _ (lv_sub hl [2, 3, 4, 5, 6, 7, 8, 9, 10, 1, 0] rfl)
set_option maxHeartbeats 4000000 in
set_option maxRecDepth 100000 in
theorem t_L_areWidths_277 {α0 : Ax} {κ0 : Nat → Int} (X : CX p m c cL_areWidths 15 s args RL G B κ meth (some .boolean)) (N : NcA s) (hlt : l.stackTraces = false) (hb : Bk G e0 α κ α0 κ0 B) {Qm : Int → Mem → Prop} {rk rks : Nat} {K235 : Int → Int → Int → Int → Mem → Prop} (hK235 : ∀ y9 : Int, ∀ y10 : Int, ∀ y11 : Int, ∀ y12 : Int, ∀ M : Mem, K235 y9 y10 y11 y12 M → inR y9 → inR y10 → inR y11 → inR y12 → ∀ cl sl : Nat, cl + rk ≤ 44 → sl + rks ≤ 264 → ∀ (H : Heap) (locs : List Loc), Rp G e0 α κ B M H → va_S (fun q => B ≤ q) s.heap H locs → ∀ (ls : Array Slot), lv_has ls 15 [(0, .ref (α 10 0)), (1, .ref (α 104 0)), (4, .ref (α 107 0)), (5, .ref (α 108 0)), (6, .ref (α 109 0)), (7, .ref (α 112 0)), (8, .ref (α 113 0)), (9, .int (Int32.ofInt y9)), (10, .int (Int32.ofInt y10)), (11, .int (Int32.ofInt y11)), (12, .int (Int32.ofInt y12))] → WU p l e 10 44 264 s m args below meth c G e0 α0 κ0 B Qm H locs cl sl 235 ls []) (hrk : 0 ≤ rk ∧ 0 ≤ rks) : ∀ y9 : Int, ∀ y10 : Int, ∀ y12 : Int, ∀ M : Mem, wp_L_areWidths_277 Qm K235 y9 y10 y12 M → inR y9 → inR y10 → inR y12 → ∀ cl sl : Nat, cl + (4 + rk) ≤ 44 → sl + (24 + rks) ≤ 264 → ∀ (H : Heap) (locs : List Loc), Rp G e0 α κ B M H → va_S (fun q => B ≤ q) s.heap H locs → ∀ (ls : Array Slot), lv_has ls 15 [(0, .ref (α 10 0)), (1, .ref (α 104 0)), (4, .ref (α 107 0)), (5, .ref (α 108 0)), (6, .ref (α 109 0)), (7, .ref (α 112 0)), (8, .ref (α 113 0)), (9, .int (Int32.ofInt y9)), (10, .int (Int32.ofInt y10)), (12, .int (Int32.ofInt y12))] → WU p l e 10 44 264 s m args below meth c G e0 α0 κ0 B Qm H locs cl sl 277 ls [] := by
  intro y9 y10 y12 M hw hy9 hy10 hy12 cl sl hc1 hc2 H locs hR hS ls hl
  have hw : (inR (6 * y12)) ∧ (inR ((6 * y12) + 1)) ∧ (0 ≤ ((6 * y12) + 1) ∧ ((6 * y12) + 1) < 60) ∧ wo_X9_lines y12 M fun (x35 : Int) (M34 : Mem) => wp_L_lines y12 M34 fun (x38 : Int) (M37 : Mem) => ((¬ x35 = x38 → wp_L_areWidths_400 Qm K235 y9 y10 y12 M37) ∧ (x35 = x38 → wp_L_point 0 y12 M37 fun (x41 : Int) (M43 : Mem) => ((¬ x41 = (-7) → wp_L_areWidths_400 Qm K235 y9 y10 y12 M43) ∧ (x41 = (-7) → wp_L_point 1 y12 M43 fun (x44 : Int) (M46 : Mem) => wp_L_areWidths_393 Qm K235 y9 y10 y12 (-7) x44 M46)))) := hw
  refine sa_const X.1 dL_areWidths_277 ?_
  refine lv_istore (lv' := [(13, .int (Int32.ofInt 0)), (0, .ref (α 10 0)), (1, .ref (α 104 0)), (4, .ref (α 107 0)), (5, .ref (α 108 0)), (6, .ref (α 109 0)), (7, .ref (α 112 0)), (8, .ref (α 113 0)), (9, .int (Int32.ofInt y9)), (10, .int (Int32.ofInt y10)), (12, .int (Int32.ofInt y12))]) X.1.1 X.1.2.1 dL_areWidths_278 hl (by decide) rfl (fun ls hl => ?_)
  refine lv_aload X.1.1 X.1.2.1 dL_areWidths_280 (lv_at hl 3 rfl) ?_
  refine sa_bipush X.1 dL_areWidths_282 (by decide) ?_
  refine lv_iload X.1.1 X.1.2.1 dL_areWidths_284 (lv_at hl 10 rfl) ?_
  have c30 := hw.1
  have hw := hw.2
  refine sa_imul X.1 dL_areWidths_286 ?_
  refine sa_const X.1 dL_areWidths_287 ?_
  have c31 := hw.1
  have hw := hw.2
  refine sa_iadd X.1 dL_areWidths_288 ?_
  have c32 := hw.1
  have hw := hw.2
  refine ra_107 X hR (okf X.2.2.1 rfl) c32 dL_areWidths_289 ?_
  have r33 := hR.r 107 0 ((6 * y12) + 1)
  refine lv_istore (lv' := [(14, .int (Int32.ofInt (M 107 0 ((6 * y12) + 1)))), (13, .int (Int32.ofInt 0)), (0, .ref (α 10 0)), (1, .ref (α 104 0)), (4, .ref (α 107 0)), (5, .ref (α 108 0)), (6, .ref (α 109 0)), (7, .ref (α 112 0)), (8, .ref (α 113 0)), (9, .int (Int32.ofInt y9)), (10, .int (Int32.ofInt y10)), (12, .int (Int32.ofInt y12))]) X.1.1 X.1.2.1 dL_areWidths_290 hl (by decide) rfl (fun ls hl => ?_)
  refine lv_aload_n X.1.1 X.1.2.1 dL_areWidths_292 rfl (lv_at hl 2 rfl) ?_
  refine lv_iload X.1.1 X.1.2.1 dL_areWidths_293 (lv_at hl 11 rfl) ?_
  refine co_X9_lines X hy12 (kc := 10) rmX_ok ⟨by show _ ≤ 44; omega, by show _ ≤ 264; omega⟩ (by decide) hR hS kw_1287 hl.1 dL_areWidths_295 (Nat.le_of_ble_eq_true rfl) hw (fun x35 M34 H locs hw r36 hR hS => ?_)
  refine lv_aload_n X.1.1 X.1.2.1 dL_areWidths_298 rfl (lv_at hl 3 rfl) ?_
  refine lv_aload X.1.1 X.1.2.1 dL_areWidths_299 (lv_at hl 4 rfl) ?_
  refine lv_aload X.1.1 X.1.2.1 dL_areWidths_301 (lv_at hl 5 rfl) ?_
  refine lv_aload X.1.1 X.1.2.1 dL_areWidths_303 (lv_at hl 8 rfl) ?_
  refine lv_iload X.1.1 X.1.2.1 dL_areWidths_305 (lv_at hl 11 rfl) ?_
  refine cs_L_lines X hy12 (kc := 10) rmX_ok ⟨by show _ ≤ 44; omega, by show _ ≤ 264; omega⟩ (by decide) hR hS kw_1254 hl.1 dL_areWidths_307 (Nat.le_of_ble_eq_true rfl) hw (fun x38 M37 H locs hw r39 hR hS => ?_)
  refine sa_icmp_ne (tgt := 400) X.1 r36 r39 dL_areWidths_310 (by decide) (fun hc => ?_) (fun hc => ?_)
  · have hw := hw.1 hc
    exact t_L_areWidths_400 X N hlt hb hK235 (by omega) _ _ _ _ hw hy9 hy10 hy12 _ _ (by omega) (by omega) _ _ hR hS _ (lv_sub hl [2, 3, 4, 5, 6, 7, 8, 9, 10, 11] rfl)
  · have hw := hw.2 hc
    refine lv_aload_n X.1.1 X.1.2.1 dL_areWidths_313 rfl (lv_at hl 2 rfl) ?_
    refine sa_const X.1 dL_areWidths_314 ?_
    refine lv_iload X.1.1 X.1.2.1 dL_areWidths_315 (lv_at hl 11 rfl) ?_
    refine sc_call 9 (n := 3) (As := [.ref (α 10 0), .int (Int32.ofInt 0), .int (Int32.ofInt y12)]) (rest := []) X N hR hS (w_L_point hlt X.2.2.1 (inR_c (a := 0) rfl) hy12 hw) kw_1291 kw_1292 kw_37 kw_1293 ⟨by decide +kernel, by decide +kernel, by decide +kernel⟩ (rm_ok rmX_ok (by decide) (by decide)) rfl rfl (Nat.le_of_ble_eq_true rfl) hl.1 dL_areWidths_317 ⟨by show _ ≤ 44; omega, by show _ ≤ 264; omega⟩ (fun x41 M43 H locs hw r42 hR hS => ?_)
    refine lv_iload X.1.1 X.1.2.1 dL_areWidths_320 (lv_at hl 1 rfl) ?_
    refine sa_if_eq (tgt := 345) X.1 (inR_c (a := 0) rfl) dL_areWidths_322 (by decide) (fun hc => ?_) (fun hc => absurd hc (by decide))
    refine sa_bipush X.1 dL_areWidths_345 (by decide) ?_
    refine sa_icmp_ne (tgt := 400) X.1 r42 (inR_c (a := -7) rfl) dL_areWidths_347 (by decide) (fun hc => ?_) (fun hc => ?_)
    · have hw := hw.1 hc
      exact t_L_areWidths_400 X N hlt hb hK235 (by omega) _ _ _ _ hw hy9 hy10 hy12 _ _ (by omega) (by omega) _ _ hR hS _ (lv_sub hl [2, 3, 4, 5, 6, 7, 8, 9, 10, 11] rfl)
    · have hw := hw.2 hc
      refine lv_aload_n X.1.1 X.1.2.1 dL_areWidths_350 rfl (lv_at hl 2 rfl) ?_
      refine sa_const X.1 dL_areWidths_351 ?_
      refine lv_iload X.1.1 X.1.2.1 dL_areWidths_352 (lv_at hl 11 rfl) ?_
      refine sc_call 9 (n := 3) (As := [.ref (α 10 0), .int (Int32.ofInt 1), .int (Int32.ofInt y12)]) (rest := []) X N hR hS (w_L_point hlt X.2.2.1 (inR_c (a := 1) rfl) hy12 hw) kw_1291 kw_1292 kw_37 kw_1293 ⟨by decide +kernel, by decide +kernel, by decide +kernel⟩ (rm_ok rmX_ok (by decide) (by decide)) rfl rfl (Nat.le_of_ble_eq_true rfl) hl.1 dL_areWidths_354 ⟨by show _ ≤ 44; omega, by show _ ≤ 264; omega⟩ (fun x44 M46 H locs hw r45 hR hS => ?_)
      refine lv_iload X.1.1 X.1.2.1 dL_areWidths_357 (lv_at hl 1 rfl) ?_
      refine sa_if_eq (tgt := 391) X.1 (inR_c (a := 0) rfl) dL_areWidths_359 (by decide) (fun hc => ?_) (fun hc => absurd hc (by decide))
      refine sa_bipush X.1 dL_areWidths_391 (by decide) ?_
      exact t_L_areWidths_393 X N hlt hb hK235 (by omega) _ _ _ _ _ _ hw hy9 hy10 hy12 (inR_c (a := -7) rfl) r45 _ _ (by omega) (by omega) _ _ hR hS _ (lv_sub hl [2, 3, 4, 5, 6, 7, 8, 9, 10, 11] rfl)
set_option maxHeartbeats 4000000 in
set_option maxRecDepth 100000 in
theorem t_L_areWidths_235 {α0 : Ax} {κ0 : Nat → Int} (X : CX p m c cL_areWidths 15 s args RL G B κ meth (some .boolean)) (N : NcA s) (hlt : l.stackTraces = false) (hb : Bk G e0 α κ α0 κ0 B) {Qm : Int → Mem → Prop} : ∀ n : Nat, ∀ y9 : Int, ∀ y10 : Int, ∀ y11 : Int, ∀ y12 : Int, ∀ M : Mem, wp_L_areWidths_235 Qm n y9 y10 y11 y12 M → inR y9 → inR y10 → inR y11 → inR y12 → ∀ cl sl : Nat, cl + (4 * n + 0) ≤ 44 → sl + (24 * n + 0) ≤ 264 → ∀ (H : Heap) (locs : List Loc), Rp G e0 α κ B M H → va_S (fun q => B ≤ q) s.heap H locs → ∀ (ls : Array Slot), lv_has ls 15 [(0, .ref (α 10 0)), (1, .ref (α 104 0)), (4, .ref (α 107 0)), (5, .ref (α 108 0)), (6, .ref (α 109 0)), (7, .ref (α 112 0)), (8, .ref (α 113 0)), (9, .int (Int32.ofInt y9)), (10, .int (Int32.ofInt y10)), (11, .int (Int32.ofInt y11)), (12, .int (Int32.ofInt y12))] → WU p l e 10 44 264 s m args below meth c G e0 α0 κ0 B Qm H locs cl sl 235 ls [] := by
  intro n
  induction n with
  | zero =>
    intro y9 y10 y11 y12 M hw hy9 hy10 hy11 hy12 cl sl hc1 hc2 H locs hR hS ls hl
    exact hw.elim
  | succ n ih =>
    intro y9 y10 y11 y12 M hw hy9 hy10 hy11 hy12 cl sl hc1 hc2 H locs hR hS ls hl
    have hw : (((M 112 0 2) ≤ y12 → wp_L_areWidths_409 Qm y9 y10 y11 M) ∧ (y12 < (M 112 0 2) → ((y11 = 0 → wp_L_areWidths_409 Qm y9 y10 y11 M) ∧ (¬ y11 = 0 → (inR (6 * y12)) ∧ (inR ((6 * y12) + 5)) ∧ (0 ≤ ((6 * y12) + 5) ∧ ((6 * y12) + 5) < 60) ∧ (((M 107 0 ((6 * y12) + 5)) < 0 → wp_L_areWidths_277 Qm (wp_L_areWidths_235 Qm n) y9 y10 y12 M) ∧ (0 ≤ (M 107 0 ((6 * y12) + 5)) → wp_L_shows y12 M fun (x52 : Int) (M51 : Mem) => (inR (6 * y12)) ∧ (inR ((6 * y12) + 1)) ∧ (0 ≤ ((6 * y12) + 1) ∧ ((6 * y12) + 1) < 60) ∧ wo_X9_lines y12 M51 fun (x62 : Int) (M61 : Mem) => wp_L_lines y12 M61 fun (x65 : Int) (M64 : Mem) => ((¬ x62 = x65 → wp_L_areWidths_400 Qm (wp_L_areWidths_235 Qm n) y9 y10 y12 M64) ∧ (x62 = x65 → wp_L_point 0 y12 M64 fun (x67 : Int) (M69 : Mem) => (¬ (if x52 ≤ 0 then (0 : Int) else 1) = 0 → (inR (8 + (M51 107 0 ((6 * y12) + 1)))) ∧ (0 ≤ (8 + (M51 107 0 ((6 * y12) + 1))) ∧ (8 + (M51 107 0 ((6 * y12) + 1))) < 30) ∧ (inR (16 + (M51 107 0 ((6 * y12) + 1)))) ∧ (0 ≤ (16 + (M51 107 0 ((6 * y12) + 1))) ∧ (16 + (M51 107 0 ((6 * y12) + 1))) < 30) ∧ (inR ((M69 113 0 (8 + (M51 107 0 ((6 * y12) + 1)))) - (M69 113 0 (16 + (M51 107 0 ((6 * y12) + 1)))))) ∧ True) ∧ (inR (if (if x52 ≤ 0 then (0 : Int) else 1) = 0 then ((-7) : Int) else ((M69 113 0 (8 + (M51 107 0 ((6 * y12) + 1)))) - (M69 113 0 (16 + (M51 107 0 ((6 * y12) + 1))))))) ∧ ((¬ x67 = (if (if x52 ≤ 0 then (0 : Int) else 1) = 0 then ((-7) : Int) else ((M69 113 0 (8 + (M51 107 0 ((6 * y12) + 1)))) - (M69 113 0 (16 + (M51 107 0 ((6 * y12) + 1)))))) → wp_L_areWidths_400 Qm (wp_L_areWidths_235 Qm n) y9 y10 y12 M69) ∧ (x67 = (if (if x52 ≤ 0 then (0 : Int) else 1) = 0 then ((-7) : Int) else ((M69 113 0 (8 + (M51 107 0 ((6 * y12) + 1)))) - (M69 113 0 (16 + (M51 107 0 ((6 * y12) + 1)))))) → wp_L_point 1 y12 M69 fun (x79 : Int) (M81 : Mem) => (((if x52 ≤ 0 then (0 : Int) else 1) = 0 → wp_L_areWidths_393 Qm (wp_L_areWidths_235 Qm n) y9 y10 y12 (-7) x79 M81) ∧ (¬ (if x52 ≤ 0 then (0 : Int) else 1) = 0 → (inR (8 + (M51 107 0 ((6 * y12) + 1)))) ∧ (0 ≤ (8 + (M51 107 0 ((6 * y12) + 1))) ∧ (8 + (M51 107 0 ((6 * y12) + 1))) < 30) ∧ (inR (16 + (M51 107 0 ((6 * y12) + 1)))) ∧ (0 ≤ (16 + (M51 107 0 ((6 * y12) + 1))) ∧ (16 + (M51 107 0 ((6 * y12) + 1))) < 30) ∧ (inR ((M81 113 0 (8 + (M51 107 0 ((6 * y12) + 1)))) - (M81 113 0 (16 + (M51 107 0 ((6 * y12) + 1)))))) ∧ (0 ≤ y12 ∧ y12 < 10) ∧ wp_L_leftOf (M81 109 0 y12) M81 fun (x92 : Int) (M91 : Mem) => (inR (((M81 113 0 (8 + (M51 107 0 ((6 * y12) + 1)))) - (M81 113 0 (16 + (M51 107 0 ((6 * y12) + 1))))) - x92)) ∧ wp_L_areWidths_393 Qm (wp_L_areWidths_235 Qm n) y9 y10 y12 (((M81 113 0 (8 + (M51 107 0 ((6 * y12) + 1)))) - (M81 113 0 (16 + (M51 107 0 ((6 * y12) + 1))))) - x92) x79 M91)))))))))))) := hw
    refine lv_iload X.1.1 X.1.2.1 dL_areWidths_235 (lv_at hl 10 rfl) ?_
    refine lv_aload X.1.1 X.1.2.1 dL_areWidths_237 (lv_at hl 5 rfl) ?_
    refine sa_const X.1 dL_areWidths_239 ?_
    refine ra_112 X hR (okf X.2.2.1 rfl) ⟨by decide, by decide⟩ dL_areWidths_240 ?_
    have r9 := hR.r 112 0 2
    refine sa_icmp_ge (tgt := 409) X.1 hy12 r9 dL_areWidths_241 (by decide) (fun hc => ?_) (fun hc => ?_)
    · have hw := hw.1 hc
      exact t_L_areWidths_409 X N hlt hb _ _ _ _ hw hy9 hy10 hy11 _ _ (by omega) (by omega) _ _ hR hS _ (lv_sub hl [0, 5, 7, 8, 9] rfl)
    · have hw := hw.2 hc
      refine lv_iload X.1.1 X.1.2.1 dL_areWidths_244 (lv_at hl 9 rfl) ?_
      refine sa_if_eq (tgt := 409) X.1 hy11 dL_areWidths_246 (by decide) (fun hc => ?_) (fun hc => ?_)
      · have hw := hw.1 hc
        exact t_L_areWidths_409 X N hlt hb _ _ _ _ hw hy9 hy10 hy11 _ _ (by omega) (by omega) _ _ hR hS _ (lv_sub hl [0, 5, 7, 8, 9] rfl)
      · have hw := hw.2 hc
        refine lv_aload X.1.1 X.1.2.1 dL_areWidths_249 (lv_at hl 2 rfl) ?_
        refine sa_bipush X.1 dL_areWidths_251 (by decide) ?_
        refine lv_iload X.1.1 X.1.2.1 dL_areWidths_253 (lv_at hl 10 rfl) ?_
        have c26 := hw.1
        have hw := hw.2
        refine sa_imul X.1 dL_areWidths_255 ?_
        refine sa_const X.1 dL_areWidths_256 ?_
        have c27 := hw.1
        have hw := hw.2
        refine sa_iadd X.1 dL_areWidths_257 ?_
        have c28 := hw.1
        have hw := hw.2
        refine ra_107 X hR (okf X.2.2.1 rfl) c28 dL_areWidths_258 ?_
        have r29 := hR.r 107 0 ((6 * y12) + 5)
        refine sa_if_lt (tgt := 277) X.1 r29 dL_areWidths_259 (by decide) (fun hc => ?_) (fun hc => ?_)
        · have hw := hw.1 hc
          exact t_L_areWidths_277 X N hlt hb ih (by omega) _ _ _ _ hw hy9 hy10 hy12 _ _ (by omega) (by omega) _ _ hR hS _ (lv_sub hl [0, 1, 2, 3, 4, 5, 6, 7, 8, 10] rfl)
        · have hw := hw.2 hc
          refine lv_aload_n X.1.1 X.1.2.1 dL_areWidths_262 rfl (lv_at hl 1 rfl) ?_
          refine lv_aload X.1.1 X.1.2.1 dL_areWidths_263 (lv_at hl 2 rfl) ?_
          refine lv_iload X.1.1 X.1.2.1 dL_areWidths_265 (lv_at hl 10 rfl) ?_
          refine cs_L_shows X hy12 (kc := 10) rmX_ok ⟨by show _ ≤ 44; omega, by show _ ≤ 264; omega⟩ (by decide) hR hS kw_1235 hl.1 dL_areWidths_267 (Nat.le_of_ble_eq_true rfl) hw (fun x52 M51 H locs hw r53 hR hS => ?_)
          have r54 := inR_ite (c := x52 ≤ 0) (inR_c (a := 0) rfl) (inR_c (a := 1) rfl)
          refine cut_j (A := ∀ v55 : Int, v55 = (if x52 ≤ 0 then (0 : Int) else 1) → WU p l e 10 44 264 s m args below meth c G e0 α0 κ0 B Qm H locs cl sl 278 ls [.int (Int32.ofInt v55)]) (fun J56 => ?_) ?_
          · refine sa_if_le (tgt := 277) X.1 r53 dL_areWidths_270 (by decide) (fun hc => ?_) (fun hc => ?_)
            · skip
              refine sa_const X.1 dL_areWidths_277 ?_
              exact J56 (0) (if_pos (c := x52 ≤ 0) hc).symm
            · skip
              refine sa_const X.1 dL_areWidths_273 ?_
              refine lv_goto (tgt := 278) X.1.1 X.1.2.1 dL_areWidths_274 (by decide) ?_
              exact J56 (1) (if_neg (c := x52 ≤ 0) (Int.not_le.mpr hc)).symm
          intro v55 hv55
          subst hv55
          refine lv_istore (lv' := [(13, .int (Int32.ofInt (if x52 ≤ 0 then (0 : Int) else 1))), (0, .ref (α 10 0)), (1, .ref (α 104 0)), (4, .ref (α 107 0)), (5, .ref (α 108 0)), (6, .ref (α 109 0)), (7, .ref (α 112 0)), (8, .ref (α 113 0)), (9, .int (Int32.ofInt y9)), (10, .int (Int32.ofInt y10)), (11, .int (Int32.ofInt y11)), (12, .int (Int32.ofInt y12))]) X.1.1 X.1.2.1 dL_areWidths_278 hl (by decide) rfl (fun ls hl => ?_)
          refine lv_aload X.1.1 X.1.2.1 dL_areWidths_280 (lv_at hl 3 rfl) ?_
          refine sa_bipush X.1 dL_areWidths_282 (by decide) ?_
          refine lv_iload X.1.1 X.1.2.1 dL_areWidths_284 (lv_at hl 11 rfl) ?_
          have c57 := hw.1
          have hw := hw.2
          refine sa_imul X.1 dL_areWidths_286 ?_
          refine sa_const X.1 dL_areWidths_287 ?_
          have c58 := hw.1
          have hw := hw.2
          refine sa_iadd X.1 dL_areWidths_288 ?_
          have c59 := hw.1
          have hw := hw.2
          refine ra_107 X hR (okf X.2.2.1 rfl) c59 dL_areWidths_289 ?_
          have r60 := hR.r 107 0 ((6 * y12) + 1)
          refine lv_istore (lv' := [(14, .int (Int32.ofInt (M51 107 0 ((6 * y12) + 1)))), (13, .int (Int32.ofInt (if x52 ≤ 0 then (0 : Int) else 1))), (0, .ref (α 10 0)), (1, .ref (α 104 0)), (4, .ref (α 107 0)), (5, .ref (α 108 0)), (6, .ref (α 109 0)), (7, .ref (α 112 0)), (8, .ref (α 113 0)), (9, .int (Int32.ofInt y9)), (10, .int (Int32.ofInt y10)), (11, .int (Int32.ofInt y11)), (12, .int (Int32.ofInt y12))]) X.1.1 X.1.2.1 dL_areWidths_290 hl (by decide) rfl (fun ls hl => ?_)
          refine lv_aload_n X.1.1 X.1.2.1 dL_areWidths_292 rfl (lv_at hl 2 rfl) ?_
          refine lv_iload X.1.1 X.1.2.1 dL_areWidths_293 (lv_at hl 12 rfl) ?_
          refine co_X9_lines X hy12 (kc := 10) rmX_ok ⟨by show _ ≤ 44; omega, by show _ ≤ 264; omega⟩ (by decide) hR hS kw_1287 hl.1 dL_areWidths_295 (Nat.le_of_ble_eq_true rfl) hw (fun x62 M61 H locs hw r63 hR hS => ?_)
          refine lv_aload_n X.1.1 X.1.2.1 dL_areWidths_298 rfl (lv_at hl 3 rfl) ?_
          refine lv_aload X.1.1 X.1.2.1 dL_areWidths_299 (lv_at hl 4 rfl) ?_
          refine lv_aload X.1.1 X.1.2.1 dL_areWidths_301 (lv_at hl 5 rfl) ?_
          refine lv_aload X.1.1 X.1.2.1 dL_areWidths_303 (lv_at hl 8 rfl) ?_
          refine lv_iload X.1.1 X.1.2.1 dL_areWidths_305 (lv_at hl 12 rfl) ?_
          refine cs_L_lines X hy12 (kc := 10) rmX_ok ⟨by show _ ≤ 44; omega, by show _ ≤ 264; omega⟩ (by decide) hR hS kw_1254 hl.1 dL_areWidths_307 (Nat.le_of_ble_eq_true rfl) hw (fun x65 M64 H locs hw r66 hR hS => ?_)
          refine sa_icmp_ne (tgt := 400) X.1 r63 r66 dL_areWidths_310 (by decide) (fun hc => ?_) (fun hc => ?_)
          · have hw := hw.1 hc
            exact t_L_areWidths_400 X N hlt hb ih (by omega) _ _ _ _ hw hy9 hy10 hy12 _ _ (by omega) (by omega) _ _ hR hS _ (lv_sub hl [2, 3, 4, 5, 6, 7, 8, 9, 10, 12] rfl)
          · have hw := hw.2 hc
            refine lv_aload_n X.1.1 X.1.2.1 dL_areWidths_313 rfl (lv_at hl 2 rfl) ?_
            refine sa_const X.1 dL_areWidths_314 ?_
            refine lv_iload X.1.1 X.1.2.1 dL_areWidths_315 (lv_at hl 12 rfl) ?_
            refine sc_call 9 (n := 3) (As := [.ref (α 10 0), .int (Int32.ofInt 0), .int (Int32.ofInt y12)]) (rest := []) X N hR hS (w_L_point hlt X.2.2.1 (inR_c (a := 0) rfl) hy12 hw) kw_1291 kw_1292 kw_37 kw_1293 ⟨by decide +kernel, by decide +kernel, by decide +kernel⟩ (rm_ok rmX_ok (by decide) (by decide)) rfl rfl (Nat.le_of_ble_eq_true rfl) hl.1 dL_areWidths_317 ⟨by show _ ≤ 44; omega, by show _ ≤ 264; omega⟩ (fun x67 M69 H locs hw r68 hR hS => ?_)
            refine lv_iload X.1.1 X.1.2.1 dL_areWidths_320 (lv_at hl 1 rfl) ?_
            have s75 := hw.1
            have hw := hw.2
            have c76 := hw.1
            have hw := hw.2
            refine cut_j (A := ∀ v77 : Int, v77 = (if (if x52 ≤ 0 then (0 : Int) else 1) = 0 then ((-7) : Int) else ((M69 113 0 (8 + (M51 107 0 ((6 * y12) + 1)))) - (M69 113 0 (16 + (M51 107 0 ((6 * y12) + 1)))))) → WU p l e 10 44 264 s m args below meth c G e0 α0 κ0 B Qm H locs (cl + 2) (sl + 12) 347 ls [.int (Int32.ofInt v77), .int (Int32.ofInt x67)]) (fun J78 => ?_) ?_
            · refine sa_if_eq (tgt := 345) X.1 r54 dL_areWidths_322 (by decide) (fun hc => ?_) (fun hc => ?_)
              · skip
                refine sa_bipush X.1 dL_areWidths_345 (by decide) ?_
                exact J78 ((-7)) (if_pos (c := (if x52 ≤ 0 then (0 : Int) else 1) = 0) hc).symm
              · have hw := s75 hc
                refine lv_aload X.1.1 X.1.2.1 dL_areWidths_325 (lv_at hl 8 rfl) ?_
                refine sa_bipush X.1 dL_areWidths_327 (by decide) ?_
                refine lv_iload X.1.1 X.1.2.1 dL_areWidths_329 (lv_at hl 0 rfl) ?_
                have c70 := hw.1
                have hw := hw.2
                refine sa_iadd X.1 dL_areWidths_331 ?_
                have c71 := hw.1
                have hw := hw.2
                refine ra_113 X hR (okf X.2.2.1 rfl) c71 dL_areWidths_332 ?_
                refine lv_aload X.1.1 X.1.2.1 dL_areWidths_333 (lv_at hl 8 rfl) ?_
                refine sa_bipush X.1 dL_areWidths_335 (by decide) ?_
                refine lv_iload X.1.1 X.1.2.1 dL_areWidths_337 (lv_at hl 0 rfl) ?_
                have c72 := hw.1
                have hw := hw.2
                refine sa_iadd X.1 dL_areWidths_339 ?_
                have c73 := hw.1
                have hw := hw.2
                refine ra_113 X hR (okf X.2.2.1 rfl) c73 dL_areWidths_340 ?_
                have c74 := hw.1
                have hw := hw.2
                refine sa_isub X.1 dL_areWidths_341 ?_
                refine lv_goto (tgt := 347) X.1.1 X.1.2.1 dL_areWidths_342 (by decide) ?_
                exact J78 (((M69 113 0 (8 + (M51 107 0 ((6 * y12) + 1)))) - (M69 113 0 (16 + (M51 107 0 ((6 * y12) + 1)))))) (if_neg (c := (if x52 ≤ 0 then (0 : Int) else 1) = 0) hc).symm
            intro v77 hv77
            subst hv77
            refine sa_icmp_ne (tgt := 400) X.1 r68 c76 dL_areWidths_347 (by decide) (fun hc => ?_) (fun hc => ?_)
            · have hw := hw.1 hc
              exact t_L_areWidths_400 X N hlt hb ih (by omega) _ _ _ _ hw hy9 hy10 hy12 _ _ (by omega) (by omega) _ _ hR hS _ (lv_sub hl [2, 3, 4, 5, 6, 7, 8, 9, 10, 12] rfl)
            · have hw := hw.2 hc
              refine lv_aload_n X.1.1 X.1.2.1 dL_areWidths_350 rfl (lv_at hl 2 rfl) ?_
              refine sa_const X.1 dL_areWidths_351 ?_
              refine lv_iload X.1.1 X.1.2.1 dL_areWidths_352 (lv_at hl 12 rfl) ?_
              refine sc_call 9 (n := 3) (As := [.ref (α 10 0), .int (Int32.ofInt 1), .int (Int32.ofInt y12)]) (rest := []) X N hR hS (w_L_point hlt X.2.2.1 (inR_c (a := 1) rfl) hy12 hw) kw_1291 kw_1292 kw_37 kw_1293 ⟨by decide +kernel, by decide +kernel, by decide +kernel⟩ (rm_ok rmX_ok (by decide) (by decide)) rfl rfl (Nat.le_of_ble_eq_true rfl) hl.1 dL_areWidths_354 ⟨by show _ ≤ 44; omega, by show _ ≤ 264; omega⟩ (fun x79 M81 H locs hw r80 hR hS => ?_)
              refine lv_iload X.1.1 X.1.2.1 dL_areWidths_357 (lv_at hl 1 rfl) ?_
              refine sa_if_eq (tgt := 391) X.1 r54 dL_areWidths_359 (by decide) (fun hc => ?_) (fun hc => ?_)
              · have hw := hw.1 hc
                refine sa_bipush X.1 dL_areWidths_391 (by decide) ?_
                exact t_L_areWidths_393 X N hlt hb ih (by omega) _ _ _ _ _ _ hw hy9 hy10 hy12 (inR_c (a := -7) rfl) r80 _ _ (by omega) (by omega) _ _ hR hS _ (lv_sub hl [2, 3, 4, 5, 6, 7, 8, 9, 10, 12] rfl)
              · have hw := hw.2 hc
                refine lv_aload X.1.1 X.1.2.1 dL_areWidths_362 (lv_at hl 8 rfl) ?_
                refine sa_bipush X.1 dL_areWidths_364 (by decide) ?_
                refine lv_iload X.1.1 X.1.2.1 dL_areWidths_366 (lv_at hl 0 rfl) ?_
                have c82 := hw.1
                have hw := hw.2
                refine sa_iadd X.1 dL_areWidths_368 ?_
                have c83 := hw.1
                have hw := hw.2
                refine ra_113 X hR (okf X.2.2.1 rfl) c83 dL_areWidths_369 ?_
                have r84 := hR.r 113 0 (8 + (M51 107 0 ((6 * y12) + 1)))
                refine lv_aload X.1.1 X.1.2.1 dL_areWidths_370 (lv_at hl 8 rfl) ?_
                refine sa_bipush X.1 dL_areWidths_372 (by decide) ?_
                refine lv_iload X.1.1 X.1.2.1 dL_areWidths_374 (lv_at hl 0 rfl) ?_
                have c85 := hw.1
                have hw := hw.2
                refine sa_iadd X.1 dL_areWidths_376 ?_
                have c86 := hw.1
                have hw := hw.2
                refine ra_113 X hR (okf X.2.2.1 rfl) c86 dL_areWidths_377 ?_
                have r87 := hR.r 113 0 (16 + (M51 107 0 ((6 * y12) + 1)))
                have c88 := hw.1
                have hw := hw.2
                refine sa_isub X.1 dL_areWidths_378 ?_
                refine lv_aload X.1.1 X.1.2.1 dL_areWidths_379 (lv_at hl 6 rfl) ?_
                refine lv_iload X.1.1 X.1.2.1 dL_areWidths_381 (lv_at hl 12 rfl) ?_
                have c89 := hw.1
                have hw := hw.2
                refine ra_109 X hR (okf X.2.2.1 rfl) c89 dL_areWidths_383 ?_
                have r90 := hR.r 109 0 y12
                refine cs_L_leftOf X r90 (kc := 10) rmX_ok ⟨by show _ ≤ 44; omega, by show _ ≤ 264; omega⟩ (by decide) hR hS kw_1231 hl.1 dL_areWidths_384 (Nat.le_of_ble_eq_true rfl) hw (fun x92 M91 H locs hw r93 hR hS => ?_)
                have c94 := hw.1
                have hw := hw.2
                refine sa_isub X.1 dL_areWidths_387 ?_
                refine lv_goto (tgt := 393) X.1.1 X.1.2.1 dL_areWidths_388 (by decide) ?_
                exact t_L_areWidths_393 X N hlt hb ih (by omega) _ _ _ _ _ _ hw hy9 hy10 hy12 c94 r80 _ _ (by omega) (by omega) _ _ hR hS _ (lv_sub hl [2, 3, 4, 5, 6, 7, 8, 9, 10, 12] rfl)
set_option maxHeartbeats 4000000 in
set_option maxRecDepth 100000 in
theorem t_L_areWidths_232 {α0 : Ax} {κ0 : Nat → Int} (X : CX p m c cL_areWidths 15 s args RL G B κ meth (some .boolean)) (N : NcA s) (hlt : l.stackTraces = false) (hb : Bk G e0 α κ α0 κ0 B) {Qm : Int → Mem → Prop} : ∀ y9 : Int, ∀ y10 : Int, ∀ y11 : Int, ∀ M : Mem, wp_L_areWidths_232 Qm y9 y10 y11 M → inR y9 → inR y10 → inR y11 → ∀ cl sl : Nat, cl + 44 ≤ 44 → sl + 264 ≤ 264 → ∀ (H : Heap) (locs : List Loc), Rp G e0 α κ B M H → va_S (fun q => B ≤ q) s.heap H locs → ∀ (ls : Array Slot), lv_has ls 15 [(0, .ref (α 10 0)), (1, .ref (α 104 0)), (4, .ref (α 107 0)), (5, .ref (α 108 0)), (6, .ref (α 109 0)), (7, .ref (α 112 0)), (8, .ref (α 113 0)), (9, .int (Int32.ofInt y9)), (10, .int (Int32.ofInt y10)), (11, .int (Int32.ofInt y11))] → WU p l e 10 44 264 s m args below meth c G e0 α0 κ0 B Qm H locs cl sl 232 ls [] := by
  intro y9 y10 y11 M hw hy9 hy10 hy11 cl sl hc1 hc2 H locs hR hS ls hl
  have hw : (∃ n95 : Nat, n95 ≤ 11 ∧ wp_L_areWidths_235 Qm n95 y9 y10 y11 0 M) := hw
  refine sa_const X.1 dL_areWidths_232 ?_
  refine lv_istore (lv' := [(12, .int (Int32.ofInt 0)), (0, .ref (α 10 0)), (1, .ref (α 104 0)), (4, .ref (α 107 0)), (5, .ref (α 108 0)), (6, .ref (α 109 0)), (7, .ref (α 112 0)), (8, .ref (α 113 0)), (9, .int (Int32.ofInt y9)), (10, .int (Int32.ofInt y10)), (11, .int (Int32.ofInt y11))]) X.1.1 X.1.2.1 dL_areWidths_233 hl (by decide) rfl (fun ls hl => ?_)
  obtain ⟨n95, hn95, hw⟩ := hw
  exact t_L_areWidths_235 X N hlt hb n95 _ _ _ _ _ hw hy9 hy10 hy11 (inR_c (a := 0) rfl) _ _ (by omega) (by omega) _ _ hR hS _ (lv_sub hl [1, 2, 3, 4, 5, 6, 7, 8, 9, 10, 0] rfl)
set_option maxHeartbeats 4000000 in
set_option maxRecDepth 100000 in
theorem t_L_areWidths_223 {α0 : Ax} {κ0 : Nat → Int} (X : CX p m c cL_areWidths 15 s args RL G B κ meth (some .boolean)) (N : NcA s) (hlt : l.stackTraces = false) (hb : Bk G e0 α κ α0 κ0 B) {Qm : Int → Mem → Prop} {K137 : Int → Int → Int → Int → Mem → Prop} (hK137 : ∀ y9 : Int, ∀ y10 : Int, ∀ y11 : Int, ∀ y12 : Int, ∀ M : Mem, K137 y9 y10 y11 y12 M → inR y9 → inR y10 → inR y11 → inR y12 → ∀ cl sl : Nat, cl + 44 ≤ 44 → sl + 264 ≤ 264 → ∀ (H : Heap) (locs : List Loc), Rp G e0 α κ B M H → va_S (fun q => B ≤ q) s.heap H locs → ∀ (ls : Array Slot), lv_has ls 15 [(0, .ref (α 10 0)), (1, .ref (α 104 0)), (2, .ref (α 105 0)), (4, .ref (α 107 0)), (5, .ref (α 108 0)), (6, .ref (α 109 0)), (7, .ref (α 112 0)), (8, .ref (α 113 0)), (9, .int (Int32.ofInt y9)), (10, .int (Int32.ofInt y10)), (11, .int (Int32.ofInt y11)), (12, .int (Int32.ofInt y12))] → WU p l e 10 44 264 s m args below meth c G e0 α0 κ0 B Qm H locs cl sl 137 ls []) : ∀ y9 : Int, ∀ y10 : Int, ∀ y12 : Int, ∀ M : Mem, wp_L_areWidths_223 Qm K137 y9 y10 y12 M → inR y9 → inR y10 → inR y12 → ∀ cl sl : Nat, cl + 44 ≤ 44 → sl + 264 ≤ 264 → ∀ (H : Heap) (locs : List Loc), Rp G e0 α κ B M H → va_S (fun q => B ≤ q) s.heap H locs → ∀ (ls : Array Slot), lv_has ls 15 [(0, .ref (α 10 0)), (1, .ref (α 104 0)), (2, .ref (α 105 0)), (4, .ref (α 107 0)), (5, .ref (α 108 0)), (6, .ref (α 109 0)), (7, .ref (α 112 0)), (8, .ref (α 113 0)), (9, .int (Int32.ofInt y9)), (10, .int (Int32.ofInt y10)), (12, .int (Int32.ofInt y12))] → WU p l e 10 44 264 s m args below meth c G e0 α0 κ0 B Qm H locs cl sl 223 ls [] := by
  intro y9 y10 y12 M hw hy9 hy10 hy12 cl sl hc1 hc2 H locs hR hS ls hl
  have hw : (inR (y12 + 1)) ∧ K137 y9 y10 0 (y12 + 1) M := hw
  refine sa_const X.1 dL_areWidths_223 ?_
  refine lv_istore (lv' := [(11, .int (Int32.ofInt 0)), (0, .ref (α 10 0)), (1, .ref (α 104 0)), (2, .ref (α 105 0)), (4, .ref (α 107 0)), (5, .ref (α 108 0)), (6, .ref (α 109 0)), (7, .ref (α 112 0)), (8, .ref (α 113 0)), (9, .int (Int32.ofInt y9)), (10, .int (Int32.ofInt y10)), (12, .int (Int32.ofInt y12))]) X.1.1 X.1.2.1 dL_areWidths_224 hl (by decide) rfl (fun ls hl => ?_)
  have c112 := hw.1
  have hw := hw.2
  refine lv_iinc (v := Int32.ofInt (y12 + 1)) (lv' := [(12, .int (Int32.ofInt (y12 + 1))), (11, .int (Int32.ofInt 0)), (0, .ref (α 10 0)), (1, .ref (α 104 0)), (2, .ref (α 105 0)), (4, .ref (α 107 0)), (5, .ref (α 108 0)), (6, .ref (α 109 0)), (7, .ref (α 112 0)), (8, .ref (α 113 0)), (9, .int (Int32.ofInt y9)), (10, .int (Int32.ofInt y10))]) X.1.1 X.1.2.1 dL_areWidths_226 hl (k := 11) rfl (Int32.ofInt_add _ _).symm (by decide) rfl (fun ls hl => ?_)
  refine lv_goto (tgt := 137) X.1.1 X.1.2.1 dL_areWidths_229 (by decide) ?_
  exact hK137 _ _ _ _ _ hw hy9 hy10 (inR_c (a := 0) rfl) c112 _ _ (by omega) (by omega) _ _ hR hS _ (lv_sub hl [2, 3, 4, 5, 6, 7, 8, 9, 10, 11, 1, 0] rfl)
set_option maxHeartbeats 4000000 in
set_option maxRecDepth 100000 in
theorem t_L_areWidths_219 {α0 : Ax} {κ0 : Nat → Int} (X : CX p m c cL_areWidths 15 s args RL G B κ meth (some .boolean)) (N : NcA s) (hlt : l.stackTraces = false) (hb : Bk G e0 α κ α0 κ0 B) {Qm : Int → Mem → Prop} {K137 : Int → Int → Int → Int → Mem → Prop} (hK137 : ∀ y9 : Int, ∀ y10 : Int, ∀ y11 : Int, ∀ y12 : Int, ∀ M : Mem, K137 y9 y10 y11 y12 M → inR y9 → inR y10 → inR y11 → inR y12 → ∀ cl sl : Nat, cl + 44 ≤ 44 → sl + 264 ≤ 264 → ∀ (H : Heap) (locs : List Loc), Rp G e0 α κ B M H → va_S (fun q => B ≤ q) s.heap H locs → ∀ (ls : Array Slot), lv_has ls 15 [(0, .ref (α 10 0)), (1, .ref (α 104 0)), (2, .ref (α 105 0)), (4, .ref (α 107 0)), (5, .ref (α 108 0)), (6, .ref (α 109 0)), (7, .ref (α 112 0)), (8, .ref (α 113 0)), (9, .int (Int32.ofInt y9)), (10, .int (Int32.ofInt y10)), (11, .int (Int32.ofInt y11)), (12, .int (Int32.ofInt y12))] → WU p l e 10 44 264 s m args below meth c G e0 α0 κ0 B Qm H locs cl sl 137 ls []) : ∀ y9 : Int, ∀ y10 : Int, ∀ y12 : Int, ∀ M : Mem, wp_L_areWidths_219 Qm K137 y9 y10 y12 M → inR y9 → inR y10 → inR y12 → ∀ cl sl : Nat, cl + 44 ≤ 44 → sl + 264 ≤ 264 → ∀ (H : Heap) (locs : List Loc), Rp G e0 α κ B M H → va_S (fun q => B ≤ q) s.heap H locs → ∀ (ls : Array Slot), lv_has ls 15 [(0, .ref (α 10 0)), (1, .ref (α 104 0)), (2, .ref (α 105 0)), (4, .ref (α 107 0)), (5, .ref (α 108 0)), (6, .ref (α 109 0)), (7, .ref (α 112 0)), (8, .ref (α 113 0)), (9, .int (Int32.ofInt y9)), (10, .int (Int32.ofInt y10)), (12, .int (Int32.ofInt y12))] → WU p l e 10 44 264 s m args below meth c G e0 α0 κ0 B Qm H locs cl sl 219 ls [] := by
  intro y9 y10 y12 M hw hy9 hy10 hy12 cl sl hc1 hc2 H locs hR hS ls hl
  have hw : (inR (y12 + 1)) ∧ K137 y9 y10 1 (y12 + 1) M := hw
  refine sa_const X.1 dL_areWidths_219 ?_
  refine lv_goto (tgt := 224) X.1.1 X.1.2.1 dL_areWidths_220 (by decide) ?_
  refine lv_istore (lv' := [(11, .int (Int32.ofInt 1)), (0, .ref (α 10 0)), (1, .ref (α 104 0)), (2, .ref (α 105 0)), (4, .ref (α 107 0)), (5, .ref (α 108 0)), (6, .ref (α 109 0)), (7, .ref (α 112 0)), (8, .ref (α 113 0)), (9, .int (Int32.ofInt y9)), (10, .int (Int32.ofInt y10)), (12, .int (Int32.ofInt y12))]) X.1.1 X.1.2.1 dL_areWidths_224 hl (by decide) rfl (fun ls hl => ?_)
  have c114 := hw.1
  have hw := hw.2
  refine lv_iinc (v := Int32.ofInt (y12 + 1)) (lv' := [(12, .int (Int32.ofInt (y12 + 1))), (11, .int (Int32.ofInt 1)), (0, .ref (α 10 0)), (1, .ref (α 104 0)), (2, .ref (α 105 0)), (4, .ref (α 107 0)), (5, .ref (α 108 0)), (6, .ref (α 109 0)), (7, .ref (α 112 0)), (8, .ref (α 113 0)), (9, .int (Int32.ofInt y9)), (10, .int (Int32.ofInt y10))]) X.1.1 X.1.2.1 dL_areWidths_226 hl (k := 11) rfl (Int32.ofInt_add _ _).symm (by decide) rfl (fun ls hl => ?_)
  refine lv_goto (tgt := 137) X.1.1 X.1.2.1 dL_areWidths_229 (by decide) ?_
  exact hK137 _ _ _ _ _ hw hy9 hy10 (inR_c (a := 1) rfl) c114 _ _ (by omega) (by omega) _ _ hR hS _ (lv_sub hl [2, 3, 4, 5, 6, 7, 8, 9, 10, 11, 1, 0] rfl)
set_option maxHeartbeats 4000000 in
set_option maxRecDepth 100000 in
theorem t_L_areWidths_137 {α0 : Ax} {κ0 : Nat → Int} (X : CX p m c cL_areWidths 15 s args RL G B κ meth (some .boolean)) (N : NcA s) (hlt : l.stackTraces = false) (hb : Bk G e0 α κ α0 κ0 B) {Qm : Int → Mem → Prop} : ∀ n : Nat, ∀ y9 : Int, ∀ y10 : Int, ∀ y11 : Int, ∀ y12 : Int, ∀ M : Mem, wp_L_areWidths_137 Qm n y9 y10 y11 y12 M → inR y9 → inR y10 → inR y11 → inR y12 → ∀ cl sl : Nat, cl + 44 ≤ 44 → sl + 264 ≤ 264 → ∀ (H : Heap) (locs : List Loc), Rp G e0 α κ B M H → va_S (fun q => B ≤ q) s.heap H locs → ∀ (ls : Array Slot), lv_has ls 15 [(0, .ref (α 10 0)), (1, .ref (α 104 0)), (2, .ref (α 105 0)), (4, .ref (α 107 0)), (5, .ref (α 108 0)), (6, .ref (α 109 0)), (7, .ref (α 112 0)), (8, .ref (α 113 0)), (9, .int (Int32.ofInt y9)), (10, .int (Int32.ofInt y10)), (11, .int (Int32.ofInt y11)), (12, .int (Int32.ofInt y12))] → WU p l e 10 44 264 s m args below meth c G e0 α0 κ0 B Qm H locs cl sl 137 ls [] := by
  intro n
  induction n with
  | zero =>
    intro y9 y10 y11 y12 M hw hy9 hy10 hy11 hy12 cl sl hc1 hc2 H locs hR hS ls hl
    exact hw.elim
  | succ n ih =>
    intro y9 y10 y11 y12 M hw hy9 hy10 hy11 hy12 cl sl hc1 hc2 H locs hR hS ls hl
    have hw : (((M 112 0 1) ≤ y12 → wp_L_areWidths_232 Qm y9 y10 y11 M) ∧ (y12 < (M 112 0 1) → ((y11 = 0 → wp_L_areWidths_232 Qm y9 y10 y11 M) ∧ (¬ y11 = 0 → (inR (3 * y12)) ∧ (0 ≤ (3 * y12) ∧ (3 * y12) < 30) ∧ ((M 105 0 (3 * y12)) = 1 → (inR (20 + y12)) ∧ (0 ≤ (20 + y12) ∧ (20 + y12) < 30) ∧ True) ∧ (inR (y10 + (if ¬ (M 105 0 (3 * y12)) = 1 then (0 : Int) else (M 113 0 (20 + y12))))) ∧ wo_X9_height y12 M fun (x107 : Int) (M106 : Mem) => (inR (20 + y12)) ∧ (0 ≤ (20 + y12) ∧ (20 + y12) < 30) ∧ ((¬ x107 = (M106 113 0 (20 + y12)) → wp_L_areWidths_223 Qm (wp_L_areWidths_137 Qm n) y9 (y10 + (if ¬ (M 105 0 (3 * y12)) = 1 then (0 : Int) else (M 113 0 (20 + y12)))) y12 M106) ∧ (x107 = (M106 113 0 (20 + y12)) → ((0 < (Int.tmod y12 3) → wp_L_areWidths_219 Qm (wp_L_areWidths_137 Qm n) y9 (y10 + (if ¬ (M 105 0 (3 * y12)) = 1 then (0 : Int) else (M 113 0 (20 + y12)))) y12 M106) ∧ ((Int.tmod y12 3) ≤ 0 → wo_X9_heightByCells y12 M106 fun (x116 : Int) (M115 : Mem) => (inR (20 + y12)) ∧ (0 ≤ (20 + y12) ∧ (20 + y12) < 30) ∧ (inR (y12 + 1)) ∧ wp_L_areWidths_137 Qm n y9 (y10 + (if ¬ (M 105 0 (3 * y12)) = 1 then (0 : Int) else (M 113 0 (20 + y12)))) (if ¬ x116 = (M115 113 0 (20 + y12)) then (0 : Int) else 1) (y12 + 1) M115)))))))) := hw
    refine lv_iload X.1.1 X.1.2.1 dL_areWidths_137 (lv_at hl 11 rfl) ?_
    refine lv_aload X.1.1 X.1.2.1 dL_areWidths_139 (lv_at hl 6 rfl) ?_
    refine sa_const X.1 dL_areWidths_141 ?_
    refine ra_112 X hR (okf X.2.2.1 rfl) ⟨by decide, by decide⟩ dL_areWidths_142 ?_
    have r8 := hR.r 112 0 1
    refine sa_icmp_ge (tgt := 232) X.1 hy12 r8 dL_areWidths_143 (by decide) (fun hc => ?_) (fun hc => ?_)
    · have hw := hw.1 hc
      exact t_L_areWidths_232 X N hlt hb _ _ _ _ hw hy9 hy10 hy11 _ _ (by omega) (by omega) _ _ hR hS _ (lv_sub hl [0, 1, 3, 4, 5, 6, 7, 8, 9, 10] rfl)
    · have hw := hw.2 hc
      refine lv_iload X.1.1 X.1.2.1 dL_areWidths_146 (lv_at hl 10 rfl) ?_
      refine sa_if_eq (tgt := 232) X.1 hy11 dL_areWidths_148 (by decide) (fun hc => ?_) (fun hc => ?_)
      · have hw := hw.1 hc
        exact t_L_areWidths_232 X N hlt hb _ _ _ _ hw hy9 hy10 hy11 _ _ (by omega) (by omega) _ _ hR hS _ (lv_sub hl [0, 1, 3, 4, 5, 6, 7, 8, 9, 10] rfl)
      · have hw := hw.2 hc
        refine lv_iload X.1.1 X.1.2.1 dL_areWidths_151 (lv_at hl 9 rfl) ?_
        refine lv_aload_n X.1.1 X.1.2.1 dL_areWidths_153 rfl (lv_at hl 2 rfl) ?_
        refine sa_const X.1 dL_areWidths_154 ?_
        refine lv_iload X.1.1 X.1.2.1 dL_areWidths_155 (lv_at hl 11 rfl) ?_
        have c96 := hw.1
        have hw := hw.2
        refine sa_imul X.1 dL_areWidths_157 ?_
        have c97 := hw.1
        have hw := hw.2
        refine ra_105 X hR (okf X.2.2.1 rfl) c97 dL_areWidths_158 ?_
        have r98 := hR.r 105 0 (3 * y12)
        refine sa_const X.1 dL_areWidths_159 ?_
        have s101 := hw.1
        have hw := hw.2
        have r102 := inR_ite (c := ¬ (M 105 0 (3 * y12)) = 1) (inR_c (a := 0) rfl) (hR.r 113 0 (20 + y12))
        refine cut_j (A := ∀ v103 : Int, v103 = (if ¬ (M 105 0 (3 * y12)) = 1 then (0 : Int) else (M 113 0 (20 + y12))) → WU p l e 10 44 264 s m args below meth c G e0 α0 κ0 B Qm H locs cl sl 175 ls [.int (Int32.ofInt v103), .int (Int32.ofInt y10)]) (fun J104 => ?_) ?_
        · refine sa_icmp_ne (tgt := 174) X.1 r98 (inR_c (a := 1) rfl) dL_areWidths_160 (by decide) (fun hc => ?_) (fun hc => ?_)
          · skip
            refine sa_const X.1 dL_areWidths_174 ?_
            exact J104 (0) (if_pos (c := ¬ (M 105 0 (3 * y12)) = 1) hc).symm
          · have hw := s101 hc
            refine lv_aload X.1.1 X.1.2.1 dL_areWidths_163 (lv_at hl 7 rfl) ?_
            refine sa_bipush X.1 dL_areWidths_165 (by decide) ?_
            refine lv_iload X.1.1 X.1.2.1 dL_areWidths_167 (lv_at hl 11 rfl) ?_
            have c99 := hw.1
            have hw := hw.2
            refine sa_iadd X.1 dL_areWidths_169 ?_
            have c100 := hw.1
            have hw := hw.2
            refine ra_113 X hR (okf X.2.2.1 rfl) c100 dL_areWidths_170 ?_
            refine lv_goto (tgt := 175) X.1.1 X.1.2.1 dL_areWidths_171 (by decide) ?_
            exact J104 ((M 113 0 (20 + y12))) (if_neg (c := ¬ (M 105 0 (3 * y12)) = 1) (fun z => z hc)).symm
        intro v103 hv103
        subst hv103
        have c105 := hw.1
        have hw := hw.2
        refine sa_iadd X.1 dL_areWidths_175 ?_
        refine lv_istore (lv' := [(10, .int (Int32.ofInt (y10 + (if ¬ (M 105 0 (3 * y12)) = 1 then (0 : Int) else (M 113 0 (20 + y12)))))), (0, .ref (α 10 0)), (1, .ref (α 104 0)), (2, .ref (α 105 0)), (4, .ref (α 107 0)), (5, .ref (α 108 0)), (6, .ref (α 109 0)), (7, .ref (α 112 0)), (8, .ref (α 113 0)), (9, .int (Int32.ofInt y9)), (11, .int (Int32.ofInt y11)), (12, .int (Int32.ofInt y12))]) X.1.1 X.1.2.1 dL_areWidths_176 hl (by decide) rfl (fun ls hl => ?_)
        refine lv_aload_n X.1.1 X.1.2.1 dL_areWidths_178 rfl (lv_at hl 1 rfl) ?_
        refine lv_iload X.1.1 X.1.2.1 dL_areWidths_179 (lv_at hl 11 rfl) ?_
        refine co_X9_height X hy12 (kc := 10) rmX_ok ⟨by show _ ≤ 44; omega, by show _ ≤ 264; omega⟩ (by decide) hR hS kw_1272 hl.1 dL_areWidths_181 (Nat.le_of_ble_eq_true rfl) hw (fun x107 M106 H locs hw r108 hR hS => ?_)
        refine lv_aload X.1.1 X.1.2.1 dL_areWidths_184 (lv_at hl 8 rfl) ?_
        refine sa_bipush X.1 dL_areWidths_186 (by decide) ?_
        refine lv_iload X.1.1 X.1.2.1 dL_areWidths_188 (lv_at hl 11 rfl) ?_
        have c109 := hw.1
        have hw := hw.2
        refine sa_iadd X.1 dL_areWidths_190 ?_
        have c110 := hw.1
        have hw := hw.2
        refine ra_113 X hR (okf X.2.2.1 rfl) c110 dL_areWidths_191 ?_
        have r111 := hR.r 113 0 (20 + y12)
        refine sa_icmp_ne (tgt := 223) X.1 r108 r111 dL_areWidths_192 (by decide) (fun hc => ?_) (fun hc => ?_)
        · have hw := hw.1 hc
          exact t_L_areWidths_223 X N hlt hb ih _ _ _ _ hw hy9 c105 hy12 _ _ (by omega) (by omega) _ _ hR hS _ (lv_sub hl [1, 2, 3, 4, 5, 6, 7, 8, 9, 0, 11] rfl)
        · have hw := hw.2 hc
          refine lv_iload X.1.1 X.1.2.1 dL_areWidths_195 (lv_at hl 11 rfl) ?_
          refine sa_const X.1 dL_areWidths_197 ?_
          have r113 := inR_tmod hy12 (inR_c (a := 3) rfl) (by decide)
          refine sa_irem X.1 hy12 (inR_c (a := 3) rfl) (Int.ne_of_gt (by decide)) dL_areWidths_198 ?_
          refine sa_if_gt (tgt := 219) X.1 r113 dL_areWidths_199 (by decide) (fun hc => ?_) (fun hc => ?_)
          · have hw := hw.1 hc
            exact t_L_areWidths_219 X N hlt hb ih _ _ _ _ hw hy9 c105 hy12 _ _ (by omega) (by omega) _ _ hR hS _ (lv_sub hl [1, 2, 3, 4, 5, 6, 7, 8, 9, 0, 11] rfl)
          · have hw := hw.2 hc
            refine lv_aload_n X.1.1 X.1.2.1 dL_areWidths_202 rfl (lv_at hl 1 rfl) ?_
            refine lv_iload X.1.1 X.1.2.1 dL_areWidths_203 (lv_at hl 11 rfl) ?_
            refine co_X9_heightByCells X hy12 (kc := 10) rmX_ok ⟨by show _ ≤ 44; omega, by show _ ≤ 264; omega⟩ (by decide) hR hS kw_1276 hl.1 dL_areWidths_205 (Nat.le_of_ble_eq_true rfl) hw (fun x116 M115 H locs hw r117 hR hS => ?_)
            refine lv_aload X.1.1 X.1.2.1 dL_areWidths_208 (lv_at hl 8 rfl) ?_
            refine sa_bipush X.1 dL_areWidths_210 (by decide) ?_
            refine lv_iload X.1.1 X.1.2.1 dL_areWidths_212 (lv_at hl 11 rfl) ?_
            have c118 := hw.1
            have hw := hw.2
            refine sa_iadd X.1 dL_areWidths_214 ?_
            have c119 := hw.1
            have hw := hw.2
            refine ra_113 X hR (okf X.2.2.1 rfl) c119 dL_areWidths_215 ?_
            have r120 := hR.r 113 0 (20 + y12)
            have r121 := inR_ite (c := ¬ x116 = (M115 113 0 (20 + y12))) (inR_c (a := 0) rfl) (inR_c (a := 1) rfl)
            refine cut_j (A := ∀ v122 : Int, v122 = (if ¬ x116 = (M115 113 0 (20 + y12)) then (0 : Int) else 1) → WU p l e 10 44 264 s m args below meth c G e0 α0 κ0 B Qm H locs cl sl 224 ls [.int (Int32.ofInt v122)]) (fun J123 => ?_) ?_
            · refine sa_icmp_ne (tgt := 223) X.1 r117 r120 dL_areWidths_216 (by decide) (fun hc => ?_) (fun hc => ?_)
              · skip
                refine sa_const X.1 dL_areWidths_223 ?_
                exact J123 (0) (if_pos (c := ¬ x116 = (M115 113 0 (20 + y12))) hc).symm
              · skip
                refine sa_const X.1 dL_areWidths_219 ?_
                refine lv_goto (tgt := 224) X.1.1 X.1.2.1 dL_areWidths_220 (by decide) ?_
                exact J123 (1) (if_neg (c := ¬ x116 = (M115 113 0 (20 + y12))) (fun z => z hc)).symm
            intro v122 hv122
            subst hv122
            refine lv_istore (lv' := [(11, .int (Int32.ofInt (if ¬ x116 = (M115 113 0 (20 + y12)) then (0 : Int) else 1))), (10, .int (Int32.ofInt (y10 + (if ¬ (M 105 0 (3 * y12)) = 1 then (0 : Int) else (M 113 0 (20 + y12)))))), (0, .ref (α 10 0)), (1, .ref (α 104 0)), (2, .ref (α 105 0)), (4, .ref (α 107 0)), (5, .ref (α 108 0)), (6, .ref (α 109 0)), (7, .ref (α 112 0)), (8, .ref (α 113 0)), (9, .int (Int32.ofInt y9)), (12, .int (Int32.ofInt y12))]) X.1.1 X.1.2.1 dL_areWidths_224 hl (by decide) rfl (fun ls hl => ?_)
            have c124 := hw.1
            have hw := hw.2
            refine lv_iinc (v := Int32.ofInt (y12 + 1)) (lv' := [(12, .int (Int32.ofInt (y12 + 1))), (11, .int (Int32.ofInt (if ¬ x116 = (M115 113 0 (20 + y12)) then (0 : Int) else 1))), (10, .int (Int32.ofInt (y10 + (if ¬ (M 105 0 (3 * y12)) = 1 then (0 : Int) else (M 113 0 (20 + y12)))))), (0, .ref (α 10 0)), (1, .ref (α 104 0)), (2, .ref (α 105 0)), (4, .ref (α 107 0)), (5, .ref (α 108 0)), (6, .ref (α 109 0)), (7, .ref (α 112 0)), (8, .ref (α 113 0)), (9, .int (Int32.ofInt y9))]) X.1.1 X.1.2.1 dL_areWidths_226 hl (k := 11) rfl (Int32.ofInt_add _ _).symm (by decide) rfl (fun ls hl => ?_)
            refine lv_goto (tgt := 137) X.1.1 X.1.2.1 dL_areWidths_229 (by decide) ?_
            exact ih _ _ _ _ _ hw hy9 c105 r121 c124 _ _ (by omega) (by omega) _ _ hR hS _ (lv_sub hl [3, 4, 5, 6, 7, 8, 9, 10, 11, 2, 1, 0] rfl)
set_option maxHeartbeats 4000000 in
set_option maxRecDepth 100000 in
theorem t_L_areWidths_134 {α0 : Ax} {κ0 : Nat → Int} (X : CX p m c cL_areWidths 15 s args RL G B κ meth (some .boolean)) (N : NcA s) (hlt : l.stackTraces = false) (hb : Bk G e0 α κ α0 κ0 B) {Qm : Int → Mem → Prop} : ∀ y9 : Int, ∀ y10 : Int, ∀ y11 : Int, ∀ M : Mem, wp_L_areWidths_134 Qm y9 y10 y11 M → inR y9 → inR y10 → inR y11 → ∀ cl sl : Nat, cl + 44 ≤ 44 → sl + 264 ≤ 264 → ∀ (H : Heap) (locs : List Loc), Rp G e0 α κ B M H → va_S (fun q => B ≤ q) s.heap H locs → ∀ (ls : Array Slot), lv_has ls 15 [(0, .ref (α 10 0)), (1, .ref (α 104 0)), (2, .ref (α 105 0)), (4, .ref (α 107 0)), (5, .ref (α 108 0)), (6, .ref (α 109 0)), (7, .ref (α 112 0)), (8, .ref (α 113 0)), (9, .int (Int32.ofInt y9)), (10, .int (Int32.ofInt y10)), (11, .int (Int32.ofInt y11))] → WU p l e 10 44 264 s m args below meth c G e0 α0 κ0 B Qm H locs cl sl 134 ls [] := by
  intro y9 y10 y11 M hw hy9 hy10 hy11 cl sl hc1 hc2 H locs hR hS ls hl
  have hw : (∃ n125 : Nat, wp_L_areWidths_137 Qm n125 y9 y10 y11 0 M) := hw
  refine sa_const X.1 dL_areWidths_134 ?_
  refine lv_istore (lv' := [(12, .int (Int32.ofInt 0)), (0, .ref (α 10 0)), (1, .ref (α 104 0)), (2, .ref (α 105 0)), (4, .ref (α 107 0)), (5, .ref (α 108 0)), (6, .ref (α 109 0)), (7, .ref (α 112 0)), (8, .ref (α 113 0)), (9, .int (Int32.ofInt y9)), (10, .int (Int32.ofInt y10)), (11, .int (Int32.ofInt y11))]) X.1.1 X.1.2.1 dL_areWidths_135 hl (by decide) rfl (fun ls hl => ?_)
  obtain ⟨n125, hw⟩ := hw
  exact t_L_areWidths_137 X N hlt hb n125 _ _ _ _ _ hw hy9 hy10 hy11 (inR_c (a := 0) rfl) _ _ (by omega) (by omega) _ _ hR hS _ (lv_sub hl [1, 2, 3, 4, 5, 6, 7, 8, 9, 10, 11, 0] rfl)
set_option maxHeartbeats 4000000 in
set_option maxRecDepth 100000 in
theorem t_L_areWidths_125 {α0 : Ax} {κ0 : Nat → Int} (X : CX p m c cL_areWidths 15 s args RL G B κ meth (some .boolean)) (N : NcA s) (hlt : l.stackTraces = false) (hb : Bk G e0 α κ α0 κ0 B) {Qm : Int → Mem → Prop} {K47 : Int → Int → Int → Int → Mem → Prop} (hK47 : ∀ y9 : Int, ∀ y10 : Int, ∀ y11 : Int, ∀ y12 : Int, ∀ M : Mem, K47 y9 y10 y11 y12 M → inR y9 → inR y10 → inR y11 → inR y12 → ∀ cl sl : Nat, cl + 44 ≤ 44 → sl + 264 ≤ 264 → ∀ (H : Heap) (locs : List Loc), Rp G e0 α κ B M H → va_S (fun q => B ≤ q) s.heap H locs → ∀ (ls : Array Slot), lv_has ls 15 [(0, .ref (α 10 0)), (1, .ref (α 104 0)), (2, .ref (α 105 0)), (4, .ref (α 107 0)), (5, .ref (α 108 0)), (6, .ref (α 109 0)), (7, .ref (α 112 0)), (8, .ref (α 113 0)), (9, .int (Int32.ofInt y9)), (10, .int (Int32.ofInt y10)), (11, .int (Int32.ofInt y11)), (12, .int (Int32.ofInt y12))] → WU p l e 10 44 264 s m args below meth c G e0 α0 κ0 B Qm H locs cl sl 47 ls []) : ∀ y9 : Int, ∀ y10 : Int, ∀ y12 : Int, ∀ M : Mem, wp_L_areWidths_125 Qm K47 y9 y10 y12 M → inR y9 → inR y10 → inR y12 → ∀ cl sl : Nat, cl + 44 ≤ 44 → sl + 264 ≤ 264 → ∀ (H : Heap) (locs : List Loc), Rp G e0 α κ B M H → va_S (fun q => B ≤ q) s.heap H locs → ∀ (ls : Array Slot), lv_has ls 15 [(0, .ref (α 10 0)), (1, .ref (α 104 0)), (2, .ref (α 105 0)), (4, .ref (α 107 0)), (5, .ref (α 108 0)), (6, .ref (α 109 0)), (7, .ref (α 112 0)), (8, .ref (α 113 0)), (9, .int (Int32.ofInt y9)), (10, .int (Int32.ofInt y10)), (12, .int (Int32.ofInt y12))] → WU p l e 10 44 264 s m args below meth c G e0 α0 κ0 B Qm H locs cl sl 125 ls [] := by
  intro y9 y10 y12 M hw hy9 hy10 hy12 cl sl hc1 hc2 H locs hR hS ls hl
  have hw : (inR (y12 + 1)) ∧ K47 y9 y10 0 (y12 + 1) M := hw
  refine sa_const X.1 dL_areWidths_125 ?_
  refine lv_istore (lv' := [(11, .int (Int32.ofInt 0)), (0, .ref (α 10 0)), (1, .ref (α 104 0)), (2, .ref (α 105 0)), (4, .ref (α 107 0)), (5, .ref (α 108 0)), (6, .ref (α 109 0)), (7, .ref (α 112 0)), (8, .ref (α 113 0)), (9, .int (Int32.ofInt y9)), (10, .int (Int32.ofInt y10)), (12, .int (Int32.ofInt y12))]) X.1.1 X.1.2.1 dL_areWidths_126 hl (by decide) rfl (fun ls hl => ?_)
  have c135 := hw.1
  have hw := hw.2
  refine lv_iinc (v := Int32.ofInt (y12 + 1)) (lv' := [(12, .int (Int32.ofInt (y12 + 1))), (11, .int (Int32.ofInt 0)), (0, .ref (α 10 0)), (1, .ref (α 104 0)), (2, .ref (α 105 0)), (4, .ref (α 107 0)), (5, .ref (α 108 0)), (6, .ref (α 109 0)), (7, .ref (α 112 0)), (8, .ref (α 113 0)), (9, .int (Int32.ofInt y9)), (10, .int (Int32.ofInt y10))]) X.1.1 X.1.2.1 dL_areWidths_128 hl (k := 11) rfl (Int32.ofInt_add _ _).symm (by decide) rfl (fun ls hl => ?_)
  refine lv_goto (tgt := 47) X.1.1 X.1.2.1 dL_areWidths_131 (by decide) ?_
  exact hK47 _ _ _ _ _ hw hy9 hy10 (inR_c (a := 0) rfl) c135 _ _ (by omega) (by omega) _ _ hR hS _ (lv_sub hl [2, 3, 4, 5, 6, 7, 8, 9, 10, 11, 1, 0] rfl)
set_option maxHeartbeats 4000000 in
set_option maxRecDepth 100000 in
theorem t_L_areWidths_47 {α0 : Ax} {κ0 : Nat → Int} (X : CX p m c cL_areWidths 15 s args RL G B κ meth (some .boolean)) (N : NcA s) (hlt : l.stackTraces = false) (hb : Bk G e0 α κ α0 κ0 B) {Qm : Int → Mem → Prop} : ∀ n : Nat, ∀ y9 : Int, ∀ y10 : Int, ∀ y11 : Int, ∀ y12 : Int, ∀ M : Mem, wp_L_areWidths_47 Qm n y9 y10 y11 y12 M → inR y9 → inR y10 → inR y11 → inR y12 → ∀ cl sl : Nat, cl + 44 ≤ 44 → sl + 264 ≤ 264 → ∀ (H : Heap) (locs : List Loc), Rp G e0 α κ B M H → va_S (fun q => B ≤ q) s.heap H locs → ∀ (ls : Array Slot), lv_has ls 15 [(0, .ref (α 10 0)), (1, .ref (α 104 0)), (2, .ref (α 105 0)), (4, .ref (α 107 0)), (5, .ref (α 108 0)), (6, .ref (α 109 0)), (7, .ref (α 112 0)), (8, .ref (α 113 0)), (9, .int (Int32.ofInt y9)), (10, .int (Int32.ofInt y10)), (11, .int (Int32.ofInt y11)), (12, .int (Int32.ofInt y12))] → WU p l e 10 44 264 s m args below meth c G e0 α0 κ0 B Qm H locs cl sl 47 ls [] := by
  intro n
  induction n with
  | zero =>
    intro y9 y10 y11 y12 M hw hy9 hy10 hy11 hy12 cl sl hc1 hc2 H locs hR hS ls hl
    exact hw.elim
  | succ n ih =>
    intro y9 y10 y11 y12 M hw hy9 hy10 hy11 hy12 cl sl hc1 hc2 H locs hR hS ls hl
    have hw : (((M 112 0 0) ≤ y12 → wp_L_areWidths_134 Qm y9 y10 y11 M) ∧ (y12 < (M 112 0 0) → ((y11 = 0 → wp_L_areWidths_134 Qm y9 y10 y11 M) ∧ (¬ y11 = 0 → (inR (8 + y12)) ∧ (0 ≤ (8 + y12) ∧ (8 + y12) < 30) ∧ (inR (y9 + (M 113 0 (8 + y12)))) ∧ wo_X9_least y12 M fun (x131 : Int) (M130 : Mem) => (0 ≤ y12 ∧ y12 < 30) ∧ ((¬ x131 = (M130 113 0 y12) → wp_L_areWidths_125 Qm (wp_L_areWidths_47 Qm n) (y9 + (M 113 0 (8 + y12))) y10 y12 M130) ∧ (x131 = (M130 113 0 y12) → wo_X9_most y12 M130 fun (x137 : Int) (M136 : Mem) => (inR (4 + y12)) ∧ (0 ≤ (4 + y12) ∧ (4 + y12) < 30) ∧ ((¬ x137 = (M136 113 0 (4 + y12)) → wp_L_areWidths_125 Qm (wp_L_areWidths_47 Qm n) (y9 + (M 113 0 (8 + y12))) y10 y12 M136) ∧ (x137 = (M136 113 0 (4 + y12)) → wo_X9_width y12 M136 fun (x143 : Int) (M142 : Mem) => (inR (8 + y12)) ∧ (0 ≤ (8 + y12) ∧ (8 + y12) < 30) ∧ (inR (y12 + 1)) ∧ wp_L_areWidths_47 Qm n (y9 + (M 113 0 (8 + y12))) y10 (if ¬ x143 = (M142 113 0 (8 + y12)) then (0 : Int) else 1) (y12 + 1) M142)))))))) := hw
    refine lv_iload X.1.1 X.1.2.1 dL_areWidths_47 (lv_at hl 11 rfl) ?_
    refine lv_aload X.1.1 X.1.2.1 dL_areWidths_49 (lv_at hl 6 rfl) ?_
    refine sa_const X.1 dL_areWidths_51 ?_
    refine ra_112 X hR (okf X.2.2.1 rfl) ⟨by decide, by decide⟩ dL_areWidths_52 ?_
    have r7 := hR.r 112 0 0
    refine sa_icmp_ge (tgt := 134) X.1 hy12 r7 dL_areWidths_53 (by decide) (fun hc => ?_) (fun hc => ?_)
    · have hw := hw.1 hc
      exact t_L_areWidths_134 X N hlt hb _ _ _ _ hw hy9 hy10 hy11 _ _ (by omega) (by omega) _ _ hR hS _ (lv_sub hl [0, 1, 2, 3, 4, 5, 6, 7, 8, 9, 10] rfl)
    · have hw := hw.2 hc
      refine lv_iload X.1.1 X.1.2.1 dL_areWidths_56 (lv_at hl 10 rfl) ?_
      refine sa_if_eq (tgt := 134) X.1 hy11 dL_areWidths_58 (by decide) (fun hc => ?_) (fun hc => ?_)
      · have hw := hw.1 hc
        exact t_L_areWidths_134 X N hlt hb _ _ _ _ hw hy9 hy10 hy11 _ _ (by omega) (by omega) _ _ hR hS _ (lv_sub hl [0, 1, 2, 3, 4, 5, 6, 7, 8, 9, 10] rfl)
      · have hw := hw.2 hc
        refine lv_iload X.1.1 X.1.2.1 dL_areWidths_61 (lv_at hl 8 rfl) ?_
        refine lv_aload X.1.1 X.1.2.1 dL_areWidths_63 (lv_at hl 7 rfl) ?_
        refine sa_bipush X.1 dL_areWidths_65 (by decide) ?_
        refine lv_iload X.1.1 X.1.2.1 dL_areWidths_67 (lv_at hl 11 rfl) ?_
        have c126 := hw.1
        have hw := hw.2
        refine sa_iadd X.1 dL_areWidths_69 ?_
        have c127 := hw.1
        have hw := hw.2
        refine ra_113 X hR (okf X.2.2.1 rfl) c127 dL_areWidths_70 ?_
        have r128 := hR.r 113 0 (8 + y12)
        have c129 := hw.1
        have hw := hw.2
        refine sa_iadd X.1 dL_areWidths_71 ?_
        refine lv_istore (lv' := [(9, .int (Int32.ofInt (y9 + (M 113 0 (8 + y12))))), (0, .ref (α 10 0)), (1, .ref (α 104 0)), (2, .ref (α 105 0)), (4, .ref (α 107 0)), (5, .ref (α 108 0)), (6, .ref (α 109 0)), (7, .ref (α 112 0)), (8, .ref (α 113 0)), (10, .int (Int32.ofInt y10)), (11, .int (Int32.ofInt y11)), (12, .int (Int32.ofInt y12))]) X.1.1 X.1.2.1 dL_areWidths_72 hl (by decide) rfl (fun ls hl => ?_)
        refine lv_aload_n X.1.1 X.1.2.1 dL_areWidths_74 rfl (lv_at hl 1 rfl) ?_
        refine lv_iload X.1.1 X.1.2.1 dL_areWidths_75 (lv_at hl 11 rfl) ?_
        refine co_X9_least X hy12 (kc := 10) rmX_ok ⟨by show _ ≤ 44; omega, by show _ ≤ 264; omega⟩ (by decide) hR hS kw_1260 hl.1 dL_areWidths_77 (Nat.le_of_ble_eq_true rfl) hw (fun x131 M130 H locs hw r132 hR hS => ?_)
        refine lv_aload X.1.1 X.1.2.1 dL_areWidths_80 (lv_at hl 8 rfl) ?_
        refine lv_iload X.1.1 X.1.2.1 dL_areWidths_82 (lv_at hl 11 rfl) ?_
        have c133 := hw.1
        have hw := hw.2
        refine ra_113 X hR (okf X.2.2.1 rfl) c133 dL_areWidths_84 ?_
        have r134 := hR.r 113 0 y12
        refine sa_icmp_ne (tgt := 125) X.1 r132 r134 dL_areWidths_85 (by decide) (fun hc => ?_) (fun hc => ?_)
        · have hw := hw.1 hc
          exact t_L_areWidths_125 X N hlt hb ih _ _ _ _ hw c129 hy10 hy12 _ _ (by omega) (by omega) _ _ hR hS _ (lv_sub hl [1, 2, 3, 4, 5, 6, 7, 8, 0, 9, 11] rfl)
        · have hw := hw.2 hc
          refine lv_aload_n X.1.1 X.1.2.1 dL_areWidths_88 rfl (lv_at hl 1 rfl) ?_
          refine lv_iload X.1.1 X.1.2.1 dL_areWidths_89 (lv_at hl 11 rfl) ?_
          refine co_X9_most X hy12 (kc := 10) rmX_ok ⟨by show _ ≤ 44; omega, by show _ ≤ 264; omega⟩ (by decide) hR hS kw_1264 hl.1 dL_areWidths_91 (Nat.le_of_ble_eq_true rfl) hw (fun x137 M136 H locs hw r138 hR hS => ?_)
          refine lv_aload X.1.1 X.1.2.1 dL_areWidths_94 (lv_at hl 8 rfl) ?_
          refine sa_const X.1 dL_areWidths_96 ?_
          refine lv_iload X.1.1 X.1.2.1 dL_areWidths_97 (lv_at hl 11 rfl) ?_
          have c139 := hw.1
          have hw := hw.2
          refine sa_iadd X.1 dL_areWidths_99 ?_
          have c140 := hw.1
          have hw := hw.2
          refine ra_113 X hR (okf X.2.2.1 rfl) c140 dL_areWidths_100 ?_
          have r141 := hR.r 113 0 (4 + y12)
          refine sa_icmp_ne (tgt := 125) X.1 r138 r141 dL_areWidths_101 (by decide) (fun hc => ?_) (fun hc => ?_)
          · have hw := hw.1 hc
            exact t_L_areWidths_125 X N hlt hb ih _ _ _ _ hw c129 hy10 hy12 _ _ (by omega) (by omega) _ _ hR hS _ (lv_sub hl [1, 2, 3, 4, 5, 6, 7, 8, 0, 9, 11] rfl)
          · have hw := hw.2 hc
            refine lv_aload_n X.1.1 X.1.2.1 dL_areWidths_104 rfl (lv_at hl 1 rfl) ?_
            refine lv_iload X.1.1 X.1.2.1 dL_areWidths_105 (lv_at hl 11 rfl) ?_
            refine co_X9_width X hy12 (kc := 10) rmX_ok ⟨by show _ ≤ 44; omega, by show _ ≤ 264; omega⟩ (by decide) hR hS kw_1268 hl.1 dL_areWidths_107 (Nat.le_of_ble_eq_true rfl) hw (fun x143 M142 H locs hw r144 hR hS => ?_)
            refine lv_aload X.1.1 X.1.2.1 dL_areWidths_110 (lv_at hl 8 rfl) ?_
            refine sa_bipush X.1 dL_areWidths_112 (by decide) ?_
            refine lv_iload X.1.1 X.1.2.1 dL_areWidths_114 (lv_at hl 11 rfl) ?_
            have c145 := hw.1
            have hw := hw.2
            refine sa_iadd X.1 dL_areWidths_116 ?_
            have c146 := hw.1
            have hw := hw.2
            refine ra_113 X hR (okf X.2.2.1 rfl) c146 dL_areWidths_117 ?_
            have r147 := hR.r 113 0 (8 + y12)
            have r148 := inR_ite (c := ¬ x143 = (M142 113 0 (8 + y12))) (inR_c (a := 0) rfl) (inR_c (a := 1) rfl)
            refine cut_j (A := ∀ v149 : Int, v149 = (if ¬ x143 = (M142 113 0 (8 + y12)) then (0 : Int) else 1) → WU p l e 10 44 264 s m args below meth c G e0 α0 κ0 B Qm H locs cl sl 126 ls [.int (Int32.ofInt v149)]) (fun J150 => ?_) ?_
            · refine sa_icmp_ne (tgt := 125) X.1 r144 r147 dL_areWidths_118 (by decide) (fun hc => ?_) (fun hc => ?_)
              · skip
                refine sa_const X.1 dL_areWidths_125 ?_
                exact J150 (0) (if_pos (c := ¬ x143 = (M142 113 0 (8 + y12))) hc).symm
              · skip
                refine sa_const X.1 dL_areWidths_121 ?_
                refine lv_goto (tgt := 126) X.1.1 X.1.2.1 dL_areWidths_122 (by decide) ?_
                exact J150 (1) (if_neg (c := ¬ x143 = (M142 113 0 (8 + y12))) (fun z => z hc)).symm
            intro v149 hv149
            subst hv149
            refine lv_istore (lv' := [(11, .int (Int32.ofInt (if ¬ x143 = (M142 113 0 (8 + y12)) then (0 : Int) else 1))), (9, .int (Int32.ofInt (y9 + (M 113 0 (8 + y12))))), (0, .ref (α 10 0)), (1, .ref (α 104 0)), (2, .ref (α 105 0)), (4, .ref (α 107 0)), (5, .ref (α 108 0)), (6, .ref (α 109 0)), (7, .ref (α 112 0)), (8, .ref (α 113 0)), (10, .int (Int32.ofInt y10)), (12, .int (Int32.ofInt y12))]) X.1.1 X.1.2.1 dL_areWidths_126 hl (by decide) rfl (fun ls hl => ?_)
            have c151 := hw.1
            have hw := hw.2
            refine lv_iinc (v := Int32.ofInt (y12 + 1)) (lv' := [(12, .int (Int32.ofInt (y12 + 1))), (11, .int (Int32.ofInt (if ¬ x143 = (M142 113 0 (8 + y12)) then (0 : Int) else 1))), (9, .int (Int32.ofInt (y9 + (M 113 0 (8 + y12))))), (0, .ref (α 10 0)), (1, .ref (α 104 0)), (2, .ref (α 105 0)), (4, .ref (α 107 0)), (5, .ref (α 108 0)), (6, .ref (α 109 0)), (7, .ref (α 112 0)), (8, .ref (α 113 0)), (10, .int (Int32.ofInt y10))]) X.1.1 X.1.2.1 dL_areWidths_128 hl (k := 11) rfl (Int32.ofInt_add _ _).symm (by decide) rfl (fun ls hl => ?_)
            refine lv_goto (tgt := 47) X.1.1 X.1.2.1 dL_areWidths_131 (by decide) ?_
            exact ih _ _ _ _ _ hw c129 hy10 r148 c151 _ _ (by omega) (by omega) _ _ hR hS _ (lv_sub hl [3, 4, 5, 6, 7, 8, 9, 10, 2, 11, 1, 0] rfl)
set_option maxHeartbeats 4000000 in
set_option maxRecDepth 100000 in
theorem t_L_areWidths {α0 : Ax} {κ0 : Nat → Int} (X : CX p m c cL_areWidths 15 s args RL G B κ meth (some .boolean)) (N : NcA s) (hlt : l.stackTraces = false) (hb : Bk G e0 α κ α0 κ0 B) {M : Mem} {Qm : Int → Mem → Prop} (hw : wp_L_areWidths M Qm) (cl sl : Nat) (hc1 : cl + 44 ≤ 44) (hc2 : sl + 264 ≤ 264) (H : Heap) (locs : List Loc) (hR : Rp G e0 α κ B M H) (hS : va_S (fun q => B ≤ q) s.heap H locs) (ls : Array Slot) (hl : lv_has ls 15 [(0, .ref (α 10 0)), (1, .ref (α 104 0)), (2, .ref (α 105 0)), (3, .ref (α 106 0)), (4, .ref (α 107 0)), (5, .ref (α 108 0)), (6, .ref (α 109 0)), (7, .ref (α 112 0)), (8, .ref (α 113 0))]) : WU p l e 10 44 264 s m args below meth c G e0 α0 κ0 B Qm H locs cl sl 0 ls [] := by
  have hw : wp_L_widths M fun (M1 : Mem) => wp_L_heights M1 fun (M2 : Mem) => wp_L_visible M2 fun (x4 : Int) (M3 : Mem) => (inR (x4 - 1)) ∧ (∃ n152 : Nat, wp_L_areWidths_47 Qm n152 (x4 - 1) 0 1 0 M3) := hw
  refine lv_aload_n X.1.1 X.1.2.1 dL_areWidths_0 rfl (lv_at hl 1 rfl) ?_
  refine lv_aload_n X.1.1 X.1.2.1 dL_areWidths_1 rfl (lv_at hl 2 rfl) ?_
  refine lv_aload X.1.1 X.1.2.1 dL_areWidths_2 (lv_at hl 4 rfl) ?_
  refine lv_aload X.1.1 X.1.2.1 dL_areWidths_4 (lv_at hl 5 rfl) ?_
  refine lv_aload X.1.1 X.1.2.1 dL_areWidths_6 (lv_at hl 6 rfl) ?_
  refine lv_aload X.1.1 X.1.2.1 dL_areWidths_8 (lv_at hl 7 rfl) ?_
  refine lv_aload X.1.1 X.1.2.1 dL_areWidths_10 (lv_at hl 8 rfl) ?_
  refine cs_L_widths X  (kc := 10) rmX_ok ⟨by show _ ≤ 44; omega, by show _ ≤ 264; omega⟩ (by decide) hR hS kw_1225 hl.1 dL_areWidths_12 (Nat.le_of_ble_eq_true rfl) hw (fun M1 H locs hw hR hS => ?_)
  refine lv_aload_n X.1.1 X.1.2.1 dL_areWidths_15 rfl (lv_at hl 1 rfl) ?_
  refine lv_aload_n X.1.1 X.1.2.1 dL_areWidths_16 rfl (lv_at hl 3 rfl) ?_
  refine lv_aload X.1.1 X.1.2.1 dL_areWidths_17 (lv_at hl 4 rfl) ?_
  refine lv_aload X.1.1 X.1.2.1 dL_areWidths_19 (lv_at hl 5 rfl) ?_
  refine lv_aload X.1.1 X.1.2.1 dL_areWidths_21 (lv_at hl 7 rfl) ?_
  refine lv_aload X.1.1 X.1.2.1 dL_areWidths_23 (lv_at hl 8 rfl) ?_
  refine cs_L_heights X  (kc := 10) rmX_ok ⟨by show _ ≤ 44; omega, by show _ ≤ 264; omega⟩ (by decide) hR hS kw_1251 hl.1 dL_areWidths_25 (Nat.le_of_ble_eq_true rfl) hw (fun M2 H locs hw hR hS => ?_)
  refine lv_aload_n X.1.1 X.1.2.1 dL_areWidths_28 rfl (lv_at hl 1 rfl) ?_
  refine lv_aload X.1.1 X.1.2.1 dL_areWidths_29 (lv_at hl 7 rfl) ?_
  refine cs_L_visible X  (kc := 10) rmX_ok ⟨by show _ ≤ 44; omega, by show _ ≤ 264; omega⟩ (by decide) hR hS kw_1179 hl.1 dL_areWidths_31 (Nat.le_of_ble_eq_true rfl) hw (fun x4 M3 H locs hw r5 hR hS => ?_)
  refine sa_const X.1 dL_areWidths_34 ?_
  have c6 := hw.1
  have hw := hw.2
  refine sa_isub X.1 dL_areWidths_35 ?_
  refine lv_istore (lv' := [(9, .int (Int32.ofInt (x4 - 1))), (0, .ref (α 10 0)), (1, .ref (α 104 0)), (2, .ref (α 105 0)), (3, .ref (α 106 0)), (4, .ref (α 107 0)), (5, .ref (α 108 0)), (6, .ref (α 109 0)), (7, .ref (α 112 0)), (8, .ref (α 113 0))]) X.1.1 X.1.2.1 dL_areWidths_36 hl (by decide) rfl (fun ls hl => ?_)
  refine sa_const X.1 dL_areWidths_38 ?_
  refine lv_istore (lv' := [(10, .int (Int32.ofInt 0)), (9, .int (Int32.ofInt (x4 - 1))), (0, .ref (α 10 0)), (1, .ref (α 104 0)), (2, .ref (α 105 0)), (3, .ref (α 106 0)), (4, .ref (α 107 0)), (5, .ref (α 108 0)), (6, .ref (α 109 0)), (7, .ref (α 112 0)), (8, .ref (α 113 0))]) X.1.1 X.1.2.1 dL_areWidths_39 hl (by decide) rfl (fun ls hl => ?_)
  refine sa_const X.1 dL_areWidths_41 ?_
  refine lv_istore (lv' := [(11, .int (Int32.ofInt 1)), (10, .int (Int32.ofInt 0)), (9, .int (Int32.ofInt (x4 - 1))), (0, .ref (α 10 0)), (1, .ref (α 104 0)), (2, .ref (α 105 0)), (3, .ref (α 106 0)), (4, .ref (α 107 0)), (5, .ref (α 108 0)), (6, .ref (α 109 0)), (7, .ref (α 112 0)), (8, .ref (α 113 0))]) X.1.1 X.1.2.1 dL_areWidths_42 hl (by decide) rfl (fun ls hl => ?_)
  refine sa_const X.1 dL_areWidths_44 ?_
  refine lv_istore (lv' := [(12, .int (Int32.ofInt 0)), (11, .int (Int32.ofInt 1)), (10, .int (Int32.ofInt 0)), (9, .int (Int32.ofInt (x4 - 1))), (0, .ref (α 10 0)), (1, .ref (α 104 0)), (2, .ref (α 105 0)), (3, .ref (α 106 0)), (4, .ref (α 107 0)), (5, .ref (α 108 0)), (6, .ref (α 109 0)), (7, .ref (α 112 0)), (8, .ref (α 113 0))]) X.1.1 X.1.2.1 dL_areWidths_45 hl (by decide) rfl (fun ls hl => ?_)
  obtain ⟨n152, hw⟩ := hw
  exact t_L_areWidths_47 X N hlt hb n152 _ _ _ _ _ hw c6 (inR_c (a := 0) rfl) (inR_c (a := 1) rfl) (inR_c (a := 0) rfl) _ _ (by omega) (by omega) _ _ hR hS _ (lv_sub hl [4, 5, 6, 8, 9, 10, 11, 12, 3, 2, 1, 0] rfl)
theorem m_L_areWidths {l : Launch} {G : Gx} {e0 : Nat} {α : Ax} {κ : Nat → Int} {B : Nat} (hlt : l.stackTraces = false) (hκ : kOK κ) {M : Mem} {Qm : Int → Mem → Prop} (hw : wp_L_areWidths M Qm) : UC l yL_areWidths (Cond.code yL_areWidths cL_areWidths 15 (some .boolean)) 10 44 264 G e0 α κ B [.ref (α 10 0), .ref (α 104 0), .ref (α 105 0), .ref (α 106 0), .ref (α 107 0), .ref (α 108 0), .ref (α 109 0), .ref (α 112 0), .ref (α 113 0)] M Qm :=
  UC.mk hκ (by decide +kernel) rfl (Nat.le_of_ble_eq_true rfl) (lv := [(0, .ref (α 10 0)), (1, .ref (α 104 0)), (2, .ref (α 105 0)), (3, .ref (α 106 0)), (4, .ref (α 107 0)), (5, .ref (α 108 0)), (6, .ref (α 109 0)), (7, .ref (α 112 0)), (8, .ref (α 113 0))]) rfl (fun p e s m args below meth c ls X N hR hS hl => t_L_areWidths X N hlt Bk.rf hw 0 0 (by decide) (by decide) _ _ hR hS ls hl)
def wp_L_arePages_614 (κ : Nat → Int) (p9 : Int) (Qm : Int → Mem → Prop) (y13 : Int) (M : Mem) : Prop := (bit y13) ∧ Qm y13 M
def wp_L_arePages_608 (κ : Nat → Int) (p9 : Int) (Qm : Int → Mem → Prop) (K419 : Int → Int → Mem → Prop) (y13 : Int) (y16 : Int) (M : Mem) : Prop := (inR (y16 + 1)) ∧ K419 y13 (y16 + 1) M
def wp_L_arePages_517 (κ : Nat → Int) (p9 : Int) (Qm : Int → Mem → Prop) (K419 : Int → Int → Mem → Prop) (K480 : Int → Int → Int → Int → Int → Mem → Prop) : Nat → Int → Int → Int → Int → Int → Int → Mem → Prop
  | 0 => fun _ _ _ _ _ _ _ => False
  | n + 1 => fun y16 y17 y18 y19 y20 y21 M => (inR (6 * y16)) ∧ (inR ((6 * y16) + 2)) ∧ (0 ≤ ((6 * y16) + 2) ∧ ((6 * y16) + 2) < 60) ∧ (inR (y18 + (M 107 0 ((6 * y16) + 2)))) ∧ (((y18 + (M 107 0 ((6 * y16) + 2))) ≤ y21 → (inR (y17 - (if y20 ≤ y17 then y20 else y17))) ∧ wo_X9_shown y16 y19 M fun (x60 : Int) (M59 : Mem) => (inR (y19 + 1)) ∧ K480 (if ¬ x60 = (if y20 ≤ y17 then y20 else y17) then (0 : Int) else 1) y16 (y17 - (if y20 ≤ y17 then y20 else y17)) y18 (y19 + 1) M59) ∧ (y21 < (y18 + (M 107 0 ((6 * y16) + 2))) → (0 ≤ y21 ∧ y21 < 10) ∧ (inR (6 * (M 106 0 y21))) ∧ (inR ((6 * (M 106 0 y21)) + y19)) ∧ (0 ≤ ((6 * (M 106 0 y21)) + y19) ∧ ((6 * (M 106 0 y21)) + y19) < 60) ∧ (inR (y20 + (M 115 0 ((6 * (M 106 0 y21)) + y19)))) ∧ (inR (y21 + 1)) ∧ wp_L_arePages_517 κ p9 Qm K419 K480 n y16 y17 y18 y19 (y20 + (M 115 0 ((6 * (M 106 0 y21)) + y19))) (y21 + 1) M))
def wp_L_arePages_480 (κ : Nat → Int) (p9 : Int) (Qm : Int → Mem → Prop) (K419 : Int → Int → Mem → Prop) : Nat → Int → Int → Int → Int → Int → Mem → Prop
  | 0 => fun _ _ _ _ _ _ => False
  | n + 1 => fun y13 y16 y17 y18 y19 M => (((M 114 0 0) ≤ y19 → wp_L_arePages_608 κ p9 Qm K419 y13 y16 M) ∧ (y19 < (M 114 0 0) → ((y13 = 0 → wp_L_arePages_608 κ p9 Qm K419 y13 y16 M) ∧ (¬ y13 = 0 → (inR (6 * y16)) ∧ (0 ≤ (6 * y16) ∧ (6 * y16) < 60) ∧ (inR (3 * (M 107 0 (6 * y16)))) ∧ (0 ≤ (3 * (M 107 0 (6 * y16))) ∧ (3 * (M 107 0 (6 * y16))) < 30) ∧ ((¬ (M 105 0 (3 * (M 107 0 (6 * y16)))) = 1 → wp_L_arePages_608 κ p9 Qm K419 y13 y16 M) ∧ ((M 105 0 (3 * (M 107 0 (6 * y16)))) = 1 → (∃ n74 : Nat, wp_L_arePages_517 κ p9 Qm K419 (wp_L_arePages_480 κ p9 Qm K419 n) n74 y16 y17 y18 y19 0 y18 M)))))))
def wp_L_arePages_419 (κ : Nat → Int) (p9 : Int) (Qm : Int → Mem → Prop) : Nat → Int → Int → Mem → Prop
  | 0 => fun _ _ _ => False
  | n + 1 => fun y13 y16 M => (((M 112 0 2) ≤ y16 → wp_L_arePages_614 κ p9 Qm y13 M) ∧ (y16 < (M 112 0 2) → ((y13 = 0 → wp_L_arePages_614 κ p9 Qm y13 M) ∧ (¬ y13 = 0 → (((M 114 0 0) ≤ 0 → wp_L_arePages_614 κ p9 Qm y13 M) ∧ (0 < (M 114 0 0) → ((7 ≤ (M 114 0 0) → wp_L_arePages_614 κ p9 Qm y13 M) ∧ ((M 114 0 0) < 7 → wp_L_lines y16 M fun (x34 : Int) (M33 : Mem) => (inR (6 * y16)) ∧ (0 ≤ (6 * y16) ∧ (6 * y16) < 60) ∧ wp_L_placeOf (M33 107 0 (6 * y16)) M33 fun (x40 : Int) (M39 : Mem) => (∃ n75 : Nat, wp_L_arePages_480 κ p9 Qm (wp_L_arePages_419 κ p9 Qm n) n75 y13 y16 x34 x40 0 M39)))))))))
def wp_L_arePages_416 (κ : Nat → Int) (p9 : Int) (Qm : Int → Mem → Prop) (y13 : Int) (M : Mem) : Prop := (∃ n76 : Nat, wp_L_arePages_419 κ p9 Qm n76 y13 0 M)
def wp_L_arePages_407 (κ : Nat → Int) (p9 : Int) (Qm : Int → Mem → Prop) (K252 : Int → Int → Int → Mem → Prop) (y14 : Int) (y16 : Int) (M : Mem) : Prop := (inR (y16 + 1)) ∧ K252 0 y14 (y16 + 1) M
def wp_L_arePages_403 (κ : Nat → Int) (p9 : Int) (Qm : Int → Mem → Prop) (K252 : Int → Int → Int → Mem → Prop) (y14 : Int) (y16 : Int) (M : Mem) : Prop := (inR (y16 + 1)) ∧ K252 1 y14 (y16 + 1) M
def wp_L_arePages_328 (κ : Nat → Int) (p9 : Int) (Qm : Int → Mem → Prop) (K252 : Int → Int → Int → Mem → Prop) (K279 : Int → Int → Int → Int → Mem → Prop) (y14 : Int) (y16 : Int) (y18 : Int) (z0 : Int) (z1 : Int) (M : Mem) : Prop := (inR (z1 + z0)) ∧ (inR (y18 + 1)) ∧ K279 y14 y16 (z1 + z0) (y18 + 1) M
def wp_L_arePages_327 (κ : Nat → Int) (p9 : Int) (Qm : Int → Mem → Prop) (K252 : Int → Int → Int → Mem → Prop) (K279 : Int → Int → Int → Int → Mem → Prop) (y14 : Int) (y16 : Int) (y18 : Int) (z0 : Int) (M : Mem) : Prop := wp_L_arePages_328 κ p9 Qm K252 K279 y14 y16 y18 0 z0 M
def wp_L_arePages_279 (κ : Nat → Int) (p9 : Int) (Qm : Int → Mem → Prop) (K252 : Int → Int → Int → Mem → Prop) : Nat → Int → Int → Int → Int → Mem → Prop
  | 0 => fun _ _ _ _ _ => False
  | n + 1 => fun y14 y16 y17 y18 M => (((M 112 0 1) ≤ y18 → wo_X9_used y16 M fun (x80 : Int) (M79 : Mem) => (inR (1 + y16)) ∧ (0 ≤ (1 + y16) ∧ (1 + y16) < 13) ∧ ((¬ x80 = (M79 114 0 (1 + y16)) → wp_L_arePages_407 κ p9 Qm K252 y14 y16 M79) ∧ (x80 = (M79 114 0 (1 + y16)) → wo_X9_notesOn y16 M79 fun (x87 : Int) (M86 : Mem) => (inR (7 + y16)) ∧ (0 ≤ (7 + y16) ∧ (7 + y16) < 13) ∧ ((¬ x87 = (M86 114 0 (7 + y16)) → wp_L_arePages_407 κ p9 Qm K252 y14 y16 M86) ∧ (x87 = (M86 114 0 (7 + y16)) → wo_X9_carried y16 y14 M86 fun (x93 : Int) (M92 : Mem) => ((¬ x93 = y17 → wp_L_arePages_407 κ p9 Qm K252 y14 y16 M92) ∧ (x93 = y17 → ((0 < (Int.tmod p9 3) → wp_L_arePages_403 κ p9 Qm K252 y14 y16 M92) ∧ ((Int.tmod p9 3) ≤ 0 → wo_X9_carriedByCells y16 y14 M92 fun (x98 : Int) (M97 : Mem) => (inR (y16 + 1)) ∧ K252 (if ¬ x98 = y17 then (0 : Int) else 1) y14 (y16 + 1) M97))))))))) ∧ (y18 < (M 112 0 1) → (inR (3 * y18)) ∧ (0 ≤ (3 * y18) ∧ (3 * y18) < 30) ∧ ((¬ (M 105 0 (3 * y18)) = 1 → wp_L_arePages_327 κ p9 Qm K252 (wp_L_arePages_279 κ p9 Qm K252 n) y14 y16 y18 y17 M) ∧ ((M 105 0 (3 * y18)) = 1 → (0 ≤ y18 ∧ y18 < 10) ∧ ((y16 < (M 116 0 y18) → wp_L_arePages_327 κ p9 Qm K252 (wp_L_arePages_279 κ p9 Qm K252 n) y14 y16 y18 y17 M) ∧ ((M 116 0 y18) ≤ y16 → wp_L_figure y18 y14 M fun (x112 : Int) (M111 : Mem) => wp_L_arePages_328 κ p9 Qm K252 (wp_L_arePages_279 κ p9 Qm K252 n) y14 y16 y18 x112 y17 M111))))))
def wp_L_arePages_252 (κ : Nat → Int) (p9 : Int) (Qm : Int → Mem → Prop) : Nat → Int → Int → Int → Mem → Prop
  | 0 => fun _ _ _ _ => False
  | n + 1 => fun y13 y14 y16 M => ((6 ≤ y16 → wp_L_arePages_416 κ p9 Qm y13 M) ∧ (y16 < 6 → (((M 114 0 0) ≤ y16 → wp_L_arePages_416 κ p9 Qm y13 M) ∧ (y16 < (M 114 0 0) → ((y13 = 0 → wp_L_arePages_416 κ p9 Qm y13 M) ∧ (¬ y13 = 0 → (∃ n114 : Nat, wp_L_arePages_279 κ p9 Qm (wp_L_arePages_252 κ p9 Qm n) n114 y14 y16 0 0 M)))))))
def wp_L_arePages_249 (κ : Nat → Int) (p9 : Int) (Qm : Int → Mem → Prop) (y13 : Int) (y14 : Int) (M : Mem) : Prop := (∃ n115 : Nat, wp_L_arePages_252 κ p9 Qm n115 y13 y14 0 M)
def wp_L_arePages_243 (κ : Nat → Int) (p9 : Int) (Qm : Int → Mem → Prop) (K143 : Int → Int → Int → Mem → Prop) (y13 : Int) (y14 : Int) (y16 : Int) (M : Mem) : Prop := (inR (y16 + 1)) ∧ K143 y13 y14 (y16 + 1) M
def wp_L_arePages_234 (κ : Nat → Int) (p9 : Int) (Qm : Int → Mem → Prop) (K143 : Int → Int → Int → Mem → Prop) (K167 : Int → Int → Int → Int → Mem → Prop) (y14 : Int) (y16 : Int) (y17 : Int) (M : Mem) : Prop := (inR (y17 + 1)) ∧ K167 0 y14 y16 (y17 + 1) M
def wp_L_arePages_230 (κ : Nat → Int) (p9 : Int) (Qm : Int → Mem → Prop) (K143 : Int → Int → Int → Mem → Prop) (K167 : Int → Int → Int → Int → Mem → Prop) (y14 : Int) (y16 : Int) (y17 : Int) (M : Mem) : Prop := (inR (y17 + 1)) ∧ K167 1 y14 y16 (y17 + 1) M
def wp_L_arePages_167 (κ : Nat → Int) (p9 : Int) (Qm : Int → Mem → Prop) (K143 : Int → Int → Int → Mem → Prop) : Nat → Int → Int → Int → Int → Mem → Prop
  | 0 => fun _ _ _ _ _ => False
  | n + 1 => fun y13 y14 y16 y17 M => ((6 ≤ y17 → wp_L_arePages_243 κ p9 Qm K143 y13 y14 y16 M) ∧ (y17 < 6 → ((y13 = 0 → wp_L_arePages_243 κ p9 Qm K143 y13 y14 y16 M) ∧ (¬ y13 = 0 → (inR (3 * y16)) ∧ (0 ≤ (3 * y16) ∧ (3 * y16) < 30) ∧ ((¬ (M 105 0 (3 * y16)) = 1 → wp_L_arePages_243 κ p9 Qm K143 y13 y14 y16 M) ∧ ((M 105 0 (3 * y16)) = 1 → wo_X9_linesOn y16 y17 M fun (x122 : Int) (M121 : Mem) => (inR (6 * y16)) ∧ (inR ((6 * y16) + y17)) ∧ (0 ≤ ((6 * y16) + y17) ∧ ((6 * y16) + y17) < 60) ∧ ((¬ x122 = (M121 115 0 ((6 * y16) + y17)) → wp_L_arePages_234 κ p9 Qm K143 (wp_L_arePages_167 κ p9 Qm K143 n) y14 y16 y17 M121) ∧ (x122 = (M121 115 0 ((6 * y16) + y17)) → ((0 < y17 → wp_L_arePages_230 κ p9 Qm K143 (wp_L_arePages_167 κ p9 Qm K143 n) y14 y16 y17 M121) ∧ (y17 ≤ 0 → wo_X9_pageOf y16 M121 fun (x131 : Int) (M130 : Mem) => (0 ≤ y16 ∧ y16 < 10) ∧ (inR (y17 + 1)) ∧ wp_L_arePages_167 κ p9 Qm K143 n (if ¬ x131 = (M130 116 0 y16) then (0 : Int) else 1) y14 y16 (y17 + 1) M130))))))))))
def wp_L_arePages_143 (κ : Nat → Int) (p9 : Int) (Qm : Int → Mem → Prop) : Nat → Int → Int → Int → Mem → Prop
  | 0 => fun _ _ _ _ => False
  | n + 1 => fun y13 y14 y16 M => (((M 112 0 1) ≤ y16 → wp_L_arePages_249 κ p9 Qm y13 y14 M) ∧ (y16 < (M 112 0 1) → ((y13 = 0 → wp_L_arePages_249 κ p9 Qm y13 y14 M) ∧ (¬ y13 = 0 → (((M 114 0 0) ≤ 0 → wp_L_arePages_249 κ p9 Qm y13 y14 M) ∧ (0 < (M 114 0 0) → (∃ n139 : Nat, wp_L_arePages_167 κ p9 Qm (wp_L_arePages_143 κ p9 Qm n) n139 y13 y14 y16 0 M)))))))
def wp_L_arePages_137 (κ : Nat → Int) (p9 : Int) (Qm : Int → Mem → Prop) (y14 : Int) (M : Mem) : Prop := (∃ n140 : Nat, wp_L_arePages_143 κ p9 Qm n140 0 y14 0 M)
def wp_L_arePages_108 (κ : Nat → Int) (p9 : Int) (Qm : Int → Mem → Prop) (K69 : Int → Int → Int → Int → Mem → Prop) (y13 : Int) (y14 : Int) (y16 : Int) (z0 : Int) (z1 : Int) (M : Mem) : Prop := (inR (z1 + z0)) ∧ (inR (y16 + 1)) ∧ K69 y13 y14 (z1 + z0) (y16 + 1) M
def wp_L_arePages_69 (κ : Nat → Int) (p9 : Int) (Qm : Int → Mem → Prop) : Nat → Int → Int → Int → Int → Mem → Prop
  | 0 => fun _ _ _ _ _ => False
  | n + 1 => fun y13 y14 y15 y16 M => (((M 112 0 1) ≤ y16 → ((y13 = 0 → wp_L_arePages_137 κ p9 Qm y14 M) ∧ (¬ y13 = 0 → wo_X9_total y14 M fun (x142 : Int) (M141 : Mem) => (∃ n147 : Nat, wp_L_arePages_143 κ p9 Qm n147 (if ¬ x142 = y15 then (0 : Int) else 1) y14 0 M141)))) ∧ (y16 < (M 112 0 1) → (inR (3 * y16)) ∧ (0 ≤ (3 * y16) ∧ (3 * y16) < 30) ∧ ((¬ (M 105 0 (3 * y16)) = 1 → wp_L_arePages_108 κ p9 Qm (wp_L_arePages_69 κ p9 Qm n) y13 y14 y16 0 y15 M) ∧ ((M 105 0 (3 * y16)) = 1 → wp_L_figure y16 y14 M fun (x154 : Int) (M153 : Mem) => wp_L_arePages_108 κ p9 Qm (wp_L_arePages_69 κ p9 Qm n) y13 y14 y16 x154 y15 M153))))
def wp_L_arePages_18 (κ : Nat → Int) (p9 : Int) (Qm : Int → Mem → Prop) (M : Mem) : Prop := wp_L_walk M fun (M16 : Mem) => wp_L_pages M16 fun (x17 : Int) (M19 : Mem) => (0 < (M19 112 0 0)) ∧ (∃ n156 : Nat, wp_L_arePages_69 κ p9 Qm n156 (if ¬ x17 = (M19 114 0 0) then (0 : Int) else 1) (Int.tmod p9 (M19 112 0 0)) 0 0 M19)
def wp_L_arePages (κ : Nat → Int) (p9 : Int) (M : Mem) (Qm : Int → Mem → Prop) : Prop := (κ 114 = 0) ∧ ∀ M4 : Mem, M4 = zM M 114 → ((kup [114] κ) 115 = 0) ∧ ∀ M9 : Mem, M9 = zM M4 115 → ((kup [115] (kup [114] κ)) 116 = 0) ∧ ∀ M14 : Mem, M14 = zM M9 116 → wp_L_arePages_18 (kup [116] (kup [115] (kup [114] κ))) p9 Qm M14
set_option maxHeartbeats 4000000 in
set_option maxRecDepth 100000 in
theorem t_L_arePages_614 {α0 : Ax} {κ0 : Nat → Int} {p9 : Int} (X : CX p m c cL_arePages 22 s args RL G B κ meth (some .boolean)) (N : NcA s) (hlt : l.stackTraces = false) (hb : Bk G e0 α κ α0 κ0 B) (hp9 : inR p9) (ho114 : okk κ 114 0) (ho115 : okk κ 115 0) (ho116 : okk κ 116 0) {Qm : Int → Mem → Prop} : ∀ y13 : Int, ∀ M : Mem, wp_L_arePages_614 κ p9 Qm y13 M → inR y13 → ∀ cl sl : Nat, cl + 0 ≤ 4 → sl + 0 ≤ 89 → ∀ (H : Heap) (locs : List Loc), Rp G e0 α κ B M H → va_S (fun q => B ≤ q) s.heap H locs → ∀ (ls : Array Slot), lv_has ls 22 [(13, .int (Int32.ofInt y13))] → WU p l e 10 4 89 s m args below meth c G e0 α0 κ0 B Qm H locs cl sl 614 ls [] := by
  intro y13 M hw hy13 cl sl hc1 hc2 H locs hR hS ls hl
  have hw : (bit y13) ∧ Qm y13 M := hw
  refine lv_iload X.1.1 X.1.2.1 dL_arePages_614 (lv_at hl 0 rfl) ?_
  have c30 := hw.1
  have hw := hw.2
  exact su_zret X hb hR hS c30 hw dL_arePages_616 (by omega) (by omega)
set_option maxHeartbeats 4000000 in
set_option maxRecDepth 100000 in
theorem t_L_arePages_608 {α0 : Ax} {κ0 : Nat → Int} {p9 : Int} (X : CX p m c cL_arePages 22 s args RL G B κ meth (some .boolean)) (N : NcA s) (hlt : l.stackTraces = false) (hb : Bk G e0 α κ α0 κ0 B) (hp9 : inR p9) (ho114 : okk κ 114 0) (ho115 : okk κ 115 0) (ho116 : okk κ 116 0) {Qm : Int → Mem → Prop} {K419 : Int → Int → Mem → Prop} (hK419 : ∀ y13 : Int, ∀ y16 : Int, ∀ M : Mem, K419 y13 y16 M → inR y13 → inR y16 → ∀ cl sl : Nat, cl + 0 ≤ 4 → sl + 0 ≤ 89 → ∀ (H : Heap) (locs : List Loc), Rp G e0 α κ B M H → va_S (fun q => B ≤ q) s.heap H locs → ∀ (ls : Array Slot), lv_has ls 22 [(0, .ref (α 10 0)), (1, .ref (α 104 0)), (2, .ref (α 105 0)), (3, .ref (α 106 0)), (4, .ref (α 107 0)), (5, .ref (α 108 0)), (7, .ref (α 112 0)), (8, .ref (α 113 0)), (10, .ref (α 114 0)), (11, .ref (α 115 0)), (13, .int (Int32.ofInt y13)), (16, .int (Int32.ofInt y16))] → WU p l e 10 4 89 s m args below meth c G e0 α0 κ0 B Qm H locs cl sl 419 ls []) : ∀ y13 : Int, ∀ y16 : Int, ∀ M : Mem, wp_L_arePages_608 κ p9 Qm K419 y13 y16 M → inR y13 → inR y16 → ∀ cl sl : Nat, cl + 0 ≤ 4 → sl + 0 ≤ 89 → ∀ (H : Heap) (locs : List Loc), Rp G e0 α κ B M H → va_S (fun q => B ≤ q) s.heap H locs → ∀ (ls : Array Slot), lv_has ls 22 [(0, .ref (α 10 0)), (1, .ref (α 104 0)), (2, .ref (α 105 0)), (3, .ref (α 106 0)), (4, .ref (α 107 0)), (5, .ref (α 108 0)), (7, .ref (α 112 0)), (8, .ref (α 113 0)), (10, .ref (α 114 0)), (11, .ref (α 115 0)), (13, .int (Int32.ofInt y13)), (16, .int (Int32.ofInt y16))] → WU p l e 10 4 89 s m args below meth c G e0 α0 κ0 B Qm H locs cl sl 608 ls [] := by
  intro y13 y16 M hw hy13 hy16 cl sl hc1 hc2 H locs hR hS ls hl
  have hw : (inR (y16 + 1)) ∧ K419 y13 (y16 + 1) M := hw
  have c43 := hw.1
  have hw := hw.2
  refine lv_iinc (v := Int32.ofInt (y16 + 1)) (lv' := [(16, .int (Int32.ofInt (y16 + 1))), (0, .ref (α 10 0)), (1, .ref (α 104 0)), (2, .ref (α 105 0)), (3, .ref (α 106 0)), (4, .ref (α 107 0)), (5, .ref (α 108 0)), (7, .ref (α 112 0)), (8, .ref (α 113 0)), (10, .ref (α 114 0)), (11, .ref (α 115 0)), (13, .int (Int32.ofInt y13))]) X.1.1 X.1.2.1 dL_arePages_608 hl (k := 11) rfl (Int32.ofInt_add _ _).symm (by decide) rfl (fun ls hl => ?_)
  refine lv_goto (tgt := 419) X.1.1 X.1.2.1 dL_arePages_611 (by decide) ?_
  exact hK419 _ _ _ hw hy13 c43 _ _ (by omega) (by omega) _ _ hR hS _ (lv_sub hl [1, 2, 3, 4, 5, 6, 7, 8, 9, 10, 11, 0] rfl)
set_option maxHeartbeats 4000000 in
set_option maxRecDepth 100000 in
theorem t_L_arePages_517 {α0 : Ax} {κ0 : Nat → Int} {p9 : Int} (X : CX p m c cL_arePages 22 s args RL G B κ meth (some .boolean)) (N : NcA s) (hlt : l.stackTraces = false) (hb : Bk G e0 α κ α0 κ0 B) (hp9 : inR p9) (ho114 : okk κ 114 0) (ho115 : okk κ 115 0) (ho116 : okk κ 116 0) {Qm : Int → Mem → Prop} {K419 : Int → Int → Mem → Prop} {K480 : Int → Int → Int → Int → Int → Mem → Prop} (hK419 : ∀ y13 : Int, ∀ y16 : Int, ∀ M : Mem, K419 y13 y16 M → inR y13 → inR y16 → ∀ cl sl : Nat, cl + 0 ≤ 4 → sl + 0 ≤ 89 → ∀ (H : Heap) (locs : List Loc), Rp G e0 α κ B M H → va_S (fun q => B ≤ q) s.heap H locs → ∀ (ls : Array Slot), lv_has ls 22 [(0, .ref (α 10 0)), (1, .ref (α 104 0)), (2, .ref (α 105 0)), (3, .ref (α 106 0)), (4, .ref (α 107 0)), (5, .ref (α 108 0)), (7, .ref (α 112 0)), (8, .ref (α 113 0)), (10, .ref (α 114 0)), (11, .ref (α 115 0)), (13, .int (Int32.ofInt y13)), (16, .int (Int32.ofInt y16))] → WU p l e 10 4 89 s m args below meth c G e0 α0 κ0 B Qm H locs cl sl 419 ls []) (hK480 : ∀ y13 : Int, ∀ y16 : Int, ∀ y17 : Int, ∀ y18 : Int, ∀ y19 : Int, ∀ M : Mem, K480 y13 y16 y17 y18 y19 M → inR y13 → inR y16 → inR y17 → inR y18 → inR y19 → ∀ cl sl : Nat, cl + 0 ≤ 4 → sl + 0 ≤ 89 → ∀ (H : Heap) (locs : List Loc), Rp G e0 α κ B M H → va_S (fun q => B ≤ q) s.heap H locs → ∀ (ls : Array Slot), lv_has ls 22 [(0, .ref (α 10 0)), (1, .ref (α 104 0)), (2, .ref (α 105 0)), (3, .ref (α 106 0)), (4, .ref (α 107 0)), (5, .ref (α 108 0)), (7, .ref (α 112 0)), (8, .ref (α 113 0)), (10, .ref (α 114 0)), (11, .ref (α 115 0)), (13, .int (Int32.ofInt y13)), (16, .int (Int32.ofInt y16)), (17, .int (Int32.ofInt y17)), (18, .int (Int32.ofInt y18)), (19, .int (Int32.ofInt y19))] → WU p l e 10 4 89 s m args below meth c G e0 α0 κ0 B Qm H locs cl sl 480 ls []) : ∀ n : Nat, ∀ y16 : Int, ∀ y17 : Int, ∀ y18 : Int, ∀ y19 : Int, ∀ y20 : Int, ∀ y21 : Int, ∀ M : Mem, wp_L_arePages_517 κ p9 Qm K419 K480 n y16 y17 y18 y19 y20 y21 M → inR y16 → inR y17 → inR y18 → inR y19 → inR y20 → inR y21 → ∀ cl sl : Nat, cl + 0 ≤ 4 → sl + 0 ≤ 89 → ∀ (H : Heap) (locs : List Loc), Rp G e0 α κ B M H → va_S (fun q => B ≤ q) s.heap H locs → ∀ (ls : Array Slot), lv_has ls 22 [(0, .ref (α 10 0)), (1, .ref (α 104 0)), (2, .ref (α 105 0)), (3, .ref (α 106 0)), (4, .ref (α 107 0)), (5, .ref (α 108 0)), (7, .ref (α 112 0)), (8, .ref (α 113 0)), (10, .ref (α 114 0)), (11, .ref (α 115 0)), (16, .int (Int32.ofInt y16)), (17, .int (Int32.ofInt y17)), (18, .int (Int32.ofInt y18)), (19, .int (Int32.ofInt y19)), (20, .int (Int32.ofInt y20)), (21, .int (Int32.ofInt y21))] → WU p l e 10 4 89 s m args below meth c G e0 α0 κ0 B Qm H locs cl sl 517 ls [] := by
  intro n
  induction n with
  | zero =>
    intro y16 y17 y18 y19 y20 y21 M hw hy16 hy17 hy18 hy19 hy20 hy21 cl sl hc1 hc2 H locs hR hS ls hl
    exact hw.elim
  | succ n ih =>
    intro y16 y17 y18 y19 y20 y21 M hw hy16 hy17 hy18 hy19 hy20 hy21 cl sl hc1 hc2 H locs hR hS ls hl
    have hw : (inR (6 * y16)) ∧ (inR ((6 * y16) + 2)) ∧ (0 ≤ ((6 * y16) + 2) ∧ ((6 * y16) + 2) < 60) ∧ (inR (y18 + (M 107 0 ((6 * y16) + 2)))) ∧ (((y18 + (M 107 0 ((6 * y16) + 2))) ≤ y21 → (inR (y17 - (if y20 ≤ y17 then y20 else y17))) ∧ wo_X9_shown y16 y19 M fun (x60 : Int) (M59 : Mem) => (inR (y19 + 1)) ∧ K480 (if ¬ x60 = (if y20 ≤ y17 then y20 else y17) then (0 : Int) else 1) y16 (y17 - (if y20 ≤ y17 then y20 else y17)) y18 (y19 + 1) M59) ∧ (y21 < (y18 + (M 107 0 ((6 * y16) + 2))) → (0 ≤ y21 ∧ y21 < 10) ∧ (inR (6 * (M 106 0 y21))) ∧ (inR ((6 * (M 106 0 y21)) + y19)) ∧ (0 ≤ ((6 * (M 106 0 y21)) + y19) ∧ ((6 * (M 106 0 y21)) + y19) < 60) ∧ (inR (y20 + (M 115 0 ((6 * (M 106 0 y21)) + y19)))) ∧ (inR (y21 + 1)) ∧ wp_L_arePages_517 κ p9 Qm K419 K480 n y16 y17 y18 y19 (y20 + (M 115 0 ((6 * (M 106 0 y21)) + y19))) (y21 + 1) M)) := hw
    refine lv_iload X.1.1 X.1.2.1 dL_arePages_517 (lv_at hl 15 rfl) ?_
    refine lv_iload X.1.1 X.1.2.1 dL_arePages_519 (lv_at hl 12 rfl) ?_
    refine lv_aload X.1.1 X.1.2.1 dL_arePages_521 (lv_at hl 4 rfl) ?_
    refine sa_bipush X.1 dL_arePages_523 (by decide) ?_
    refine lv_iload X.1.1 X.1.2.1 dL_arePages_525 (lv_at hl 10 rfl) ?_
    have c50 := hw.1
    have hw := hw.2
    refine sa_imul X.1 dL_arePages_527 ?_
    refine sa_const X.1 dL_arePages_528 ?_
    have c51 := hw.1
    have hw := hw.2
    refine sa_iadd X.1 dL_arePages_529 ?_
    have c52 := hw.1
    have hw := hw.2
    refine ra_107 X hR (okf X.2.2.1 rfl) c52 dL_arePages_530 ?_
    have r53 := hR.r 107 0 ((6 * y16) + 2)
    have c54 := hw.1
    have hw := hw.2
    refine sa_iadd X.1 dL_arePages_531 ?_
    refine sa_icmp_ge (tgt := 559) X.1 hy21 c54 dL_arePages_532 (by decide) (fun hc => ?_) (fun hc => ?_)
    · have hw := hw.1 hc
      refine lv_iload X.1.1 X.1.2.1 dL_arePages_559 (lv_at hl 11 rfl) ?_
      refine lv_iload X.1.1 X.1.2.1 dL_arePages_561 (lv_at hl 14 rfl) ?_
      have r55 := inR_ite (c := y20 ≤ y17) hy20 hy17
      refine cut_j (A := ∀ v56 : Int, v56 = (if y20 ≤ y17 then y20 else y17) → WU p l e 10 4 89 s m args below meth c G e0 α0 κ0 B Qm H locs cl sl 573 ls [.int (Int32.ofInt v56)]) (fun J57 => ?_) ?_
      · refine sa_icmp_ge (tgt := 571) X.1 hy17 hy20 dL_arePages_563 (by decide) (fun hc => ?_) (fun hc => ?_)
        · skip
          refine lv_iload X.1.1 X.1.2.1 dL_arePages_571 (lv_at hl 14 rfl) ?_
          exact J57 (y20) (if_pos (c := y20 ≤ y17) hc).symm
        · skip
          refine lv_iload X.1.1 X.1.2.1 dL_arePages_566 (lv_at hl 11 rfl) ?_
          refine lv_goto (tgt := 573) X.1.1 X.1.2.1 dL_arePages_568 (by decide) ?_
          exact J57 (y17) (if_neg (c := y20 ≤ y17) (Int.not_le.mpr hc)).symm
      intro v56 hv56
      subst hv56
      refine lv_istore (lv' := [(21, .int (Int32.ofInt (if y20 ≤ y17 then y20 else y17))), (0, .ref (α 10 0)), (1, .ref (α 104 0)), (2, .ref (α 105 0)), (3, .ref (α 106 0)), (4, .ref (α 107 0)), (5, .ref (α 108 0)), (7, .ref (α 112 0)), (8, .ref (α 113 0)), (10, .ref (α 114 0)), (11, .ref (α 115 0)), (16, .int (Int32.ofInt y16)), (17, .int (Int32.ofInt y17)), (18, .int (Int32.ofInt y18)), (19, .int (Int32.ofInt y19)), (20, .int (Int32.ofInt y20))]) X.1.1 X.1.2.1 dL_arePages_573 hl (by decide) rfl (fun ls hl => ?_)
      refine lv_iload X.1.1 X.1.2.1 dL_arePages_575 (lv_at hl 12 rfl) ?_
      refine lv_iload X.1.1 X.1.2.1 dL_arePages_577 (lv_at hl 0 rfl) ?_
      have c58 := hw.1
      have hw := hw.2
      refine sa_isub X.1 dL_arePages_579 ?_
      refine lv_istore (lv' := [(17, .int (Int32.ofInt (y17 - (if y20 ≤ y17 then y20 else y17)))), (21, .int (Int32.ofInt (if y20 ≤ y17 then y20 else y17))), (0, .ref (α 10 0)), (1, .ref (α 104 0)), (2, .ref (α 105 0)), (3, .ref (α 106 0)), (4, .ref (α 107 0)), (5, .ref (α 108 0)), (7, .ref (α 112 0)), (8, .ref (α 113 0)), (10, .ref (α 114 0)), (11, .ref (α 115 0)), (16, .int (Int32.ofInt y16)), (18, .int (Int32.ofInt y18)), (19, .int (Int32.ofInt y19)), (20, .int (Int32.ofInt y20))]) X.1.1 X.1.2.1 dL_arePages_580 hl (by decide) rfl (fun ls hl => ?_)
      refine lv_aload_n X.1.1 X.1.2.1 dL_arePages_582 rfl (lv_at hl 2 rfl) ?_
      refine lv_iload X.1.1 X.1.2.1 dL_arePages_583 (lv_at hl 12 rfl) ?_
      refine lv_iload X.1.1 X.1.2.1 dL_arePages_585 (lv_at hl 14 rfl) ?_
      refine co_X9_shown X hy16 hy19 (kc := 10) rmX_ok ⟨by show _ ≤ 4; omega, by show _ ≤ 89; omega⟩ (by decide) hR hS kw_1399 hl.1 dL_arePages_587 (Nat.le_of_ble_eq_true rfl) hw (fun x60 M59 H locs hw r61 hR hS => ?_)
      refine lv_iload X.1.1 X.1.2.1 dL_arePages_590 (lv_at hl 1 rfl) ?_
      have r62 := inR_ite (c := ¬ x60 = (if y20 ≤ y17 then y20 else y17)) (inR_c (a := 0) rfl) (inR_c (a := 1) rfl)
      refine cut_j (A := ∀ v63 : Int, v63 = (if ¬ x60 = (if y20 ≤ y17 then y20 else y17) then (0 : Int) else 1) → WU p l e 10 4 89 s m args below meth c G e0 α0 κ0 B Qm H locs cl sl 600 ls [.int (Int32.ofInt v63)]) (fun J64 => ?_) ?_
      · refine sa_icmp_ne (tgt := 599) X.1 r61 r55 dL_arePages_592 (by decide) (fun hc => ?_) (fun hc => ?_)
        · skip
          refine sa_const X.1 dL_arePages_599 ?_
          exact J64 (0) (if_pos (c := ¬ x60 = (if y20 ≤ y17 then y20 else y17)) hc).symm
        · skip
          refine sa_const X.1 dL_arePages_595 ?_
          refine lv_goto (tgt := 600) X.1.1 X.1.2.1 dL_arePages_596 (by decide) ?_
          exact J64 (1) (if_neg (c := ¬ x60 = (if y20 ≤ y17 then y20 else y17)) (fun z => z hc)).symm
      intro v63 hv63
      subst hv63
      refine lv_istore (lv' := [(13, .int (Int32.ofInt (if ¬ x60 = (if y20 ≤ y17 then y20 else y17) then (0 : Int) else 1))), (17, .int (Int32.ofInt (y17 - (if y20 ≤ y17 then y20 else y17)))), (21, .int (Int32.ofInt (if y20 ≤ y17 then y20 else y17))), (0, .ref (α 10 0)), (1, .ref (α 104 0)), (2, .ref (α 105 0)), (3, .ref (α 106 0)), (4, .ref (α 107 0)), (5, .ref (α 108 0)), (7, .ref (α 112 0)), (8, .ref (α 113 0)), (10, .ref (α 114 0)), (11, .ref (α 115 0)), (16, .int (Int32.ofInt y16)), (18, .int (Int32.ofInt y18)), (19, .int (Int32.ofInt y19)), (20, .int (Int32.ofInt y20))]) X.1.1 X.1.2.1 dL_arePages_600 hl (by decide) rfl (fun ls hl => ?_)
      have c65 := hw.1
      have hw := hw.2
      refine lv_iinc (v := Int32.ofInt (y19 + 1)) (lv' := [(19, .int (Int32.ofInt (y19 + 1))), (13, .int (Int32.ofInt (if ¬ x60 = (if y20 ≤ y17 then y20 else y17) then (0 : Int) else 1))), (17, .int (Int32.ofInt (y17 - (if y20 ≤ y17 then y20 else y17)))), (21, .int (Int32.ofInt (if y20 ≤ y17 then y20 else y17))), (0, .ref (α 10 0)), (1, .ref (α 104 0)), (2, .ref (α 105 0)), (3, .ref (α 106 0)), (4, .ref (α 107 0)), (5, .ref (α 108 0)), (7, .ref (α 112 0)), (8, .ref (α 113 0)), (10, .ref (α 114 0)), (11, .ref (α 115 0)), (16, .int (Int32.ofInt y16)), (18, .int (Int32.ofInt y18)), (20, .int (Int32.ofInt y20))]) X.1.1 X.1.2.1 dL_arePages_602 hl (k := 15) rfl (Int32.ofInt_add _ _).symm (by decide) rfl (fun ls hl => ?_)
      refine lv_goto (tgt := 480) X.1.1 X.1.2.1 dL_arePages_605 (by decide) ?_
      exact hK480 _ _ _ _ _ _ hw r62 hy16 c58 hy18 c65 _ _ (by omega) (by omega) _ _ hR hS _ (lv_sub hl [4, 5, 6, 7, 8, 9, 10, 11, 12, 13, 1, 14, 2, 15, 0] rfl)
    · have hw := hw.2 hc
      refine lv_iload X.1.1 X.1.2.1 dL_arePages_535 (lv_at hl 14 rfl) ?_
      refine lv_aload X.1.1 X.1.2.1 dL_arePages_537 (lv_at hl 9 rfl) ?_
      refine sa_bipush X.1 dL_arePages_539 (by decide) ?_
      refine lv_aload_n X.1.1 X.1.2.1 dL_arePages_541 rfl (lv_at hl 3 rfl) ?_
      refine lv_iload X.1.1 X.1.2.1 dL_arePages_542 (lv_at hl 15 rfl) ?_
      have c66 := hw.1
      have hw := hw.2
      refine ra_106 X hR (okf X.2.2.1 rfl) c66 dL_arePages_544 ?_
      have r67 := hR.r 106 0 y21
      have c68 := hw.1
      have hw := hw.2
      refine sa_imul X.1 dL_arePages_545 ?_
      refine lv_iload X.1.1 X.1.2.1 dL_arePages_546 (lv_at hl 13 rfl) ?_
      have c69 := hw.1
      have hw := hw.2
      refine sa_iadd X.1 dL_arePages_548 ?_
      have c70 := hw.1
      have hw := hw.2
      refine ra_115 X hR ho115 c70 dL_arePages_549 ?_
      have r71 := hR.r 115 0 ((6 * (M 106 0 y21)) + y19)
      have c72 := hw.1
      have hw := hw.2
      refine sa_iadd X.1 dL_arePages_550 ?_
      refine lv_istore (lv' := [(20, .int (Int32.ofInt (y20 + (M 115 0 ((6 * (M 106 0 y21)) + y19))))), (0, .ref (α 10 0)), (1, .ref (α 104 0)), (2, .ref (α 105 0)), (3, .ref (α 106 0)), (4, .ref (α 107 0)), (5, .ref (α 108 0)), (7, .ref (α 112 0)), (8, .ref (α 113 0)), (10, .ref (α 114 0)), (11, .ref (α 115 0)), (16, .int (Int32.ofInt y16)), (17, .int (Int32.ofInt y17)), (18, .int (Int32.ofInt y18)), (19, .int (Int32.ofInt y19)), (21, .int (Int32.ofInt y21))]) X.1.1 X.1.2.1 dL_arePages_551 hl (by decide) rfl (fun ls hl => ?_)
      have c73 := hw.1
      have hw := hw.2
      refine lv_iinc (v := Int32.ofInt (y21 + 1)) (lv' := [(21, .int (Int32.ofInt (y21 + 1))), (20, .int (Int32.ofInt (y20 + (M 115 0 ((6 * (M 106 0 y21)) + y19))))), (0, .ref (α 10 0)), (1, .ref (α 104 0)), (2, .ref (α 105 0)), (3, .ref (α 106 0)), (4, .ref (α 107 0)), (5, .ref (α 108 0)), (7, .ref (α 112 0)), (8, .ref (α 113 0)), (10, .ref (α 114 0)), (11, .ref (α 115 0)), (16, .int (Int32.ofInt y16)), (17, .int (Int32.ofInt y17)), (18, .int (Int32.ofInt y18)), (19, .int (Int32.ofInt y19))]) X.1.1 X.1.2.1 dL_arePages_553 hl (k := 15) rfl (Int32.ofInt_add _ _).symm (by decide) rfl (fun ls hl => ?_)
      refine lv_goto (tgt := 517) X.1.1 X.1.2.1 dL_arePages_556 (by decide) ?_
      exact ih _ _ _ _ _ _ _ hw hy16 hy17 hy18 hy19 c72 c73 _ _ (by omega) (by omega) _ _ hR hS _ (lv_sub hl [2, 3, 4, 5, 6, 7, 8, 9, 10, 11, 12, 13, 14, 15, 1, 0] rfl)
set_option maxHeartbeats 4000000 in
set_option maxRecDepth 100000 in
theorem t_L_arePages_480 {α0 : Ax} {κ0 : Nat → Int} {p9 : Int} (X : CX p m c cL_arePages 22 s args RL G B κ meth (some .boolean)) (N : NcA s) (hlt : l.stackTraces = false) (hb : Bk G e0 α κ α0 κ0 B) (hp9 : inR p9) (ho114 : okk κ 114 0) (ho115 : okk κ 115 0) (ho116 : okk κ 116 0) {Qm : Int → Mem → Prop} {K419 : Int → Int → Mem → Prop} (hK419 : ∀ y13 : Int, ∀ y16 : Int, ∀ M : Mem, K419 y13 y16 M → inR y13 → inR y16 → ∀ cl sl : Nat, cl + 0 ≤ 4 → sl + 0 ≤ 89 → ∀ (H : Heap) (locs : List Loc), Rp G e0 α κ B M H → va_S (fun q => B ≤ q) s.heap H locs → ∀ (ls : Array Slot), lv_has ls 22 [(0, .ref (α 10 0)), (1, .ref (α 104 0)), (2, .ref (α 105 0)), (3, .ref (α 106 0)), (4, .ref (α 107 0)), (5, .ref (α 108 0)), (7, .ref (α 112 0)), (8, .ref (α 113 0)), (10, .ref (α 114 0)), (11, .ref (α 115 0)), (13, .int (Int32.ofInt y13)), (16, .int (Int32.ofInt y16))] → WU p l e 10 4 89 s m args below meth c G e0 α0 κ0 B Qm H locs cl sl 419 ls []) : ∀ n : Nat, ∀ y13 : Int, ∀ y16 : Int, ∀ y17 : Int, ∀ y18 : Int, ∀ y19 : Int, ∀ M : Mem, wp_L_arePages_480 κ p9 Qm K419 n y13 y16 y17 y18 y19 M → inR y13 → inR y16 → inR y17 → inR y18 → inR y19 → ∀ cl sl : Nat, cl + 0 ≤ 4 → sl + 0 ≤ 89 → ∀ (H : Heap) (locs : List Loc), Rp G e0 α κ B M H → va_S (fun q => B ≤ q) s.heap H locs → ∀ (ls : Array Slot), lv_has ls 22 [(0, .ref (α 10 0)), (1, .ref (α 104 0)), (2, .ref (α 105 0)), (3, .ref (α 106 0)), (4, .ref (α 107 0)), (5, .ref (α 108 0)), (7, .ref (α 112 0)), (8, .ref (α 113 0)), (10, .ref (α 114 0)), (11, .ref (α 115 0)), (13, .int (Int32.ofInt y13)), (16, .int (Int32.ofInt y16)), (17, .int (Int32.ofInt y17)), (18, .int (Int32.ofInt y18)), (19, .int (Int32.ofInt y19))] → WU p l e 10 4 89 s m args below meth c G e0 α0 κ0 B Qm H locs cl sl 480 ls [] := by
  intro n
  induction n with
  | zero =>
    intro y13 y16 y17 y18 y19 M hw hy13 hy16 hy17 hy18 hy19 cl sl hc1 hc2 H locs hR hS ls hl
    exact hw.elim
  | succ n ih =>
    intro y13 y16 y17 y18 y19 M hw hy13 hy16 hy17 hy18 hy19 cl sl hc1 hc2 H locs hR hS ls hl
    have hw : (((M 114 0 0) ≤ y19 → wp_L_arePages_608 κ p9 Qm K419 y13 y16 M) ∧ (y19 < (M 114 0 0) → ((y13 = 0 → wp_L_arePages_608 κ p9 Qm K419 y13 y16 M) ∧ (¬ y13 = 0 → (inR (6 * y16)) ∧ (0 ≤ (6 * y16) ∧ (6 * y16) < 60) ∧ (inR (3 * (M 107 0 (6 * y16)))) ∧ (0 ≤ (3 * (M 107 0 (6 * y16))) ∧ (3 * (M 107 0 (6 * y16))) < 30) ∧ ((¬ (M 105 0 (3 * (M 107 0 (6 * y16)))) = 1 → wp_L_arePages_608 κ p9 Qm K419 y13 y16 M) ∧ ((M 105 0 (3 * (M 107 0 (6 * y16)))) = 1 → (∃ n74 : Nat, wp_L_arePages_517 κ p9 Qm K419 (wp_L_arePages_480 κ p9 Qm K419 n) n74 y16 y17 y18 y19 0 y18 M))))))) := hw
    refine lv_iload X.1.1 X.1.2.1 dL_arePages_480 (lv_at hl 14 rfl) ?_
    refine lv_aload X.1.1 X.1.2.1 dL_arePages_482 (lv_at hl 8 rfl) ?_
    refine sa_const X.1 dL_arePages_484 ?_
    refine ra_114 X hR ho114 ⟨by decide, by decide⟩ dL_arePages_485 ?_
    have r42 := hR.r 114 0 0
    refine sa_icmp_ge (tgt := 608) X.1 hy19 r42 dL_arePages_486 (by decide) (fun hc => ?_) (fun hc => ?_)
    · have hw := hw.1 hc
      exact t_L_arePages_608 X N hlt hb hp9 ho114 ho115 ho116 hK419 _ _ _ hw hy13 hy16 _ _ (by omega) (by omega) _ _ hR hS _ (lv_sub hl [0, 1, 2, 3, 4, 5, 6, 7, 8, 9, 10, 11] rfl)
    · have hw := hw.2 hc
      refine lv_iload X.1.1 X.1.2.1 dL_arePages_489 (lv_at hl 10 rfl) ?_
      refine sa_if_eq (tgt := 608) X.1 hy13 dL_arePages_491 (by decide) (fun hc => ?_) (fun hc => ?_)
      · have hw := hw.1 hc
        exact t_L_arePages_608 X N hlt hb hp9 ho114 ho115 ho116 hK419 _ _ _ hw hy13 hy16 _ _ (by omega) (by omega) _ _ hR hS _ (lv_sub hl [0, 1, 2, 3, 4, 5, 6, 7, 8, 9, 10, 11] rfl)
      · have hw := hw.2 hc
        refine lv_aload_n X.1.1 X.1.2.1 dL_arePages_494 rfl (lv_at hl 2 rfl) ?_
        refine sa_const X.1 dL_arePages_495 ?_
        refine lv_aload X.1.1 X.1.2.1 dL_arePages_496 (lv_at hl 4 rfl) ?_
        refine sa_bipush X.1 dL_arePages_498 (by decide) ?_
        refine lv_iload X.1.1 X.1.2.1 dL_arePages_500 (lv_at hl 11 rfl) ?_
        have c44 := hw.1
        have hw := hw.2
        refine sa_imul X.1 dL_arePages_502 ?_
        have c45 := hw.1
        have hw := hw.2
        refine ra_107 X hR (okf X.2.2.1 rfl) c45 dL_arePages_503 ?_
        have r46 := hR.r 107 0 (6 * y16)
        have c47 := hw.1
        have hw := hw.2
        refine sa_imul X.1 dL_arePages_504 ?_
        have c48 := hw.1
        have hw := hw.2
        refine ra_105 X hR (okf X.2.2.1 rfl) c48 dL_arePages_505 ?_
        have r49 := hR.r 105 0 (3 * (M 107 0 (6 * y16)))
        refine sa_const X.1 dL_arePages_506 ?_
        refine sa_icmp_ne (tgt := 608) X.1 r49 (inR_c (a := 1) rfl) dL_arePages_507 (by decide) (fun hc => ?_) (fun hc => ?_)
        · have hw := hw.1 hc
          exact t_L_arePages_608 X N hlt hb hp9 ho114 ho115 ho116 hK419 _ _ _ hw hy13 hy16 _ _ (by omega) (by omega) _ _ hR hS _ (lv_sub hl [0, 1, 2, 3, 4, 5, 6, 7, 8, 9, 10, 11] rfl)
        · have hw := hw.2 hc
          refine sa_const X.1 dL_arePages_510 ?_
          refine lv_istore (lv' := [(20, .int (Int32.ofInt 0)), (0, .ref (α 10 0)), (1, .ref (α 104 0)), (2, .ref (α 105 0)), (3, .ref (α 106 0)), (4, .ref (α 107 0)), (5, .ref (α 108 0)), (7, .ref (α 112 0)), (8, .ref (α 113 0)), (10, .ref (α 114 0)), (11, .ref (α 115 0)), (13, .int (Int32.ofInt y13)), (16, .int (Int32.ofInt y16)), (17, .int (Int32.ofInt y17)), (18, .int (Int32.ofInt y18)), (19, .int (Int32.ofInt y19))]) X.1.1 X.1.2.1 dL_arePages_511 hl (by decide) rfl (fun ls hl => ?_)
          refine lv_iload X.1.1 X.1.2.1 dL_arePages_513 (lv_at hl 14 rfl) ?_
          refine lv_istore (lv' := [(21, .int (Int32.ofInt y18)), (20, .int (Int32.ofInt 0)), (0, .ref (α 10 0)), (1, .ref (α 104 0)), (2, .ref (α 105 0)), (3, .ref (α 106 0)), (4, .ref (α 107 0)), (5, .ref (α 108 0)), (7, .ref (α 112 0)), (8, .ref (α 113 0)), (10, .ref (α 114 0)), (11, .ref (α 115 0)), (13, .int (Int32.ofInt y13)), (16, .int (Int32.ofInt y16)), (17, .int (Int32.ofInt y17)), (18, .int (Int32.ofInt y18)), (19, .int (Int32.ofInt y19))]) X.1.1 X.1.2.1 dL_arePages_515 hl (by decide) rfl (fun ls hl => ?_)
          obtain ⟨n74, hw⟩ := hw
          exact t_L_arePages_517 X N hlt hb hp9 ho114 ho115 ho116 hK419 ih n74 _ _ _ _ _ _ _ hw hy16 hy17 hy18 hy19 (inR_c (a := 0) rfl) hy18 _ _ (by omega) (by omega) _ _ hR hS _ (lv_sub hl [2, 3, 4, 5, 6, 7, 8, 9, 10, 11, 13, 14, 15, 16, 1, 0] rfl)
set_option maxHeartbeats 4000000 in
set_option maxRecDepth 100000 in
theorem t_L_arePages_419 {α0 : Ax} {κ0 : Nat → Int} {p9 : Int} (X : CX p m c cL_arePages 22 s args RL G B κ meth (some .boolean)) (N : NcA s) (hlt : l.stackTraces = false) (hb : Bk G e0 α κ α0 κ0 B) (hp9 : inR p9) (ho114 : okk κ 114 0) (ho115 : okk κ 115 0) (ho116 : okk κ 116 0) {Qm : Int → Mem → Prop} : ∀ n : Nat, ∀ y13 : Int, ∀ y16 : Int, ∀ M : Mem, wp_L_arePages_419 κ p9 Qm n y13 y16 M → inR y13 → inR y16 → ∀ cl sl : Nat, cl + 0 ≤ 4 → sl + 0 ≤ 89 → ∀ (H : Heap) (locs : List Loc), Rp G e0 α κ B M H → va_S (fun q => B ≤ q) s.heap H locs → ∀ (ls : Array Slot), lv_has ls 22 [(0, .ref (α 10 0)), (1, .ref (α 104 0)), (2, .ref (α 105 0)), (3, .ref (α 106 0)), (4, .ref (α 107 0)), (5, .ref (α 108 0)), (7, .ref (α 112 0)), (8, .ref (α 113 0)), (10, .ref (α 114 0)), (11, .ref (α 115 0)), (13, .int (Int32.ofInt y13)), (16, .int (Int32.ofInt y16))] → WU p l e 10 4 89 s m args below meth c G e0 α0 κ0 B Qm H locs cl sl 419 ls [] := by
  intro n
  induction n with
  | zero =>
    intro y13 y16 M hw hy13 hy16 cl sl hc1 hc2 H locs hR hS ls hl
    exact hw.elim
  | succ n ih =>
    intro y13 y16 M hw hy13 hy16 cl sl hc1 hc2 H locs hR hS ls hl
    have hw : (((M 112 0 2) ≤ y16 → wp_L_arePages_614 κ p9 Qm y13 M) ∧ (y16 < (M 112 0 2) → ((y13 = 0 → wp_L_arePages_614 κ p9 Qm y13 M) ∧ (¬ y13 = 0 → (((M 114 0 0) ≤ 0 → wp_L_arePages_614 κ p9 Qm y13 M) ∧ (0 < (M 114 0 0) → ((7 ≤ (M 114 0 0) → wp_L_arePages_614 κ p9 Qm y13 M) ∧ ((M 114 0 0) < 7 → wp_L_lines y16 M fun (x34 : Int) (M33 : Mem) => (inR (6 * y16)) ∧ (0 ≤ (6 * y16) ∧ (6 * y16) < 60) ∧ wp_L_placeOf (M33 107 0 (6 * y16)) M33 fun (x40 : Int) (M39 : Mem) => (∃ n75 : Nat, wp_L_arePages_480 κ p9 Qm (wp_L_arePages_419 κ p9 Qm n) n75 y13 y16 x34 x40 0 M39))))))))) := hw
    refine lv_iload X.1.1 X.1.2.1 dL_arePages_419 (lv_at hl 11 rfl) ?_
    refine lv_aload X.1.1 X.1.2.1 dL_arePages_421 (lv_at hl 6 rfl) ?_
    refine sa_const X.1 dL_arePages_423 ?_
    refine ra_112 X hR (okf X.2.2.1 rfl) ⟨by decide, by decide⟩ dL_arePages_424 ?_
    have r29 := hR.r 112 0 2
    refine sa_icmp_ge (tgt := 614) X.1 hy16 r29 dL_arePages_425 (by decide) (fun hc => ?_) (fun hc => ?_)
    · have hw := hw.1 hc
      exact t_L_arePages_614 X N hlt hb hp9 ho114 ho115 ho116 _ _ hw hy13 _ _ (by omega) (by omega) _ _ hR hS _ (lv_sub hl [10] rfl)
    · have hw := hw.2 hc
      refine lv_iload X.1.1 X.1.2.1 dL_arePages_428 (lv_at hl 10 rfl) ?_
      refine sa_if_eq (tgt := 614) X.1 hy13 dL_arePages_430 (by decide) (fun hc => ?_) (fun hc => ?_)
      · have hw := hw.1 hc
        exact t_L_arePages_614 X N hlt hb hp9 ho114 ho115 ho116 _ _ hw hy13 _ _ (by omega) (by omega) _ _ hR hS _ (lv_sub hl [10] rfl)
      · have hw := hw.2 hc
        refine lv_aload X.1.1 X.1.2.1 dL_arePages_433 (lv_at hl 8 rfl) ?_
        refine sa_const X.1 dL_arePages_435 ?_
        refine ra_114 X hR ho114 ⟨by decide, by decide⟩ dL_arePages_436 ?_
        have r31 := hR.r 114 0 0
        refine sa_if_le (tgt := 614) X.1 r31 dL_arePages_437 (by decide) (fun hc => ?_) (fun hc => ?_)
        · have hw := hw.1 hc
          exact t_L_arePages_614 X N hlt hb hp9 ho114 ho115 ho116 _ _ hw hy13 _ _ (by omega) (by omega) _ _ hR hS _ (lv_sub hl [10] rfl)
        · have hw := hw.2 hc
          refine lv_aload X.1.1 X.1.2.1 dL_arePages_440 (lv_at hl 8 rfl) ?_
          refine sa_const X.1 dL_arePages_442 ?_
          refine ra_114 X hR ho114 ⟨by decide, by decide⟩ dL_arePages_443 ?_
          have r32 := hR.r 114 0 0
          refine sa_bipush X.1 dL_arePages_444 (by decide) ?_
          refine sa_icmp_ge (tgt := 614) X.1 r32 (inR_c (a := 7) rfl) dL_arePages_446 (by decide) (fun hc => ?_) (fun hc => ?_)
          · have hw := hw.1 hc
            exact t_L_arePages_614 X N hlt hb hp9 ho114 ho115 ho116 _ _ hw hy13 _ _ (by omega) (by omega) _ _ hR hS _ (lv_sub hl [10] rfl)
          · have hw := hw.2 hc
            refine lv_aload_n X.1.1 X.1.2.1 dL_arePages_449 rfl (lv_at hl 1 rfl) ?_
            refine lv_aload X.1.1 X.1.2.1 dL_arePages_450 (lv_at hl 4 rfl) ?_
            refine lv_aload X.1.1 X.1.2.1 dL_arePages_452 (lv_at hl 5 rfl) ?_
            refine lv_aload X.1.1 X.1.2.1 dL_arePages_454 (lv_at hl 7 rfl) ?_
            refine lv_iload X.1.1 X.1.2.1 dL_arePages_456 (lv_at hl 11 rfl) ?_
            refine cs_L_lines X hy16 (kc := 10) rmX_ok ⟨by show _ ≤ 4; omega, by show _ ≤ 89; omega⟩ (by decide) hR hS kw_1254 hl.1 dL_arePages_458 (Nat.le_of_ble_eq_true rfl) hw (fun x34 M33 H locs hw r35 hR hS => ?_)
            refine lv_istore (lv' := [(17, .int (Int32.ofInt x34)), (0, .ref (α 10 0)), (1, .ref (α 104 0)), (2, .ref (α 105 0)), (3, .ref (α 106 0)), (4, .ref (α 107 0)), (5, .ref (α 108 0)), (7, .ref (α 112 0)), (8, .ref (α 113 0)), (10, .ref (α 114 0)), (11, .ref (α 115 0)), (13, .int (Int32.ofInt y13)), (16, .int (Int32.ofInt y16))]) X.1.1 X.1.2.1 dL_arePages_461 hl (by decide) rfl (fun ls hl => ?_)
            refine lv_aload_n X.1.1 X.1.2.1 dL_arePages_463 rfl (lv_at hl 4 rfl) ?_
            refine lv_aload X.1.1 X.1.2.1 dL_arePages_464 (lv_at hl 5 rfl) ?_
            refine sa_bipush X.1 dL_arePages_466 (by decide) ?_
            refine lv_iload X.1.1 X.1.2.1 dL_arePages_468 (lv_at hl 12 rfl) ?_
            have c36 := hw.1
            have hw := hw.2
            refine sa_imul X.1 dL_arePages_470 ?_
            have c37 := hw.1
            have hw := hw.2
            refine ra_107 X hR (okf X.2.2.1 rfl) c37 dL_arePages_471 ?_
            have r38 := hR.r 107 0 (6 * y16)
            refine cs_L_placeOf X r38 (kc := 10) rmX_ok ⟨by show _ ≤ 4; omega, by show _ ≤ 89; omega⟩ (by decide) hR hS kw_925 hl.1 dL_arePages_472 (Nat.le_of_ble_eq_true rfl) hw (fun x40 M39 H locs hw r41 hR hS => ?_)
            refine lv_istore (lv' := [(18, .int (Int32.ofInt x40)), (17, .int (Int32.ofInt x34)), (0, .ref (α 10 0)), (1, .ref (α 104 0)), (2, .ref (α 105 0)), (3, .ref (α 106 0)), (4, .ref (α 107 0)), (5, .ref (α 108 0)), (7, .ref (α 112 0)), (8, .ref (α 113 0)), (10, .ref (α 114 0)), (11, .ref (α 115 0)), (13, .int (Int32.ofInt y13)), (16, .int (Int32.ofInt y16))]) X.1.1 X.1.2.1 dL_arePages_475 hl (by decide) rfl (fun ls hl => ?_)
            refine sa_const X.1 dL_arePages_477 ?_
            refine lv_istore (lv' := [(19, .int (Int32.ofInt 0)), (18, .int (Int32.ofInt x40)), (17, .int (Int32.ofInt x34)), (0, .ref (α 10 0)), (1, .ref (α 104 0)), (2, .ref (α 105 0)), (3, .ref (α 106 0)), (4, .ref (α 107 0)), (5, .ref (α 108 0)), (7, .ref (α 112 0)), (8, .ref (α 113 0)), (10, .ref (α 114 0)), (11, .ref (α 115 0)), (13, .int (Int32.ofInt y13)), (16, .int (Int32.ofInt y16))]) X.1.1 X.1.2.1 dL_arePages_478 hl (by decide) rfl (fun ls hl => ?_)
            obtain ⟨n75, hw⟩ := hw
            exact t_L_arePages_480 X N hlt hb hp9 ho114 ho115 ho116 ih n75 _ _ _ _ _ _ hw hy13 hy16 r35 r41 (inR_c (a := 0) rfl) _ _ (by omega) (by omega) _ _ hR hS _ (lv_sub hl [3, 4, 5, 6, 7, 8, 9, 10, 11, 12, 13, 14, 2, 1, 0] rfl)
set_option maxHeartbeats 4000000 in
set_option maxRecDepth 100000 in
theorem t_L_arePages_416 {α0 : Ax} {κ0 : Nat → Int} {p9 : Int} (X : CX p m c cL_arePages 22 s args RL G B κ meth (some .boolean)) (N : NcA s) (hlt : l.stackTraces = false) (hb : Bk G e0 α κ α0 κ0 B) (hp9 : inR p9) (ho114 : okk κ 114 0) (ho115 : okk κ 115 0) (ho116 : okk κ 116 0) {Qm : Int → Mem → Prop} : ∀ y13 : Int, ∀ M : Mem, wp_L_arePages_416 κ p9 Qm y13 M → inR y13 → ∀ cl sl : Nat, cl + 0 ≤ 4 → sl + 0 ≤ 89 → ∀ (H : Heap) (locs : List Loc), Rp G e0 α κ B M H → va_S (fun q => B ≤ q) s.heap H locs → ∀ (ls : Array Slot), lv_has ls 22 [(0, .ref (α 10 0)), (1, .ref (α 104 0)), (2, .ref (α 105 0)), (3, .ref (α 106 0)), (4, .ref (α 107 0)), (5, .ref (α 108 0)), (7, .ref (α 112 0)), (8, .ref (α 113 0)), (10, .ref (α 114 0)), (11, .ref (α 115 0)), (13, .int (Int32.ofInt y13))] → WU p l e 10 4 89 s m args below meth c G e0 α0 κ0 B Qm H locs cl sl 416 ls [] := by
  intro y13 M hw hy13 cl sl hc1 hc2 H locs hR hS ls hl
  have hw : (∃ n76 : Nat, wp_L_arePages_419 κ p9 Qm n76 y13 0 M) := hw
  refine sa_const X.1 dL_arePages_416 ?_
  refine lv_istore (lv' := [(16, .int (Int32.ofInt 0)), (0, .ref (α 10 0)), (1, .ref (α 104 0)), (2, .ref (α 105 0)), (3, .ref (α 106 0)), (4, .ref (α 107 0)), (5, .ref (α 108 0)), (7, .ref (α 112 0)), (8, .ref (α 113 0)), (10, .ref (α 114 0)), (11, .ref (α 115 0)), (13, .int (Int32.ofInt y13))]) X.1.1 X.1.2.1 dL_arePages_417 hl (by decide) rfl (fun ls hl => ?_)
  obtain ⟨n76, hw⟩ := hw
  exact t_L_arePages_419 X N hlt hb hp9 ho114 ho115 ho116 n76 _ _ _ hw hy13 (inR_c (a := 0) rfl) _ _ (by omega) (by omega) _ _ hR hS _ (lv_sub hl [1, 2, 3, 4, 5, 6, 7, 8, 9, 10, 11, 0] rfl)
set_option maxHeartbeats 4000000 in
set_option maxRecDepth 100000 in
theorem t_L_arePages_407 {α0 : Ax} {κ0 : Nat → Int} {p9 : Int} (X : CX p m c cL_arePages 22 s args RL G B κ meth (some .boolean)) (N : NcA s) (hlt : l.stackTraces = false) (hb : Bk G e0 α κ α0 κ0 B) (hp9 : inR p9) (ho114 : okk κ 114 0) (ho115 : okk κ 115 0) (ho116 : okk κ 116 0) {Qm : Int → Mem → Prop} {K252 : Int → Int → Int → Mem → Prop} (hK252 : ∀ y13 : Int, ∀ y14 : Int, ∀ y16 : Int, ∀ M : Mem, K252 y13 y14 y16 M → inR y13 → inR y14 → inR y16 → ∀ cl sl : Nat, cl + 0 ≤ 4 → sl + 0 ≤ 89 → ∀ (H : Heap) (locs : List Loc), Rp G e0 α κ B M H → va_S (fun q => B ≤ q) s.heap H locs → ∀ (ls : Array Slot), lv_has ls 22 [(0, .ref (α 10 0)), (1, .ref (α 104 0)), (2, .ref (α 105 0)), (3, .ref (α 106 0)), (4, .ref (α 107 0)), (5, .ref (α 108 0)), (6, .ref (α 109 0)), (7, .ref (α 112 0)), (8, .ref (α 113 0)), (9, .int (Int32.ofInt p9)), (10, .ref (α 114 0)), (11, .ref (α 115 0)), (12, .ref (α 116 0)), (13, .int (Int32.ofInt y13)), (14, .int (Int32.ofInt y14)), (16, .int (Int32.ofInt y16))] → WU p l e 10 4 89 s m args below meth c G e0 α0 κ0 B Qm H locs cl sl 252 ls []) : ∀ y14 : Int, ∀ y16 : Int, ∀ M : Mem, wp_L_arePages_407 κ p9 Qm K252 y14 y16 M → inR y14 → inR y16 → ∀ cl sl : Nat, cl + 0 ≤ 4 → sl + 0 ≤ 89 → ∀ (H : Heap) (locs : List Loc), Rp G e0 α κ B M H → va_S (fun q => B ≤ q) s.heap H locs → ∀ (ls : Array Slot), lv_has ls 22 [(0, .ref (α 10 0)), (1, .ref (α 104 0)), (2, .ref (α 105 0)), (3, .ref (α 106 0)), (4, .ref (α 107 0)), (5, .ref (α 108 0)), (6, .ref (α 109 0)), (7, .ref (α 112 0)), (8, .ref (α 113 0)), (9, .int (Int32.ofInt p9)), (10, .ref (α 114 0)), (11, .ref (α 115 0)), (12, .ref (α 116 0)), (14, .int (Int32.ofInt y14)), (16, .int (Int32.ofInt y16))] → WU p l e 10 4 89 s m args below meth c G e0 α0 κ0 B Qm H locs cl sl 407 ls [] := by
  intro y14 y16 M hw hy14 hy16 cl sl hc1 hc2 H locs hR hS ls hl
  have hw : (inR (y16 + 1)) ∧ K252 0 y14 (y16 + 1) M := hw
  refine sa_const X.1 dL_arePages_407 ?_
  refine lv_istore (lv' := [(13, .int (Int32.ofInt 0)), (0, .ref (α 10 0)), (1, .ref (α 104 0)), (2, .ref (α 105 0)), (3, .ref (α 106 0)), (4, .ref (α 107 0)), (5, .ref (α 108 0)), (6, .ref (α 109 0)), (7, .ref (α 112 0)), (8, .ref (α 113 0)), (9, .int (Int32.ofInt p9)), (10, .ref (α 114 0)), (11, .ref (α 115 0)), (12, .ref (α 116 0)), (14, .int (Int32.ofInt y14)), (16, .int (Int32.ofInt y16))]) X.1.1 X.1.2.1 dL_arePages_408 hl (by decide) rfl (fun ls hl => ?_)
  have c85 := hw.1
  have hw := hw.2
  refine lv_iinc (v := Int32.ofInt (y16 + 1)) (lv' := [(16, .int (Int32.ofInt (y16 + 1))), (13, .int (Int32.ofInt 0)), (0, .ref (α 10 0)), (1, .ref (α 104 0)), (2, .ref (α 105 0)), (3, .ref (α 106 0)), (4, .ref (α 107 0)), (5, .ref (α 108 0)), (6, .ref (α 109 0)), (7, .ref (α 112 0)), (8, .ref (α 113 0)), (9, .int (Int32.ofInt p9)), (10, .ref (α 114 0)), (11, .ref (α 115 0)), (12, .ref (α 116 0)), (14, .int (Int32.ofInt y14))]) X.1.1 X.1.2.1 dL_arePages_410 hl (k := 15) rfl (Int32.ofInt_add _ _).symm (by decide) rfl (fun ls hl => ?_)
  refine lv_goto (tgt := 252) X.1.1 X.1.2.1 dL_arePages_413 (by decide) ?_
  exact hK252 _ _ _ _ hw (inR_c (a := 0) rfl) hy14 c85 _ _ (by omega) (by omega) _ _ hR hS _ (lv_sub hl [2, 3, 4, 5, 6, 7, 8, 9, 10, 11, 12, 13, 14, 1, 15, 0] rfl)
set_option maxHeartbeats 4000000 in
set_option maxRecDepth 100000 in
theorem t_L_arePages_403 {α0 : Ax} {κ0 : Nat → Int} {p9 : Int} (X : CX p m c cL_arePages 22 s args RL G B κ meth (some .boolean)) (N : NcA s) (hlt : l.stackTraces = false) (hb : Bk G e0 α κ α0 κ0 B) (hp9 : inR p9) (ho114 : okk κ 114 0) (ho115 : okk κ 115 0) (ho116 : okk κ 116 0) {Qm : Int → Mem → Prop} {K252 : Int → Int → Int → Mem → Prop} (hK252 : ∀ y13 : Int, ∀ y14 : Int, ∀ y16 : Int, ∀ M : Mem, K252 y13 y14 y16 M → inR y13 → inR y14 → inR y16 → ∀ cl sl : Nat, cl + 0 ≤ 4 → sl + 0 ≤ 89 → ∀ (H : Heap) (locs : List Loc), Rp G e0 α κ B M H → va_S (fun q => B ≤ q) s.heap H locs → ∀ (ls : Array Slot), lv_has ls 22 [(0, .ref (α 10 0)), (1, .ref (α 104 0)), (2, .ref (α 105 0)), (3, .ref (α 106 0)), (4, .ref (α 107 0)), (5, .ref (α 108 0)), (6, .ref (α 109 0)), (7, .ref (α 112 0)), (8, .ref (α 113 0)), (9, .int (Int32.ofInt p9)), (10, .ref (α 114 0)), (11, .ref (α 115 0)), (12, .ref (α 116 0)), (13, .int (Int32.ofInt y13)), (14, .int (Int32.ofInt y14)), (16, .int (Int32.ofInt y16))] → WU p l e 10 4 89 s m args below meth c G e0 α0 κ0 B Qm H locs cl sl 252 ls []) : ∀ y14 : Int, ∀ y16 : Int, ∀ M : Mem, wp_L_arePages_403 κ p9 Qm K252 y14 y16 M → inR y14 → inR y16 → ∀ cl sl : Nat, cl + 0 ≤ 4 → sl + 0 ≤ 89 → ∀ (H : Heap) (locs : List Loc), Rp G e0 α κ B M H → va_S (fun q => B ≤ q) s.heap H locs → ∀ (ls : Array Slot), lv_has ls 22 [(0, .ref (α 10 0)), (1, .ref (α 104 0)), (2, .ref (α 105 0)), (3, .ref (α 106 0)), (4, .ref (α 107 0)), (5, .ref (α 108 0)), (6, .ref (α 109 0)), (7, .ref (α 112 0)), (8, .ref (α 113 0)), (9, .int (Int32.ofInt p9)), (10, .ref (α 114 0)), (11, .ref (α 115 0)), (12, .ref (α 116 0)), (14, .int (Int32.ofInt y14)), (16, .int (Int32.ofInt y16))] → WU p l e 10 4 89 s m args below meth c G e0 α0 κ0 B Qm H locs cl sl 403 ls [] := by
  intro y14 y16 M hw hy14 hy16 cl sl hc1 hc2 H locs hR hS ls hl
  have hw : (inR (y16 + 1)) ∧ K252 1 y14 (y16 + 1) M := hw
  refine sa_const X.1 dL_arePages_403 ?_
  refine lv_goto (tgt := 408) X.1.1 X.1.2.1 dL_arePages_404 (by decide) ?_
  refine lv_istore (lv' := [(13, .int (Int32.ofInt 1)), (0, .ref (α 10 0)), (1, .ref (α 104 0)), (2, .ref (α 105 0)), (3, .ref (α 106 0)), (4, .ref (α 107 0)), (5, .ref (α 108 0)), (6, .ref (α 109 0)), (7, .ref (α 112 0)), (8, .ref (α 113 0)), (9, .int (Int32.ofInt p9)), (10, .ref (α 114 0)), (11, .ref (α 115 0)), (12, .ref (α 116 0)), (14, .int (Int32.ofInt y14)), (16, .int (Int32.ofInt y16))]) X.1.1 X.1.2.1 dL_arePages_408 hl (by decide) rfl (fun ls hl => ?_)
  have c96 := hw.1
  have hw := hw.2
  refine lv_iinc (v := Int32.ofInt (y16 + 1)) (lv' := [(16, .int (Int32.ofInt (y16 + 1))), (13, .int (Int32.ofInt 1)), (0, .ref (α 10 0)), (1, .ref (α 104 0)), (2, .ref (α 105 0)), (3, .ref (α 106 0)), (4, .ref (α 107 0)), (5, .ref (α 108 0)), (6, .ref (α 109 0)), (7, .ref (α 112 0)), (8, .ref (α 113 0)), (9, .int (Int32.ofInt p9)), (10, .ref (α 114 0)), (11, .ref (α 115 0)), (12, .ref (α 116 0)), (14, .int (Int32.ofInt y14))]) X.1.1 X.1.2.1 dL_arePages_410 hl (k := 15) rfl (Int32.ofInt_add _ _).symm (by decide) rfl (fun ls hl => ?_)
  refine lv_goto (tgt := 252) X.1.1 X.1.2.1 dL_arePages_413 (by decide) ?_
  exact hK252 _ _ _ _ hw (inR_c (a := 1) rfl) hy14 c96 _ _ (by omega) (by omega) _ _ hR hS _ (lv_sub hl [2, 3, 4, 5, 6, 7, 8, 9, 10, 11, 12, 13, 14, 1, 15, 0] rfl)
set_option maxHeartbeats 4000000 in
set_option maxRecDepth 100000 in
theorem t_L_arePages_328 {α0 : Ax} {κ0 : Nat → Int} {p9 : Int} (X : CX p m c cL_arePages 22 s args RL G B κ meth (some .boolean)) (N : NcA s) (hlt : l.stackTraces = false) (hb : Bk G e0 α κ α0 κ0 B) (hp9 : inR p9) (ho114 : okk κ 114 0) (ho115 : okk κ 115 0) (ho116 : okk κ 116 0) {Qm : Int → Mem → Prop} {K252 : Int → Int → Int → Mem → Prop} {K279 : Int → Int → Int → Int → Mem → Prop} (hK252 : ∀ y13 : Int, ∀ y14 : Int, ∀ y16 : Int, ∀ M : Mem, K252 y13 y14 y16 M → inR y13 → inR y14 → inR y16 → ∀ cl sl : Nat, cl + 0 ≤ 4 → sl + 0 ≤ 89 → ∀ (H : Heap) (locs : List Loc), Rp G e0 α κ B M H → va_S (fun q => B ≤ q) s.heap H locs → ∀ (ls : Array Slot), lv_has ls 22 [(0, .ref (α 10 0)), (1, .ref (α 104 0)), (2, .ref (α 105 0)), (3, .ref (α 106 0)), (4, .ref (α 107 0)), (5, .ref (α 108 0)), (6, .ref (α 109 0)), (7, .ref (α 112 0)), (8, .ref (α 113 0)), (9, .int (Int32.ofInt p9)), (10, .ref (α 114 0)), (11, .ref (α 115 0)), (12, .ref (α 116 0)), (13, .int (Int32.ofInt y13)), (14, .int (Int32.ofInt y14)), (16, .int (Int32.ofInt y16))] → WU p l e 10 4 89 s m args below meth c G e0 α0 κ0 B Qm H locs cl sl 252 ls []) (hK279 : ∀ y14 : Int, ∀ y16 : Int, ∀ y17 : Int, ∀ y18 : Int, ∀ M : Mem, K279 y14 y16 y17 y18 M → inR y14 → inR y16 → inR y17 → inR y18 → ∀ cl sl : Nat, cl + 0 ≤ 4 → sl + 0 ≤ 89 → ∀ (H : Heap) (locs : List Loc), Rp G e0 α κ B M H → va_S (fun q => B ≤ q) s.heap H locs → ∀ (ls : Array Slot), lv_has ls 22 [(0, .ref (α 10 0)), (1, .ref (α 104 0)), (2, .ref (α 105 0)), (3, .ref (α 106 0)), (4, .ref (α 107 0)), (5, .ref (α 108 0)), (6, .ref (α 109 0)), (7, .ref (α 112 0)), (8, .ref (α 113 0)), (9, .int (Int32.ofInt p9)), (10, .ref (α 114 0)), (11, .ref (α 115 0)), (12, .ref (α 116 0)), (14, .int (Int32.ofInt y14)), (16, .int (Int32.ofInt y16)), (17, .int (Int32.ofInt y17)), (18, .int (Int32.ofInt y18))] → WU p l e 10 4 89 s m args below meth c G e0 α0 κ0 B Qm H locs cl sl 279 ls []) : ∀ y14 : Int, ∀ y16 : Int, ∀ y18 : Int, ∀ z0 : Int, ∀ z1 : Int, ∀ M : Mem, wp_L_arePages_328 κ p9 Qm K252 K279 y14 y16 y18 z0 z1 M → inR y14 → inR y16 → inR y18 → inR z0 → inR z1 → ∀ cl sl : Nat, cl + 0 ≤ 4 → sl + 0 ≤ 89 → ∀ (H : Heap) (locs : List Loc), Rp G e0 α κ B M H → va_S (fun q => B ≤ q) s.heap H locs → ∀ (ls : Array Slot), lv_has ls 22 [(0, .ref (α 10 0)), (1, .ref (α 104 0)), (2, .ref (α 105 0)), (3, .ref (α 106 0)), (4, .ref (α 107 0)), (5, .ref (α 108 0)), (6, .ref (α 109 0)), (7, .ref (α 112 0)), (8, .ref (α 113 0)), (9, .int (Int32.ofInt p9)), (10, .ref (α 114 0)), (11, .ref (α 115 0)), (12, .ref (α 116 0)), (14, .int (Int32.ofInt y14)), (16, .int (Int32.ofInt y16)), (18, .int (Int32.ofInt y18))] → WU p l e 10 4 89 s m args below meth c G e0 α0 κ0 B Qm H locs cl sl 328 ls [.int (Int32.ofInt z0), .int (Int32.ofInt z1)] := by
  intro y14 y16 y18 z0 z1 M hw hy14 hy16 hy18 hz0 hz1 cl sl hc1 hc2 H locs hR hS ls hl
  have hw : (inR (z1 + z0)) ∧ (inR (y18 + 1)) ∧ K279 y14 y16 (z1 + z0) (y18 + 1) M := hw
  have c107 := hw.1
  have hw := hw.2
  refine sa_iadd X.1 dL_arePages_328 ?_
  refine lv_istore (lv' := [(17, .int (Int32.ofInt (z1 + z0))), (0, .ref (α 10 0)), (1, .ref (α 104 0)), (2, .ref (α 105 0)), (3, .ref (α 106 0)), (4, .ref (α 107 0)), (5, .ref (α 108 0)), (6, .ref (α 109 0)), (7, .ref (α 112 0)), (8, .ref (α 113 0)), (9, .int (Int32.ofInt p9)), (10, .ref (α 114 0)), (11, .ref (α 115 0)), (12, .ref (α 116 0)), (14, .int (Int32.ofInt y14)), (16, .int (Int32.ofInt y16)), (18, .int (Int32.ofInt y18))]) X.1.1 X.1.2.1 dL_arePages_329 hl (by decide) rfl (fun ls hl => ?_)
  have c108 := hw.1
  have hw := hw.2
  refine lv_iinc (v := Int32.ofInt (y18 + 1)) (lv' := [(18, .int (Int32.ofInt (y18 + 1))), (17, .int (Int32.ofInt (z1 + z0))), (0, .ref (α 10 0)), (1, .ref (α 104 0)), (2, .ref (α 105 0)), (3, .ref (α 106 0)), (4, .ref (α 107 0)), (5, .ref (α 108 0)), (6, .ref (α 109 0)), (7, .ref (α 112 0)), (8, .ref (α 113 0)), (9, .int (Int32.ofInt p9)), (10, .ref (α 114 0)), (11, .ref (α 115 0)), (12, .ref (α 116 0)), (14, .int (Int32.ofInt y14)), (16, .int (Int32.ofInt y16))]) X.1.1 X.1.2.1 dL_arePages_331 hl (k := 16) rfl (Int32.ofInt_add _ _).symm (by decide) rfl (fun ls hl => ?_)
  refine lv_goto (tgt := 279) X.1.1 X.1.2.1 dL_arePages_334 (by decide) ?_
  exact hK279 _ _ _ _ _ hw hy14 hy16 c107 c108 _ _ (by omega) (by omega) _ _ hR hS _ (lv_sub hl [2, 3, 4, 5, 6, 7, 8, 9, 10, 11, 12, 13, 14, 15, 16, 1, 0] rfl)
set_option maxHeartbeats 4000000 in
set_option maxRecDepth 100000 in
theorem t_L_arePages_327 {α0 : Ax} {κ0 : Nat → Int} {p9 : Int} (X : CX p m c cL_arePages 22 s args RL G B κ meth (some .boolean)) (N : NcA s) (hlt : l.stackTraces = false) (hb : Bk G e0 α κ α0 κ0 B) (hp9 : inR p9) (ho114 : okk κ 114 0) (ho115 : okk κ 115 0) (ho116 : okk κ 116 0) {Qm : Int → Mem → Prop} {K252 : Int → Int → Int → Mem → Prop} {K279 : Int → Int → Int → Int → Mem → Prop} (hK252 : ∀ y13 : Int, ∀ y14 : Int, ∀ y16 : Int, ∀ M : Mem, K252 y13 y14 y16 M → inR y13 → inR y14 → inR y16 → ∀ cl sl : Nat, cl + 0 ≤ 4 → sl + 0 ≤ 89 → ∀ (H : Heap) (locs : List Loc), Rp G e0 α κ B M H → va_S (fun q => B ≤ q) s.heap H locs → ∀ (ls : Array Slot), lv_has ls 22 [(0, .ref (α 10 0)), (1, .ref (α 104 0)), (2, .ref (α 105 0)), (3, .ref (α 106 0)), (4, .ref (α 107 0)), (5, .ref (α 108 0)), (6, .ref (α 109 0)), (7, .ref (α 112 0)), (8, .ref (α 113 0)), (9, .int (Int32.ofInt p9)), (10, .ref (α 114 0)), (11, .ref (α 115 0)), (12, .ref (α 116 0)), (13, .int (Int32.ofInt y13)), (14, .int (Int32.ofInt y14)), (16, .int (Int32.ofInt y16))] → WU p l e 10 4 89 s m args below meth c G e0 α0 κ0 B Qm H locs cl sl 252 ls []) (hK279 : ∀ y14 : Int, ∀ y16 : Int, ∀ y17 : Int, ∀ y18 : Int, ∀ M : Mem, K279 y14 y16 y17 y18 M → inR y14 → inR y16 → inR y17 → inR y18 → ∀ cl sl : Nat, cl + 0 ≤ 4 → sl + 0 ≤ 89 → ∀ (H : Heap) (locs : List Loc), Rp G e0 α κ B M H → va_S (fun q => B ≤ q) s.heap H locs → ∀ (ls : Array Slot), lv_has ls 22 [(0, .ref (α 10 0)), (1, .ref (α 104 0)), (2, .ref (α 105 0)), (3, .ref (α 106 0)), (4, .ref (α 107 0)), (5, .ref (α 108 0)), (6, .ref (α 109 0)), (7, .ref (α 112 0)), (8, .ref (α 113 0)), (9, .int (Int32.ofInt p9)), (10, .ref (α 114 0)), (11, .ref (α 115 0)), (12, .ref (α 116 0)), (14, .int (Int32.ofInt y14)), (16, .int (Int32.ofInt y16)), (17, .int (Int32.ofInt y17)), (18, .int (Int32.ofInt y18))] → WU p l e 10 4 89 s m args below meth c G e0 α0 κ0 B Qm H locs cl sl 279 ls []) : ∀ y14 : Int, ∀ y16 : Int, ∀ y18 : Int, ∀ z0 : Int, ∀ M : Mem, wp_L_arePages_327 κ p9 Qm K252 K279 y14 y16 y18 z0 M → inR y14 → inR y16 → inR y18 → inR z0 → ∀ cl sl : Nat, cl + 0 ≤ 4 → sl + 0 ≤ 89 → ∀ (H : Heap) (locs : List Loc), Rp G e0 α κ B M H → va_S (fun q => B ≤ q) s.heap H locs → ∀ (ls : Array Slot), lv_has ls 22 [(0, .ref (α 10 0)), (1, .ref (α 104 0)), (2, .ref (α 105 0)), (3, .ref (α 106 0)), (4, .ref (α 107 0)), (5, .ref (α 108 0)), (6, .ref (α 109 0)), (7, .ref (α 112 0)), (8, .ref (α 113 0)), (9, .int (Int32.ofInt p9)), (10, .ref (α 114 0)), (11, .ref (α 115 0)), (12, .ref (α 116 0)), (14, .int (Int32.ofInt y14)), (16, .int (Int32.ofInt y16)), (18, .int (Int32.ofInt y18))] → WU p l e 10 4 89 s m args below meth c G e0 α0 κ0 B Qm H locs cl sl 327 ls [.int (Int32.ofInt z0)] := by
  intro y14 y16 y18 z0 M hw hy14 hy16 hy18 hz0 cl sl hc1 hc2 H locs hR hS ls hl
  have hw : wp_L_arePages_328 κ p9 Qm K252 K279 y14 y16 y18 0 z0 M := hw
  refine sa_const X.1 dL_arePages_327 ?_
  exact t_L_arePages_328 X N hlt hb hp9 ho114 ho115 ho116 hK252 hK279 _ _ _ _ _ _ hw hy14 hy16 hy18 (inR_c (a := 0) rfl) hz0 _ _ (by omega) (by omega) _ _ hR hS _ (lv_sub hl [0, 1, 2, 3, 4, 5, 6, 7, 8, 9, 10, 11, 12, 13, 14, 15] rfl)
set_option maxHeartbeats 4000000 in
set_option maxRecDepth 100000 in
theorem t_L_arePages_279 {α0 : Ax} {κ0 : Nat → Int} {p9 : Int} (X : CX p m c cL_arePages 22 s args RL G B κ meth (some .boolean)) (N : NcA s) (hlt : l.stackTraces = false) (hb : Bk G e0 α κ α0 κ0 B) (hp9 : inR p9) (ho114 : okk κ 114 0) (ho115 : okk κ 115 0) (ho116 : okk κ 116 0) {Qm : Int → Mem → Prop} {K252 : Int → Int → Int → Mem → Prop} (hK252 : ∀ y13 : Int, ∀ y14 : Int, ∀ y16 : Int, ∀ M : Mem, K252 y13 y14 y16 M → inR y13 → inR y14 → inR y16 → ∀ cl sl : Nat, cl + 0 ≤ 4 → sl + 0 ≤ 89 → ∀ (H : Heap) (locs : List Loc), Rp G e0 α κ B M H → va_S (fun q => B ≤ q) s.heap H locs → ∀ (ls : Array Slot), lv_has ls 22 [(0, .ref (α 10 0)), (1, .ref (α 104 0)), (2, .ref (α 105 0)), (3, .ref (α 106 0)), (4, .ref (α 107 0)), (5, .ref (α 108 0)), (6, .ref (α 109 0)), (7, .ref (α 112 0)), (8, .ref (α 113 0)), (9, .int (Int32.ofInt p9)), (10, .ref (α 114 0)), (11, .ref (α 115 0)), (12, .ref (α 116 0)), (13, .int (Int32.ofInt y13)), (14, .int (Int32.ofInt y14)), (16, .int (Int32.ofInt y16))] → WU p l e 10 4 89 s m args below meth c G e0 α0 κ0 B Qm H locs cl sl 252 ls []) : ∀ n : Nat, ∀ y14 : Int, ∀ y16 : Int, ∀ y17 : Int, ∀ y18 : Int, ∀ M : Mem, wp_L_arePages_279 κ p9 Qm K252 n y14 y16 y17 y18 M → inR y14 → inR y16 → inR y17 → inR y18 → ∀ cl sl : Nat, cl + 0 ≤ 4 → sl + 0 ≤ 89 → ∀ (H : Heap) (locs : List Loc), Rp G e0 α κ B M H → va_S (fun q => B ≤ q) s.heap H locs → ∀ (ls : Array Slot), lv_has ls 22 [(0, .ref (α 10 0)), (1, .ref (α 104 0)), (2, .ref (α 105 0)), (3, .ref (α 106 0)), (4, .ref (α 107 0)), (5, .ref (α 108 0)), (6, .ref (α 109 0)), (7, .ref (α 112 0)), (8, .ref (α 113 0)), (9, .int (Int32.ofInt p9)), (10, .ref (α 114 0)), (11, .ref (α 115 0)), (12, .ref (α 116 0)), (14, .int (Int32.ofInt y14)), (16, .int (Int32.ofInt y16)), (17, .int (Int32.ofInt y17)), (18, .int (Int32.ofInt y18))] → WU p l e 10 4 89 s m args below meth c G e0 α0 κ0 B Qm H locs cl sl 279 ls [] := by
  intro n
  induction n with
  | zero =>
    intro y14 y16 y17 y18 M hw hy14 hy16 hy17 hy18 cl sl hc1 hc2 H locs hR hS ls hl
    exact hw.elim
  | succ n ih =>
    intro y14 y16 y17 y18 M hw hy14 hy16 hy17 hy18 cl sl hc1 hc2 H locs hR hS ls hl
    have hw : (((M 112 0 1) ≤ y18 → wo_X9_used y16 M fun (x80 : Int) (M79 : Mem) => (inR (1 + y16)) ∧ (0 ≤ (1 + y16) ∧ (1 + y16) < 13) ∧ ((¬ x80 = (M79 114 0 (1 + y16)) → wp_L_arePages_407 κ p9 Qm K252 y14 y16 M79) ∧ (x80 = (M79 114 0 (1 + y16)) → wo_X9_notesOn y16 M79 fun (x87 : Int) (M86 : Mem) => (inR (7 + y16)) ∧ (0 ≤ (7 + y16) ∧ (7 + y16) < 13) ∧ ((¬ x87 = (M86 114 0 (7 + y16)) → wp_L_arePages_407 κ p9 Qm K252 y14 y16 M86) ∧ (x87 = (M86 114 0 (7 + y16)) → wo_X9_carried y16 y14 M86 fun (x93 : Int) (M92 : Mem) => ((¬ x93 = y17 → wp_L_arePages_407 κ p9 Qm K252 y14 y16 M92) ∧ (x93 = y17 → ((0 < (Int.tmod p9 3) → wp_L_arePages_403 κ p9 Qm K252 y14 y16 M92) ∧ ((Int.tmod p9 3) ≤ 0 → wo_X9_carriedByCells y16 y14 M92 fun (x98 : Int) (M97 : Mem) => (inR (y16 + 1)) ∧ K252 (if ¬ x98 = y17 then (0 : Int) else 1) y14 (y16 + 1) M97))))))))) ∧ (y18 < (M 112 0 1) → (inR (3 * y18)) ∧ (0 ≤ (3 * y18) ∧ (3 * y18) < 30) ∧ ((¬ (M 105 0 (3 * y18)) = 1 → wp_L_arePages_327 κ p9 Qm K252 (wp_L_arePages_279 κ p9 Qm K252 n) y14 y16 y18 y17 M) ∧ ((M 105 0 (3 * y18)) = 1 → (0 ≤ y18 ∧ y18 < 10) ∧ ((y16 < (M 116 0 y18) → wp_L_arePages_327 κ p9 Qm K252 (wp_L_arePages_279 κ p9 Qm K252 n) y14 y16 y18 y17 M) ∧ ((M 116 0 y18) ≤ y16 → wp_L_figure y18 y14 M fun (x112 : Int) (M111 : Mem) => wp_L_arePages_328 κ p9 Qm K252 (wp_L_arePages_279 κ p9 Qm K252 n) y14 y16 y18 x112 y17 M111)))))) := hw
    refine lv_iload X.1.1 X.1.2.1 dL_arePages_279 (lv_at hl 16 rfl) ?_
    refine lv_aload X.1.1 X.1.2.1 dL_arePages_281 (lv_at hl 7 rfl) ?_
    refine sa_const X.1 dL_arePages_283 ?_
    refine ra_112 X hR (okf X.2.2.1 rfl) ⟨by decide, by decide⟩ dL_arePages_284 ?_
    have r78 := hR.r 112 0 1
    refine sa_icmp_ge (tgt := 337) X.1 hy18 r78 dL_arePages_285 (by decide) (fun hc => ?_) (fun hc => ?_)
    · have hw := hw.1 hc
      refine lv_aload_n X.1.1 X.1.2.1 dL_arePages_337 rfl (lv_at hl 0 rfl) ?_
      refine lv_iload X.1.1 X.1.2.1 dL_arePages_338 (lv_at hl 14 rfl) ?_
      refine co_X9_used X hy16 (kc := 10) rmX_ok ⟨by show _ ≤ 4; omega, by show _ ≤ 89; omega⟩ (by decide) hR hS kw_1376 hl.1 dL_arePages_340 (Nat.le_of_ble_eq_true rfl) hw (fun x80 M79 H locs hw r81 hR hS => ?_)
      refine lv_aload X.1.1 X.1.2.1 dL_arePages_343 (lv_at hl 10 rfl) ?_
      refine sa_const X.1 dL_arePages_345 ?_
      refine lv_iload X.1.1 X.1.2.1 dL_arePages_346 (lv_at hl 14 rfl) ?_
      have c82 := hw.1
      have hw := hw.2
      refine sa_iadd X.1 dL_arePages_348 ?_
      have c83 := hw.1
      have hw := hw.2
      refine ra_114 X hR ho114 c83 dL_arePages_349 ?_
      have r84 := hR.r 114 0 (1 + y16)
      refine sa_icmp_ne (tgt := 407) X.1 r81 r84 dL_arePages_350 (by decide) (fun hc => ?_) (fun hc => ?_)
      · have hw := hw.1 hc
        exact t_L_arePages_407 X N hlt hb hp9 ho114 ho115 ho116 hK252 _ _ _ hw hy14 hy16 _ _ (by omega) (by omega) _ _ hR hS _ (lv_sub hl [0, 1, 2, 3, 4, 5, 6, 7, 8, 9, 10, 11, 12, 13, 14] rfl)
      · have hw := hw.2 hc
        refine lv_aload_n X.1.1 X.1.2.1 dL_arePages_353 rfl (lv_at hl 0 rfl) ?_
        refine lv_iload X.1.1 X.1.2.1 dL_arePages_354 (lv_at hl 14 rfl) ?_
        refine co_X9_notesOn X hy16 (kc := 10) rmX_ok ⟨by show _ ≤ 4; omega, by show _ ≤ 89; omega⟩ (by decide) hR hS kw_1386 hl.1 dL_arePages_356 (Nat.le_of_ble_eq_true rfl) hw (fun x87 M86 H locs hw r88 hR hS => ?_)
        refine lv_aload X.1.1 X.1.2.1 dL_arePages_359 (lv_at hl 10 rfl) ?_
        refine sa_bipush X.1 dL_arePages_361 (by decide) ?_
        refine lv_iload X.1.1 X.1.2.1 dL_arePages_363 (lv_at hl 14 rfl) ?_
        have c89 := hw.1
        have hw := hw.2
        refine sa_iadd X.1 dL_arePages_365 ?_
        have c90 := hw.1
        have hw := hw.2
        refine ra_114 X hR ho114 c90 dL_arePages_366 ?_
        have r91 := hR.r 114 0 (7 + y16)
        refine sa_icmp_ne (tgt := 407) X.1 r88 r91 dL_arePages_367 (by decide) (fun hc => ?_) (fun hc => ?_)
        · have hw := hw.1 hc
          exact t_L_arePages_407 X N hlt hb hp9 ho114 ho115 ho116 hK252 _ _ _ hw hy14 hy16 _ _ (by omega) (by omega) _ _ hR hS _ (lv_sub hl [0, 1, 2, 3, 4, 5, 6, 7, 8, 9, 10, 11, 12, 13, 14] rfl)
        · have hw := hw.2 hc
          refine lv_aload_n X.1.1 X.1.2.1 dL_arePages_370 rfl (lv_at hl 0 rfl) ?_
          refine lv_iload X.1.1 X.1.2.1 dL_arePages_371 (lv_at hl 14 rfl) ?_
          refine lv_iload X.1.1 X.1.2.1 dL_arePages_373 (lv_at hl 13 rfl) ?_
          refine co_X9_carried X hy16 hy14 (kc := 10) rmX_ok ⟨by show _ ≤ 4; omega, by show _ ≤ 89; omega⟩ (by decide) hR hS kw_1390 hl.1 dL_arePages_375 (Nat.le_of_ble_eq_true rfl) hw (fun x93 M92 H locs hw r94 hR hS => ?_)
          refine lv_iload X.1.1 X.1.2.1 dL_arePages_378 (lv_at hl 15 rfl) ?_
          refine sa_icmp_ne (tgt := 407) X.1 r94 hy17 dL_arePages_380 (by decide) (fun hc => ?_) (fun hc => ?_)
          · have hw := hw.1 hc
            exact t_L_arePages_407 X N hlt hb hp9 ho114 ho115 ho116 hK252 _ _ _ hw hy14 hy16 _ _ (by omega) (by omega) _ _ hR hS _ (lv_sub hl [0, 1, 2, 3, 4, 5, 6, 7, 8, 9, 10, 11, 12, 13, 14] rfl)
          · have hw := hw.2 hc
            refine lv_iload X.1.1 X.1.2.1 dL_arePages_383 (lv_at hl 9 rfl) ?_
            refine sa_const X.1 dL_arePages_385 ?_
            have r95 := inR_tmod hp9 (inR_c (a := 3) rfl) (by decide)
            refine sa_irem X.1 hp9 (inR_c (a := 3) rfl) (Int.ne_of_gt (by decide)) dL_arePages_386 ?_
            refine sa_if_gt (tgt := 403) X.1 r95 dL_arePages_387 (by decide) (fun hc => ?_) (fun hc => ?_)
            · have hw := hw.1 hc
              exact t_L_arePages_403 X N hlt hb hp9 ho114 ho115 ho116 hK252 _ _ _ hw hy14 hy16 _ _ (by omega) (by omega) _ _ hR hS _ (lv_sub hl [0, 1, 2, 3, 4, 5, 6, 7, 8, 9, 10, 11, 12, 13, 14] rfl)
            · have hw := hw.2 hc
              refine lv_aload_n X.1.1 X.1.2.1 dL_arePages_390 rfl (lv_at hl 0 rfl) ?_
              refine lv_iload X.1.1 X.1.2.1 dL_arePages_391 (lv_at hl 14 rfl) ?_
              refine lv_iload X.1.1 X.1.2.1 dL_arePages_393 (lv_at hl 13 rfl) ?_
              refine co_X9_carriedByCells X hy16 hy14 (kc := 10) rmX_ok ⟨by show _ ≤ 4; omega, by show _ ≤ 89; omega⟩ (by decide) hR hS kw_1395 hl.1 dL_arePages_395 (Nat.le_of_ble_eq_true rfl) hw (fun x98 M97 H locs hw r99 hR hS => ?_)
              refine lv_iload X.1.1 X.1.2.1 dL_arePages_398 (lv_at hl 15 rfl) ?_
              have r100 := inR_ite (c := ¬ x98 = y17) (inR_c (a := 0) rfl) (inR_c (a := 1) rfl)
              refine cut_j (A := ∀ v101 : Int, v101 = (if ¬ x98 = y17 then (0 : Int) else 1) → WU p l e 10 4 89 s m args below meth c G e0 α0 κ0 B Qm H locs cl sl 408 ls [.int (Int32.ofInt v101)]) (fun J102 => ?_) ?_
              · refine sa_icmp_ne (tgt := 407) X.1 r99 hy17 dL_arePages_400 (by decide) (fun hc => ?_) (fun hc => ?_)
                · skip
                  refine sa_const X.1 dL_arePages_407 ?_
                  exact J102 (0) (if_pos (c := ¬ x98 = y17) hc).symm
                · skip
                  refine sa_const X.1 dL_arePages_403 ?_
                  refine lv_goto (tgt := 408) X.1.1 X.1.2.1 dL_arePages_404 (by decide) ?_
                  exact J102 (1) (if_neg (c := ¬ x98 = y17) (fun z => z hc)).symm
              intro v101 hv101
              subst hv101
              refine lv_istore (lv' := [(13, .int (Int32.ofInt (if ¬ x98 = y17 then (0 : Int) else 1))), (0, .ref (α 10 0)), (1, .ref (α 104 0)), (2, .ref (α 105 0)), (3, .ref (α 106 0)), (4, .ref (α 107 0)), (5, .ref (α 108 0)), (6, .ref (α 109 0)), (7, .ref (α 112 0)), (8, .ref (α 113 0)), (9, .int (Int32.ofInt p9)), (10, .ref (α 114 0)), (11, .ref (α 115 0)), (12, .ref (α 116 0)), (14, .int (Int32.ofInt y14)), (16, .int (Int32.ofInt y16)), (17, .int (Int32.ofInt y17)), (18, .int (Int32.ofInt y18))]) X.1.1 X.1.2.1 dL_arePages_408 hl (by decide) rfl (fun ls hl => ?_)
              have c103 := hw.1
              have hw := hw.2
              refine lv_iinc (v := Int32.ofInt (y16 + 1)) (lv' := [(16, .int (Int32.ofInt (y16 + 1))), (13, .int (Int32.ofInt (if ¬ x98 = y17 then (0 : Int) else 1))), (0, .ref (α 10 0)), (1, .ref (α 104 0)), (2, .ref (α 105 0)), (3, .ref (α 106 0)), (4, .ref (α 107 0)), (5, .ref (α 108 0)), (6, .ref (α 109 0)), (7, .ref (α 112 0)), (8, .ref (α 113 0)), (9, .int (Int32.ofInt p9)), (10, .ref (α 114 0)), (11, .ref (α 115 0)), (12, .ref (α 116 0)), (14, .int (Int32.ofInt y14)), (17, .int (Int32.ofInt y17)), (18, .int (Int32.ofInt y18))]) X.1.1 X.1.2.1 dL_arePages_410 hl (k := 15) rfl (Int32.ofInt_add _ _).symm (by decide) rfl (fun ls hl => ?_)
              refine lv_goto (tgt := 252) X.1.1 X.1.2.1 dL_arePages_413 (by decide) ?_
              exact hK252 _ _ _ _ hw r100 hy14 c103 _ _ (by omega) (by omega) _ _ hR hS _ (lv_sub hl [2, 3, 4, 5, 6, 7, 8, 9, 10, 11, 12, 13, 14, 1, 15, 0] rfl)
    · have hw := hw.2 hc
      refine lv_iload X.1.1 X.1.2.1 dL_arePages_288 (lv_at hl 15 rfl) ?_
      refine lv_aload_n X.1.1 X.1.2.1 dL_arePages_290 rfl (lv_at hl 2 rfl) ?_
      refine sa_const X.1 dL_arePages_291 ?_
      refine lv_iload X.1.1 X.1.2.1 dL_arePages_292 (lv_at hl 16 rfl) ?_
      have c104 := hw.1
      have hw := hw.2
      refine sa_imul X.1 dL_arePages_294 ?_
      have c105 := hw.1
      have hw := hw.2
      refine ra_105 X hR (okf X.2.2.1 rfl) c105 dL_arePages_295 ?_
      have r106 := hR.r 105 0 (3 * y18)
      refine sa_const X.1 dL_arePages_296 ?_
      refine sa_icmp_ne (tgt := 327) X.1 r106 (inR_c (a := 1) rfl) dL_arePages_297 (by decide) (fun hc => ?_) (fun hc => ?_)
      · have hw := hw.1 hc
        exact t_L_arePages_327 X N hlt hb hp9 ho114 ho115 ho116 hK252 ih _ _ _ _ _ hw hy14 hy16 hy18 hy17 _ _ (by omega) (by omega) _ _ hR hS _ (lv_sub hl [0, 1, 2, 3, 4, 5, 6, 7, 8, 9, 10, 11, 12, 13, 14, 16] rfl)
      · have hw := hw.2 hc
        refine lv_aload X.1.1 X.1.2.1 dL_arePages_300 (lv_at hl 12 rfl) ?_
        refine lv_iload X.1.1 X.1.2.1 dL_arePages_302 (lv_at hl 16 rfl) ?_
        have c109 := hw.1
        have hw := hw.2
        refine ra_116 X hR ho116 c109 dL_arePages_304 ?_
        have r110 := hR.r 116 0 y18
        refine lv_iload X.1.1 X.1.2.1 dL_arePages_305 (lv_at hl 14 rfl) ?_
        refine sa_icmp_gt (tgt := 327) X.1 r110 hy16 dL_arePages_307 (by decide) (fun hc => ?_) (fun hc => ?_)
        · have hw := hw.1 hc
          exact t_L_arePages_327 X N hlt hb hp9 ho114 ho115 ho116 hK252 ih _ _ _ _ _ hw hy14 hy16 hy18 hy17 _ _ (by omega) (by omega) _ _ hR hS _ (lv_sub hl [0, 1, 2, 3, 4, 5, 6, 7, 8, 9, 10, 11, 12, 13, 14, 16] rfl)
        · have hw := hw.2 hc
          refine lv_aload_n X.1.1 X.1.2.1 dL_arePages_310 rfl (lv_at hl 1 rfl) ?_
          refine lv_aload X.1.1 X.1.2.1 dL_arePages_311 (lv_at hl 4 rfl) ?_
          refine lv_aload X.1.1 X.1.2.1 dL_arePages_313 (lv_at hl 6 rfl) ?_
          refine lv_aload X.1.1 X.1.2.1 dL_arePages_315 (lv_at hl 7 rfl) ?_
          refine lv_iload X.1.1 X.1.2.1 dL_arePages_317 (lv_at hl 16 rfl) ?_
          refine lv_iload X.1.1 X.1.2.1 dL_arePages_319 (lv_at hl 13 rfl) ?_
          refine cs_L_figure X hy18 hy14 (kc := 10) rmX_ok ⟨by show _ ≤ 4; omega, by show _ ≤ 89; omega⟩ (by decide) hR hS kw_1348 hl.1 dL_arePages_321 (Nat.le_of_ble_eq_true rfl) hw (fun x112 M111 H locs hw r113 hR hS => ?_)
          refine lv_goto (tgt := 328) X.1.1 X.1.2.1 dL_arePages_324 (by decide) ?_
          exact t_L_arePages_328 X N hlt hb hp9 ho114 ho115 ho116 hK252 ih _ _ _ _ _ _ hw hy14 hy16 hy18 r113 hy17 _ _ (by omega) (by omega) _ _ hR hS _ (lv_sub hl [0, 1, 2, 3, 4, 5, 6, 7, 8, 9, 10, 11, 12, 13, 14, 16] rfl)
set_option maxHeartbeats 4000000 in
set_option maxRecDepth 100000 in
theorem t_L_arePages_252 {α0 : Ax} {κ0 : Nat → Int} {p9 : Int} (X : CX p m c cL_arePages 22 s args RL G B κ meth (some .boolean)) (N : NcA s) (hlt : l.stackTraces = false) (hb : Bk G e0 α κ α0 κ0 B) (hp9 : inR p9) (ho114 : okk κ 114 0) (ho115 : okk κ 115 0) (ho116 : okk κ 116 0) {Qm : Int → Mem → Prop} : ∀ n : Nat, ∀ y13 : Int, ∀ y14 : Int, ∀ y16 : Int, ∀ M : Mem, wp_L_arePages_252 κ p9 Qm n y13 y14 y16 M → inR y13 → inR y14 → inR y16 → ∀ cl sl : Nat, cl + 0 ≤ 4 → sl + 0 ≤ 89 → ∀ (H : Heap) (locs : List Loc), Rp G e0 α κ B M H → va_S (fun q => B ≤ q) s.heap H locs → ∀ (ls : Array Slot), lv_has ls 22 [(0, .ref (α 10 0)), (1, .ref (α 104 0)), (2, .ref (α 105 0)), (3, .ref (α 106 0)), (4, .ref (α 107 0)), (5, .ref (α 108 0)), (6, .ref (α 109 0)), (7, .ref (α 112 0)), (8, .ref (α 113 0)), (9, .int (Int32.ofInt p9)), (10, .ref (α 114 0)), (11, .ref (α 115 0)), (12, .ref (α 116 0)), (13, .int (Int32.ofInt y13)), (14, .int (Int32.ofInt y14)), (16, .int (Int32.ofInt y16))] → WU p l e 10 4 89 s m args below meth c G e0 α0 κ0 B Qm H locs cl sl 252 ls [] := by
  intro n
  induction n with
  | zero =>
    intro y13 y14 y16 M hw hy13 hy14 hy16 cl sl hc1 hc2 H locs hR hS ls hl
    exact hw.elim
  | succ n ih =>
    intro y13 y14 y16 M hw hy13 hy14 hy16 cl sl hc1 hc2 H locs hR hS ls hl
    have hw : ((6 ≤ y16 → wp_L_arePages_416 κ p9 Qm y13 M) ∧ (y16 < 6 → (((M 114 0 0) ≤ y16 → wp_L_arePages_416 κ p9 Qm y13 M) ∧ (y16 < (M 114 0 0) → ((y13 = 0 → wp_L_arePages_416 κ p9 Qm y13 M) ∧ (¬ y13 = 0 → (∃ n114 : Nat, wp_L_arePages_279 κ p9 Qm (wp_L_arePages_252 κ p9 Qm n) n114 y14 y16 0 0 M))))))) := hw
    refine lv_iload X.1.1 X.1.2.1 dL_arePages_252 (lv_at hl 15 rfl) ?_
    refine sa_bipush X.1 dL_arePages_254 (by decide) ?_
    refine sa_icmp_ge (tgt := 416) X.1 hy16 (inR_c (a := 6) rfl) dL_arePages_256 (by decide) (fun hc => ?_) (fun hc => ?_)
    · have hw := hw.1 hc
      exact t_L_arePages_416 X N hlt hb hp9 ho114 ho115 ho116 _ _ hw hy13 _ _ (by omega) (by omega) _ _ hR hS _ (lv_sub hl [0, 1, 2, 3, 4, 5, 7, 8, 10, 11, 13] rfl)
    · have hw := hw.2 hc
      refine lv_iload X.1.1 X.1.2.1 dL_arePages_259 (lv_at hl 15 rfl) ?_
      refine lv_aload X.1.1 X.1.2.1 dL_arePages_261 (lv_at hl 10 rfl) ?_
      refine sa_const X.1 dL_arePages_263 ?_
      refine ra_114 X hR ho114 ⟨by decide, by decide⟩ dL_arePages_264 ?_
      have r77 := hR.r 114 0 0
      refine sa_icmp_ge (tgt := 416) X.1 hy16 r77 dL_arePages_265 (by decide) (fun hc => ?_) (fun hc => ?_)
      · have hw := hw.1 hc
        exact t_L_arePages_416 X N hlt hb hp9 ho114 ho115 ho116 _ _ hw hy13 _ _ (by omega) (by omega) _ _ hR hS _ (lv_sub hl [0, 1, 2, 3, 4, 5, 7, 8, 10, 11, 13] rfl)
      · have hw := hw.2 hc
        refine lv_iload X.1.1 X.1.2.1 dL_arePages_268 (lv_at hl 13 rfl) ?_
        refine sa_if_eq (tgt := 416) X.1 hy13 dL_arePages_270 (by decide) (fun hc => ?_) (fun hc => ?_)
        · have hw := hw.1 hc
          exact t_L_arePages_416 X N hlt hb hp9 ho114 ho115 ho116 _ _ hw hy13 _ _ (by omega) (by omega) _ _ hR hS _ (lv_sub hl [0, 1, 2, 3, 4, 5, 7, 8, 10, 11, 13] rfl)
        · have hw := hw.2 hc
          refine sa_const X.1 dL_arePages_273 ?_
          refine lv_istore (lv' := [(17, .int (Int32.ofInt 0)), (0, .ref (α 10 0)), (1, .ref (α 104 0)), (2, .ref (α 105 0)), (3, .ref (α 106 0)), (4, .ref (α 107 0)), (5, .ref (α 108 0)), (6, .ref (α 109 0)), (7, .ref (α 112 0)), (8, .ref (α 113 0)), (9, .int (Int32.ofInt p9)), (10, .ref (α 114 0)), (11, .ref (α 115 0)), (12, .ref (α 116 0)), (13, .int (Int32.ofInt y13)), (14, .int (Int32.ofInt y14)), (16, .int (Int32.ofInt y16))]) X.1.1 X.1.2.1 dL_arePages_274 hl (by decide) rfl (fun ls hl => ?_)
          refine sa_const X.1 dL_arePages_276 ?_
          refine lv_istore (lv' := [(18, .int (Int32.ofInt 0)), (17, .int (Int32.ofInt 0)), (0, .ref (α 10 0)), (1, .ref (α 104 0)), (2, .ref (α 105 0)), (3, .ref (α 106 0)), (4, .ref (α 107 0)), (5, .ref (α 108 0)), (6, .ref (α 109 0)), (7, .ref (α 112 0)), (8, .ref (α 113 0)), (9, .int (Int32.ofInt p9)), (10, .ref (α 114 0)), (11, .ref (α 115 0)), (12, .ref (α 116 0)), (13, .int (Int32.ofInt y13)), (14, .int (Int32.ofInt y14)), (16, .int (Int32.ofInt y16))]) X.1.1 X.1.2.1 dL_arePages_277 hl (by decide) rfl (fun ls hl => ?_)
          obtain ⟨n114, hw⟩ := hw
          exact t_L_arePages_279 X N hlt hb hp9 ho114 ho115 ho116 ih n114 _ _ _ _ _ hw hy14 hy16 (inR_c (a := 0) rfl) (inR_c (a := 0) rfl) _ _ (by omega) (by omega) _ _ hR hS _ (lv_sub hl [2, 3, 4, 5, 6, 7, 8, 9, 10, 11, 12, 13, 14, 16, 17, 1, 0] rfl)
set_option maxHeartbeats 4000000 in
set_option maxRecDepth 100000 in
theorem t_L_arePages_249 {α0 : Ax} {κ0 : Nat → Int} {p9 : Int} (X : CX p m c cL_arePages 22 s args RL G B κ meth (some .boolean)) (N : NcA s) (hlt : l.stackTraces = false) (hb : Bk G e0 α κ α0 κ0 B) (hp9 : inR p9) (ho114 : okk κ 114 0) (ho115 : okk κ 115 0) (ho116 : okk κ 116 0) {Qm : Int → Mem → Prop} : ∀ y13 : Int, ∀ y14 : Int, ∀ M : Mem, wp_L_arePages_249 κ p9 Qm y13 y14 M → inR y13 → inR y14 → ∀ cl sl : Nat, cl + 0 ≤ 4 → sl + 0 ≤ 89 → ∀ (H : Heap) (locs : List Loc), Rp G e0 α κ B M H → va_S (fun q => B ≤ q) s.heap H locs → ∀ (ls : Array Slot), lv_has ls 22 [(0, .ref (α 10 0)), (1, .ref (α 104 0)), (2, .ref (α 105 0)), (3, .ref (α 106 0)), (4, .ref (α 107 0)), (5, .ref (α 108 0)), (6, .ref (α 109 0)), (7, .ref (α 112 0)), (8, .ref (α 113 0)), (9, .int (Int32.ofInt p9)), (10, .ref (α 114 0)), (11, .ref (α 115 0)), (12, .ref (α 116 0)), (13, .int (Int32.ofInt y13)), (14, .int (Int32.ofInt y14))] → WU p l e 10 4 89 s m args below meth c G e0 α0 κ0 B Qm H locs cl sl 249 ls [] := by
  intro y13 y14 M hw hy13 hy14 cl sl hc1 hc2 H locs hR hS ls hl
  have hw : (∃ n115 : Nat, wp_L_arePages_252 κ p9 Qm n115 y13 y14 0 M) := hw
  refine sa_const X.1 dL_arePages_249 ?_
  refine lv_istore (lv' := [(16, .int (Int32.ofInt 0)), (0, .ref (α 10 0)), (1, .ref (α 104 0)), (2, .ref (α 105 0)), (3, .ref (α 106 0)), (4, .ref (α 107 0)), (5, .ref (α 108 0)), (6, .ref (α 109 0)), (7, .ref (α 112 0)), (8, .ref (α 113 0)), (9, .int (Int32.ofInt p9)), (10, .ref (α 114 0)), (11, .ref (α 115 0)), (12, .ref (α 116 0)), (13, .int (Int32.ofInt y13)), (14, .int (Int32.ofInt y14))]) X.1.1 X.1.2.1 dL_arePages_250 hl (by decide) rfl (fun ls hl => ?_)
  obtain ⟨n115, hw⟩ := hw
  exact t_L_arePages_252 X N hlt hb hp9 ho114 ho115 ho116 n115 _ _ _ _ hw hy13 hy14 (inR_c (a := 0) rfl) _ _ (by omega) (by omega) _ _ hR hS _ (lv_sub hl [1, 2, 3, 4, 5, 6, 7, 8, 9, 10, 11, 12, 13, 14, 15, 0] rfl)
set_option maxHeartbeats 4000000 in
set_option maxRecDepth 100000 in
theorem t_L_arePages_243 {α0 : Ax} {κ0 : Nat → Int} {p9 : Int} (X : CX p m c cL_arePages 22 s args RL G B κ meth (some .boolean)) (N : NcA s) (hlt : l.stackTraces = false) (hb : Bk G e0 α κ α0 κ0 B) (hp9 : inR p9) (ho114 : okk κ 114 0) (ho115 : okk κ 115 0) (ho116 : okk κ 116 0) {Qm : Int → Mem → Prop} {K143 : Int → Int → Int → Mem → Prop} (hK143 : ∀ y13 : Int, ∀ y14 : Int, ∀ y16 : Int, ∀ M : Mem, K143 y13 y14 y16 M → inR y13 → inR y14 → inR y16 → ∀ cl sl : Nat, cl + 0 ≤ 4 → sl + 0 ≤ 89 → ∀ (H : Heap) (locs : List Loc), Rp G e0 α κ B M H → va_S (fun q => B ≤ q) s.heap H locs → ∀ (ls : Array Slot), lv_has ls 22 [(0, .ref (α 10 0)), (1, .ref (α 104 0)), (2, .ref (α 105 0)), (3, .ref (α 106 0)), (4, .ref (α 107 0)), (5, .ref (α 108 0)), (6, .ref (α 109 0)), (7, .ref (α 112 0)), (8, .ref (α 113 0)), (9, .int (Int32.ofInt p9)), (10, .ref (α 114 0)), (11, .ref (α 115 0)), (12, .ref (α 116 0)), (13, .int (Int32.ofInt y13)), (14, .int (Int32.ofInt y14)), (16, .int (Int32.ofInt y16))] → WU p l e 10 4 89 s m args below meth c G e0 α0 κ0 B Qm H locs cl sl 143 ls []) : ∀ y13 : Int, ∀ y14 : Int, ∀ y16 : Int, ∀ M : Mem, wp_L_arePages_243 κ p9 Qm K143 y13 y14 y16 M → inR y13 → inR y14 → inR y16 → ∀ cl sl : Nat, cl + 0 ≤ 4 → sl + 0 ≤ 89 → ∀ (H : Heap) (locs : List Loc), Rp G e0 α κ B M H → va_S (fun q => B ≤ q) s.heap H locs → ∀ (ls : Array Slot), lv_has ls 22 [(0, .ref (α 10 0)), (1, .ref (α 104 0)), (2, .ref (α 105 0)), (3, .ref (α 106 0)), (4, .ref (α 107 0)), (5, .ref (α 108 0)), (6, .ref (α 109 0)), (7, .ref (α 112 0)), (8, .ref (α 113 0)), (9, .int (Int32.ofInt p9)), (10, .ref (α 114 0)), (11, .ref (α 115 0)), (12, .ref (α 116 0)), (13, .int (Int32.ofInt y13)), (14, .int (Int32.ofInt y14)), (16, .int (Int32.ofInt y16))] → WU p l e 10 4 89 s m args below meth c G e0 α0 κ0 B Qm H locs cl sl 243 ls [] := by
  intro y13 y14 y16 M hw hy13 hy14 hy16 cl sl hc1 hc2 H locs hR hS ls hl
  have hw : (inR (y16 + 1)) ∧ K143 y13 y14 (y16 + 1) M := hw
  have c117 := hw.1
  have hw := hw.2
  refine lv_iinc (v := Int32.ofInt (y16 + 1)) (lv' := [(16, .int (Int32.ofInt (y16 + 1))), (0, .ref (α 10 0)), (1, .ref (α 104 0)), (2, .ref (α 105 0)), (3, .ref (α 106 0)), (4, .ref (α 107 0)), (5, .ref (α 108 0)), (6, .ref (α 109 0)), (7, .ref (α 112 0)), (8, .ref (α 113 0)), (9, .int (Int32.ofInt p9)), (10, .ref (α 114 0)), (11, .ref (α 115 0)), (12, .ref (α 116 0)), (13, .int (Int32.ofInt y13)), (14, .int (Int32.ofInt y14))]) X.1.1 X.1.2.1 dL_arePages_243 hl (k := 15) rfl (Int32.ofInt_add _ _).symm (by decide) rfl (fun ls hl => ?_)
  refine lv_goto (tgt := 143) X.1.1 X.1.2.1 dL_arePages_246 (by decide) ?_
  exact hK143 _ _ _ _ hw hy13 hy14 c117 _ _ (by omega) (by omega) _ _ hR hS _ (lv_sub hl [1, 2, 3, 4, 5, 6, 7, 8, 9, 10, 11, 12, 13, 14, 15, 0] rfl)
set_option maxHeartbeats 4000000 in
set_option maxRecDepth 100000 in
theorem t_L_arePages_234 {α0 : Ax} {κ0 : Nat → Int} {p9 : Int} (X : CX p m c cL_arePages 22 s args RL G B κ meth (some .boolean)) (N : NcA s) (hlt : l.stackTraces = false) (hb : Bk G e0 α κ α0 κ0 B) (hp9 : inR p9) (ho114 : okk κ 114 0) (ho115 : okk κ 115 0) (ho116 : okk κ 116 0) {Qm : Int → Mem → Prop} {K143 : Int → Int → Int → Mem → Prop} {K167 : Int → Int → Int → Int → Mem → Prop} (hK143 : ∀ y13 : Int, ∀ y14 : Int, ∀ y16 : Int, ∀ M : Mem, K143 y13 y14 y16 M → inR y13 → inR y14 → inR y16 → ∀ cl sl : Nat, cl + 0 ≤ 4 → sl + 0 ≤ 89 → ∀ (H : Heap) (locs : List Loc), Rp G e0 α κ B M H → va_S (fun q => B ≤ q) s.heap H locs → ∀ (ls : Array Slot), lv_has ls 22 [(0, .ref (α 10 0)), (1, .ref (α 104 0)), (2, .ref (α 105 0)), (3, .ref (α 106 0)), (4, .ref (α 107 0)), (5, .ref (α 108 0)), (6, .ref (α 109 0)), (7, .ref (α 112 0)), (8, .ref (α 113 0)), (9, .int (Int32.ofInt p9)), (10, .ref (α 114 0)), (11, .ref (α 115 0)), (12, .ref (α 116 0)), (13, .int (Int32.ofInt y13)), (14, .int (Int32.ofInt y14)), (16, .int (Int32.ofInt y16))] → WU p l e 10 4 89 s m args below meth c G e0 α0 κ0 B Qm H locs cl sl 143 ls []) (hK167 : ∀ y13 : Int, ∀ y14 : Int, ∀ y16 : Int, ∀ y17 : Int, ∀ M : Mem, K167 y13 y14 y16 y17 M → inR y13 → inR y14 → inR y16 → inR y17 → ∀ cl sl : Nat, cl + 0 ≤ 4 → sl + 0 ≤ 89 → ∀ (H : Heap) (locs : List Loc), Rp G e0 α κ B M H → va_S (fun q => B ≤ q) s.heap H locs → ∀ (ls : Array Slot), lv_has ls 22 [(0, .ref (α 10 0)), (1, .ref (α 104 0)), (2, .ref (α 105 0)), (3, .ref (α 106 0)), (4, .ref (α 107 0)), (5, .ref (α 108 0)), (6, .ref (α 109 0)), (7, .ref (α 112 0)), (8, .ref (α 113 0)), (9, .int (Int32.ofInt p9)), (10, .ref (α 114 0)), (11, .ref (α 115 0)), (12, .ref (α 116 0)), (13, .int (Int32.ofInt y13)), (14, .int (Int32.ofInt y14)), (16, .int (Int32.ofInt y16)), (17, .int (Int32.ofInt y17))] → WU p l e 10 4 89 s m args below meth c G e0 α0 κ0 B Qm H locs cl sl 167 ls []) : ∀ y14 : Int, ∀ y16 : Int, ∀ y17 : Int, ∀ M : Mem, wp_L_arePages_234 κ p9 Qm K143 K167 y14 y16 y17 M → inR y14 → inR y16 → inR y17 → ∀ cl sl : Nat, cl + 0 ≤ 4 → sl + 0 ≤ 89 → ∀ (H : Heap) (locs : List Loc), Rp G e0 α κ B M H → va_S (fun q => B ≤ q) s.heap H locs → ∀ (ls : Array Slot), lv_has ls 22 [(0, .ref (α 10 0)), (1, .ref (α 104 0)), (2, .ref (α 105 0)), (3, .ref (α 106 0)), (4, .ref (α 107 0)), (5, .ref (α 108 0)), (6, .ref (α 109 0)), (7, .ref (α 112 0)), (8, .ref (α 113 0)), (9, .int (Int32.ofInt p9)), (10, .ref (α 114 0)), (11, .ref (α 115 0)), (12, .ref (α 116 0)), (14, .int (Int32.ofInt y14)), (16, .int (Int32.ofInt y16)), (17, .int (Int32.ofInt y17))] → WU p l e 10 4 89 s m args below meth c G e0 α0 κ0 B Qm H locs cl sl 234 ls [] := by
  intro y14 y16 y17 M hw hy14 hy16 hy17 cl sl hc1 hc2 H locs hR hS ls hl
  have hw : (inR (y17 + 1)) ∧ K167 0 y14 y16 (y17 + 1) M := hw
  refine sa_const X.1 dL_arePages_234 ?_
  refine lv_istore (lv' := [(13, .int (Int32.ofInt 0)), (0, .ref (α 10 0)), (1, .ref (α 104 0)), (2, .ref (α 105 0)), (3, .ref (α 106 0)), (4, .ref (α 107 0)), (5, .ref (α 108 0)), (6, .ref (α 109 0)), (7, .ref (α 112 0)), (8, .ref (α 113 0)), (9, .int (Int32.ofInt p9)), (10, .ref (α 114 0)), (11, .ref (α 115 0)), (12, .ref (α 116 0)), (14, .int (Int32.ofInt y14)), (16, .int (Int32.ofInt y16)), (17, .int (Int32.ofInt y17))]) X.1.1 X.1.2.1 dL_arePages_235 hl (by decide) rfl (fun ls hl => ?_)
  have c128 := hw.1
  have hw := hw.2
  refine lv_iinc (v := Int32.ofInt (y17 + 1)) (lv' := [(17, .int (Int32.ofInt (y17 + 1))), (13, .int (Int32.ofInt 0)), (0, .ref (α 10 0)), (1, .ref (α 104 0)), (2, .ref (α 105 0)), (3, .ref (α 106 0)), (4, .ref (α 107 0)), (5, .ref (α 108 0)), (6, .ref (α 109 0)), (7, .ref (α 112 0)), (8, .ref (α 113 0)), (9, .int (Int32.ofInt p9)), (10, .ref (α 114 0)), (11, .ref (α 115 0)), (12, .ref (α 116 0)), (14, .int (Int32.ofInt y14)), (16, .int (Int32.ofInt y16))]) X.1.1 X.1.2.1 dL_arePages_237 hl (k := 16) rfl (Int32.ofInt_add _ _).symm (by decide) rfl (fun ls hl => ?_)
  refine lv_goto (tgt := 167) X.1.1 X.1.2.1 dL_arePages_240 (by decide) ?_
  exact hK167 _ _ _ _ _ hw (inR_c (a := 0) rfl) hy14 hy16 c128 _ _ (by omega) (by omega) _ _ hR hS _ (lv_sub hl [2, 3, 4, 5, 6, 7, 8, 9, 10, 11, 12, 13, 14, 1, 15, 16, 0] rfl)
set_option maxHeartbeats 4000000 in
set_option maxRecDepth 100000 in
theorem t_L_arePages_230 {α0 : Ax} {κ0 : Nat → Int} {p9 : Int} (X : CX p m c cL_arePages 22 s args RL G B κ meth (some .boolean)) (N : NcA s) (hlt : l.stackTraces = false) (hb : Bk G e0 α κ α0 κ0 B) (hp9 : inR p9) (ho114 : okk κ 114 0) (ho115 : okk κ 115 0) (ho116 : okk κ 116 0) {Qm : Int → Mem → Prop} {K143 : Int → Int → Int → Mem → Prop} {K167 : Int → Int → Int → Int → Mem → Prop} (hK143 : ∀ y13 : Int, ∀ y14 : Int, ∀ y16 : Int, ∀ M : Mem, K143 y13 y14 y16 M → inR y13 → inR y14 → inR y16 → ∀ cl sl : Nat, cl + 0 ≤ 4 → sl + 0 ≤ 89 → ∀ (H : Heap) (locs : List Loc), Rp G e0 α κ B M H → va_S (fun q => B ≤ q) s.heap H locs → ∀ (ls : Array Slot), lv_has ls 22 [(0, .ref (α 10 0)), (1, .ref (α 104 0)), (2, .ref (α 105 0)), (3, .ref (α 106 0)), (4, .ref (α 107 0)), (5, .ref (α 108 0)), (6, .ref (α 109 0)), (7, .ref (α 112 0)), (8, .ref (α 113 0)), (9, .int (Int32.ofInt p9)), (10, .ref (α 114 0)), (11, .ref (α 115 0)), (12, .ref (α 116 0)), (13, .int (Int32.ofInt y13)), (14, .int (Int32.ofInt y14)), (16, .int (Int32.ofInt y16))] → WU p l e 10 4 89 s m args below meth c G e0 α0 κ0 B Qm H locs cl sl 143 ls []) (hK167 : ∀ y13 : Int, ∀ y14 : Int, ∀ y16 : Int, ∀ y17 : Int, ∀ M : Mem, K167 y13 y14 y16 y17 M → inR y13 → inR y14 → inR y16 → inR y17 → ∀ cl sl : Nat, cl + 0 ≤ 4 → sl + 0 ≤ 89 → ∀ (H : Heap) (locs : List Loc), Rp G e0 α κ B M H → va_S (fun q => B ≤ q) s.heap H locs → ∀ (ls : Array Slot), lv_has ls 22 [(0, .ref (α 10 0)), (1, .ref (α 104 0)), (2, .ref (α 105 0)), (3, .ref (α 106 0)), (4, .ref (α 107 0)), (5, .ref (α 108 0)), (6, .ref (α 109 0)), (7, .ref (α 112 0)), (8, .ref (α 113 0)), (9, .int (Int32.ofInt p9)), (10, .ref (α 114 0)), (11, .ref (α 115 0)), (12, .ref (α 116 0)), (13, .int (Int32.ofInt y13)), (14, .int (Int32.ofInt y14)), (16, .int (Int32.ofInt y16)), (17, .int (Int32.ofInt y17))] → WU p l e 10 4 89 s m args below meth c G e0 α0 κ0 B Qm H locs cl sl 167 ls []) : ∀ y14 : Int, ∀ y16 : Int, ∀ y17 : Int, ∀ M : Mem, wp_L_arePages_230 κ p9 Qm K143 K167 y14 y16 y17 M → inR y14 → inR y16 → inR y17 → ∀ cl sl : Nat, cl + 0 ≤ 4 → sl + 0 ≤ 89 → ∀ (H : Heap) (locs : List Loc), Rp G e0 α κ B M H → va_S (fun q => B ≤ q) s.heap H locs → ∀ (ls : Array Slot), lv_has ls 22 [(0, .ref (α 10 0)), (1, .ref (α 104 0)), (2, .ref (α 105 0)), (3, .ref (α 106 0)), (4, .ref (α 107 0)), (5, .ref (α 108 0)), (6, .ref (α 109 0)), (7, .ref (α 112 0)), (8, .ref (α 113 0)), (9, .int (Int32.ofInt p9)), (10, .ref (α 114 0)), (11, .ref (α 115 0)), (12, .ref (α 116 0)), (14, .int (Int32.ofInt y14)), (16, .int (Int32.ofInt y16)), (17, .int (Int32.ofInt y17))] → WU p l e 10 4 89 s m args below meth c G e0 α0 κ0 B Qm H locs cl sl 230 ls [] := by
  intro y14 y16 y17 M hw hy14 hy16 hy17 cl sl hc1 hc2 H locs hR hS ls hl
  have hw : (inR (y17 + 1)) ∧ K167 1 y14 y16 (y17 + 1) M := hw
  refine sa_const X.1 dL_arePages_230 ?_
  refine lv_goto (tgt := 235) X.1.1 X.1.2.1 dL_arePages_231 (by decide) ?_
  refine lv_istore (lv' := [(13, .int (Int32.ofInt 1)), (0, .ref (α 10 0)), (1, .ref (α 104 0)), (2, .ref (α 105 0)), (3, .ref (α 106 0)), (4, .ref (α 107 0)), (5, .ref (α 108 0)), (6, .ref (α 109 0)), (7, .ref (α 112 0)), (8, .ref (α 113 0)), (9, .int (Int32.ofInt p9)), (10, .ref (α 114 0)), (11, .ref (α 115 0)), (12, .ref (α 116 0)), (14, .int (Int32.ofInt y14)), (16, .int (Int32.ofInt y16)), (17, .int (Int32.ofInt y17))]) X.1.1 X.1.2.1 dL_arePages_235 hl (by decide) rfl (fun ls hl => ?_)
  have c129 := hw.1
  have hw := hw.2
  refine lv_iinc (v := Int32.ofInt (y17 + 1)) (lv' := [(17, .int (Int32.ofInt (y17 + 1))), (13, .int (Int32.ofInt 1)), (0, .ref (α 10 0)), (1, .ref (α 104 0)), (2, .ref (α 105 0)), (3, .ref (α 106 0)), (4, .ref (α 107 0)), (5, .ref (α 108 0)), (6, .ref (α 109 0)), (7, .ref (α 112 0)), (8, .ref (α 113 0)), (9, .int (Int32.ofInt p9)), (10, .ref (α 114 0)), (11, .ref (α 115 0)), (12, .ref (α 116 0)), (14, .int (Int32.ofInt y14)), (16, .int (Int32.ofInt y16))]) X.1.1 X.1.2.1 dL_arePages_237 hl (k := 16) rfl (Int32.ofInt_add _ _).symm (by decide) rfl (fun ls hl => ?_)
  refine lv_goto (tgt := 167) X.1.1 X.1.2.1 dL_arePages_240 (by decide) ?_
  exact hK167 _ _ _ _ _ hw (inR_c (a := 1) rfl) hy14 hy16 c129 _ _ (by omega) (by omega) _ _ hR hS _ (lv_sub hl [2, 3, 4, 5, 6, 7, 8, 9, 10, 11, 12, 13, 14, 1, 15, 16, 0] rfl)
set_option maxHeartbeats 4000000 in
set_option maxRecDepth 100000 in
theorem t_L_arePages_167 {α0 : Ax} {κ0 : Nat → Int} {p9 : Int} (X : CX p m c cL_arePages 22 s args RL G B κ meth (some .boolean)) (N : NcA s) (hlt : l.stackTraces = false) (hb : Bk G e0 α κ α0 κ0 B) (hp9 : inR p9) (ho114 : okk κ 114 0) (ho115 : okk κ 115 0) (ho116 : okk κ 116 0) {Qm : Int → Mem → Prop} {K143 : Int → Int → Int → Mem → Prop} (hK143 : ∀ y13 : Int, ∀ y14 : Int, ∀ y16 : Int, ∀ M : Mem, K143 y13 y14 y16 M → inR y13 → inR y14 → inR y16 → ∀ cl sl : Nat, cl + 0 ≤ 4 → sl + 0 ≤ 89 → ∀ (H : Heap) (locs : List Loc), Rp G e0 α κ B M H → va_S (fun q => B ≤ q) s.heap H locs → ∀ (ls : Array Slot), lv_has ls 22 [(0, .ref (α 10 0)), (1, .ref (α 104 0)), (2, .ref (α 105 0)), (3, .ref (α 106 0)), (4, .ref (α 107 0)), (5, .ref (α 108 0)), (6, .ref (α 109 0)), (7, .ref (α 112 0)), (8, .ref (α 113 0)), (9, .int (Int32.ofInt p9)), (10, .ref (α 114 0)), (11, .ref (α 115 0)), (12, .ref (α 116 0)), (13, .int (Int32.ofInt y13)), (14, .int (Int32.ofInt y14)), (16, .int (Int32.ofInt y16))] → WU p l e 10 4 89 s m args below meth c G e0 α0 κ0 B Qm H locs cl sl 143 ls []) : ∀ n : Nat, ∀ y13 : Int, ∀ y14 : Int, ∀ y16 : Int, ∀ y17 : Int, ∀ M : Mem, wp_L_arePages_167 κ p9 Qm K143 n y13 y14 y16 y17 M → inR y13 → inR y14 → inR y16 → inR y17 → ∀ cl sl : Nat, cl + 0 ≤ 4 → sl + 0 ≤ 89 → ∀ (H : Heap) (locs : List Loc), Rp G e0 α κ B M H → va_S (fun q => B ≤ q) s.heap H locs → ∀ (ls : Array Slot), lv_has ls 22 [(0, .ref (α 10 0)), (1, .ref (α 104 0)), (2, .ref (α 105 0)), (3, .ref (α 106 0)), (4, .ref (α 107 0)), (5, .ref (α 108 0)), (6, .ref (α 109 0)), (7, .ref (α 112 0)), (8, .ref (α 113 0)), (9, .int (Int32.ofInt p9)), (10, .ref (α 114 0)), (11, .ref (α 115 0)), (12, .ref (α 116 0)), (13, .int (Int32.ofInt y13)), (14, .int (Int32.ofInt y14)), (16, .int (Int32.ofInt y16)), (17, .int (Int32.ofInt y17))] → WU p l e 10 4 89 s m args below meth c G e0 α0 κ0 B Qm H locs cl sl 167 ls [] := by
  intro n
  induction n with
  | zero =>
    intro y13 y14 y16 y17 M hw hy13 hy14 hy16 hy17 cl sl hc1 hc2 H locs hR hS ls hl
    exact hw.elim
  | succ n ih =>
    intro y13 y14 y16 y17 M hw hy13 hy14 hy16 hy17 cl sl hc1 hc2 H locs hR hS ls hl
    have hw : ((6 ≤ y17 → wp_L_arePages_243 κ p9 Qm K143 y13 y14 y16 M) ∧ (y17 < 6 → ((y13 = 0 → wp_L_arePages_243 κ p9 Qm K143 y13 y14 y16 M) ∧ (¬ y13 = 0 → (inR (3 * y16)) ∧ (0 ≤ (3 * y16) ∧ (3 * y16) < 30) ∧ ((¬ (M 105 0 (3 * y16)) = 1 → wp_L_arePages_243 κ p9 Qm K143 y13 y14 y16 M) ∧ ((M 105 0 (3 * y16)) = 1 → wo_X9_linesOn y16 y17 M fun (x122 : Int) (M121 : Mem) => (inR (6 * y16)) ∧ (inR ((6 * y16) + y17)) ∧ (0 ≤ ((6 * y16) + y17) ∧ ((6 * y16) + y17) < 60) ∧ ((¬ x122 = (M121 115 0 ((6 * y16) + y17)) → wp_L_arePages_234 κ p9 Qm K143 (wp_L_arePages_167 κ p9 Qm K143 n) y14 y16 y17 M121) ∧ (x122 = (M121 115 0 ((6 * y16) + y17)) → ((0 < y17 → wp_L_arePages_230 κ p9 Qm K143 (wp_L_arePages_167 κ p9 Qm K143 n) y14 y16 y17 M121) ∧ (y17 ≤ 0 → wo_X9_pageOf y16 M121 fun (x131 : Int) (M130 : Mem) => (0 ≤ y16 ∧ y16 < 10) ∧ (inR (y17 + 1)) ∧ wp_L_arePages_167 κ p9 Qm K143 n (if ¬ x131 = (M130 116 0 y16) then (0 : Int) else 1) y14 y16 (y17 + 1) M130)))))))))) := hw
    refine lv_iload X.1.1 X.1.2.1 dL_arePages_167 (lv_at hl 16 rfl) ?_
    refine sa_bipush X.1 dL_arePages_169 (by decide) ?_
    refine sa_icmp_ge (tgt := 243) X.1 hy17 (inR_c (a := 6) rfl) dL_arePages_171 (by decide) (fun hc => ?_) (fun hc => ?_)
    · have hw := hw.1 hc
      exact t_L_arePages_243 X N hlt hb hp9 ho114 ho115 ho116 hK143 _ _ _ _ hw hy13 hy14 hy16 _ _ (by omega) (by omega) _ _ hR hS _ (lv_sub hl [0, 1, 2, 3, 4, 5, 6, 7, 8, 9, 10, 11, 12, 13, 14, 15] rfl)
    · have hw := hw.2 hc
      refine lv_iload X.1.1 X.1.2.1 dL_arePages_174 (lv_at hl 13 rfl) ?_
      refine sa_if_eq (tgt := 243) X.1 hy13 dL_arePages_176 (by decide) (fun hc => ?_) (fun hc => ?_)
      · have hw := hw.1 hc
        exact t_L_arePages_243 X N hlt hb hp9 ho114 ho115 ho116 hK143 _ _ _ _ hw hy13 hy14 hy16 _ _ (by omega) (by omega) _ _ hR hS _ (lv_sub hl [0, 1, 2, 3, 4, 5, 6, 7, 8, 9, 10, 11, 12, 13, 14, 15] rfl)
      · have hw := hw.2 hc
        refine lv_aload_n X.1.1 X.1.2.1 dL_arePages_179 rfl (lv_at hl 2 rfl) ?_
        refine sa_const X.1 dL_arePages_180 ?_
        refine lv_iload X.1.1 X.1.2.1 dL_arePages_181 (lv_at hl 15 rfl) ?_
        have c118 := hw.1
        have hw := hw.2
        refine sa_imul X.1 dL_arePages_183 ?_
        have c119 := hw.1
        have hw := hw.2
        refine ra_105 X hR (okf X.2.2.1 rfl) c119 dL_arePages_184 ?_
        have r120 := hR.r 105 0 (3 * y16)
        refine sa_const X.1 dL_arePages_185 ?_
        refine sa_icmp_ne (tgt := 243) X.1 r120 (inR_c (a := 1) rfl) dL_arePages_186 (by decide) (fun hc => ?_) (fun hc => ?_)
        · have hw := hw.1 hc
          exact t_L_arePages_243 X N hlt hb hp9 ho114 ho115 ho116 hK143 _ _ _ _ hw hy13 hy14 hy16 _ _ (by omega) (by omega) _ _ hR hS _ (lv_sub hl [0, 1, 2, 3, 4, 5, 6, 7, 8, 9, 10, 11, 12, 13, 14, 15] rfl)
        · have hw := hw.2 hc
          refine lv_aload_n X.1.1 X.1.2.1 dL_arePages_189 rfl (lv_at hl 0 rfl) ?_
          refine lv_iload X.1.1 X.1.2.1 dL_arePages_190 (lv_at hl 15 rfl) ?_
          refine lv_iload X.1.1 X.1.2.1 dL_arePages_192 (lv_at hl 16 rfl) ?_
          refine co_X9_linesOn X hy16 hy17 (kc := 10) rmX_ok ⟨by show _ ≤ 4; omega, by show _ ≤ 89; omega⟩ (by decide) hR hS kw_1359 hl.1 dL_arePages_194 (Nat.le_of_ble_eq_true rfl) hw (fun x122 M121 H locs hw r123 hR hS => ?_)
          refine lv_aload X.1.1 X.1.2.1 dL_arePages_197 (lv_at hl 11 rfl) ?_
          refine sa_bipush X.1 dL_arePages_199 (by decide) ?_
          refine lv_iload X.1.1 X.1.2.1 dL_arePages_201 (lv_at hl 15 rfl) ?_
          have c124 := hw.1
          have hw := hw.2
          refine sa_imul X.1 dL_arePages_203 ?_
          refine lv_iload X.1.1 X.1.2.1 dL_arePages_204 (lv_at hl 16 rfl) ?_
          have c125 := hw.1
          have hw := hw.2
          refine sa_iadd X.1 dL_arePages_206 ?_
          have c126 := hw.1
          have hw := hw.2
          refine ra_115 X hR ho115 c126 dL_arePages_207 ?_
          have r127 := hR.r 115 0 ((6 * y16) + y17)
          refine sa_icmp_ne (tgt := 234) X.1 r123 r127 dL_arePages_208 (by decide) (fun hc => ?_) (fun hc => ?_)
          · have hw := hw.1 hc
            exact t_L_arePages_234 X N hlt hb hp9 ho114 ho115 ho116 hK143 ih _ _ _ _ hw hy14 hy16 hy17 _ _ (by omega) (by omega) _ _ hR hS _ (lv_sub hl [0, 1, 2, 3, 4, 5, 6, 7, 8, 9, 10, 11, 12, 14, 15, 16] rfl)
          · have hw := hw.2 hc
            refine lv_iload X.1.1 X.1.2.1 dL_arePages_211 (lv_at hl 16 rfl) ?_
            refine sa_if_gt (tgt := 230) X.1 hy17 dL_arePages_213 (by decide) (fun hc => ?_) (fun hc => ?_)
            · have hw := hw.1 hc
              exact t_L_arePages_230 X N hlt hb hp9 ho114 ho115 ho116 hK143 ih _ _ _ _ hw hy14 hy16 hy17 _ _ (by omega) (by omega) _ _ hR hS _ (lv_sub hl [0, 1, 2, 3, 4, 5, 6, 7, 8, 9, 10, 11, 12, 14, 15, 16] rfl)
            · have hw := hw.2 hc
              refine lv_aload_n X.1.1 X.1.2.1 dL_arePages_216 rfl (lv_at hl 0 rfl) ?_
              refine lv_iload X.1.1 X.1.2.1 dL_arePages_217 (lv_at hl 15 rfl) ?_
              refine co_X9_pageOf X hy16 (kc := 10) rmX_ok ⟨by show _ ≤ 4; omega, by show _ ≤ 89; omega⟩ (by decide) hR hS kw_1371 hl.1 dL_arePages_219 (Nat.le_of_ble_eq_true rfl) hw (fun x131 M130 H locs hw r132 hR hS => ?_)
              refine lv_aload X.1.1 X.1.2.1 dL_arePages_222 (lv_at hl 12 rfl) ?_
              refine lv_iload X.1.1 X.1.2.1 dL_arePages_224 (lv_at hl 15 rfl) ?_
              have c133 := hw.1
              have hw := hw.2
              refine ra_116 X hR ho116 c133 dL_arePages_226 ?_
              have r134 := hR.r 116 0 y16
              have r135 := inR_ite (c := ¬ x131 = (M130 116 0 y16)) (inR_c (a := 0) rfl) (inR_c (a := 1) rfl)
              refine cut_j (A := ∀ v136 : Int, v136 = (if ¬ x131 = (M130 116 0 y16) then (0 : Int) else 1) → WU p l e 10 4 89 s m args below meth c G e0 α0 κ0 B Qm H locs cl sl 235 ls [.int (Int32.ofInt v136)]) (fun J137 => ?_) ?_
              · refine sa_icmp_ne (tgt := 234) X.1 r132 r134 dL_arePages_227 (by decide) (fun hc => ?_) (fun hc => ?_)
                · skip
                  refine sa_const X.1 dL_arePages_234 ?_
                  exact J137 (0) (if_pos (c := ¬ x131 = (M130 116 0 y16)) hc).symm
                · skip
                  refine sa_const X.1 dL_arePages_230 ?_
                  refine lv_goto (tgt := 235) X.1.1 X.1.2.1 dL_arePages_231 (by decide) ?_
                  exact J137 (1) (if_neg (c := ¬ x131 = (M130 116 0 y16)) (fun z => z hc)).symm
              intro v136 hv136
              subst hv136
              refine lv_istore (lv' := [(13, .int (Int32.ofInt (if ¬ x131 = (M130 116 0 y16) then (0 : Int) else 1))), (0, .ref (α 10 0)), (1, .ref (α 104 0)), (2, .ref (α 105 0)), (3, .ref (α 106 0)), (4, .ref (α 107 0)), (5, .ref (α 108 0)), (6, .ref (α 109 0)), (7, .ref (α 112 0)), (8, .ref (α 113 0)), (9, .int (Int32.ofInt p9)), (10, .ref (α 114 0)), (11, .ref (α 115 0)), (12, .ref (α 116 0)), (14, .int (Int32.ofInt y14)), (16, .int (Int32.ofInt y16)), (17, .int (Int32.ofInt y17))]) X.1.1 X.1.2.1 dL_arePages_235 hl (by decide) rfl (fun ls hl => ?_)
              have c138 := hw.1
              have hw := hw.2
              refine lv_iinc (v := Int32.ofInt (y17 + 1)) (lv' := [(17, .int (Int32.ofInt (y17 + 1))), (13, .int (Int32.ofInt (if ¬ x131 = (M130 116 0 y16) then (0 : Int) else 1))), (0, .ref (α 10 0)), (1, .ref (α 104 0)), (2, .ref (α 105 0)), (3, .ref (α 106 0)), (4, .ref (α 107 0)), (5, .ref (α 108 0)), (6, .ref (α 109 0)), (7, .ref (α 112 0)), (8, .ref (α 113 0)), (9, .int (Int32.ofInt p9)), (10, .ref (α 114 0)), (11, .ref (α 115 0)), (12, .ref (α 116 0)), (14, .int (Int32.ofInt y14)), (16, .int (Int32.ofInt y16))]) X.1.1 X.1.2.1 dL_arePages_237 hl (k := 16) rfl (Int32.ofInt_add _ _).symm (by decide) rfl (fun ls hl => ?_)
              refine lv_goto (tgt := 167) X.1.1 X.1.2.1 dL_arePages_240 (by decide) ?_
              exact ih _ _ _ _ _ hw r135 hy14 hy16 c138 _ _ (by omega) (by omega) _ _ hR hS _ (lv_sub hl [2, 3, 4, 5, 6, 7, 8, 9, 10, 11, 12, 13, 14, 1, 15, 16, 0] rfl)
set_option maxHeartbeats 4000000 in
set_option maxRecDepth 100000 in
theorem t_L_arePages_143 {α0 : Ax} {κ0 : Nat → Int} {p9 : Int} (X : CX p m c cL_arePages 22 s args RL G B κ meth (some .boolean)) (N : NcA s) (hlt : l.stackTraces = false) (hb : Bk G e0 α κ α0 κ0 B) (hp9 : inR p9) (ho114 : okk κ 114 0) (ho115 : okk κ 115 0) (ho116 : okk κ 116 0) {Qm : Int → Mem → Prop} : ∀ n : Nat, ∀ y13 : Int, ∀ y14 : Int, ∀ y16 : Int, ∀ M : Mem, wp_L_arePages_143 κ p9 Qm n y13 y14 y16 M → inR y13 → inR y14 → inR y16 → ∀ cl sl : Nat, cl + 0 ≤ 4 → sl + 0 ≤ 89 → ∀ (H : Heap) (locs : List Loc), Rp G e0 α κ B M H → va_S (fun q => B ≤ q) s.heap H locs → ∀ (ls : Array Slot), lv_has ls 22 [(0, .ref (α 10 0)), (1, .ref (α 104 0)), (2, .ref (α 105 0)), (3, .ref (α 106 0)), (4, .ref (α 107 0)), (5, .ref (α 108 0)), (6, .ref (α 109 0)), (7, .ref (α 112 0)), (8, .ref (α 113 0)), (9, .int (Int32.ofInt p9)), (10, .ref (α 114 0)), (11, .ref (α 115 0)), (12, .ref (α 116 0)), (13, .int (Int32.ofInt y13)), (14, .int (Int32.ofInt y14)), (16, .int (Int32.ofInt y16))] → WU p l e 10 4 89 s m args below meth c G e0 α0 κ0 B Qm H locs cl sl 143 ls [] := by
  intro n
  induction n with
  | zero =>
    intro y13 y14 y16 M hw hy13 hy14 hy16 cl sl hc1 hc2 H locs hR hS ls hl
    exact hw.elim
  | succ n ih =>
    intro y13 y14 y16 M hw hy13 hy14 hy16 cl sl hc1 hc2 H locs hR hS ls hl
    have hw : (((M 112 0 1) ≤ y16 → wp_L_arePages_249 κ p9 Qm y13 y14 M) ∧ (y16 < (M 112 0 1) → ((y13 = 0 → wp_L_arePages_249 κ p9 Qm y13 y14 M) ∧ (¬ y13 = 0 → (((M 114 0 0) ≤ 0 → wp_L_arePages_249 κ p9 Qm y13 y14 M) ∧ (0 < (M 114 0 0) → (∃ n139 : Nat, wp_L_arePages_167 κ p9 Qm (wp_L_arePages_143 κ p9 Qm n) n139 y13 y14 y16 0 M))))))) := hw
    refine lv_iload X.1.1 X.1.2.1 dL_arePages_143 (lv_at hl 15 rfl) ?_
    refine lv_aload X.1.1 X.1.2.1 dL_arePages_145 (lv_at hl 7 rfl) ?_
    refine sa_const X.1 dL_arePages_147 ?_
    refine ra_112 X hR (okf X.2.2.1 rfl) ⟨by decide, by decide⟩ dL_arePages_148 ?_
    have r28 := hR.r 112 0 1
    refine sa_icmp_ge (tgt := 249) X.1 hy16 r28 dL_arePages_149 (by decide) (fun hc => ?_) (fun hc => ?_)
    · have hw := hw.1 hc
      exact t_L_arePages_249 X N hlt hb hp9 ho114 ho115 ho116 _ _ _ hw hy13 hy14 _ _ (by omega) (by omega) _ _ hR hS _ (lv_sub hl [0, 1, 2, 3, 4, 5, 6, 7, 8, 9, 10, 11, 12, 13, 14] rfl)
    · have hw := hw.2 hc
      refine lv_iload X.1.1 X.1.2.1 dL_arePages_152 (lv_at hl 13 rfl) ?_
      refine sa_if_eq (tgt := 249) X.1 hy13 dL_arePages_154 (by decide) (fun hc => ?_) (fun hc => ?_)
      · have hw := hw.1 hc
        exact t_L_arePages_249 X N hlt hb hp9 ho114 ho115 ho116 _ _ _ hw hy13 hy14 _ _ (by omega) (by omega) _ _ hR hS _ (lv_sub hl [0, 1, 2, 3, 4, 5, 6, 7, 8, 9, 10, 11, 12, 13, 14] rfl)
      · have hw := hw.2 hc
        refine lv_aload X.1.1 X.1.2.1 dL_arePages_157 (lv_at hl 10 rfl) ?_
        refine sa_const X.1 dL_arePages_159 ?_
        refine ra_114 X hR ho114 ⟨by decide, by decide⟩ dL_arePages_160 ?_
        have r116 := hR.r 114 0 0
        refine sa_if_le (tgt := 249) X.1 r116 dL_arePages_161 (by decide) (fun hc => ?_) (fun hc => ?_)
        · have hw := hw.1 hc
          exact t_L_arePages_249 X N hlt hb hp9 ho114 ho115 ho116 _ _ _ hw hy13 hy14 _ _ (by omega) (by omega) _ _ hR hS _ (lv_sub hl [0, 1, 2, 3, 4, 5, 6, 7, 8, 9, 10, 11, 12, 13, 14] rfl)
        · have hw := hw.2 hc
          refine sa_const X.1 dL_arePages_164 ?_
          refine lv_istore (lv' := [(17, .int (Int32.ofInt 0)), (0, .ref (α 10 0)), (1, .ref (α 104 0)), (2, .ref (α 105 0)), (3, .ref (α 106 0)), (4, .ref (α 107 0)), (5, .ref (α 108 0)), (6, .ref (α 109 0)), (7, .ref (α 112 0)), (8, .ref (α 113 0)), (9, .int (Int32.ofInt p9)), (10, .ref (α 114 0)), (11, .ref (α 115 0)), (12, .ref (α 116 0)), (13, .int (Int32.ofInt y13)), (14, .int (Int32.ofInt y14)), (16, .int (Int32.ofInt y16))]) X.1.1 X.1.2.1 dL_arePages_165 hl (by decide) rfl (fun ls hl => ?_)
          obtain ⟨n139, hw⟩ := hw
          exact t_L_arePages_167 X N hlt hb hp9 ho114 ho115 ho116 ih n139 _ _ _ _ _ hw hy13 hy14 hy16 (inR_c (a := 0) rfl) _ _ (by omega) (by omega) _ _ hR hS _ (lv_sub hl [1, 2, 3, 4, 5, 6, 7, 8, 9, 10, 11, 12, 13, 14, 15, 16, 0] rfl)
set_option maxHeartbeats 4000000 in
set_option maxRecDepth 100000 in
theorem t_L_arePages_137 {α0 : Ax} {κ0 : Nat → Int} {p9 : Int} (X : CX p m c cL_arePages 22 s args RL G B κ meth (some .boolean)) (N : NcA s) (hlt : l.stackTraces = false) (hb : Bk G e0 α κ α0 κ0 B) (hp9 : inR p9) (ho114 : okk κ 114 0) (ho115 : okk κ 115 0) (ho116 : okk κ 116 0) {Qm : Int → Mem → Prop} : ∀ y14 : Int, ∀ M : Mem, wp_L_arePages_137 κ p9 Qm y14 M → inR y14 → ∀ cl sl : Nat, cl + 0 ≤ 4 → sl + 0 ≤ 89 → ∀ (H : Heap) (locs : List Loc), Rp G e0 α κ B M H → va_S (fun q => B ≤ q) s.heap H locs → ∀ (ls : Array Slot), lv_has ls 22 [(0, .ref (α 10 0)), (1, .ref (α 104 0)), (2, .ref (α 105 0)), (3, .ref (α 106 0)), (4, .ref (α 107 0)), (5, .ref (α 108 0)), (6, .ref (α 109 0)), (7, .ref (α 112 0)), (8, .ref (α 113 0)), (9, .int (Int32.ofInt p9)), (10, .ref (α 114 0)), (11, .ref (α 115 0)), (12, .ref (α 116 0)), (14, .int (Int32.ofInt y14))] → WU p l e 10 4 89 s m args below meth c G e0 α0 κ0 B Qm H locs cl sl 137 ls [] := by
  intro y14 M hw hy14 cl sl hc1 hc2 H locs hR hS ls hl
  have hw : (∃ n140 : Nat, wp_L_arePages_143 κ p9 Qm n140 0 y14 0 M) := hw
  refine sa_const X.1 dL_arePages_137 ?_
  refine lv_istore (lv' := [(13, .int (Int32.ofInt 0)), (0, .ref (α 10 0)), (1, .ref (α 104 0)), (2, .ref (α 105 0)), (3, .ref (α 106 0)), (4, .ref (α 107 0)), (5, .ref (α 108 0)), (6, .ref (α 109 0)), (7, .ref (α 112 0)), (8, .ref (α 113 0)), (9, .int (Int32.ofInt p9)), (10, .ref (α 114 0)), (11, .ref (α 115 0)), (12, .ref (α 116 0)), (14, .int (Int32.ofInt y14))]) X.1.1 X.1.2.1 dL_arePages_138 hl (by decide) rfl (fun ls hl => ?_)
  refine sa_const X.1 dL_arePages_140 ?_
  refine lv_istore (lv' := [(16, .int (Int32.ofInt 0)), (13, .int (Int32.ofInt 0)), (0, .ref (α 10 0)), (1, .ref (α 104 0)), (2, .ref (α 105 0)), (3, .ref (α 106 0)), (4, .ref (α 107 0)), (5, .ref (α 108 0)), (6, .ref (α 109 0)), (7, .ref (α 112 0)), (8, .ref (α 113 0)), (9, .int (Int32.ofInt p9)), (10, .ref (α 114 0)), (11, .ref (α 115 0)), (12, .ref (α 116 0)), (14, .int (Int32.ofInt y14))]) X.1.1 X.1.2.1 dL_arePages_141 hl (by decide) rfl (fun ls hl => ?_)
  obtain ⟨n140, hw⟩ := hw
  exact t_L_arePages_143 X N hlt hb hp9 ho114 ho115 ho116 n140 _ _ _ _ hw (inR_c (a := 0) rfl) hy14 (inR_c (a := 0) rfl) _ _ (by omega) (by omega) _ _ hR hS _ (lv_sub hl [2, 3, 4, 5, 6, 7, 8, 9, 10, 11, 12, 13, 14, 1, 15, 0] rfl)
set_option maxHeartbeats 4000000 in
set_option maxRecDepth 100000 in
theorem t_L_arePages_108 {α0 : Ax} {κ0 : Nat → Int} {p9 : Int} (X : CX p m c cL_arePages 22 s args RL G B κ meth (some .boolean)) (N : NcA s) (hlt : l.stackTraces = false) (hb : Bk G e0 α κ α0 κ0 B) (hp9 : inR p9) (ho114 : okk κ 114 0) (ho115 : okk κ 115 0) (ho116 : okk κ 116 0) {Qm : Int → Mem → Prop} {K69 : Int → Int → Int → Int → Mem → Prop} (hK69 : ∀ y13 : Int, ∀ y14 : Int, ∀ y15 : Int, ∀ y16 : Int, ∀ M : Mem, K69 y13 y14 y15 y16 M → inR y13 → inR y14 → inR y15 → inR y16 → ∀ cl sl : Nat, cl + 0 ≤ 4 → sl + 0 ≤ 89 → ∀ (H : Heap) (locs : List Loc), Rp G e0 α κ B M H → va_S (fun q => B ≤ q) s.heap H locs → ∀ (ls : Array Slot), lv_has ls 22 [(0, .ref (α 10 0)), (1, .ref (α 104 0)), (2, .ref (α 105 0)), (3, .ref (α 106 0)), (4, .ref (α 107 0)), (5, .ref (α 108 0)), (6, .ref (α 109 0)), (7, .ref (α 112 0)), (8, .ref (α 113 0)), (9, .int (Int32.ofInt p9)), (10, .ref (α 114 0)), (11, .ref (α 115 0)), (12, .ref (α 116 0)), (13, .int (Int32.ofInt y13)), (14, .int (Int32.ofInt y14)), (15, .int (Int32.ofInt y15)), (16, .int (Int32.ofInt y16))] → WU p l e 10 4 89 s m args below meth c G e0 α0 κ0 B Qm H locs cl sl 69 ls []) : ∀ y13 : Int, ∀ y14 : Int, ∀ y16 : Int, ∀ z0 : Int, ∀ z1 : Int, ∀ M : Mem, wp_L_arePages_108 κ p9 Qm K69 y13 y14 y16 z0 z1 M → inR y13 → inR y14 → inR y16 → inR z0 → inR z1 → ∀ cl sl : Nat, cl + 0 ≤ 4 → sl + 0 ≤ 89 → ∀ (H : Heap) (locs : List Loc), Rp G e0 α κ B M H → va_S (fun q => B ≤ q) s.heap H locs → ∀ (ls : Array Slot), lv_has ls 22 [(0, .ref (α 10 0)), (1, .ref (α 104 0)), (2, .ref (α 105 0)), (3, .ref (α 106 0)), (4, .ref (α 107 0)), (5, .ref (α 108 0)), (6, .ref (α 109 0)), (7, .ref (α 112 0)), (8, .ref (α 113 0)), (9, .int (Int32.ofInt p9)), (10, .ref (α 114 0)), (11, .ref (α 115 0)), (12, .ref (α 116 0)), (13, .int (Int32.ofInt y13)), (14, .int (Int32.ofInt y14)), (16, .int (Int32.ofInt y16))] → WU p l e 10 4 89 s m args below meth c G e0 α0 κ0 B Qm H locs cl sl 108 ls [.int (Int32.ofInt z0), .int (Int32.ofInt z1)] := by
  intro y13 y14 y16 z0 z1 M hw hy13 hy14 hy16 hz0 hz1 cl sl hc1 hc2 H locs hR hS ls hl
  have hw : (inR (z1 + z0)) ∧ (inR (y16 + 1)) ∧ K69 y13 y14 (z1 + z0) (y16 + 1) M := hw
  have c151 := hw.1
  have hw := hw.2
  refine sa_iadd X.1 dL_arePages_108 ?_
  refine lv_istore (lv' := [(15, .int (Int32.ofInt (z1 + z0))), (0, .ref (α 10 0)), (1, .ref (α 104 0)), (2, .ref (α 105 0)), (3, .ref (α 106 0)), (4, .ref (α 107 0)), (5, .ref (α 108 0)), (6, .ref (α 109 0)), (7, .ref (α 112 0)), (8, .ref (α 113 0)), (9, .int (Int32.ofInt p9)), (10, .ref (α 114 0)), (11, .ref (α 115 0)), (12, .ref (α 116 0)), (13, .int (Int32.ofInt y13)), (14, .int (Int32.ofInt y14)), (16, .int (Int32.ofInt y16))]) X.1.1 X.1.2.1 dL_arePages_109 hl (by decide) rfl (fun ls hl => ?_)
  have c152 := hw.1
  have hw := hw.2
  refine lv_iinc (v := Int32.ofInt (y16 + 1)) (lv' := [(16, .int (Int32.ofInt (y16 + 1))), (15, .int (Int32.ofInt (z1 + z0))), (0, .ref (α 10 0)), (1, .ref (α 104 0)), (2, .ref (α 105 0)), (3, .ref (α 106 0)), (4, .ref (α 107 0)), (5, .ref (α 108 0)), (6, .ref (α 109 0)), (7, .ref (α 112 0)), (8, .ref (α 113 0)), (9, .int (Int32.ofInt p9)), (10, .ref (α 114 0)), (11, .ref (α 115 0)), (12, .ref (α 116 0)), (13, .int (Int32.ofInt y13)), (14, .int (Int32.ofInt y14))]) X.1.1 X.1.2.1 dL_arePages_111 hl (k := 16) rfl (Int32.ofInt_add _ _).symm (by decide) rfl (fun ls hl => ?_)
  refine lv_goto (tgt := 69) X.1.1 X.1.2.1 dL_arePages_114 (by decide) ?_
  exact hK69 _ _ _ _ _ hw hy13 hy14 c151 c152 _ _ (by omega) (by omega) _ _ hR hS _ (lv_sub hl [2, 3, 4, 5, 6, 7, 8, 9, 10, 11, 12, 13, 14, 15, 16, 1, 0] rfl)
set_option maxHeartbeats 4000000 in
set_option maxRecDepth 100000 in
theorem t_L_arePages_69 {α0 : Ax} {κ0 : Nat → Int} {p9 : Int} (X : CX p m c cL_arePages 22 s args RL G B κ meth (some .boolean)) (N : NcA s) (hlt : l.stackTraces = false) (hb : Bk G e0 α κ α0 κ0 B) (hp9 : inR p9) (ho114 : okk κ 114 0) (ho115 : okk κ 115 0) (ho116 : okk κ 116 0) {Qm : Int → Mem → Prop} : ∀ n : Nat, ∀ y13 : Int, ∀ y14 : Int, ∀ y15 : Int, ∀ y16 : Int, ∀ M : Mem, wp_L_arePages_69 κ p9 Qm n y13 y14 y15 y16 M → inR y13 → inR y14 → inR y15 → inR y16 → ∀ cl sl : Nat, cl + 0 ≤ 4 → sl + 0 ≤ 89 → ∀ (H : Heap) (locs : List Loc), Rp G e0 α κ B M H → va_S (fun q => B ≤ q) s.heap H locs → ∀ (ls : Array Slot), lv_has ls 22 [(0, .ref (α 10 0)), (1, .ref (α 104 0)), (2, .ref (α 105 0)), (3, .ref (α 106 0)), (4, .ref (α 107 0)), (5, .ref (α 108 0)), (6, .ref (α 109 0)), (7, .ref (α 112 0)), (8, .ref (α 113 0)), (9, .int (Int32.ofInt p9)), (10, .ref (α 114 0)), (11, .ref (α 115 0)), (12, .ref (α 116 0)), (13, .int (Int32.ofInt y13)), (14, .int (Int32.ofInt y14)), (15, .int (Int32.ofInt y15)), (16, .int (Int32.ofInt y16))] → WU p l e 10 4 89 s m args below meth c G e0 α0 κ0 B Qm H locs cl sl 69 ls [] := by
  intro n
  induction n with
  | zero =>
    intro y13 y14 y15 y16 M hw hy13 hy14 hy15 hy16 cl sl hc1 hc2 H locs hR hS ls hl
    exact hw.elim
  | succ n ih =>
    intro y13 y14 y15 y16 M hw hy13 hy14 hy15 hy16 cl sl hc1 hc2 H locs hR hS ls hl
    have hw : (((M 112 0 1) ≤ y16 → ((y13 = 0 → wp_L_arePages_137 κ p9 Qm y14 M) ∧ (¬ y13 = 0 → wo_X9_total y14 M fun (x142 : Int) (M141 : Mem) => (∃ n147 : Nat, wp_L_arePages_143 κ p9 Qm n147 (if ¬ x142 = y15 then (0 : Int) else 1) y14 0 M141)))) ∧ (y16 < (M 112 0 1) → (inR (3 * y16)) ∧ (0 ≤ (3 * y16) ∧ (3 * y16) < 30) ∧ ((¬ (M 105 0 (3 * y16)) = 1 → wp_L_arePages_108 κ p9 Qm (wp_L_arePages_69 κ p9 Qm n) y13 y14 y16 0 y15 M) ∧ ((M 105 0 (3 * y16)) = 1 → wp_L_figure y16 y14 M fun (x154 : Int) (M153 : Mem) => wp_L_arePages_108 κ p9 Qm (wp_L_arePages_69 κ p9 Qm n) y13 y14 y16 x154 y15 M153)))) := hw
    refine lv_iload X.1.1 X.1.2.1 dL_arePages_69 (lv_at hl 16 rfl) ?_
    refine lv_aload X.1.1 X.1.2.1 dL_arePages_71 (lv_at hl 7 rfl) ?_
    refine sa_const X.1 dL_arePages_73 ?_
    refine ra_112 X hR (okf X.2.2.1 rfl) ⟨by decide, by decide⟩ dL_arePages_74 ?_
    have r27 := hR.r 112 0 1
    refine sa_icmp_ge (tgt := 117) X.1 hy16 r27 dL_arePages_75 (by decide) (fun hc => ?_) (fun hc => ?_)
    · have hw := hw.1 hc
      refine lv_iload X.1.1 X.1.2.1 dL_arePages_117 (lv_at hl 13 rfl) ?_
      refine sa_if_eq (tgt := 137) X.1 hy13 dL_arePages_119 (by decide) (fun hc => ?_) (fun hc => ?_)
      · have hw := hw.1 hc
        exact t_L_arePages_137 X N hlt hb hp9 ho114 ho115 ho116 _ _ hw hy14 _ _ (by omega) (by omega) _ _ hR hS _ (lv_sub hl [0, 1, 2, 3, 4, 5, 6, 7, 8, 9, 10, 11, 12, 14] rfl)
      · have hw := hw.2 hc
        refine lv_aload_n X.1.1 X.1.2.1 dL_arePages_122 rfl (lv_at hl 0 rfl) ?_
        refine lv_iload X.1.1 X.1.2.1 dL_arePages_123 (lv_at hl 14 rfl) ?_
        refine co_X9_total X hy14 (kc := 10) rmX_ok ⟨by show _ ≤ 4; omega, by show _ ≤ 89; omega⟩ (by decide) hR hS kw_1351 hl.1 dL_arePages_125 (Nat.le_of_ble_eq_true rfl) hw (fun x142 M141 H locs hw r143 hR hS => ?_)
        refine lv_iload X.1.1 X.1.2.1 dL_arePages_128 (lv_at hl 15 rfl) ?_
        have r144 := inR_ite (c := ¬ x142 = y15) (inR_c (a := 0) rfl) (inR_c (a := 1) rfl)
        refine cut_j (A := ∀ v145 : Int, v145 = (if ¬ x142 = y15 then (0 : Int) else 1) → WU p l e 10 4 89 s m args below meth c G e0 α0 κ0 B Qm H locs cl sl 138 ls [.int (Int32.ofInt v145)]) (fun J146 => ?_) ?_
        · refine sa_icmp_ne (tgt := 137) X.1 r143 hy15 dL_arePages_130 (by decide) (fun hc => ?_) (fun hc => ?_)
          · skip
            refine sa_const X.1 dL_arePages_137 ?_
            exact J146 (0) (if_pos (c := ¬ x142 = y15) hc).symm
          · skip
            refine sa_const X.1 dL_arePages_133 ?_
            refine lv_goto (tgt := 138) X.1.1 X.1.2.1 dL_arePages_134 (by decide) ?_
            exact J146 (1) (if_neg (c := ¬ x142 = y15) (fun z => z hc)).symm
        intro v145 hv145
        subst hv145
        refine lv_istore (lv' := [(13, .int (Int32.ofInt (if ¬ x142 = y15 then (0 : Int) else 1))), (0, .ref (α 10 0)), (1, .ref (α 104 0)), (2, .ref (α 105 0)), (3, .ref (α 106 0)), (4, .ref (α 107 0)), (5, .ref (α 108 0)), (6, .ref (α 109 0)), (7, .ref (α 112 0)), (8, .ref (α 113 0)), (9, .int (Int32.ofInt p9)), (10, .ref (α 114 0)), (11, .ref (α 115 0)), (12, .ref (α 116 0)), (14, .int (Int32.ofInt y14)), (15, .int (Int32.ofInt y15)), (16, .int (Int32.ofInt y16))]) X.1.1 X.1.2.1 dL_arePages_138 hl (by decide) rfl (fun ls hl => ?_)
        refine sa_const X.1 dL_arePages_140 ?_
        refine lv_istore (lv' := [(16, .int (Int32.ofInt 0)), (13, .int (Int32.ofInt (if ¬ x142 = y15 then (0 : Int) else 1))), (0, .ref (α 10 0)), (1, .ref (α 104 0)), (2, .ref (α 105 0)), (3, .ref (α 106 0)), (4, .ref (α 107 0)), (5, .ref (α 108 0)), (6, .ref (α 109 0)), (7, .ref (α 112 0)), (8, .ref (α 113 0)), (9, .int (Int32.ofInt p9)), (10, .ref (α 114 0)), (11, .ref (α 115 0)), (12, .ref (α 116 0)), (14, .int (Int32.ofInt y14)), (15, .int (Int32.ofInt y15))]) X.1.1 X.1.2.1 dL_arePages_141 hl (by decide) rfl (fun ls hl => ?_)
        obtain ⟨n147, hw⟩ := hw
        exact t_L_arePages_143 X N hlt hb hp9 ho114 ho115 ho116 n147 _ _ _ _ hw r144 hy14 (inR_c (a := 0) rfl) _ _ (by omega) (by omega) _ _ hR hS _ (lv_sub hl [2, 3, 4, 5, 6, 7, 8, 9, 10, 11, 12, 13, 14, 1, 15, 0] rfl)
    · have hw := hw.2 hc
      refine lv_iload X.1.1 X.1.2.1 dL_arePages_78 (lv_at hl 15 rfl) ?_
      refine lv_aload_n X.1.1 X.1.2.1 dL_arePages_80 rfl (lv_at hl 2 rfl) ?_
      refine sa_const X.1 dL_arePages_81 ?_
      refine lv_iload X.1.1 X.1.2.1 dL_arePages_82 (lv_at hl 16 rfl) ?_
      have c148 := hw.1
      have hw := hw.2
      refine sa_imul X.1 dL_arePages_84 ?_
      have c149 := hw.1
      have hw := hw.2
      refine ra_105 X hR (okf X.2.2.1 rfl) c149 dL_arePages_85 ?_
      have r150 := hR.r 105 0 (3 * y16)
      refine sa_const X.1 dL_arePages_86 ?_
      refine sa_icmp_ne (tgt := 107) X.1 r150 (inR_c (a := 1) rfl) dL_arePages_87 (by decide) (fun hc => ?_) (fun hc => ?_)
      · have hw := hw.1 hc
        refine sa_const X.1 dL_arePages_107 ?_
        exact t_L_arePages_108 X N hlt hb hp9 ho114 ho115 ho116 ih _ _ _ _ _ _ hw hy13 hy14 hy16 (inR_c (a := 0) rfl) hy15 _ _ (by omega) (by omega) _ _ hR hS _ (lv_sub hl [0, 1, 2, 3, 4, 5, 6, 7, 8, 9, 10, 11, 12, 13, 14, 16] rfl)
      · have hw := hw.2 hc
        refine lv_aload_n X.1.1 X.1.2.1 dL_arePages_90 rfl (lv_at hl 1 rfl) ?_
        refine lv_aload X.1.1 X.1.2.1 dL_arePages_91 (lv_at hl 4 rfl) ?_
        refine lv_aload X.1.1 X.1.2.1 dL_arePages_93 (lv_at hl 6 rfl) ?_
        refine lv_aload X.1.1 X.1.2.1 dL_arePages_95 (lv_at hl 7 rfl) ?_
        refine lv_iload X.1.1 X.1.2.1 dL_arePages_97 (lv_at hl 16 rfl) ?_
        refine lv_iload X.1.1 X.1.2.1 dL_arePages_99 (lv_at hl 14 rfl) ?_
        refine cs_L_figure X hy16 hy14 (kc := 10) rmX_ok ⟨by show _ ≤ 4; omega, by show _ ≤ 89; omega⟩ (by decide) hR hS kw_1348 hl.1 dL_arePages_101 (Nat.le_of_ble_eq_true rfl) hw (fun x154 M153 H locs hw r155 hR hS => ?_)
        refine lv_goto (tgt := 108) X.1.1 X.1.2.1 dL_arePages_104 (by decide) ?_
        exact t_L_arePages_108 X N hlt hb hp9 ho114 ho115 ho116 ih _ _ _ _ _ _ hw hy13 hy14 hy16 r155 hy15 _ _ (by omega) (by omega) _ _ hR hS _ (lv_sub hl [0, 1, 2, 3, 4, 5, 6, 7, 8, 9, 10, 11, 12, 13, 14, 16] rfl)
set_option maxHeartbeats 4000000 in
set_option maxRecDepth 100000 in
theorem t_L_arePages_18 {α0 : Ax} {κ0 : Nat → Int} {p9 : Int} (X : CX p m c cL_arePages 22 s args RL G B κ meth (some .boolean)) (N : NcA s) (hlt : l.stackTraces = false) (hb : Bk G e0 α κ α0 κ0 B) (hp9 : inR p9) (ho114 : okk κ 114 0) (ho115 : okk κ 115 0) (ho116 : okk κ 116 0) {Qm : Int → Mem → Prop} : ∀ M : Mem, wp_L_arePages_18 κ p9 Qm M → ∀ cl sl : Nat, cl + 1 ≤ 4 → sl + 6 ≤ 89 → ∀ (H : Heap) (locs : List Loc), Rp G e0 α κ B M H → va_S (fun q => B ≤ q) s.heap H locs → ∀ (ls : Array Slot), lv_has ls 22 [(0, .ref (α 10 0)), (1, .ref (α 104 0)), (2, .ref (α 105 0)), (3, .ref (α 106 0)), (4, .ref (α 107 0)), (5, .ref (α 108 0)), (6, .ref (α 109 0)), (7, .ref (α 112 0)), (8, .ref (α 113 0)), (9, .int (Int32.ofInt p9)), (10, .ref (α 114 0)), (11, .ref (α 115 0)), (12, .ref (α 116 0))] → WU p l e 10 4 89 s m args below meth c G e0 α0 κ0 B Qm H locs cl sl 18 ls [] := by
  intro M hw cl sl hc1 hc2 H locs hR hS ls hl
  have hw : wp_L_walk M fun (M16 : Mem) => wp_L_pages M16 fun (x17 : Int) (M19 : Mem) => (0 < (M19 112 0 0)) ∧ (∃ n156 : Nat, wp_L_arePages_69 κ p9 Qm n156 (if ¬ x17 = (M19 114 0 0) then (0 : Int) else 1) (Int.tmod p9 (M19 112 0 0)) 0 0 M19) := hw
  refine lv_aload_n X.1.1 X.1.2.1 dL_arePages_18 rfl (lv_at hl 1 rfl) ?_
  refine lv_aload_n X.1.1 X.1.2.1 dL_arePages_19 rfl (lv_at hl 2 rfl) ?_
  refine lv_aload_n X.1.1 X.1.2.1 dL_arePages_20 rfl (lv_at hl 3 rfl) ?_
  refine lv_aload X.1.1 X.1.2.1 dL_arePages_21 (lv_at hl 4 rfl) ?_
  refine lv_aload X.1.1 X.1.2.1 dL_arePages_23 (lv_at hl 7 rfl) ?_
  refine lv_aload X.1.1 X.1.2.1 dL_arePages_25 (lv_at hl 8 rfl) ?_
  refine lv_aload X.1.1 X.1.2.1 dL_arePages_27 (lv_at hl 10 rfl) ?_
  refine lv_aload X.1.1 X.1.2.1 dL_arePages_29 (lv_at hl 11 rfl) ?_
  refine lv_aload X.1.1 X.1.2.1 dL_arePages_31 (lv_at hl 12 rfl) ?_
  refine cs_L_walk X ho114 ho115 ho116 (kc := 10) rmX_ok ⟨by show _ ≤ 4; omega, by show _ ≤ 89; omega⟩ (by decide) hR hS kw_1327 hl.1 dL_arePages_33 (Nat.le_of_ble_eq_true rfl) hw (fun M16 H locs hw hR hS => ?_)
  refine lv_aload_n X.1.1 X.1.2.1 dL_arePages_36 rfl (lv_at hl 0 rfl) ?_
  refine sc_call 9 (n := 1) (As := [.ref (α 10 0)]) (rest := []) X N hR hS (w_L_pages hlt X.2.2.1 hw) kw_1336 kw_1337 kw_37 kw_1338 ⟨by decide +kernel, by decide +kernel, by decide +kernel⟩ (rm_ok rmX_ok (by decide) (by decide)) rfl rfl (Nat.le_of_ble_eq_true rfl) hl.1 dL_arePages_37 ⟨by show _ ≤ 4; omega, by show _ ≤ 89; omega⟩ (fun x17 M19 H locs hw r18 hR hS => ?_)
  refine lv_aload X.1.1 X.1.2.1 dL_arePages_40 (lv_at hl 10 rfl) ?_
  refine sa_const X.1 dL_arePages_42 ?_
  refine ra_114 X hR ho114 ⟨by decide, by decide⟩ dL_arePages_43 ?_
  have r20 := hR.r 114 0 0
  have r21 := inR_ite (c := ¬ x17 = (M19 114 0 0)) (inR_c (a := 0) rfl) (inR_c (a := 1) rfl)
  refine cut_j (A := ∀ v22 : Int, v22 = (if ¬ x17 = (M19 114 0 0) then (0 : Int) else 1) → WU p l e 10 4 89 s m args below meth c G e0 α0 κ0 B Qm H locs (cl + 1) (sl + 6) 52 ls [.int (Int32.ofInt v22)]) (fun J23 => ?_) ?_
  · refine sa_icmp_ne (tgt := 51) X.1 r18 r20 dL_arePages_44 (by decide) (fun hc => ?_) (fun hc => ?_)
    · skip
      refine sa_const X.1 dL_arePages_51 ?_
      exact J23 (0) (if_pos (c := ¬ x17 = (M19 114 0 0)) hc).symm
    · skip
      refine sa_const X.1 dL_arePages_47 ?_
      refine lv_goto (tgt := 52) X.1.1 X.1.2.1 dL_arePages_48 (by decide) ?_
      exact J23 (1) (if_neg (c := ¬ x17 = (M19 114 0 0)) (fun z => z hc)).symm
  intro v22 hv22
  subst hv22
  refine lv_istore (lv' := [(13, .int (Int32.ofInt (if ¬ x17 = (M19 114 0 0) then (0 : Int) else 1))), (0, .ref (α 10 0)), (1, .ref (α 104 0)), (2, .ref (α 105 0)), (3, .ref (α 106 0)), (4, .ref (α 107 0)), (5, .ref (α 108 0)), (6, .ref (α 109 0)), (7, .ref (α 112 0)), (8, .ref (α 113 0)), (9, .int (Int32.ofInt p9)), (10, .ref (α 114 0)), (11, .ref (α 115 0)), (12, .ref (α 116 0))]) X.1.1 X.1.2.1 dL_arePages_52 hl (by decide) rfl (fun ls hl => ?_)
  refine lv_iload X.1.1 X.1.2.1 dL_arePages_54 (lv_at hl 10 rfl) ?_
  refine lv_aload X.1.1 X.1.2.1 dL_arePages_56 (lv_at hl 8 rfl) ?_
  refine sa_const X.1 dL_arePages_58 ?_
  refine ra_112 X hR (okf X.2.2.1 rfl) ⟨by decide, by decide⟩ dL_arePages_59 ?_
  have r24 := hR.r 112 0 0
  have c25 := hw.1
  have hw := hw.2
  have r26 := inR_tmod hp9 r24 c25
  refine sa_irem X.1 hp9 r24 (Int.ne_of_gt c25) dL_arePages_60 ?_
  refine lv_istore (lv' := [(14, .int (Int32.ofInt (Int.tmod p9 (M19 112 0 0)))), (13, .int (Int32.ofInt (if ¬ x17 = (M19 114 0 0) then (0 : Int) else 1))), (0, .ref (α 10 0)), (1, .ref (α 104 0)), (2, .ref (α 105 0)), (3, .ref (α 106 0)), (4, .ref (α 107 0)), (5, .ref (α 108 0)), (6, .ref (α 109 0)), (7, .ref (α 112 0)), (8, .ref (α 113 0)), (9, .int (Int32.ofInt p9)), (10, .ref (α 114 0)), (11, .ref (α 115 0)), (12, .ref (α 116 0))]) X.1.1 X.1.2.1 dL_arePages_61 hl (by decide) rfl (fun ls hl => ?_)
  refine sa_const X.1 dL_arePages_63 ?_
  refine lv_istore (lv' := [(15, .int (Int32.ofInt 0)), (14, .int (Int32.ofInt (Int.tmod p9 (M19 112 0 0)))), (13, .int (Int32.ofInt (if ¬ x17 = (M19 114 0 0) then (0 : Int) else 1))), (0, .ref (α 10 0)), (1, .ref (α 104 0)), (2, .ref (α 105 0)), (3, .ref (α 106 0)), (4, .ref (α 107 0)), (5, .ref (α 108 0)), (6, .ref (α 109 0)), (7, .ref (α 112 0)), (8, .ref (α 113 0)), (9, .int (Int32.ofInt p9)), (10, .ref (α 114 0)), (11, .ref (α 115 0)), (12, .ref (α 116 0))]) X.1.1 X.1.2.1 dL_arePages_64 hl (by decide) rfl (fun ls hl => ?_)
  refine sa_const X.1 dL_arePages_66 ?_
  refine lv_istore (lv' := [(16, .int (Int32.ofInt 0)), (15, .int (Int32.ofInt 0)), (14, .int (Int32.ofInt (Int.tmod p9 (M19 112 0 0)))), (13, .int (Int32.ofInt (if ¬ x17 = (M19 114 0 0) then (0 : Int) else 1))), (0, .ref (α 10 0)), (1, .ref (α 104 0)), (2, .ref (α 105 0)), (3, .ref (α 106 0)), (4, .ref (α 107 0)), (5, .ref (α 108 0)), (6, .ref (α 109 0)), (7, .ref (α 112 0)), (8, .ref (α 113 0)), (9, .int (Int32.ofInt p9)), (10, .ref (α 114 0)), (11, .ref (α 115 0)), (12, .ref (α 116 0))]) X.1.1 X.1.2.1 dL_arePages_67 hl (by decide) rfl (fun ls hl => ?_)
  obtain ⟨n156, hw⟩ := hw
  exact t_L_arePages_69 X N hlt hb hp9 ho114 ho115 ho116 n156 _ _ _ _ _ hw r21 r26 (inR_c (a := 0) rfl) (inR_c (a := 0) rfl) _ _ (by omega) (by omega) _ _ hR hS _ (lv_sub hl [4, 5, 6, 7, 8, 9, 10, 11, 12, 13, 14, 15, 16, 3, 2, 1, 0] rfl)
set_option maxHeartbeats 4000000 in
set_option maxRecDepth 100000 in
theorem t_L_arePages {α0 : Ax} {κ0 : Nat → Int} {p9 : Int} (X : CX p m c cL_arePages 22 s args RL G B κ meth (some .boolean)) (N : NcA s) (hlt : l.stackTraces = false) (hb : Bk G e0 α κ α0 κ0 B) (hp9 : inR p9) {M : Mem} {Qm : Int → Mem → Prop} (hw : wp_L_arePages κ p9 M Qm) (cl sl : Nat) (hc1 : cl + 4 ≤ 4) (hc2 : sl + 89 ≤ 89) (H : Heap) (locs : List Loc) (hR : Rp G e0 α κ B M H) (hS : va_S (fun q => B ≤ q) s.heap H locs) (ls : Array Slot) (hl : lv_has ls 22 [(0, .ref (α 10 0)), (1, .ref (α 104 0)), (2, .ref (α 105 0)), (3, .ref (α 106 0)), (4, .ref (α 107 0)), (5, .ref (α 108 0)), (6, .ref (α 109 0)), (7, .ref (α 112 0)), (8, .ref (α 113 0)), (9, .int (Int32.ofInt p9))]) : WU p l e 10 4 89 s m args below meth c G e0 α0 κ0 B Qm H locs cl sl 0 ls [] := by
  have hw : (κ 114 = 0) ∧ ∀ M4 : Mem, M4 = zM M 114 → ((kup [114] κ) 115 = 0) ∧ ∀ M9 : Mem, M9 = zM M4 115 → ((kup [115] (kup [114] κ)) 116 = 0) ∧ ∀ M14 : Mem, M14 = zM M9 116 → wp_L_arePages_18 (kup [116] (kup [115] (kup [114] κ))) p9 Qm M14 := hw
  refine sa_bipush X.1 dL_arePages_0 (by decide) ?_
  have c3 := hw.1
  have hw := hw.2
  refine nw_arr (s0 := 114) (N := 13) (by decide) rfl rfl kw_184 c3 X hR hS dL_arePages_2 (by show _ ≤ 4; omega) (by show _ ≤ 89; omega) (fun q2 H hk hR hS => ?_)
  obtain ⟨α1, eα1⟩ : ∃ z : Ax, z = upA α 114 0 q2 := ⟨_, rfl⟩
  rw [← eα1] at hR
  have hA : ∀ t : Nat, t ≠ 114 → α1 t 0 = α t 0 := fun t ht => by rw [eα1, upA_s _ _ _ ht]
  have hq2 : q2 = α1 114 0 := by rw [eα1, upA_eq]
  rw [← hA 10 (by decide), ← hA 104 (by decide), ← hA 105 (by decide), ← hA 106 (by decide), ← hA 107 (by decide), ← hA 108 (by decide), ← hA 109 (by decide), ← hA 112 (by decide), ← hA 113 (by decide)] at hl
  rw [hq2]
  have hb : Bk G e0 α1 (kup [114] κ) α0 κ0 B := fun M H h => hb M H (Rp.drop (by decide) c3 (by rw [← eα1]; exact h))
  have X := X.re hk
  have ho114 : okk (kup [114] κ) 114 0 := ⟨by decide, kup_pos c3⟩
  obtain ⟨M4, e5⟩ : ∃ z : Mem, z = zM M 114 := ⟨_, rfl⟩
  rw [← e5] at hR
  have hw := hw M4 e5
  refine lv_astore (lv' := [(10, .ref (α1 114 0)), (0, .ref (α1 10 0)), (1, .ref (α1 104 0)), (2, .ref (α1 105 0)), (3, .ref (α1 106 0)), (4, .ref (α1 107 0)), (5, .ref (α1 108 0)), (6, .ref (α1 109 0)), (7, .ref (α1 112 0)), (8, .ref (α1 113 0)), (9, .int (Int32.ofInt p9))]) X.1.1 X.1.2.1 dL_arePages_4 hl (by decide) rfl (fun ls hl => ?_)
  refine sa_bipush X.1 dL_arePages_6 (by decide) ?_
  have c8 := hw.1
  have hw := hw.2
  refine nw_arr (s0 := 115) (N := 60) (by decide) rfl rfl kw_184 c8 X hR hS dL_arePages_8 (by show _ ≤ 4; omega) (by show _ ≤ 89; omega) (fun q7 H hk hR hS => ?_)
  obtain ⟨α6, eα6⟩ : ∃ z : Ax, z = upA α1 115 0 q7 := ⟨_, rfl⟩
  rw [← eα6] at hR
  have hA : ∀ t : Nat, t ≠ 115 → α6 t 0 = α1 t 0 := fun t ht => by rw [eα6, upA_s _ _ _ ht]
  have hq7 : q7 = α6 115 0 := by rw [eα6, upA_eq]
  rw [← hA 10 (by decide), ← hA 104 (by decide), ← hA 105 (by decide), ← hA 106 (by decide), ← hA 107 (by decide), ← hA 108 (by decide), ← hA 109 (by decide), ← hA 112 (by decide), ← hA 113 (by decide), ← hA 114 (by decide)] at hl
  rw [hq7]
  have hb : Bk G e0 α6 (kup [115] (kup [114] κ)) α0 κ0 B := fun M H h => hb M H (Rp.drop (by decide) c8 (by rw [← eα6]; exact h))
  have X := X.re hk
  have ho115 : okk (kup [115] (kup [114] κ)) 115 0 := ⟨by decide, kup_pos c8⟩
  have ho114 : okk (kup [115] (kup [114] κ)) 114 0 := ⟨ho114.1, Int.lt_of_lt_of_le ho114.2 (kup_le _ _ _)⟩
  obtain ⟨M9, e10⟩ : ∃ z : Mem, z = zM M4 115 := ⟨_, rfl⟩
  rw [← e10] at hR
  have hw := hw M9 e10
  refine lv_astore (lv' := [(11, .ref (α6 115 0)), (10, .ref (α6 114 0)), (0, .ref (α6 10 0)), (1, .ref (α6 104 0)), (2, .ref (α6 105 0)), (3, .ref (α6 106 0)), (4, .ref (α6 107 0)), (5, .ref (α6 108 0)), (6, .ref (α6 109 0)), (7, .ref (α6 112 0)), (8, .ref (α6 113 0)), (9, .int (Int32.ofInt p9))]) X.1.1 X.1.2.1 dL_arePages_10 hl (by decide) rfl (fun ls hl => ?_)
  refine sa_bipush X.1 dL_arePages_12 (by decide) ?_
  have c13 := hw.1
  have hw := hw.2
  refine nw_arr (s0 := 116) (N := 10) (by decide) rfl rfl kw_184 c13 X hR hS dL_arePages_14 (by show _ ≤ 4; omega) (by show _ ≤ 89; omega) (fun q12 H hk hR hS => ?_)
  obtain ⟨α11, eα11⟩ : ∃ z : Ax, z = upA α6 116 0 q12 := ⟨_, rfl⟩
  rw [← eα11] at hR
  have hA : ∀ t : Nat, t ≠ 116 → α11 t 0 = α6 t 0 := fun t ht => by rw [eα11, upA_s _ _ _ ht]
  have hq12 : q12 = α11 116 0 := by rw [eα11, upA_eq]
  rw [← hA 10 (by decide), ← hA 104 (by decide), ← hA 105 (by decide), ← hA 106 (by decide), ← hA 107 (by decide), ← hA 108 (by decide), ← hA 109 (by decide), ← hA 112 (by decide), ← hA 113 (by decide), ← hA 114 (by decide), ← hA 115 (by decide)] at hl
  rw [hq12]
  have hb : Bk G e0 α11 (kup [116] (kup [115] (kup [114] κ))) α0 κ0 B := fun M H h => hb M H (Rp.drop (by decide) c13 (by rw [← eα11]; exact h))
  have X := X.re hk
  have ho116 : okk (kup [116] (kup [115] (kup [114] κ))) 116 0 := ⟨by decide, kup_pos c13⟩
  have ho114 : okk (kup [116] (kup [115] (kup [114] κ))) 114 0 := ⟨ho114.1, Int.lt_of_lt_of_le ho114.2 (kup_le _ _ _)⟩
  have ho115 : okk (kup [116] (kup [115] (kup [114] κ))) 115 0 := ⟨ho115.1, Int.lt_of_lt_of_le ho115.2 (kup_le _ _ _)⟩
  obtain ⟨M14, e15⟩ : ∃ z : Mem, z = zM M9 116 := ⟨_, rfl⟩
  rw [← e15] at hR
  have hw := hw M14 e15
  refine lv_astore (lv' := [(12, .ref (α11 116 0)), (11, .ref (α11 115 0)), (10, .ref (α11 114 0)), (0, .ref (α11 10 0)), (1, .ref (α11 104 0)), (2, .ref (α11 105 0)), (3, .ref (α11 106 0)), (4, .ref (α11 107 0)), (5, .ref (α11 108 0)), (6, .ref (α11 109 0)), (7, .ref (α11 112 0)), (8, .ref (α11 113 0)), (9, .int (Int32.ofInt p9))]) X.1.1 X.1.2.1 dL_arePages_16 hl (by decide) rfl (fun ls hl => ?_)
  exact t_L_arePages_18 X N hlt hb hp9 ho114 ho115 ho116 _ hw _ _ (by omega) (by omega) _ _ hR hS _ (lv_sub hl [3, 4, 5, 6, 7, 8, 9, 10, 11, 12, 2, 1, 0] rfl)
theorem m_L_arePages {l : Launch} {G : Gx} {e0 : Nat} {α : Ax} {κ : Nat → Int} {B : Nat} {p9 : Int} (hlt : l.stackTraces = false) (hκ : kOK κ) (hp9 : inR p9) {M : Mem} {Qm : Int → Mem → Prop} (hw : wp_L_arePages κ p9 M Qm) : UC l yL_arePages (Cond.code yL_arePages cL_arePages 22 (some .boolean)) 10 4 89 G e0 α κ B [.ref (α 10 0), .ref (α 104 0), .ref (α 105 0), .ref (α 106 0), .ref (α 107 0), .ref (α 108 0), .ref (α 109 0), .ref (α 112 0), .ref (α 113 0), .int (Int32.ofInt p9)] M Qm :=
  UC.mk hκ (by decide +kernel) rfl (Nat.le_of_ble_eq_true rfl) (lv := [(0, .ref (α 10 0)), (1, .ref (α 104 0)), (2, .ref (α 105 0)), (3, .ref (α 106 0)), (4, .ref (α 107 0)), (5, .ref (α 108 0)), (6, .ref (α 109 0)), (7, .ref (α 112 0)), (8, .ref (α 113 0)), (9, .int (Int32.ofInt p9))]) rfl (fun p e s m args below meth c ls X N hR hS hl => t_L_arePages X N hlt Bk.rf hp9 hw 0 0 (by decide) (by decide) _ _ hR hS ls hl)
end
