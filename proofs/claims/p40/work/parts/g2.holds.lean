/-! the law: holds, behind its start -/
theorem dL_holds_0 : decode cL_holds 0 = .ok (.new 77, 3) := by decide +kernel
theorem dL_holds_3 : decode cL_holds 3 = .ok (.dup, 1) := by decide +kernel
theorem dL_holds_4 : decode cL_holds 4 = .ok (.invokespecial 242, 3) := by decide +kernel
theorem dL_holds_7 : decode cL_holds 7 = .ok (.astore_n 1, 1) := by decide +kernel
theorem dL_holds_8 : decode cL_holds 8 = .ok (.bipush 16, 2) := by decide +kernel
theorem dL_holds_10 : decode cL_holds 10 = .ok (.newarray .int, 2) := by decide +kernel
theorem dL_holds_12 : decode cL_holds 12 = .ok (.astore_n 2, 1) := by decide +kernel
theorem dL_holds_13 : decode cL_holds 13 = .ok (.bipush 30, 2) := by decide +kernel
theorem dL_holds_15 : decode cL_holds 15 = .ok (.newarray .int, 2) := by decide +kernel
theorem dL_holds_17 : decode cL_holds 17 = .ok (.astore_n 3, 1) := by decide +kernel
theorem dL_holds_18 : decode cL_holds 18 = .ok (.bipush 10, 2) := by decide +kernel
theorem dL_holds_20 : decode cL_holds 20 = .ok (.newarray .int, 2) := by decide +kernel
theorem dL_holds_22 : decode cL_holds 22 = .ok (.astore 4, 2) := by decide +kernel
theorem dL_holds_24 : decode cL_holds 24 = .ok (.bipush 60, 2) := by decide +kernel
theorem dL_holds_26 : decode cL_holds 26 = .ok (.newarray .int, 2) := by decide +kernel
theorem dL_holds_28 : decode cL_holds 28 = .ok (.astore 5, 2) := by decide +kernel
theorem dL_holds_30 : decode cL_holds 30 = .ok (.bipush 10, 2) := by decide +kernel
theorem dL_holds_32 : decode cL_holds 32 = .ok (.newarray .long, 2) := by decide +kernel
theorem dL_holds_34 : decode cL_holds 34 = .ok (.astore 6, 2) := by decide +kernel
theorem dL_holds_36 : decode cL_holds 36 = .ok (.bipush 10, 2) := by decide +kernel
theorem dL_holds_38 : decode cL_holds 38 = .ok (.newarray .int, 2) := by decide +kernel
theorem dL_holds_40 : decode cL_holds 40 = .ok (.astore 7, 2) := by decide +kernel
theorem dL_holds_42 : decode cL_holds 42 = .ok (.bipush 60, 2) := by decide +kernel
theorem dL_holds_44 : decode cL_holds 44 = .ok (.newarray .int, 2) := by decide +kernel
theorem dL_holds_46 : decode cL_holds 46 = .ok (.astore 8, 2) := by decide +kernel
theorem dL_holds_48 : decode cL_holds 48 = .ok (.bipush 9, 2) := by decide +kernel
theorem dL_holds_50 : decode cL_holds 50 = .ok (.newarray .int, 2) := by decide +kernel
theorem dL_holds_52 : decode cL_holds 52 = .ok (.astore 9, 2) := by decide +kernel
theorem dL_holds_54 : decode cL_holds 54 = .ok (.bipush 6, 2) := by decide +kernel
theorem dL_holds_56 : decode cL_holds 56 = .ok (.newarray .int, 2) := by decide +kernel
theorem dL_holds_58 : decode cL_holds 58 = .ok (.astore 10, 2) := by decide +kernel
theorem dL_holds_60 : decode cL_holds 60 = .ok (.bipush 30, 2) := by decide +kernel
theorem dL_holds_62 : decode cL_holds 62 = .ok (.newarray .int, 2) := by decide +kernel
theorem dL_holds_64 : decode cL_holds 64 = .ok (.astore 11, 2) := by decide +kernel
theorem dL_holds_66 : decode cL_holds 66 = .ok (.aload_n 1, 1) := by decide +kernel
theorem dL_holds_67 : decode cL_holds 67 = .ok (.invokevirtual 243, 3) := by decide +kernel
theorem dL_holds_70 : decode cL_holds 70 = .ok (.iconst 1, 1) := by decide +kernel
theorem dL_holds_71 : decode cL_holds 71 = .ok (.if_icmp .ne 14, 3) := by decide +kernel
theorem dL_holds_74 : decode cL_holds 74 = .ok (.aload_n 1, 1) := by decide +kernel
theorem dL_holds_75 : decode cL_holds 75 = .ok (.invokevirtual 243, 3) := by decide +kernel
theorem dL_holds_78 : decode cL_holds 78 = .ok (.ifCond .ne 7, 3) := by decide +kernel
theorem dL_holds_81 : decode cL_holds 81 = .ok (.iconst 1, 1) := by decide +kernel
theorem dL_holds_82 : decode cL_holds 82 = .ok (.goto 4, 3) := by decide +kernel
theorem dL_holds_85 : decode cL_holds 85 = .ok (.iconst 0, 1) := by decide +kernel
theorem dL_holds_86 : decode cL_holds 86 = .ok (.istore 12, 2) := by decide +kernel
theorem dL_holds_88 : decode cL_holds 88 = .ok (.aload 10, 2) := by decide +kernel
theorem dL_holds_90 : decode cL_holds 90 = .ok (.iconst 3, 1) := by decide +kernel
theorem dL_holds_91 : decode cL_holds 91 = .ok (.bipush 60, 2) := by decide +kernel
theorem dL_holds_93 : decode cL_holds 93 = .ok (.iastore, 1) := by decide +kernel
theorem dL_holds_94 : decode cL_holds 94 = .ok (.aload 10, 2) := by decide +kernel
theorem dL_holds_96 : decode cL_holds 96 = .ok (.iconst 4, 1) := by decide +kernel
theorem dL_holds_97 : decode cL_holds 97 = .ok (.bipush 30, 2) := by decide +kernel
theorem dL_holds_99 : decode cL_holds 99 = .ok (.iastore, 1) := by decide +kernel
theorem dL_holds_100 : decode cL_holds 100 = .ok (.aload 10, 2) := by decide +kernel
theorem dL_holds_102 : decode cL_holds 102 = .ok (.iconst 0, 1) := by decide +kernel
theorem dL_holds_103 : decode cL_holds 103 = .ok (.iconst 1, 1) := by decide +kernel
theorem dL_holds_104 : decode cL_holds 104 = .ok (.aload_n 0, 1) := by decide +kernel
theorem dL_holds_105 : decode cL_holds 105 = .ok (.sipush 500, 3) := by decide +kernel
theorem dL_holds_108 : decode cL_holds 108 = .ok (.iconst 4, 1) := by decide +kernel
theorem dL_holds_109 : decode cL_holds 109 = .ok (.invokestatic 246, 3) := by decide +kernel
theorem dL_holds_112 : decode cL_holds 112 = .ok (.iadd, 1) := by decide +kernel
theorem dL_holds_113 : decode cL_holds 113 = .ok (.iastore, 1) := by decide +kernel
theorem dL_holds_114 : decode cL_holds 114 = .ok (.iconst 0, 1) := by decide +kernel
theorem dL_holds_115 : decode cL_holds 115 = .ok (.istore 13, 2) := by decide +kernel
theorem dL_holds_117 : decode cL_holds 117 = .ok (.iload 13, 2) := by decide +kernel
theorem dL_holds_119 : decode cL_holds 119 = .ok (.aload 10, 2) := by decide +kernel
theorem dL_holds_121 : decode cL_holds 121 = .ok (.iconst 0, 1) := by decide +kernel
theorem dL_holds_122 : decode cL_holds 122 = .ok (.iaload, 1) := by decide +kernel
theorem dL_holds_123 : decode cL_holds 123 = .ok (.if_icmp .ge 111, 3) := by decide +kernel
theorem dL_holds_126 : decode cL_holds 126 = .ok (.iload 12, 2) := by decide +kernel
theorem dL_holds_128 : decode cL_holds 128 = .ok (.ifCond .eq 106, 3) := by decide +kernel
theorem dL_holds_131 : decode cL_holds 131 = .ok (.aload_n 0, 1) := by decide +kernel
theorem dL_holds_132 : decode cL_holds 132 = .ok (.sipush 501, 3) := by decide +kernel
theorem dL_holds_135 : decode cL_holds 135 = .ok (.iload 13, 2) := by decide +kernel
theorem dL_holds_137 : decode cL_holds 137 = .ok (.iadd, 1) := by decide +kernel
theorem dL_holds_138 : decode cL_holds 138 = .ok (.ldc 201, 2) := by decide +kernel
theorem dL_holds_140 : decode cL_holds 140 = .ok (.invokestatic 246, 3) := by decide +kernel
theorem dL_holds_143 : decode cL_holds 143 = .ok (.istore 14, 2) := by decide +kernel
theorem dL_holds_145 : decode cL_holds 145 = .ok (.aload_n 2, 1) := by decide +kernel
theorem dL_holds_146 : decode cL_holds 146 = .ok (.iconst 4, 1) := by decide +kernel
theorem dL_holds_147 : decode cL_holds 147 = .ok (.iload 13, 2) := by decide +kernel
theorem dL_holds_149 : decode cL_holds 149 = .ok (.imul, 1) := by decide +kernel
theorem dL_holds_150 : decode cL_holds 150 = .ok (.iload 14, 2) := by decide +kernel
theorem dL_holds_152 : decode cL_holds 152 = .ok (.iconst 5, 1) := by decide +kernel
theorem dL_holds_153 : decode cL_holds 153 = .ok (.irem, 1) := by decide +kernel
theorem dL_holds_154 : decode cL_holds 154 = .ok (.iconst 2, 1) := by decide +kernel
theorem dL_holds_155 : decode cL_holds 155 = .ok (.if_icmp .le 12, 3) := by decide +kernel
theorem dL_holds_158 : decode cL_holds 158 = .ok (.iload 14, 2) := by decide +kernel
theorem dL_holds_160 : decode cL_holds 160 = .ok (.iconst 5, 1) := by decide +kernel
theorem dL_holds_161 : decode cL_holds 161 = .ok (.irem, 1) := by decide +kernel
theorem dL_holds_162 : decode cL_holds 162 = .ok (.iconst 2, 1) := by decide +kernel
theorem dL_holds_163 : decode cL_holds 163 = .ok (.isub, 1) := by decide +kernel
theorem dL_holds_164 : decode cL_holds 164 = .ok (.goto 4, 3) := by decide +kernel
theorem dL_holds_167 : decode cL_holds 167 = .ok (.iconst 0, 1) := by decide +kernel
theorem dL_holds_168 : decode cL_holds 168 = .ok (.iastore, 1) := by decide +kernel
theorem dL_holds_169 : decode cL_holds 169 = .ok (.aload_n 2, 1) := by decide +kernel
theorem dL_holds_170 : decode cL_holds 170 = .ok (.iconst 4, 1) := by decide +kernel
theorem dL_holds_171 : decode cL_holds 171 = .ok (.iload 13, 2) := by decide +kernel
theorem dL_holds_173 : decode cL_holds 173 = .ok (.imul, 1) := by decide +kernel
theorem dL_holds_174 : decode cL_holds 174 = .ok (.iconst 1, 1) := by decide +kernel
theorem dL_holds_175 : decode cL_holds 175 = .ok (.iadd, 1) := by decide +kernel
theorem dL_holds_176 : decode cL_holds 176 = .ok (.iconst 1, 1) := by decide +kernel
theorem dL_holds_177 : decode cL_holds 177 = .ok (.iload 14, 2) := by decide +kernel
theorem dL_holds_179 : decode cL_holds 179 = .ok (.iconst 5, 1) := by decide +kernel
theorem dL_holds_180 : decode cL_holds 180 = .ok (.idiv, 1) := by decide +kernel
theorem dL_holds_181 : decode cL_holds 181 = .ok (.iload 14, 2) := by decide +kernel
theorem dL_holds_183 : decode cL_holds 183 = .ok (.iconst 2, 1) := by decide +kernel
theorem dL_holds_184 : decode cL_holds 184 = .ok (.irem, 1) := by decide +kernel
theorem dL_holds_185 : decode cL_holds 185 = .ok (.ifCond .ne 8, 3) := by decide +kernel
theorem dL_holds_188 : decode cL_holds 188 = .ok (.bipush 60, 2) := by decide +kernel
theorem dL_holds_190 : decode cL_holds 190 = .ok (.goto 5, 3) := by decide +kernel
theorem dL_holds_193 : decode cL_holds 193 = .ok (.bipush 25, 2) := by decide +kernel
theorem dL_holds_195 : decode cL_holds 195 = .ok (.irem, 1) := by decide +kernel
theorem dL_holds_196 : decode cL_holds 196 = .ok (.iadd, 1) := by decide +kernel
theorem dL_holds_197 : decode cL_holds 197 = .ok (.iastore, 1) := by decide +kernel
theorem dL_holds_198 : decode cL_holds 198 = .ok (.aload_n 1, 1) := by decide +kernel
theorem dL_holds_199 : decode cL_holds 199 = .ok (.aload_n 2, 1) := by decide +kernel
theorem dL_holds_200 : decode cL_holds 200 = .ok (.iconst 4, 1) := by decide +kernel
theorem dL_holds_201 : decode cL_holds 201 = .ok (.iload 13, 2) := by decide +kernel
theorem dL_holds_203 : decode cL_holds 203 = .ok (.imul, 1) := by decide +kernel
theorem dL_holds_204 : decode cL_holds 204 = .ok (.iaload, 1) := by decide +kernel
theorem dL_holds_205 : decode cL_holds 205 = .ok (.aload_n 2, 1) := by decide +kernel
theorem dL_holds_206 : decode cL_holds 206 = .ok (.iconst 4, 1) := by decide +kernel
theorem dL_holds_207 : decode cL_holds 207 = .ok (.iload 13, 2) := by decide +kernel
theorem dL_holds_209 : decode cL_holds 209 = .ok (.imul, 1) := by decide +kernel
theorem dL_holds_210 : decode cL_holds 210 = .ok (.iconst 1, 1) := by decide +kernel
theorem dL_holds_211 : decode cL_holds 211 = .ok (.iadd, 1) := by decide +kernel
theorem dL_holds_212 : decode cL_holds 212 = .ok (.iaload, 1) := by decide +kernel
theorem dL_holds_213 : decode cL_holds 213 = .ok (.invokevirtual 249, 3) := by decide +kernel
theorem dL_holds_216 : decode cL_holds 216 = .ok (.iload 13, 2) := by decide +kernel
theorem dL_holds_218 : decode cL_holds 218 = .ok (.if_icmp .ne 7, 3) := by decide +kernel
theorem dL_holds_221 : decode cL_holds 221 = .ok (.iconst 1, 1) := by decide +kernel
theorem dL_holds_222 : decode cL_holds 222 = .ok (.goto 4, 3) := by decide +kernel
theorem dL_holds_225 : decode cL_holds 225 = .ok (.iconst 0, 1) := by decide +kernel
theorem dL_holds_226 : decode cL_holds 226 = .ok (.istore 12, 2) := by decide +kernel
theorem dL_holds_228 : decode cL_holds 228 = .ok (.iinc 13 1, 3) := by decide +kernel
theorem dL_holds_231 : decode cL_holds 231 = .ok (.goto (-114), 3) := by decide +kernel
theorem dL_holds_234 : decode cL_holds 234 = .ok (.iconst 0, 1) := by decide +kernel
theorem dL_holds_235 : decode cL_holds 235 = .ok (.istore 13, 2) := by decide +kernel
theorem dL_holds_237 : decode cL_holds 237 = .ok (.iload 13, 2) := by decide +kernel
theorem dL_holds_239 : decode cL_holds 239 = .ok (.bipush 100, 2) := by decide +kernel
theorem dL_holds_241 : decode cL_holds 241 = .ok (.if_icmp .ge 456, 3) := by decide +kernel
theorem dL_holds_244 : decode cL_holds 244 = .ok (.iload 12, 2) := by decide +kernel
theorem dL_holds_246 : decode cL_holds 246 = .ok (.ifCond .eq 451, 3) := by decide +kernel
theorem dL_holds_249 : decode cL_holds 249 = .ok (.aload_n 0, 1) := by decide +kernel
theorem dL_holds_250 : decode cL_holds 250 = .ok (.iconst 2, 1) := by decide +kernel
theorem dL_holds_251 : decode cL_holds 251 = .ok (.iload 13, 2) := by decide +kernel
theorem dL_holds_253 : decode cL_holds 253 = .ok (.imul, 1) := by decide +kernel
theorem dL_holds_254 : decode cL_holds 254 = .ok (.iconst 1, 1) := by decide +kernel
theorem dL_holds_255 : decode cL_holds 255 = .ok (.iadd, 1) := by decide +kernel
theorem dL_holds_256 : decode cL_holds 256 = .ok (.ldc 252, 2) := by decide +kernel
theorem dL_holds_258 : decode cL_holds 258 = .ok (.invokestatic 246, 3) := by decide +kernel
theorem dL_holds_261 : decode cL_holds 261 = .ok (.istore 14, 2) := by decide +kernel
theorem dL_holds_263 : decode cL_holds 263 = .ok (.aload_n 0, 1) := by decide +kernel
theorem dL_holds_264 : decode cL_holds 264 = .ok (.iconst 2, 1) := by decide +kernel
theorem dL_holds_265 : decode cL_holds 265 = .ok (.iload 13, 2) := by decide +kernel
theorem dL_holds_267 : decode cL_holds 267 = .ok (.imul, 1) := by decide +kernel
theorem dL_holds_268 : decode cL_holds 268 = .ok (.bipush 46, 2) := by decide +kernel
theorem dL_holds_270 : decode cL_holds 270 = .ok (.invokestatic 246, 3) := by decide +kernel
theorem dL_holds_273 : decode cL_holds 273 = .ok (.istore 15, 2) := by decide +kernel
theorem dL_holds_275 : decode cL_holds 275 = .ok (.iload 13, 2) := by decide +kernel
theorem dL_holds_277 : decode cL_holds 277 = .ok (.iconst 3, 1) := by decide +kernel
theorem dL_holds_278 : decode cL_holds 278 = .ok (.if_icmp .lt 9, 3) := by decide +kernel
theorem dL_holds_281 : decode cL_holds 281 = .ok (.iload 15, 2) := by decide +kernel
theorem dL_holds_283 : decode cL_holds 283 = .ok (.iconst 5, 1) := by decide +kernel
theorem dL_holds_284 : decode cL_holds 284 = .ok (.if_icmp .ge 19, 3) := by decide +kernel
theorem dL_holds_287 : decode cL_holds 287 = .ok (.aload_n 1, 1) := by decide +kernel
theorem dL_holds_288 : decode cL_holds 288 = .ok (.aload_n 3, 1) := by decide +kernel
theorem dL_holds_289 : decode cL_holds 289 = .ok (.aload 4, 2) := by decide +kernel
theorem dL_holds_291 : decode cL_holds 291 = .ok (.aload 10, 2) := by decide +kernel
theorem dL_holds_293 : decode cL_holds 293 = .ok (.iload 14, 2) := by decide +kernel
theorem dL_holds_295 : decode cL_holds 295 = .ok (.invokestatic 253, 3) := by decide +kernel
theorem dL_holds_298 : decode cL_holds 298 = .ok (.istore 12, 2) := by decide +kernel
theorem dL_holds_300 : decode cL_holds 300 = .ok (.goto 230, 3) := by decide +kernel
theorem dL_holds_303 : decode cL_holds 303 = .ok (.iload 13, 2) := by decide +kernel
theorem dL_holds_305 : decode cL_holds 305 = .ok (.bipush 6, 2) := by decide +kernel
theorem dL_holds_307 : decode cL_holds 307 = .ok (.if_icmp .lt 17, 3) := by decide +kernel
theorem dL_holds_310 : decode cL_holds 310 = .ok (.iload 15, 2) := by decide +kernel
theorem dL_holds_312 : decode cL_holds 312 = .ok (.bipush 12, 2) := by decide +kernel
theorem dL_holds_314 : decode cL_holds 314 = .ok (.if_icmp .lt 10, 3) := by decide +kernel
theorem dL_holds_317 : decode cL_holds 317 = .ok (.aload 10, 2) := by decide +kernel
theorem dL_holds_319 : decode cL_holds 319 = .ok (.iconst 2, 1) := by decide +kernel
theorem dL_holds_320 : decode cL_holds 320 = .ok (.iaload, 1) := by decide +kernel
theorem dL_holds_321 : decode cL_holds 321 = .ok (.ifCond .ne 21, 3) := by decide +kernel
theorem dL_holds_324 : decode cL_holds 324 = .ok (.aload_n 1, 1) := by decide +kernel
theorem dL_holds_325 : decode cL_holds 325 = .ok (.aload_n 3, 1) := by decide +kernel
theorem dL_holds_326 : decode cL_holds 326 = .ok (.aload 4, 2) := by decide +kernel
theorem dL_holds_328 : decode cL_holds 328 = .ok (.aload 5, 2) := by decide +kernel
theorem dL_holds_330 : decode cL_holds 330 = .ok (.aload 10, 2) := by decide +kernel
theorem dL_holds_332 : decode cL_holds 332 = .ok (.iload 14, 2) := by decide +kernel
theorem dL_holds_334 : decode cL_holds 334 = .ok (.invokestatic 257, 3) := by decide +kernel
theorem dL_holds_337 : decode cL_holds 337 = .ok (.istore 12, 2) := by decide +kernel
theorem dL_holds_339 : decode cL_holds 339 = .ok (.goto 191, 3) := by decide +kernel
theorem dL_holds_342 : decode cL_holds 342 = .ok (.iload 15, 2) := by decide +kernel
theorem dL_holds_344 : decode cL_holds 344 = .ok (.bipush 30, 2) := by decide +kernel
theorem dL_holds_346 : decode cL_holds 346 = .ok (.if_icmp .ge 59, 3) := by decide +kernel
theorem dL_holds_349 : decode cL_holds 349 = .ok (.aload_n 1, 1) := by decide +kernel
theorem dL_holds_350 : decode cL_holds 350 = .ok (.aload_n 3, 1) := by decide +kernel
theorem dL_holds_351 : decode cL_holds 351 = .ok (.aload 5, 2) := by decide +kernel
theorem dL_holds_353 : decode cL_holds 353 = .ok (.aload 6, 2) := by decide +kernel
theorem dL_holds_355 : decode cL_holds 355 = .ok (.aload 7, 2) := by decide +kernel
theorem dL_holds_357 : decode cL_holds 357 = .ok (.aload 10, 2) := by decide +kernel
theorem dL_holds_359 : decode cL_holds 359 = .ok (.iload 15, 2) := by decide +kernel
theorem dL_holds_361 : decode cL_holds 361 = .ok (.bipush 20, 2) := by decide +kernel
theorem dL_holds_363 : decode cL_holds 363 = .ok (.if_icmp .ge 7, 3) := by decide +kernel
theorem dL_holds_366 : decode cL_holds 366 = .ok (.iconst 0, 1) := by decide +kernel
theorem dL_holds_367 : decode cL_holds 367 = .ok (.goto 28, 3) := by decide +kernel
theorem dL_holds_370 : decode cL_holds 370 = .ok (.iload 15, 2) := by decide +kernel
theorem dL_holds_372 : decode cL_holds 372 = .ok (.bipush 26, 2) := by decide +kernel
theorem dL_holds_374 : decode cL_holds 374 = .ok (.if_icmp .ge 7, 3) := by decide +kernel
theorem dL_holds_377 : decode cL_holds 377 = .ok (.iconst 5, 1) := by decide +kernel
theorem dL_holds_378 : decode cL_holds 378 = .ok (.goto 17, 3) := by decide +kernel
theorem dL_holds_381 : decode cL_holds 381 = .ok (.iload 15, 2) := by decide +kernel
theorem dL_holds_383 : decode cL_holds 383 = .ok (.bipush 27, 2) := by decide +kernel
theorem dL_holds_385 : decode cL_holds 385 = .ok (.if_icmp .ge 8, 3) := by decide +kernel
theorem dL_holds_388 : decode cL_holds 388 = .ok (.bipush 8, 2) := by decide +kernel
theorem dL_holds_390 : decode cL_holds 390 = .ok (.goto 5, 3) := by decide +kernel
theorem dL_holds_393 : decode cL_holds 393 = .ok (.bipush 9, 2) := by decide +kernel
theorem dL_holds_395 : decode cL_holds 395 = .ok (.iload 14, 2) := by decide +kernel
theorem dL_holds_397 : decode cL_holds 397 = .ok (.invokestatic 261, 3) := by decide +kernel
theorem dL_holds_400 : decode cL_holds 400 = .ok (.istore 12, 2) := by decide +kernel
theorem dL_holds_402 : decode cL_holds 402 = .ok (.goto 128, 3) := by decide +kernel
theorem dL_holds_405 : decode cL_holds 405 = .ok (.iload 15, 2) := by decide +kernel
theorem dL_holds_407 : decode cL_holds 407 = .ok (.bipush 32, 2) := by decide +kernel
theorem dL_holds_409 : decode cL_holds 409 = .ok (.if_icmp .ge 24, 3) := by decide +kernel
theorem dL_holds_412 : decode cL_holds 412 = .ok (.aload_n 1, 1) := by decide +kernel
theorem dL_holds_413 : decode cL_holds 413 = .ok (.aload_n 2, 1) := by decide +kernel
theorem dL_holds_414 : decode cL_holds 414 = .ok (.aload_n 3, 1) := by decide +kernel
theorem dL_holds_415 : decode cL_holds 415 = .ok (.aload 4, 2) := by decide +kernel
theorem dL_holds_417 : decode cL_holds 417 = .ok (.aload 5, 2) := by decide +kernel
theorem dL_holds_419 : decode cL_holds 419 = .ok (.aload 7, 2) := by decide +kernel
theorem dL_holds_421 : decode cL_holds 421 = .ok (.aload 10, 2) := by decide +kernel
theorem dL_holds_423 : decode cL_holds 423 = .ok (.iload 14, 2) := by decide +kernel
theorem dL_holds_425 : decode cL_holds 425 = .ok (.invokestatic 265, 3) := by decide +kernel
theorem dL_holds_428 : decode cL_holds 428 = .ok (.istore 12, 2) := by decide +kernel
theorem dL_holds_430 : decode cL_holds 430 = .ok (.goto 100, 3) := by decide +kernel
theorem dL_holds_433 : decode cL_holds 433 = .ok (.aload_n 1, 1) := by decide +kernel
theorem dL_holds_434 : decode cL_holds 434 = .ok (.aload_n 2, 1) := by decide +kernel
theorem dL_holds_435 : decode cL_holds 435 = .ok (.aload 8, 2) := by decide +kernel
theorem dL_holds_437 : decode cL_holds 437 = .ok (.aload 9, 2) := by decide +kernel
theorem dL_holds_439 : decode cL_holds 439 = .ok (.aload 10, 2) := by decide +kernel
theorem dL_holds_441 : decode cL_holds 441 = .ok (.iload 15, 2) := by decide +kernel
theorem dL_holds_443 : decode cL_holds 443 = .ok (.bipush 35, 2) := by decide +kernel
theorem dL_holds_445 : decode cL_holds 445 = .ok (.if_icmp .ge 7, 3) := by decide +kernel
theorem dL_holds_448 : decode cL_holds 448 = .ok (.iconst 0, 1) := by decide +kernel
theorem dL_holds_449 : decode cL_holds 449 = .ok (.goto 74, 3) := by decide +kernel
theorem dL_holds_452 : decode cL_holds 452 = .ok (.iload 15, 2) := by decide +kernel
theorem dL_holds_454 : decode cL_holds 454 = .ok (.bipush 36, 2) := by decide +kernel
theorem dL_holds_456 : decode cL_holds 456 = .ok (.if_icmp .ge 7, 3) := by decide +kernel
theorem dL_holds_459 : decode cL_holds 459 = .ok (.iconst 1, 1) := by decide +kernel
theorem dL_holds_460 : decode cL_holds 460 = .ok (.goto 63, 3) := by decide +kernel
theorem dL_holds_463 : decode cL_holds 463 = .ok (.iload 15, 2) := by decide +kernel
theorem dL_holds_465 : decode cL_holds 465 = .ok (.bipush 38, 2) := by decide +kernel
theorem dL_holds_467 : decode cL_holds 467 = .ok (.if_icmp .ge 7, 3) := by decide +kernel
theorem dL_holds_470 : decode cL_holds 470 = .ok (.iconst 2, 1) := by decide +kernel
theorem dL_holds_471 : decode cL_holds 471 = .ok (.goto 52, 3) := by decide +kernel
theorem dL_holds_474 : decode cL_holds 474 = .ok (.iload 15, 2) := by decide +kernel
theorem dL_holds_476 : decode cL_holds 476 = .ok (.bipush 40, 2) := by decide +kernel
theorem dL_holds_478 : decode cL_holds 478 = .ok (.if_icmp .ge 7, 3) := by decide +kernel
theorem dL_holds_481 : decode cL_holds 481 = .ok (.iconst 4, 1) := by decide +kernel
theorem dL_holds_482 : decode cL_holds 482 = .ok (.goto 41, 3) := by decide +kernel
theorem dL_holds_485 : decode cL_holds 485 = .ok (.iload 15, 2) := by decide +kernel
theorem dL_holds_487 : decode cL_holds 487 = .ok (.bipush 42, 2) := by decide +kernel
theorem dL_holds_489 : decode cL_holds 489 = .ok (.if_icmp .ge 8, 3) := by decide +kernel
theorem dL_holds_492 : decode cL_holds 492 = .ok (.bipush 6, 2) := by decide +kernel
theorem dL_holds_494 : decode cL_holds 494 = .ok (.goto 29, 3) := by decide +kernel
theorem dL_holds_497 : decode cL_holds 497 = .ok (.iload 15, 2) := by decide +kernel
theorem dL_holds_499 : decode cL_holds 499 = .ok (.bipush 44, 2) := by decide +kernel
theorem dL_holds_501 : decode cL_holds 501 = .ok (.if_icmp .ge 8, 3) := by decide +kernel
theorem dL_holds_504 : decode cL_holds 504 = .ok (.bipush 7, 2) := by decide +kernel
theorem dL_holds_506 : decode cL_holds 506 = .ok (.goto 17, 3) := by decide +kernel
theorem dL_holds_509 : decode cL_holds 509 = .ok (.iload 15, 2) := by decide +kernel
theorem dL_holds_511 : decode cL_holds 511 = .ok (.bipush 44, 2) := by decide +kernel
theorem dL_holds_513 : decode cL_holds 513 = .ok (.if_icmp .ne 8, 3) := by decide +kernel
theorem dL_holds_516 : decode cL_holds 516 = .ok (.bipush 8, 2) := by decide +kernel
theorem dL_holds_518 : decode cL_holds 518 = .ok (.goto 5, 3) := by decide +kernel
theorem dL_holds_521 : decode cL_holds 521 = .ok (.bipush 9, 2) := by decide +kernel
theorem dL_holds_523 : decode cL_holds 523 = .ok (.iload 14, 2) := by decide +kernel
theorem dL_holds_525 : decode cL_holds 525 = .ok (.invokestatic 269, 3) := by decide +kernel
theorem dL_holds_528 : decode cL_holds 528 = .ok (.istore 12, 2) := by decide +kernel
theorem dL_holds_530 : decode cL_holds 530 = .ok (.iload 12, 2) := by decide +kernel
theorem dL_holds_532 : decode cL_holds 532 = .ok (.ifCond .eq 159, 3) := by decide +kernel
theorem dL_holds_535 : decode cL_holds 535 = .ok (.iload 13, 2) := by decide +kernel
theorem dL_holds_537 : decode cL_holds 537 = .ok (.iconst 5, 1) := by decide +kernel
theorem dL_holds_538 : decode cL_holds 538 = .ok (.irem, 1) := by decide +kernel
theorem dL_holds_539 : decode cL_holds 539 = .ok (.iconst 4, 1) := by decide +kernel
theorem dL_holds_540 : decode cL_holds 540 = .ok (.if_icmp .ne 151, 3) := by decide +kernel
theorem dL_holds_543 : decode cL_holds 543 = .ok (.iload 14, 2) := by decide +kernel
theorem dL_holds_545 : decode cL_holds 545 = .ok (.iconst 3, 1) := by decide +kernel
theorem dL_holds_546 : decode cL_holds 546 = .ok (.idiv, 1) := by decide +kernel
theorem dL_holds_547 : decode cL_holds 547 = .ok (.aload 10, 2) := by decide +kernel
theorem dL_holds_549 : decode cL_holds 549 = .ok (.iconst 1, 1) := by decide +kernel
theorem dL_holds_550 : decode cL_holds 550 = .ok (.iaload, 1) := by decide +kernel
theorem dL_holds_551 : decode cL_holds 551 = .ok (.irem, 1) := by decide +kernel
theorem dL_holds_552 : decode cL_holds 552 = .ok (.istore 16, 2) := by decide +kernel
theorem dL_holds_554 : decode cL_holds 554 = .ok (.iload 14, 2) := by decide +kernel
theorem dL_holds_556 : decode cL_holds 556 = .ok (.bipush 30, 2) := by decide +kernel
theorem dL_holds_558 : decode cL_holds 558 = .ok (.idiv, 1) := by decide +kernel
theorem dL_holds_559 : decode cL_holds 559 = .ok (.aload 10, 2) := by decide +kernel
theorem dL_holds_561 : decode cL_holds 561 = .ok (.iconst 0, 1) := by decide +kernel
theorem dL_holds_562 : decode cL_holds 562 = .ok (.iaload, 1) := by decide +kernel
theorem dL_holds_563 : decode cL_holds 563 = .ok (.irem, 1) := by decide +kernel
theorem dL_holds_564 : decode cL_holds 564 = .ok (.istore 17, 2) := by decide +kernel
theorem dL_holds_566 : decode cL_holds 566 = .ok (.aload_n 1, 1) := by decide +kernel
theorem dL_holds_567 : decode cL_holds 567 = .ok (.aload_n 2, 1) := by decide +kernel
theorem dL_holds_568 : decode cL_holds 568 = .ok (.aload_n 3, 1) := by decide +kernel
theorem dL_holds_569 : decode cL_holds 569 = .ok (.aload 4, 2) := by decide +kernel
theorem dL_holds_571 : decode cL_holds 571 = .ok (.aload 5, 2) := by decide +kernel
theorem dL_holds_573 : decode cL_holds 573 = .ok (.aload 6, 2) := by decide +kernel
theorem dL_holds_575 : decode cL_holds 575 = .ok (.aload 7, 2) := by decide +kernel
theorem dL_holds_577 : decode cL_holds 577 = .ok (.aload 10, 2) := by decide +kernel
theorem dL_holds_579 : decode cL_holds 579 = .ok (.aload 11, 2) := by decide +kernel
theorem dL_holds_581 : decode cL_holds 581 = .ok (.invokestatic 273, 3) := by decide +kernel
theorem dL_holds_584 : decode cL_holds 584 = .ok (.ifCond .eq 30, 3) := by decide +kernel
theorem dL_holds_587 : decode cL_holds 587 = .ok (.aload_n 1, 1) := by decide +kernel
theorem dL_holds_588 : decode cL_holds 588 = .ok (.aload_n 2, 1) := by decide +kernel
theorem dL_holds_589 : decode cL_holds 589 = .ok (.aload_n 3, 1) := by decide +kernel
theorem dL_holds_590 : decode cL_holds 590 = .ok (.aload 4, 2) := by decide +kernel
theorem dL_holds_592 : decode cL_holds 592 = .ok (.aload 5, 2) := by decide +kernel
theorem dL_holds_594 : decode cL_holds 594 = .ok (.aload 6, 2) := by decide +kernel
theorem dL_holds_596 : decode cL_holds 596 = .ok (.aload 7, 2) := by decide +kernel
theorem dL_holds_598 : decode cL_holds 598 = .ok (.aload 10, 2) := by decide +kernel
theorem dL_holds_600 : decode cL_holds 600 = .ok (.aload 11, 2) := by decide +kernel
theorem dL_holds_602 : decode cL_holds 602 = .ok (.iload 14, 2) := by decide +kernel
theorem dL_holds_604 : decode cL_holds 604 = .ok (.invokestatic 277, 3) := by decide +kernel
theorem dL_holds_607 : decode cL_holds 607 = .ok (.ifCond .eq 7, 3) := by decide +kernel
theorem dL_holds_610 : decode cL_holds 610 = .ok (.iconst 1, 1) := by decide +kernel
theorem dL_holds_611 : decode cL_holds 611 = .ok (.goto 4, 3) := by decide +kernel
theorem dL_holds_614 : decode cL_holds 614 = .ok (.iconst 0, 1) := by decide +kernel
theorem dL_holds_615 : decode cL_holds 615 = .ok (.istore 12, 2) := by decide +kernel
theorem dL_holds_617 : decode cL_holds 617 = .ok (.iconst 0, 1) := by decide +kernel
theorem dL_holds_618 : decode cL_holds 618 = .ok (.istore 18, 2) := by decide +kernel
theorem dL_holds_620 : decode cL_holds 620 = .ok (.iload 18, 2) := by decide +kernel
theorem dL_holds_622 : decode cL_holds 622 = .ok (.iconst 4, 1) := by decide +kernel
theorem dL_holds_623 : decode cL_holds 623 = .ok (.if_icmp .ge 68, 3) := by decide +kernel
theorem dL_holds_626 : decode cL_holds 626 = .ok (.iload 12, 2) := by decide +kernel
theorem dL_holds_628 : decode cL_holds 628 = .ok (.ifCond .eq 63, 3) := by decide +kernel
theorem dL_holds_631 : decode cL_holds 631 = .ok (.aload_n 2, 1) := by decide +kernel
theorem dL_holds_632 : decode cL_holds 632 = .ok (.iconst 4, 1) := by decide +kernel
theorem dL_holds_633 : decode cL_holds 633 = .ok (.iload 17, 2) := by decide +kernel
theorem dL_holds_635 : decode cL_holds 635 = .ok (.imul, 1) := by decide +kernel
theorem dL_holds_636 : decode cL_holds 636 = .ok (.iconst 3, 1) := by decide +kernel
theorem dL_holds_637 : decode cL_holds 637 = .ok (.iadd, 1) := by decide +kernel
theorem dL_holds_638 : decode cL_holds 638 = .ok (.iaload, 1) := by decide +kernel
theorem dL_holds_639 : decode cL_holds 639 = .ok (.ifCond .ne 52, 3) := by decide +kernel
theorem dL_holds_642 : decode cL_holds 642 = .ok (.aload_n 1, 1) := by decide +kernel
theorem dL_holds_643 : decode cL_holds 643 = .ok (.aload 4, 2) := by decide +kernel
theorem dL_holds_645 : decode cL_holds 645 = .ok (.iload 16, 2) := by decide +kernel
theorem dL_holds_647 : decode cL_holds 647 = .ok (.iaload, 1) := by decide +kernel
theorem dL_holds_648 : decode cL_holds 648 = .ok (.iload 17, 2) := by decide +kernel
theorem dL_holds_650 : decode cL_holds 650 = .ok (.iload 18, 2) := by decide +kernel
theorem dL_holds_652 : decode cL_holds 652 = .ok (.invokevirtual 281, 3) := by decide +kernel
theorem dL_holds_655 : decode cL_holds 655 = .ok (.aload_n 2, 1) := by decide +kernel
theorem dL_holds_656 : decode cL_holds 656 = .ok (.aload 4, 2) := by decide +kernel
theorem dL_holds_658 : decode cL_holds 658 = .ok (.aload 5, 2) := by decide +kernel
theorem dL_holds_660 : decode cL_holds 660 = .ok (.aload 8, 2) := by decide +kernel
theorem dL_holds_662 : decode cL_holds 662 = .ok (.aload 9, 2) := by decide +kernel
theorem dL_holds_664 : decode cL_holds 664 = .ok (.aload 10, 2) := by decide +kernel
theorem dL_holds_666 : decode cL_holds 666 = .ok (.iload 16, 2) := by decide +kernel
theorem dL_holds_668 : decode cL_holds 668 = .ok (.iload 17, 2) := by decide +kernel
theorem dL_holds_670 : decode cL_holds 670 = .ok (.iload 18, 2) := by decide +kernel
theorem dL_holds_672 : decode cL_holds 672 = .ok (.invokestatic 284, 3) := by decide +kernel
theorem dL_holds_675 : decode cL_holds 675 = .ok (.if_icmp .ne 7, 3) := by decide +kernel
theorem dL_holds_678 : decode cL_holds 678 = .ok (.iconst 1, 1) := by decide +kernel
theorem dL_holds_679 : decode cL_holds 679 = .ok (.goto 4, 3) := by decide +kernel
theorem dL_holds_682 : decode cL_holds 682 = .ok (.iconst 0, 1) := by decide +kernel
theorem dL_holds_683 : decode cL_holds 683 = .ok (.istore 12, 2) := by decide +kernel
theorem dL_holds_685 : decode cL_holds 685 = .ok (.iinc 18 1, 3) := by decide +kernel
theorem dL_holds_688 : decode cL_holds 688 = .ok (.goto (-68), 3) := by decide +kernel
theorem dL_holds_691 : decode cL_holds 691 = .ok (.iinc 13 1, 3) := by decide +kernel
theorem dL_holds_694 : decode cL_holds 694 = .ok (.goto (-457), 3) := by decide +kernel
theorem dL_holds_697 : decode cL_holds 697 = .ok (.iload 12, 2) := by decide +kernel
theorem dL_holds_699 : decode cL_holds 699 = .ok (.ireturn, 1) := by decide +kernel
section
variable {p : Program} {l : Launch} {e : Env} {R : Room} {s : State} {m : MethodId} {args : Array Value} {below : List Frame} {meth : Method} {c : Code} {G : Gx} {e0 : Nat} {B b L : Nat} {xs : Nat → Int32} {Q : State → Prop}
def wp_L_holds_691 (Qm : Int → Prop) (K237 : (Nat → Int) → Int → Int → Mem → Prop) (κ : Nat → Int) (y12 : Int) (y13 : Int) (M : Mem) : Prop := (inR (y13 + 1)) ∧ (0 ≤ (y13 + 1) ∧ (y13 + 1) ≤ 100) ∧ K237 κ y12 (y13 + 1) M
def wp_L_holds_620 (Qm : Int → Prop) (K237 : (Nat → Int) → Int → Int → Mem → Prop) : Nat → (Nat → Int) → Int → Int → Int → Int → Int → Mem → Prop
  | 0 => fun _ _ _ _ _ _ _ => False
  | n + 1 => fun κ y12 y13 y16 y17 y18 M => ((4 ≤ y18 → wp_L_holds_691 Qm K237 κ y12 y13 M) ∧ (y18 < 4 → ((y12 = 0 → wp_L_holds_691 Qm K237 κ y12 y13 M) ∧ (¬ y12 = 0 → (inR (4 * y17)) ∧ (inR ((4 * y17) + 3)) ∧ (0 ≤ ((4 * y17) + 3) ∧ ((4 * y17) + 3) < 16) ∧ ((¬ (M 104 0 ((4 * y17) + 3)) = 0 → wp_L_holds_691 Qm K237 κ y12 y13 M) ∧ ((M 104 0 ((4 * y17) + 3)) = 0 → (0 ≤ y16 ∧ y16 < 10) ∧ wo_X9_edge (M 106 0 y16) y17 y18 M fun (x51 : Int) (M50 : Mem) => wp_L_edge y16 y17 y18 M50 fun (x54 : Int) (M53 : Mem) => (inR (y18 + 1)) ∧ wp_L_holds_620 Qm K237 n κ (if ¬ x51 = x54 then (0 : Int) else 1) y13 y16 y17 (y18 + 1) M53))))))
def wp_L_holds_614 (Qm : Int → Prop) (K237 : (Nat → Int) → Int → Int → Mem → Prop) (κ : Nat → Int) (y13 : Int) (y16 : Int) (y17 : Int) (M : Mem) : Prop := (∃ n60 : Nat, wp_L_holds_620 Qm K237 n60 κ 0 y13 y16 y17 0 M)
def wp_L_holds_530 (Qm : Int → Prop) (K237 : (Nat → Int) → Int → Int → Mem → Prop) (κ : Nat → Int) (y12 : Int) (y13 : Int) (y14 : Int) (M : Mem) : Prop := ((y12 = 0 → wp_L_holds_691 Qm K237 κ y12 y13 M) ∧ (¬ y12 = 0 → ((¬ (Int.tmod y13 5) = 4 → wp_L_holds_691 Qm K237 κ y12 y13 M) ∧ ((Int.tmod y13 5) = 4 → (0 < (M 112 0 1)) ∧ (0 < (M 112 0 0)) ∧ wp_L_areWidths M fun (x41 : Int) (M43 : Mem) => ((x41 = 0 → wp_L_holds_614 Qm K237 κ y13 (Int.tmod (Int.tdiv y14 3) (M 112 0 1)) (Int.tmod (Int.tdiv y14 30) (M 112 0 0)) M43) ∧ (¬ x41 = 0 → wp_L_arePages κ y14 M43 fun (x61 : Int) (M63 : Mem) => (∃ n67 : Nat, wp_L_holds_620 Qm K237 n67 κ (if x61 = 0 then (0 : Int) else 1) y13 (Int.tmod (Int.tdiv y14 3) (M 112 0 1)) (Int.tmod (Int.tdiv y14 30) (M 112 0 0)) 0 M63)))))))
def wp_L_holds_287 (Qm : Int → Prop) (K237 : (Nat → Int) → Int → Int → Mem → Prop) (κ : Nat → Int) (y13 : Int) (y14 : Int) (M : Mem) : Prop := wp_L_isRow κ y14 M fun (x25 : Int) (κ28 : Nat → Int) (M27 : Mem) => wp_L_holds_530 Qm K237 κ28 x25 y13 y14 M27
def wp_L_holds_324 (Qm : Int → Prop) (K237 : (Nat → Int) → Int → Int → Mem → Prop) (κ : Nat → Int) (y13 : Int) (y14 : Int) (M : Mem) : Prop := wp_L_isCell κ y14 M fun (x68 : Int) (κ71 : Nat → Int) (M70 : Mem) => wp_L_holds_530 Qm K237 κ71 x68 y13 y14 M70
def wp_L_holds_237 (Qm : Int → Prop) : Nat → (Nat → Int) → Int → Int → Mem → Prop
  | 0 => fun _ _ _ _ => False
  | n + 1 => fun κ y12 y13 M => ((100 ≤ y13 → Qm y12) ∧ (y13 < 100 → ((y12 = 0 → Qm y12) ∧ (¬ y12 = 0 → (inR (2 * y13)) ∧ (inR ((2 * y13) + 1)) ∧ (0 ≤ ((2 * y13) + 1) ∧ ((2 * y13) + 1) ≤ 1000) ∧ ∀ x19 : Int, 0 ≤ x19 → x19 < 10000000 → (inR (2 * y13)) ∧ (0 ≤ (2 * y13) ∧ (2 * y13) ≤ 1000) ∧ ∀ x23 : Int, 0 ≤ x23 → x23 < 46 → ((y13 < 3 → wp_L_holds_287 Qm (wp_L_holds_237 Qm n) κ y13 x19 M) ∧ (3 ≤ y13 → ((5 ≤ x23 → ((y13 < 6 → wp_L_holds_324 Qm (wp_L_holds_237 Qm n) κ y13 x19 M) ∧ (6 ≤ y13 → ((x23 < 12 → wp_L_holds_324 Qm (wp_L_holds_237 Qm n) κ y13 x19 M) ∧ (12 ≤ x23 → ((¬ (M 112 0 2) = 0 → ((30 ≤ x23 → ((32 ≤ x23 → wp_L_isSet (if 35 ≤ x23 then (if 36 ≤ x23 then (if 38 ≤ x23 then (if 40 ≤ x23 then (if 42 ≤ x23 then (if 44 ≤ x23 then (if ¬ x23 = 44 then (9 : Int) else 8) else 7) else 6) else 4) else 2) else 1) else 0) x19 M fun (x89 : Int) (M91 : Mem) => wp_L_holds_530 Qm (wp_L_holds_237 Qm n) κ x89 y13 x19 M91) ∧ (x23 < 32 → wp_L_isSorted κ x19 M fun (x92 : Int) (M94 : Mem) => wp_L_holds_530 Qm (wp_L_holds_237 Qm n) κ x92 y13 x19 M94))) ∧ (x23 < 30 → wp_L_isFilled (if 20 ≤ x23 then (if 26 ≤ x23 then (if 27 ≤ x23 then (9 : Int) else 8) else 5) else 0) x19 M fun (x102 : Int) (M104 : Mem) => wp_L_holds_530 Qm (wp_L_holds_237 Qm n) κ x102 y13 x19 M104))) ∧ ((M 112 0 2) = 0 → wp_L_holds_324 Qm (wp_L_holds_237 Qm n) κ y13 x19 M))))))) ∧ (x23 < 5 → wp_L_holds_287 Qm (wp_L_holds_237 Qm n) κ y13 x19 M))))))))
def wp_L_holds_234 (Qm : Int → Prop) (κ : Nat → Int) (y12 : Int) (M : Mem) : Prop := (∃ n105 : Nat, wp_L_holds_237 Qm n105 κ y12 0 M)
def wp_L_holds_117 (Qm : Int → Prop) : Nat → (Nat → Int) → Int → Int → Mem → Prop
  | 0 => fun _ _ _ _ => False
  | n + 1 => fun κ y12 y13 M => (((M 112 0 0) ≤ y13 → wp_L_holds_234 Qm κ y12 M) ∧ (y13 < (M 112 0 0) → ((y12 = 0 → wp_L_holds_234 Qm κ y12 M) ∧ (¬ y12 = 0 → (inR (501 + y13)) ∧ (0 ≤ (501 + y13) ∧ (501 + y13) ≤ 1000) ∧ ∀ x108 : Int, 0 ≤ x108 → x108 < 1000000 → (inR (4 * y13)) ∧ (2 < (Int.tmod x108 5) → (inR ((Int.tmod x108 5) - 2)) ∧ True) ∧ (inR (if (Int.tmod x108 5) ≤ 2 then (0 : Int) else ((Int.tmod x108 5) - 2))) ∧ (0 ≤ (4 * y13) ∧ (4 * y13) < 16) ∧ ∀ M118 : Mem, M118 = up M 104 0 (4 * y13) (if (Int.tmod x108 5) ≤ 2 then (0 : Int) else ((Int.tmod x108 5) - 2)) → (inR (4 * y13)) ∧ (inR ((4 * y13) + 1)) ∧ (0 < (if ¬ (Int.tmod x108 2) = 0 then (25 : Int) else 60)) ∧ (inR (1 + (Int.tmod (Int.tdiv x108 5) (if ¬ (Int.tmod x108 2) = 0 then (25 : Int) else 60)))) ∧ (0 ≤ ((4 * y13) + 1) ∧ ((4 * y13) + 1) < 16) ∧ ∀ M131 : Mem, M131 = up M118 104 0 ((4 * y13) + 1) (1 + (Int.tmod (Int.tdiv x108 5) (if ¬ (Int.tmod x108 2) = 0 then (25 : Int) else 60))) → (inR (4 * y13)) ∧ (0 ≤ (4 * y13) ∧ (4 * y13) < 16) ∧ (inR (4 * y13)) ∧ (inR ((4 * y13) + 1)) ∧ (0 ≤ ((4 * y13) + 1) ∧ ((4 * y13) + 1) < 16) ∧ wp_X9_column κ (M131 104 0 (4 * y13)) (M131 104 0 ((4 * y13) + 1)) M131 (fun _ _ => False) fun (x140 : Int) (κ143 : Nat → Int) (M142 : Mem) => ∃ M145 : Mem, Gh M142 M145 ∧ (inR (y13 + 1)) ∧ (0 ≤ (y13 + 1) ∧ (y13 + 1) ≤ 4) ∧ wp_L_holds_117 Qm n κ143 (if ¬ x140 = y13 then (0 : Int) else 1) (y13 + 1) M145))))
def wp_L_holds_85 (Qm : Int → Prop) (κ : Nat → Int) (M : Mem) : Prop := ∀ M6 : Mem, M6 = up M 112 0 3 60 → ∀ M8 : Mem, M8 = up M6 112 0 4 30 → ∀ x10 : Int, 0 ≤ x10 → x10 < 4 → (inR (1 + x10)) ∧ ∀ M13 : Mem, M13 = up M8 112 0 0 (1 + x10) → (∃ n152 : Nat, wp_L_holds_117 Qm n152 κ 0 0 M13)
def wp_L_holds_66 (Qm : Int → Prop) (κ : Nat → Int) (M : Mem) : Prop := wp_X9_look M fun (x2 : Int) (M1 : Mem) => ∃ M4 : Mem, Gh M1 M4 ∧ ((¬ x2 = 1 → wp_L_holds_85 Qm κ M4) ∧ (x2 = 1 → wp_X9_look M4 fun (x154 : Int) (M153 : Mem) => ∃ M156 : Mem, Gh M153 M156 ∧ ∀ M161 : Mem, M161 = up M156 112 0 3 60 → ∀ M163 : Mem, M163 = up M161 112 0 4 30 → ∀ x165 : Int, 0 ≤ x165 → x165 < 4 → (inR (1 + x165)) ∧ ∀ M168 : Mem, M168 = up M163 112 0 0 (1 + x165) → (∃ n170 : Nat, wp_L_holds_117 Qm n170 κ (if ¬ x154 = 0 then (0 : Int) else 1) 0 M168)))
set_option maxHeartbeats 4000000 in
set_option maxRecDepth 100000 in
theorem t_L_holds_691 {κb : Nat → Int} (X0 : CX p m c cL_holds 19 s args RL G B κb meth (some .boolean)) (N : NcA s) (V : LV s B b L xs) (hlt : l.stackTraces = false) (he0 : e0 = G.2.2.2.2.2) (hRr : RmOK R 12) (hRc : 9000 ≤ R.cells) (hRs : 400000 ≤ R.slots) {Qm : Int → Prop} (hQm : ∀ v : Int, Qm v → ∀ (H : Heap) (locs : List Loc), va_S (fun q => B ≤ q) s.heap H locs → ∀ (ls : Array Slot), lv_has ls 19 [(12, .int (Int32.ofInt v))] → ∀ cl sl : Nat, cl ≤ 9000 → sl ≤ 400000 → W p l e R s m args below meth c H locs cl sl Q (F0 m 697 ls [])) {K237 : (Nat → Int) → Int → Int → Mem → Prop} (hK237 : ∀ (α : Ax) (κ : Nat → Int), ∀ y12 : Int, ∀ y13 : Int, ∀ M : Mem, K237 κ y12 y13 M → kOK κ → inR y12 → inR y13 → (0 ≤ y13 ∧ y13 ≤ 100) → ∀ cl sl : Nat, (cl : Int) ≤ 100 + 60 * y13 → (sl : Int) ≤ 30000 + 3000 * y13 → ∀ (H : Heap) (locs : List Loc), Rp G e0 α κ B M H → va_S (fun q => B ≤ q) s.heap H locs → ∀ (ls : Array Slot), lv_has ls 19 [(0, .ref b), (1, .ref (α 10 0)), (2, .ref (α 104 0)), (3, .ref (α 105 0)), (4, .ref (α 106 0)), (5, .ref (α 107 0)), (6, .ref (α 108 0)), (7, .ref (α 109 0)), (8, .ref (α 110 0)), (9, .ref (α 111 0)), (10, .ref (α 112 0)), (11, .ref (α 113 0)), (12, .int (Int32.ofInt y12)), (13, .int (Int32.ofInt y13))] → W p l e R s m args below meth c H locs cl sl Q (F0 m 237 ls [])) : ∀ (α : Ax) (κ : Nat → Int), ∀ y12 : Int, ∀ y13 : Int, ∀ M : Mem, wp_L_holds_691 Qm K237 κ y12 y13 M → kOK κ → inR y12 → inR y13 → (0 ≤ y13 ∧ y13 ≤ 100) → ∀ cl sl : Nat, (cl : Int) ≤ 159 + 60 * y13 → (sl : Int) ≤ 32400 + 3000 * y13 → ∀ (H : Heap) (locs : List Loc), Rp G e0 α κ B M H → va_S (fun q => B ≤ q) s.heap H locs → ∀ (ls : Array Slot), lv_has ls 19 [(0, .ref b), (1, .ref (α 10 0)), (2, .ref (α 104 0)), (3, .ref (α 105 0)), (4, .ref (α 106 0)), (5, .ref (α 107 0)), (6, .ref (α 108 0)), (7, .ref (α 109 0)), (8, .ref (α 110 0)), (9, .ref (α 111 0)), (10, .ref (α 112 0)), (11, .ref (α 113 0)), (12, .int (Int32.ofInt y12)), (13, .int (Int32.ofInt y13))] → W p l e R s m args below meth c H locs cl sl Q (F0 m 691 ls []) := by
  intro α κ y12 y13 M hw hκ hy12 hy13 hbd cl sl hc1 hc2 H locs hR hS ls hl
  have X := X0.re hκ
  have hw : (inR (y13 + 1)) ∧ (0 ≤ (y13 + 1) ∧ (y13 + 1) ≤ 100) ∧ K237 κ y12 (y13 + 1) M := hw
  have c30 := hw.1
  have hw := hw.2
  refine lv_iinc (v := Int32.ofInt (y13 + 1)) (lv' := [(13, .int (Int32.ofInt (y13 + 1))), (0, .ref b), (1, .ref (α 10 0)), (2, .ref (α 104 0)), (3, .ref (α 105 0)), (4, .ref (α 106 0)), (5, .ref (α 107 0)), (6, .ref (α 108 0)), (7, .ref (α 109 0)), (8, .ref (α 110 0)), (9, .ref (α 111 0)), (10, .ref (α 112 0)), (11, .ref (α 113 0)), (12, .int (Int32.ofInt y12))]) X.1.1 X.1.2.1 dL_holds_691 hl (k := 13) rfl (Int32.ofInt_add _ _).symm (by decide) rfl (fun ls hl => ?_)
  refine lv_goto (tgt := 237) X.1.1 X.1.2.1 dL_holds_694 (by decide) ?_
  have c31 := hw.1
  have hw := hw.2
  exact hK237 α κ _ _ _ hw X.2.2.1 hy12 c30 c31 _ _ (by omega) (by omega) _ _ hR hS _ (lv_sub hl [1, 2, 3, 4, 5, 6, 7, 8, 9, 10, 11, 12, 13, 0] rfl)
set_option maxHeartbeats 4000000 in
set_option maxRecDepth 100000 in
theorem t_L_holds_620 {κb : Nat → Int} (X0 : CX p m c cL_holds 19 s args RL G B κb meth (some .boolean)) (N : NcA s) (V : LV s B b L xs) (hlt : l.stackTraces = false) (he0 : e0 = G.2.2.2.2.2) (hRr : RmOK R 12) (hRc : 9000 ≤ R.cells) (hRs : 400000 ≤ R.slots) {Qm : Int → Prop} (hQm : ∀ v : Int, Qm v → ∀ (H : Heap) (locs : List Loc), va_S (fun q => B ≤ q) s.heap H locs → ∀ (ls : Array Slot), lv_has ls 19 [(12, .int (Int32.ofInt v))] → ∀ cl sl : Nat, cl ≤ 9000 → sl ≤ 400000 → W p l e R s m args below meth c H locs cl sl Q (F0 m 697 ls [])) {K237 : (Nat → Int) → Int → Int → Mem → Prop} (hK237 : ∀ (α : Ax) (κ : Nat → Int), ∀ y12 : Int, ∀ y13 : Int, ∀ M : Mem, K237 κ y12 y13 M → kOK κ → inR y12 → inR y13 → (0 ≤ y13 ∧ y13 ≤ 100) → ∀ cl sl : Nat, (cl : Int) ≤ 100 + 60 * y13 → (sl : Int) ≤ 30000 + 3000 * y13 → ∀ (H : Heap) (locs : List Loc), Rp G e0 α κ B M H → va_S (fun q => B ≤ q) s.heap H locs → ∀ (ls : Array Slot), lv_has ls 19 [(0, .ref b), (1, .ref (α 10 0)), (2, .ref (α 104 0)), (3, .ref (α 105 0)), (4, .ref (α 106 0)), (5, .ref (α 107 0)), (6, .ref (α 108 0)), (7, .ref (α 109 0)), (8, .ref (α 110 0)), (9, .ref (α 111 0)), (10, .ref (α 112 0)), (11, .ref (α 113 0)), (12, .int (Int32.ofInt y12)), (13, .int (Int32.ofInt y13))] → W p l e R s m args below meth c H locs cl sl Q (F0 m 237 ls [])) : ∀ n : Nat, ∀ (α : Ax) (κ : Nat → Int), ∀ y12 : Int, ∀ y13 : Int, ∀ y16 : Int, ∀ y17 : Int, ∀ y18 : Int, ∀ M : Mem, wp_L_holds_620 Qm K237 n κ y12 y13 y16 y17 y18 M → kOK κ → inR y12 → inR y13 → inR y16 → inR y17 → inR y18 → (0 ≤ y13 ∧ y13 ≤ 100) → ∀ cl sl : Nat, (cl : Int) ≤ 159 + 60 * y13 → (sl : Int) ≤ 32400 + 3000 * y13 → ∀ (H : Heap) (locs : List Loc), Rp G e0 α κ B M H → va_S (fun q => B ≤ q) s.heap H locs → ∀ (ls : Array Slot), lv_has ls 19 [(0, .ref b), (1, .ref (α 10 0)), (2, .ref (α 104 0)), (3, .ref (α 105 0)), (4, .ref (α 106 0)), (5, .ref (α 107 0)), (6, .ref (α 108 0)), (7, .ref (α 109 0)), (8, .ref (α 110 0)), (9, .ref (α 111 0)), (10, .ref (α 112 0)), (11, .ref (α 113 0)), (12, .int (Int32.ofInt y12)), (13, .int (Int32.ofInt y13)), (16, .int (Int32.ofInt y16)), (17, .int (Int32.ofInt y17)), (18, .int (Int32.ofInt y18))] → W p l e R s m args below meth c H locs cl sl Q (F0 m 620 ls []) := by
  intro n
  induction n with
  | zero =>
    intro α κ y12 y13 y16 y17 y18 M hw hκ hy12 hy13 hy16 hy17 hy18 hbd cl sl hc1 hc2 H locs hR hS ls hl
    exact hw.elim
  | succ n ih =>
    intro α κ y12 y13 y16 y17 y18 M hw hκ hy12 hy13 hy16 hy17 hy18 hbd cl sl hc1 hc2 H locs hR hS ls hl
    have X := X0.re hκ
    have hw : ((4 ≤ y18 → wp_L_holds_691 Qm K237 κ y12 y13 M) ∧ (y18 < 4 → ((y12 = 0 → wp_L_holds_691 Qm K237 κ y12 y13 M) ∧ (¬ y12 = 0 → (inR (4 * y17)) ∧ (inR ((4 * y17) + 3)) ∧ (0 ≤ ((4 * y17) + 3) ∧ ((4 * y17) + 3) < 16) ∧ ((¬ (M 104 0 ((4 * y17) + 3)) = 0 → wp_L_holds_691 Qm K237 κ y12 y13 M) ∧ ((M 104 0 ((4 * y17) + 3)) = 0 → (0 ≤ y16 ∧ y16 < 10) ∧ wo_X9_edge (M 106 0 y16) y17 y18 M fun (x51 : Int) (M50 : Mem) => wp_L_edge y16 y17 y18 M50 fun (x54 : Int) (M53 : Mem) => (inR (y18 + 1)) ∧ wp_L_holds_620 Qm K237 n κ (if ¬ x51 = x54 then (0 : Int) else 1) y13 y16 y17 (y18 + 1) M53)))))) := hw
    refine lv_iload X.1.1 X.1.2.1 dL_holds_620 (lv_at hl 16 rfl) ?_
    refine sa_const X.1 dL_holds_622 ?_
    refine sa_icmp_ge (tgt := 691) X.1 hy18 (inR_c (a := 4) rfl) dL_holds_623 (by decide) (fun hc => ?_) (fun hc => ?_)
    · have hw := hw.1 hc
      exact t_L_holds_691 X0 N V hlt he0 hRr hRc hRs hQm hK237 α κ _ _ _ hw X.2.2.1 hy12 hy13 hbd _ _ (by omega) (by omega) _ _ hR hS _ (lv_sub hl [0, 1, 2, 3, 4, 5, 6, 7, 8, 9, 10, 11, 12, 13] rfl)
    · have hw := hw.2 hc
      refine lv_iload X.1.1 X.1.2.1 dL_holds_626 (lv_at hl 12 rfl) ?_
      refine sa_if_eq (tgt := 691) X.1 hy12 dL_holds_628 (by decide) (fun hc => ?_) (fun hc => ?_)
      · have hw := hw.1 hc
        exact t_L_holds_691 X0 N V hlt he0 hRr hRc hRs hQm hK237 α κ _ _ _ hw X.2.2.1 hy12 hy13 hbd _ _ (by omega) (by omega) _ _ hR hS _ (lv_sub hl [0, 1, 2, 3, 4, 5, 6, 7, 8, 9, 10, 11, 12, 13] rfl)
      · have hw := hw.2 hc
        refine lv_aload_n X.1.1 X.1.2.1 dL_holds_631 rfl (lv_at hl 2 rfl) ?_
        refine sa_const X.1 dL_holds_632 ?_
        refine lv_iload X.1.1 X.1.2.1 dL_holds_633 (lv_at hl 15 rfl) ?_
        have c44 := hw.1
        have hw := hw.2
        refine sa_imul X.1 dL_holds_635 ?_
        refine sa_const X.1 dL_holds_636 ?_
        have c45 := hw.1
        have hw := hw.2
        refine sa_iadd X.1 dL_holds_637 ?_
        have c46 := hw.1
        have hw := hw.2
        refine ra_104 X hR (okf X.2.2.1 rfl) c46 dL_holds_638 ?_
        have r47 := hR.r 104 0 ((4 * y17) + 3)
        refine sa_if_ne (tgt := 691) X.1 r47 dL_holds_639 (by decide) (fun hc => ?_) (fun hc => ?_)
        · have hw := hw.1 hc
          exact t_L_holds_691 X0 N V hlt he0 hRr hRc hRs hQm hK237 α κ _ _ _ hw X.2.2.1 hy12 hy13 hbd _ _ (by omega) (by omega) _ _ hR hS _ (lv_sub hl [0, 1, 2, 3, 4, 5, 6, 7, 8, 9, 10, 11, 12, 13] rfl)
        · have hw := hw.2 hc
          refine lv_aload_n X.1.1 X.1.2.1 dL_holds_642 rfl (lv_at hl 1 rfl) ?_
          refine lv_aload X.1.1 X.1.2.1 dL_holds_643 (lv_at hl 4 rfl) ?_
          refine lv_iload X.1.1 X.1.2.1 dL_holds_645 (lv_at hl 14 rfl) ?_
          have c48 := hw.1
          have hw := hw.2
          refine ra_106 X hR (okf X.2.2.1 rfl) c48 dL_holds_647 ?_
          have r49 := hR.r 106 0 y16
          refine lv_iload X.1.1 X.1.2.1 dL_holds_648 (lv_at hl 15 rfl) ?_
          refine lv_iload X.1.1 X.1.2.1 dL_holds_650 (lv_at hl 16 rfl) ?_
          refine co_X9_edge X r49 hy17 hy18 (kc := 12) hRr ⟨by omega, by omega⟩ (by decide) hR hS kw_1409 hl.1 dL_holds_652 (Nat.le_of_ble_eq_true rfl) hw (fun x51 M50 H locs hw r52 hR hS => ?_)
          refine lv_aload_n X.1.1 X.1.2.1 dL_holds_655 rfl (lv_at hl 2 rfl) ?_
          refine lv_aload X.1.1 X.1.2.1 dL_holds_656 (lv_at hl 4 rfl) ?_
          refine lv_aload X.1.1 X.1.2.1 dL_holds_658 (lv_at hl 5 rfl) ?_
          refine lv_aload X.1.1 X.1.2.1 dL_holds_660 (lv_at hl 8 rfl) ?_
          refine lv_aload X.1.1 X.1.2.1 dL_holds_662 (lv_at hl 9 rfl) ?_
          refine lv_aload X.1.1 X.1.2.1 dL_holds_664 (lv_at hl 10 rfl) ?_
          refine lv_iload X.1.1 X.1.2.1 dL_holds_666 (lv_at hl 14 rfl) ?_
          refine lv_iload X.1.1 X.1.2.1 dL_holds_668 (lv_at hl 15 rfl) ?_
          refine lv_iload X.1.1 X.1.2.1 dL_holds_670 (lv_at hl 16 rfl) ?_
          refine cs_L_edge X hy16 hy17 hy18 (kc := 12) hRr ⟨by omega, by omega⟩ (by decide) hR hS kw_1434 hl.1 dL_holds_672 (Nat.le_of_ble_eq_true rfl) hw (fun x54 M53 H locs hw r55 hR hS => ?_)
          have r56 := inR_ite (c := ¬ x51 = x54) (inR_c (a := 0) rfl) (inR_c (a := 1) rfl)
          refine cut_j (A := ∀ v57 : Int, v57 = (if ¬ x51 = x54 then (0 : Int) else 1) → W p l e R s m args below meth c H locs cl sl Q (F0 m 683 ls [.int (Int32.ofInt v57)])) (fun J58 => ?_) ?_
          · refine sa_icmp_ne (tgt := 682) X.1 r52 r55 dL_holds_675 (by decide) (fun hc => ?_) (fun hc => ?_)
            · skip
              refine sa_const X.1 dL_holds_682 ?_
              exact J58 (0) (if_pos (c := ¬ x51 = x54) hc).symm
            · skip
              refine sa_const X.1 dL_holds_678 ?_
              refine lv_goto (tgt := 683) X.1.1 X.1.2.1 dL_holds_679 (by decide) ?_
              exact J58 (1) (if_neg (c := ¬ x51 = x54) (fun z => z hc)).symm
          intro v57 hv57
          subst hv57
          refine lv_istore (lv' := [(12, .int (Int32.ofInt (if ¬ x51 = x54 then (0 : Int) else 1))), (0, .ref b), (1, .ref (α 10 0)), (2, .ref (α 104 0)), (3, .ref (α 105 0)), (4, .ref (α 106 0)), (5, .ref (α 107 0)), (6, .ref (α 108 0)), (7, .ref (α 109 0)), (8, .ref (α 110 0)), (9, .ref (α 111 0)), (10, .ref (α 112 0)), (11, .ref (α 113 0)), (13, .int (Int32.ofInt y13)), (16, .int (Int32.ofInt y16)), (17, .int (Int32.ofInt y17)), (18, .int (Int32.ofInt y18))]) X.1.1 X.1.2.1 dL_holds_683 hl (by decide) rfl (fun ls hl => ?_)
          have c59 := hw.1
          have hw := hw.2
          refine lv_iinc (v := Int32.ofInt (y18 + 1)) (lv' := [(18, .int (Int32.ofInt (y18 + 1))), (12, .int (Int32.ofInt (if ¬ x51 = x54 then (0 : Int) else 1))), (0, .ref b), (1, .ref (α 10 0)), (2, .ref (α 104 0)), (3, .ref (α 105 0)), (4, .ref (α 106 0)), (5, .ref (α 107 0)), (6, .ref (α 108 0)), (7, .ref (α 109 0)), (8, .ref (α 110 0)), (9, .ref (α 111 0)), (10, .ref (α 112 0)), (11, .ref (α 113 0)), (13, .int (Int32.ofInt y13)), (16, .int (Int32.ofInt y16)), (17, .int (Int32.ofInt y17))]) X.1.1 X.1.2.1 dL_holds_685 hl (k := 16) rfl (Int32.ofInt_add _ _).symm (by decide) rfl (fun ls hl => ?_)
          refine lv_goto (tgt := 620) X.1.1 X.1.2.1 dL_holds_688 (by decide) ?_
          exact ih α κ _ _ _ _ _ _ hw X.2.2.1 r56 hy13 hy16 hy17 c59 hbd _ _ (by omega) (by omega) _ _ hR hS _ (lv_sub hl [2, 3, 4, 5, 6, 7, 8, 9, 10, 11, 12, 13, 1, 14, 15, 16, 0] rfl)
set_option maxHeartbeats 4000000 in
set_option maxRecDepth 100000 in
theorem t_L_holds_614 {κb : Nat → Int} (X0 : CX p m c cL_holds 19 s args RL G B κb meth (some .boolean)) (N : NcA s) (V : LV s B b L xs) (hlt : l.stackTraces = false) (he0 : e0 = G.2.2.2.2.2) (hRr : RmOK R 12) (hRc : 9000 ≤ R.cells) (hRs : 400000 ≤ R.slots) {Qm : Int → Prop} (hQm : ∀ v : Int, Qm v → ∀ (H : Heap) (locs : List Loc), va_S (fun q => B ≤ q) s.heap H locs → ∀ (ls : Array Slot), lv_has ls 19 [(12, .int (Int32.ofInt v))] → ∀ cl sl : Nat, cl ≤ 9000 → sl ≤ 400000 → W p l e R s m args below meth c H locs cl sl Q (F0 m 697 ls [])) {K237 : (Nat → Int) → Int → Int → Mem → Prop} (hK237 : ∀ (α : Ax) (κ : Nat → Int), ∀ y12 : Int, ∀ y13 : Int, ∀ M : Mem, K237 κ y12 y13 M → kOK κ → inR y12 → inR y13 → (0 ≤ y13 ∧ y13 ≤ 100) → ∀ cl sl : Nat, (cl : Int) ≤ 100 + 60 * y13 → (sl : Int) ≤ 30000 + 3000 * y13 → ∀ (H : Heap) (locs : List Loc), Rp G e0 α κ B M H → va_S (fun q => B ≤ q) s.heap H locs → ∀ (ls : Array Slot), lv_has ls 19 [(0, .ref b), (1, .ref (α 10 0)), (2, .ref (α 104 0)), (3, .ref (α 105 0)), (4, .ref (α 106 0)), (5, .ref (α 107 0)), (6, .ref (α 108 0)), (7, .ref (α 109 0)), (8, .ref (α 110 0)), (9, .ref (α 111 0)), (10, .ref (α 112 0)), (11, .ref (α 113 0)), (12, .int (Int32.ofInt y12)), (13, .int (Int32.ofInt y13))] → W p l e R s m args below meth c H locs cl sl Q (F0 m 237 ls [])) : ∀ (α : Ax) (κ : Nat → Int), ∀ y13 : Int, ∀ y16 : Int, ∀ y17 : Int, ∀ M : Mem, wp_L_holds_614 Qm K237 κ y13 y16 y17 M → kOK κ → inR y13 → inR y16 → inR y17 → (0 ≤ y13 ∧ y13 ≤ 100) → ∀ cl sl : Nat, (cl : Int) ≤ 159 + 60 * y13 → (sl : Int) ≤ 32400 + 3000 * y13 → ∀ (H : Heap) (locs : List Loc), Rp G e0 α κ B M H → va_S (fun q => B ≤ q) s.heap H locs → ∀ (ls : Array Slot), lv_has ls 19 [(0, .ref b), (1, .ref (α 10 0)), (2, .ref (α 104 0)), (3, .ref (α 105 0)), (4, .ref (α 106 0)), (5, .ref (α 107 0)), (6, .ref (α 108 0)), (7, .ref (α 109 0)), (8, .ref (α 110 0)), (9, .ref (α 111 0)), (10, .ref (α 112 0)), (11, .ref (α 113 0)), (13, .int (Int32.ofInt y13)), (16, .int (Int32.ofInt y16)), (17, .int (Int32.ofInt y17))] → W p l e R s m args below meth c H locs cl sl Q (F0 m 614 ls []) := by
  intro α κ y13 y16 y17 M hw hκ hy13 hy16 hy17 hbd cl sl hc1 hc2 H locs hR hS ls hl
  have X := X0.re hκ
  have hw : (∃ n60 : Nat, wp_L_holds_620 Qm K237 n60 κ 0 y13 y16 y17 0 M) := hw
  refine sa_const X.1 dL_holds_614 ?_
  refine lv_istore (lv' := [(12, .int (Int32.ofInt 0)), (0, .ref b), (1, .ref (α 10 0)), (2, .ref (α 104 0)), (3, .ref (α 105 0)), (4, .ref (α 106 0)), (5, .ref (α 107 0)), (6, .ref (α 108 0)), (7, .ref (α 109 0)), (8, .ref (α 110 0)), (9, .ref (α 111 0)), (10, .ref (α 112 0)), (11, .ref (α 113 0)), (13, .int (Int32.ofInt y13)), (16, .int (Int32.ofInt y16)), (17, .int (Int32.ofInt y17))]) X.1.1 X.1.2.1 dL_holds_615 hl (by decide) rfl (fun ls hl => ?_)
  refine sa_const X.1 dL_holds_617 ?_
  refine lv_istore (lv' := [(18, .int (Int32.ofInt 0)), (12, .int (Int32.ofInt 0)), (0, .ref b), (1, .ref (α 10 0)), (2, .ref (α 104 0)), (3, .ref (α 105 0)), (4, .ref (α 106 0)), (5, .ref (α 107 0)), (6, .ref (α 108 0)), (7, .ref (α 109 0)), (8, .ref (α 110 0)), (9, .ref (α 111 0)), (10, .ref (α 112 0)), (11, .ref (α 113 0)), (13, .int (Int32.ofInt y13)), (16, .int (Int32.ofInt y16)), (17, .int (Int32.ofInt y17))]) X.1.1 X.1.2.1 dL_holds_618 hl (by decide) rfl (fun ls hl => ?_)
  obtain ⟨n60, hw⟩ := hw
  exact t_L_holds_620 X0 N V hlt he0 hRr hRc hRs hQm hK237 n60 α κ _ _ _ _ _ _ hw X.2.2.1 (inR_c (a := 0) rfl) hy13 hy16 hy17 (inR_c (a := 0) rfl) hbd _ _ (by omega) (by omega) _ _ hR hS _ (lv_sub hl [2, 3, 4, 5, 6, 7, 8, 9, 10, 11, 12, 13, 1, 14, 15, 16, 0] rfl)
set_option maxHeartbeats 4000000 in
set_option maxRecDepth 100000 in
theorem t_L_holds_530 {κb : Nat → Int} (X0 : CX p m c cL_holds 19 s args RL G B κb meth (some .boolean)) (N : NcA s) (V : LV s B b L xs) (hlt : l.stackTraces = false) (he0 : e0 = G.2.2.2.2.2) (hRr : RmOK R 12) (hRc : 9000 ≤ R.cells) (hRs : 400000 ≤ R.slots) {Qm : Int → Prop} (hQm : ∀ v : Int, Qm v → ∀ (H : Heap) (locs : List Loc), va_S (fun q => B ≤ q) s.heap H locs → ∀ (ls : Array Slot), lv_has ls 19 [(12, .int (Int32.ofInt v))] → ∀ cl sl : Nat, cl ≤ 9000 → sl ≤ 400000 → W p l e R s m args below meth c H locs cl sl Q (F0 m 697 ls [])) {K237 : (Nat → Int) → Int → Int → Mem → Prop} (hK237 : ∀ (α : Ax) (κ : Nat → Int), ∀ y12 : Int, ∀ y13 : Int, ∀ M : Mem, K237 κ y12 y13 M → kOK κ → inR y12 → inR y13 → (0 ≤ y13 ∧ y13 ≤ 100) → ∀ cl sl : Nat, (cl : Int) ≤ 100 + 60 * y13 → (sl : Int) ≤ 30000 + 3000 * y13 → ∀ (H : Heap) (locs : List Loc), Rp G e0 α κ B M H → va_S (fun q => B ≤ q) s.heap H locs → ∀ (ls : Array Slot), lv_has ls 19 [(0, .ref b), (1, .ref (α 10 0)), (2, .ref (α 104 0)), (3, .ref (α 105 0)), (4, .ref (α 106 0)), (5, .ref (α 107 0)), (6, .ref (α 108 0)), (7, .ref (α 109 0)), (8, .ref (α 110 0)), (9, .ref (α 111 0)), (10, .ref (α 112 0)), (11, .ref (α 113 0)), (12, .int (Int32.ofInt y12)), (13, .int (Int32.ofInt y13))] → W p l e R s m args below meth c H locs cl sl Q (F0 m 237 ls [])) : ∀ (α : Ax) (κ : Nat → Int), ∀ y12 : Int, ∀ y13 : Int, ∀ y14 : Int, ∀ M : Mem, wp_L_holds_530 Qm K237 κ y12 y13 y14 M → kOK κ → inR y12 → inR y13 → inR y14 → (0 ≤ y13 ∧ y13 ≤ 100) → ∀ cl sl : Nat, (cl : Int) ≤ 107 + 60 * y13 → (sl : Int) ≤ 32017 + 3000 * y13 → ∀ (H : Heap) (locs : List Loc), Rp G e0 α κ B M H → va_S (fun q => B ≤ q) s.heap H locs → ∀ (ls : Array Slot), lv_has ls 19 [(0, .ref b), (1, .ref (α 10 0)), (2, .ref (α 104 0)), (3, .ref (α 105 0)), (4, .ref (α 106 0)), (5, .ref (α 107 0)), (6, .ref (α 108 0)), (7, .ref (α 109 0)), (8, .ref (α 110 0)), (9, .ref (α 111 0)), (10, .ref (α 112 0)), (11, .ref (α 113 0)), (12, .int (Int32.ofInt y12)), (13, .int (Int32.ofInt y13)), (14, .int (Int32.ofInt y14))] → W p l e R s m args below meth c H locs cl sl Q (F0 m 530 ls []) := by
  intro α κ y12 y13 y14 M hw hκ hy12 hy13 hy14 hbd cl sl hc1 hc2 H locs hR hS ls hl
  have X := X0.re hκ
  have hw : ((y12 = 0 → wp_L_holds_691 Qm K237 κ y12 y13 M) ∧ (¬ y12 = 0 → ((¬ (Int.tmod y13 5) = 4 → wp_L_holds_691 Qm K237 κ y12 y13 M) ∧ ((Int.tmod y13 5) = 4 → (0 < (M 112 0 1)) ∧ (0 < (M 112 0 0)) ∧ wp_L_areWidths M fun (x41 : Int) (M43 : Mem) => ((x41 = 0 → wp_L_holds_614 Qm K237 κ y13 (Int.tmod (Int.tdiv y14 3) (M 112 0 1)) (Int.tmod (Int.tdiv y14 30) (M 112 0 0)) M43) ∧ (¬ x41 = 0 → wp_L_arePages κ y14 M43 fun (x61 : Int) (M63 : Mem) => (∃ n67 : Nat, wp_L_holds_620 Qm K237 n67 κ (if x61 = 0 then (0 : Int) else 1) y13 (Int.tmod (Int.tdiv y14 3) (M 112 0 1)) (Int.tmod (Int.tdiv y14 30) (M 112 0 0)) 0 M63))))))) := hw
  refine lv_iload X.1.1 X.1.2.1 dL_holds_530 (lv_at hl 12 rfl) ?_
  refine sa_if_eq (tgt := 691) X.1 hy12 dL_holds_532 (by decide) (fun hc => ?_) (fun hc => ?_)
  · have hw := hw.1 hc
    exact t_L_holds_691 X0 N V hlt he0 hRr hRc hRs hQm hK237 α κ _ _ _ hw X.2.2.1 hy12 hy13 hbd _ _ (by omega) (by omega) _ _ hR hS _ (lv_sub hl [0, 1, 2, 3, 4, 5, 6, 7, 8, 9, 10, 11, 12, 13] rfl)
  · have hw := hw.2 hc
    refine lv_iload X.1.1 X.1.2.1 dL_holds_535 (lv_at hl 13 rfl) ?_
    refine sa_const X.1 dL_holds_537 ?_
    have r32 := inR_tmod hy13 (inR_c (a := 5) rfl) (by decide)
    refine sa_irem X.1 hy13 (inR_c (a := 5) rfl) (Int.ne_of_gt (by decide)) dL_holds_538 ?_
    refine sa_const X.1 dL_holds_539 ?_
    refine sa_icmp_ne (tgt := 691) X.1 r32 (inR_c (a := 4) rfl) dL_holds_540 (by decide) (fun hc => ?_) (fun hc => ?_)
    · have hw := hw.1 hc
      exact t_L_holds_691 X0 N V hlt he0 hRr hRc hRs hQm hK237 α κ _ _ _ hw X.2.2.1 hy12 hy13 hbd _ _ (by omega) (by omega) _ _ hR hS _ (lv_sub hl [0, 1, 2, 3, 4, 5, 6, 7, 8, 9, 10, 11, 12, 13] rfl)
    · have hw := hw.2 hc
      refine lv_iload X.1.1 X.1.2.1 dL_holds_543 (lv_at hl 14 rfl) ?_
      refine sa_const X.1 dL_holds_545 ?_
      have r33 := inR_tdiv hy14 (inR_c (a := 3) rfl) (by decide)
      refine sa_idiv X.1 hy14 (inR_c (a := 3) rfl) (Int.ne_of_gt (by decide)) dL_holds_546 ?_
      refine lv_aload X.1.1 X.1.2.1 dL_holds_547 (lv_at hl 10 rfl) ?_
      refine sa_const X.1 dL_holds_549 ?_
      refine ra_112 X hR (okf X.2.2.1 rfl) ⟨by decide, by decide⟩ dL_holds_550 ?_
      have r34 := hR.r 112 0 1
      have c35 := hw.1
      have hw := hw.2
      have r36 := inR_tmod r33 r34 c35
      refine sa_irem X.1 r33 r34 (Int.ne_of_gt c35) dL_holds_551 ?_
      refine lv_istore (lv' := [(16, .int (Int32.ofInt (Int.tmod (Int.tdiv y14 3) (M 112 0 1)))), (0, .ref b), (1, .ref (α 10 0)), (2, .ref (α 104 0)), (3, .ref (α 105 0)), (4, .ref (α 106 0)), (5, .ref (α 107 0)), (6, .ref (α 108 0)), (7, .ref (α 109 0)), (8, .ref (α 110 0)), (9, .ref (α 111 0)), (10, .ref (α 112 0)), (11, .ref (α 113 0)), (12, .int (Int32.ofInt y12)), (13, .int (Int32.ofInt y13)), (14, .int (Int32.ofInt y14))]) X.1.1 X.1.2.1 dL_holds_552 hl (by decide) rfl (fun ls hl => ?_)
      refine lv_iload X.1.1 X.1.2.1 dL_holds_554 (lv_at hl 15 rfl) ?_
      refine sa_bipush X.1 dL_holds_556 (by decide) ?_
      have r37 := inR_tdiv hy14 (inR_c (a := 30) rfl) (by decide)
      refine sa_idiv X.1 hy14 (inR_c (a := 30) rfl) (Int.ne_of_gt (by decide)) dL_holds_558 ?_
      refine lv_aload X.1.1 X.1.2.1 dL_holds_559 (lv_at hl 11 rfl) ?_
      refine sa_const X.1 dL_holds_561 ?_
      refine ra_112 X hR (okf X.2.2.1 rfl) ⟨by decide, by decide⟩ dL_holds_562 ?_
      have r38 := hR.r 112 0 0
      have c39 := hw.1
      have hw := hw.2
      have r40 := inR_tmod r37 r38 c39
      refine sa_irem X.1 r37 r38 (Int.ne_of_gt c39) dL_holds_563 ?_
      refine lv_istore (lv' := [(17, .int (Int32.ofInt (Int.tmod (Int.tdiv y14 30) (M 112 0 0)))), (16, .int (Int32.ofInt (Int.tmod (Int.tdiv y14 3) (M 112 0 1)))), (0, .ref b), (1, .ref (α 10 0)), (2, .ref (α 104 0)), (3, .ref (α 105 0)), (4, .ref (α 106 0)), (5, .ref (α 107 0)), (6, .ref (α 108 0)), (7, .ref (α 109 0)), (8, .ref (α 110 0)), (9, .ref (α 111 0)), (10, .ref (α 112 0)), (11, .ref (α 113 0)), (12, .int (Int32.ofInt y12)), (13, .int (Int32.ofInt y13)), (14, .int (Int32.ofInt y14))]) X.1.1 X.1.2.1 dL_holds_564 hl (by decide) rfl (fun ls hl => ?_)
      refine lv_aload_n X.1.1 X.1.2.1 dL_holds_566 rfl (lv_at hl 3 rfl) ?_
      refine lv_aload_n X.1.1 X.1.2.1 dL_holds_567 rfl (lv_at hl 4 rfl) ?_
      refine lv_aload_n X.1.1 X.1.2.1 dL_holds_568 rfl (lv_at hl 5 rfl) ?_
      refine lv_aload X.1.1 X.1.2.1 dL_holds_569 (lv_at hl 6 rfl) ?_
      refine lv_aload X.1.1 X.1.2.1 dL_holds_571 (lv_at hl 7 rfl) ?_
      refine lv_aload X.1.1 X.1.2.1 dL_holds_573 (lv_at hl 8 rfl) ?_
      refine lv_aload X.1.1 X.1.2.1 dL_holds_575 (lv_at hl 9 rfl) ?_
      refine lv_aload X.1.1 X.1.2.1 dL_holds_577 (lv_at hl 12 rfl) ?_
      refine lv_aload X.1.1 X.1.2.1 dL_holds_579 (lv_at hl 13 rfl) ?_
      refine uc_call 10 (n := 9) (As := [.ref (α 10 0), .ref (α 104 0), .ref (α 105 0), .ref (α 106 0), .ref (α 107 0), .ref (α 108 0), .ref (α 109 0), .ref (α 112 0), .ref (α 113 0)]) (rest := []) X N hR hS (m_L_areWidths hlt X.2.2.1  hw) kw_1222 kw_1223 kw_37 kw_1224 ⟨by decide +kernel, by decide +kernel, by decide +kernel⟩ (rm_ok hRr (by decide) (by decide)) rfl rfl (Nat.le_of_ble_eq_true rfl) hl.1 dL_holds_581 ⟨by omega, by omega⟩ (fun x41 M43 H locs hw r42 hR hS => ?_)
      refine sa_if_eq (tgt := 614) X.1 r42 dL_holds_584 (by decide) (fun hc => ?_) (fun hc => ?_)
      · have hw := hw.1 hc
        exact t_L_holds_614 X0 N V hlt he0 hRr hRc hRs hQm hK237 α κ _ _ _ _ hw X.2.2.1 hy13 r36 r40 hbd _ _ (by omega) (by omega) _ _ hR hS _ (lv_sub hl [2, 3, 4, 5, 6, 7, 8, 9, 10, 11, 12, 13, 15, 1, 0] rfl)
      · have hw := hw.2 hc
        refine lv_aload_n X.1.1 X.1.2.1 dL_holds_587 rfl (lv_at hl 3 rfl) ?_
        refine lv_aload_n X.1.1 X.1.2.1 dL_holds_588 rfl (lv_at hl 4 rfl) ?_
        refine lv_aload_n X.1.1 X.1.2.1 dL_holds_589 rfl (lv_at hl 5 rfl) ?_
        refine lv_aload X.1.1 X.1.2.1 dL_holds_590 (lv_at hl 6 rfl) ?_
        refine lv_aload X.1.1 X.1.2.1 dL_holds_592 (lv_at hl 7 rfl) ?_
        refine lv_aload X.1.1 X.1.2.1 dL_holds_594 (lv_at hl 8 rfl) ?_
        refine lv_aload X.1.1 X.1.2.1 dL_holds_596 (lv_at hl 9 rfl) ?_
        refine lv_aload X.1.1 X.1.2.1 dL_holds_598 (lv_at hl 12 rfl) ?_
        refine lv_aload X.1.1 X.1.2.1 dL_holds_600 (lv_at hl 13 rfl) ?_
        refine lv_iload X.1.1 X.1.2.1 dL_holds_602 (lv_at hl 16 rfl) ?_
        refine uc_call 10 (n := 10) (As := [.ref (α 10 0), .ref (α 104 0), .ref (α 105 0), .ref (α 106 0), .ref (α 107 0), .ref (α 108 0), .ref (α 109 0), .ref (α 112 0), .ref (α 113 0), .int (Int32.ofInt y14)]) (rest := []) X N hR hS (m_L_arePages hlt X.2.2.1 hy14 hw) kw_1324 kw_1325 kw_37 kw_1326 ⟨by decide +kernel, by decide +kernel, by decide +kernel⟩ (rm_ok2 hRr (by decide) (by decide)) rfl rfl (Nat.le_of_ble_eq_true rfl) hl.1 dL_holds_604 ⟨by omega, by omega⟩ (fun x61 M63 H locs hw r62 hR hS => ?_)
        have r64 := inR_ite (c := x61 = 0) (inR_c (a := 0) rfl) (inR_c (a := 1) rfl)
        refine cut_j (A := ∀ v65 : Int, v65 = (if x61 = 0 then (0 : Int) else 1) → W p l e R s m args below meth c H locs (cl + 48) (sl + 353) Q (F0 m 615 ls [.int (Int32.ofInt v65)])) (fun J66 => ?_) ?_
        · refine sa_if_eq (tgt := 614) X.1 r62 dL_holds_607 (by decide) (fun hc => ?_) (fun hc => ?_)
          · skip
            refine sa_const X.1 dL_holds_614 ?_
            exact J66 (0) (if_pos (c := x61 = 0) hc).symm
          · skip
            refine sa_const X.1 dL_holds_610 ?_
            refine lv_goto (tgt := 615) X.1.1 X.1.2.1 dL_holds_611 (by decide) ?_
            exact J66 (1) (if_neg (c := x61 = 0) hc).symm
        intro v65 hv65
        subst hv65
        refine lv_istore (lv' := [(12, .int (Int32.ofInt (if x61 = 0 then (0 : Int) else 1))), (17, .int (Int32.ofInt (Int.tmod (Int.tdiv y14 30) (M 112 0 0)))), (16, .int (Int32.ofInt (Int.tmod (Int.tdiv y14 3) (M 112 0 1)))), (0, .ref b), (1, .ref (α 10 0)), (2, .ref (α 104 0)), (3, .ref (α 105 0)), (4, .ref (α 106 0)), (5, .ref (α 107 0)), (6, .ref (α 108 0)), (7, .ref (α 109 0)), (8, .ref (α 110 0)), (9, .ref (α 111 0)), (10, .ref (α 112 0)), (11, .ref (α 113 0)), (13, .int (Int32.ofInt y13)), (14, .int (Int32.ofInt y14))]) X.1.1 X.1.2.1 dL_holds_615 hl (by decide) rfl (fun ls hl => ?_)
        refine sa_const X.1 dL_holds_617 ?_
        refine lv_istore (lv' := [(18, .int (Int32.ofInt 0)), (12, .int (Int32.ofInt (if x61 = 0 then (0 : Int) else 1))), (17, .int (Int32.ofInt (Int.tmod (Int.tdiv y14 30) (M 112 0 0)))), (16, .int (Int32.ofInt (Int.tmod (Int.tdiv y14 3) (M 112 0 1)))), (0, .ref b), (1, .ref (α 10 0)), (2, .ref (α 104 0)), (3, .ref (α 105 0)), (4, .ref (α 106 0)), (5, .ref (α 107 0)), (6, .ref (α 108 0)), (7, .ref (α 109 0)), (8, .ref (α 110 0)), (9, .ref (α 111 0)), (10, .ref (α 112 0)), (11, .ref (α 113 0)), (13, .int (Int32.ofInt y13)), (14, .int (Int32.ofInt y14))]) X.1.1 X.1.2.1 dL_holds_618 hl (by decide) rfl (fun ls hl => ?_)
        obtain ⟨n67, hw⟩ := hw
        exact t_L_holds_620 X0 N V hlt he0 hRr hRc hRs hQm hK237 n67 α κ _ _ _ _ _ _ hw X.2.2.1 r64 hy13 r36 r40 (inR_c (a := 0) rfl) hbd _ _ (by omega) (by omega) _ _ hR hS _ (lv_sub hl [4, 5, 6, 7, 8, 9, 10, 11, 12, 13, 14, 15, 1, 16, 3, 2, 0] rfl)
set_option maxHeartbeats 4000000 in
set_option maxRecDepth 100000 in
theorem t_L_holds_287 {κb : Nat → Int} (X0 : CX p m c cL_holds 19 s args RL G B κb meth (some .boolean)) (N : NcA s) (V : LV s B b L xs) (hlt : l.stackTraces = false) (he0 : e0 = G.2.2.2.2.2) (hRr : RmOK R 12) (hRc : 9000 ≤ R.cells) (hRs : 400000 ≤ R.slots) {Qm : Int → Prop} (hQm : ∀ v : Int, Qm v → ∀ (H : Heap) (locs : List Loc), va_S (fun q => B ≤ q) s.heap H locs → ∀ (ls : Array Slot), lv_has ls 19 [(12, .int (Int32.ofInt v))] → ∀ cl sl : Nat, cl ≤ 9000 → sl ≤ 400000 → W p l e R s m args below meth c H locs cl sl Q (F0 m 697 ls [])) {K237 : (Nat → Int) → Int → Int → Mem → Prop} (hK237 : ∀ (α : Ax) (κ : Nat → Int), ∀ y12 : Int, ∀ y13 : Int, ∀ M : Mem, K237 κ y12 y13 M → kOK κ → inR y12 → inR y13 → (0 ≤ y13 ∧ y13 ≤ 100) → ∀ cl sl : Nat, (cl : Int) ≤ 100 + 60 * y13 → (sl : Int) ≤ 30000 + 3000 * y13 → ∀ (H : Heap) (locs : List Loc), Rp G e0 α κ B M H → va_S (fun q => B ≤ q) s.heap H locs → ∀ (ls : Array Slot), lv_has ls 19 [(0, .ref b), (1, .ref (α 10 0)), (2, .ref (α 104 0)), (3, .ref (α 105 0)), (4, .ref (α 106 0)), (5, .ref (α 107 0)), (6, .ref (α 108 0)), (7, .ref (α 109 0)), (8, .ref (α 110 0)), (9, .ref (α 111 0)), (10, .ref (α 112 0)), (11, .ref (α 113 0)), (12, .int (Int32.ofInt y12)), (13, .int (Int32.ofInt y13))] → W p l e R s m args below meth c H locs cl sl Q (F0 m 237 ls [])) : ∀ (α : Ax) (κ : Nat → Int), ∀ y13 : Int, ∀ y14 : Int, ∀ M : Mem, wp_L_holds_287 Qm K237 κ y13 y14 M → kOK κ → inR y13 → inR y14 → (0 ≤ y13 ∧ y13 ≤ 100) → ∀ cl sl : Nat, (cl : Int) ≤ 100 + 60 * y13 → (sl : Int) ≤ 30000 + 3000 * y13 → ∀ (H : Heap) (locs : List Loc), Rp G e0 α κ B M H → va_S (fun q => B ≤ q) s.heap H locs → ∀ (ls : Array Slot), lv_has ls 19 [(0, .ref b), (1, .ref (α 10 0)), (2, .ref (α 104 0)), (3, .ref (α 105 0)), (4, .ref (α 106 0)), (5, .ref (α 107 0)), (6, .ref (α 108 0)), (7, .ref (α 109 0)), (8, .ref (α 110 0)), (9, .ref (α 111 0)), (10, .ref (α 112 0)), (11, .ref (α 113 0)), (13, .int (Int32.ofInt y13)), (14, .int (Int32.ofInt y14))] → W p l e R s m args below meth c H locs cl sl Q (F0 m 287 ls []) := by
  intro α κ y13 y14 M hw hκ hy13 hy14 hbd cl sl hc1 hc2 H locs hR hS ls hl
  have X := X0.re hκ
  have hw : wp_L_isRow κ y14 M fun (x25 : Int) (κ28 : Nat → Int) (M27 : Mem) => wp_L_holds_530 Qm K237 κ28 x25 y13 y14 M27 := hw
  refine lv_aload_n X.1.1 X.1.2.1 dL_holds_287 rfl (lv_at hl 1 rfl) ?_
  refine lv_aload_n X.1.1 X.1.2.1 dL_holds_288 rfl (lv_at hl 3 rfl) ?_
  refine lv_aload X.1.1 X.1.2.1 dL_holds_289 (lv_at hl 4 rfl) ?_
  refine lv_aload X.1.1 X.1.2.1 dL_holds_291 (lv_at hl 10 rfl) ?_
  refine lv_iload X.1.1 X.1.2.1 dL_holds_293 (lv_at hl 13 rfl) ?_
  refine ud_call 10 (n := 5) (As := [.ref (α 10 0), .ref (α 105 0), .ref (α 106 0), .ref (α 112 0), .int (Int32.ofInt y14)]) (rest := []) X N hR hS (m_L_isRow hlt X.2.2.1 he0 hy14 hw) kw_857 kw_858 kw_37 kw_859 ⟨by decide +kernel, by decide +kernel, by decide +kernel⟩ (rm_ok hRr (by decide) (by decide)) rfl rfl (Nat.le_of_ble_eq_true rfl) hl.1 dL_holds_295 ⟨by omega, by omega⟩ (fun x25 κ28 α29 M27 H locs hw r26 hA hk hR hS => ?_)
  have X := X.re hk
  rw [← hA 10 (Or.inl rfl), ← hA 104 (Or.inr (Or.inr (by decide))), ← hA 105 (Or.inr (Or.inr (by decide))), ← hA 106 (Or.inr (Or.inr (by decide))), ← hA 107 (Or.inr (Or.inr (by decide))), ← hA 108 (Or.inr (Or.inr (by decide))), ← hA 109 (Or.inr (Or.inr (by decide))), ← hA 110 (Or.inr (Or.inr (by decide))), ← hA 111 (Or.inr (Or.inr (by decide))), ← hA 112 (Or.inr (Or.inr (by decide))), ← hA 113 (Or.inr (Or.inr (by decide)))] at hl
  refine lv_istore (lv' := [(12, .int (Int32.ofInt x25)), (0, .ref b), (1, .ref (α29 10 0)), (2, .ref (α29 104 0)), (3, .ref (α29 105 0)), (4, .ref (α29 106 0)), (5, .ref (α29 107 0)), (6, .ref (α29 108 0)), (7, .ref (α29 109 0)), (8, .ref (α29 110 0)), (9, .ref (α29 111 0)), (10, .ref (α29 112 0)), (11, .ref (α29 113 0)), (13, .int (Int32.ofInt y13)), (14, .int (Int32.ofInt y14))]) X.1.1 X.1.2.1 dL_holds_298 hl (by decide) rfl (fun ls hl => ?_)
  refine lv_goto (tgt := 530) X.1.1 X.1.2.1 dL_holds_300 (by decide) ?_
  exact t_L_holds_530 X0 N V hlt he0 hRr hRc hRs hQm hK237 α29 κ28 _ _ _ _ hw X.2.2.1 r26 hy13 hy14 hbd _ _ (by omega) (by omega) _ _ hR hS _ (lv_sub hl [1, 2, 3, 4, 5, 6, 7, 8, 9, 10, 11, 12, 0, 13, 14] rfl)
set_option maxHeartbeats 4000000 in
set_option maxRecDepth 100000 in
theorem t_L_holds_324 {κb : Nat → Int} (X0 : CX p m c cL_holds 19 s args RL G B κb meth (some .boolean)) (N : NcA s) (V : LV s B b L xs) (hlt : l.stackTraces = false) (he0 : e0 = G.2.2.2.2.2) (hRr : RmOK R 12) (hRc : 9000 ≤ R.cells) (hRs : 400000 ≤ R.slots) {Qm : Int → Prop} (hQm : ∀ v : Int, Qm v → ∀ (H : Heap) (locs : List Loc), va_S (fun q => B ≤ q) s.heap H locs → ∀ (ls : Array Slot), lv_has ls 19 [(12, .int (Int32.ofInt v))] → ∀ cl sl : Nat, cl ≤ 9000 → sl ≤ 400000 → W p l e R s m args below meth c H locs cl sl Q (F0 m 697 ls [])) {K237 : (Nat → Int) → Int → Int → Mem → Prop} (hK237 : ∀ (α : Ax) (κ : Nat → Int), ∀ y12 : Int, ∀ y13 : Int, ∀ M : Mem, K237 κ y12 y13 M → kOK κ → inR y12 → inR y13 → (0 ≤ y13 ∧ y13 ≤ 100) → ∀ cl sl : Nat, (cl : Int) ≤ 100 + 60 * y13 → (sl : Int) ≤ 30000 + 3000 * y13 → ∀ (H : Heap) (locs : List Loc), Rp G e0 α κ B M H → va_S (fun q => B ≤ q) s.heap H locs → ∀ (ls : Array Slot), lv_has ls 19 [(0, .ref b), (1, .ref (α 10 0)), (2, .ref (α 104 0)), (3, .ref (α 105 0)), (4, .ref (α 106 0)), (5, .ref (α 107 0)), (6, .ref (α 108 0)), (7, .ref (α 109 0)), (8, .ref (α 110 0)), (9, .ref (α 111 0)), (10, .ref (α 112 0)), (11, .ref (α 113 0)), (12, .int (Int32.ofInt y12)), (13, .int (Int32.ofInt y13))] → W p l e R s m args below meth c H locs cl sl Q (F0 m 237 ls [])) : ∀ (α : Ax) (κ : Nat → Int), ∀ y13 : Int, ∀ y14 : Int, ∀ M : Mem, wp_L_holds_324 Qm K237 κ y13 y14 M → kOK κ → inR y13 → inR y14 → (0 ≤ y13 ∧ y13 ≤ 100) → ∀ cl sl : Nat, (cl : Int) ≤ 100 + 60 * y13 → (sl : Int) ≤ 30000 + 3000 * y13 → ∀ (H : Heap) (locs : List Loc), Rp G e0 α κ B M H → va_S (fun q => B ≤ q) s.heap H locs → ∀ (ls : Array Slot), lv_has ls 19 [(0, .ref b), (1, .ref (α 10 0)), (2, .ref (α 104 0)), (3, .ref (α 105 0)), (4, .ref (α 106 0)), (5, .ref (α 107 0)), (6, .ref (α 108 0)), (7, .ref (α 109 0)), (8, .ref (α 110 0)), (9, .ref (α 111 0)), (10, .ref (α 112 0)), (11, .ref (α 113 0)), (13, .int (Int32.ofInt y13)), (14, .int (Int32.ofInt y14))] → W p l e R s m args below meth c H locs cl sl Q (F0 m 324 ls []) := by
  intro α κ y13 y14 M hw hκ hy13 hy14 hbd cl sl hc1 hc2 H locs hR hS ls hl
  have X := X0.re hκ
  have hw : wp_L_isCell κ y14 M fun (x68 : Int) (κ71 : Nat → Int) (M70 : Mem) => wp_L_holds_530 Qm K237 κ71 x68 y13 y14 M70 := hw
  refine lv_aload_n X.1.1 X.1.2.1 dL_holds_324 rfl (lv_at hl 1 rfl) ?_
  refine lv_aload_n X.1.1 X.1.2.1 dL_holds_325 rfl (lv_at hl 3 rfl) ?_
  refine lv_aload X.1.1 X.1.2.1 dL_holds_326 (lv_at hl 4 rfl) ?_
  refine lv_aload X.1.1 X.1.2.1 dL_holds_328 (lv_at hl 5 rfl) ?_
  refine lv_aload X.1.1 X.1.2.1 dL_holds_330 (lv_at hl 10 rfl) ?_
  refine lv_iload X.1.1 X.1.2.1 dL_holds_332 (lv_at hl 13 rfl) ?_
  refine ud_call 10 (n := 6) (As := [.ref (α 10 0), .ref (α 105 0), .ref (α 106 0), .ref (α 107 0), .ref (α 112 0), .int (Int32.ofInt y14)]) (rest := []) X N hR hS (m_L_isCell hlt X.2.2.1 he0 hy14 hw) kw_922 kw_923 kw_37 kw_924 ⟨by decide +kernel, by decide +kernel, by decide +kernel⟩ (rm_ok hRr (by decide) (by decide)) rfl rfl (Nat.le_of_ble_eq_true rfl) hl.1 dL_holds_334 ⟨by omega, by omega⟩ (fun x68 κ71 α72 M70 H locs hw r69 hA hk hR hS => ?_)
  have X := X.re hk
  rw [← hA 10 (Or.inl rfl), ← hA 104 (Or.inr (Or.inr (by decide))), ← hA 105 (Or.inr (Or.inr (by decide))), ← hA 106 (Or.inr (Or.inr (by decide))), ← hA 107 (Or.inr (Or.inr (by decide))), ← hA 108 (Or.inr (Or.inr (by decide))), ← hA 109 (Or.inr (Or.inr (by decide))), ← hA 110 (Or.inr (Or.inr (by decide))), ← hA 111 (Or.inr (Or.inr (by decide))), ← hA 112 (Or.inr (Or.inr (by decide))), ← hA 113 (Or.inr (Or.inr (by decide)))] at hl
  refine lv_istore (lv' := [(12, .int (Int32.ofInt x68)), (0, .ref b), (1, .ref (α72 10 0)), (2, .ref (α72 104 0)), (3, .ref (α72 105 0)), (4, .ref (α72 106 0)), (5, .ref (α72 107 0)), (6, .ref (α72 108 0)), (7, .ref (α72 109 0)), (8, .ref (α72 110 0)), (9, .ref (α72 111 0)), (10, .ref (α72 112 0)), (11, .ref (α72 113 0)), (13, .int (Int32.ofInt y13)), (14, .int (Int32.ofInt y14))]) X.1.1 X.1.2.1 dL_holds_337 hl (by decide) rfl (fun ls hl => ?_)
  refine lv_goto (tgt := 530) X.1.1 X.1.2.1 dL_holds_339 (by decide) ?_
  exact t_L_holds_530 X0 N V hlt he0 hRr hRc hRs hQm hK237 α72 κ71 _ _ _ _ hw X.2.2.1 r69 hy13 hy14 hbd _ _ (by omega) (by omega) _ _ hR hS _ (lv_sub hl [1, 2, 3, 4, 5, 6, 7, 8, 9, 10, 11, 12, 0, 13, 14] rfl)
set_option maxHeartbeats 4000000 in
set_option maxRecDepth 100000 in
theorem t_L_holds_237 {κb : Nat → Int} (X0 : CX p m c cL_holds 19 s args RL G B κb meth (some .boolean)) (N : NcA s) (V : LV s B b L xs) (hlt : l.stackTraces = false) (he0 : e0 = G.2.2.2.2.2) (hRr : RmOK R 12) (hRc : 9000 ≤ R.cells) (hRs : 400000 ≤ R.slots) {Qm : Int → Prop} (hQm : ∀ v : Int, Qm v → ∀ (H : Heap) (locs : List Loc), va_S (fun q => B ≤ q) s.heap H locs → ∀ (ls : Array Slot), lv_has ls 19 [(12, .int (Int32.ofInt v))] → ∀ cl sl : Nat, cl ≤ 9000 → sl ≤ 400000 → W p l e R s m args below meth c H locs cl sl Q (F0 m 697 ls [])) : ∀ n : Nat, ∀ (α : Ax) (κ : Nat → Int), ∀ y12 : Int, ∀ y13 : Int, ∀ M : Mem, wp_L_holds_237 Qm n κ y12 y13 M → kOK κ → inR y12 → inR y13 → (0 ≤ y13 ∧ y13 ≤ 100) → ∀ cl sl : Nat, (cl : Int) ≤ 100 + 60 * y13 → (sl : Int) ≤ 30000 + 3000 * y13 → ∀ (H : Heap) (locs : List Loc), Rp G e0 α κ B M H → va_S (fun q => B ≤ q) s.heap H locs → ∀ (ls : Array Slot), lv_has ls 19 [(0, .ref b), (1, .ref (α 10 0)), (2, .ref (α 104 0)), (3, .ref (α 105 0)), (4, .ref (α 106 0)), (5, .ref (α 107 0)), (6, .ref (α 108 0)), (7, .ref (α 109 0)), (8, .ref (α 110 0)), (9, .ref (α 111 0)), (10, .ref (α 112 0)), (11, .ref (α 113 0)), (12, .int (Int32.ofInt y12)), (13, .int (Int32.ofInt y13))] → W p l e R s m args below meth c H locs cl sl Q (F0 m 237 ls []) := by
  intro n
  induction n with
  | zero =>
    intro α κ y12 y13 M hw hκ hy12 hy13 hbd cl sl hc1 hc2 H locs hR hS ls hl
    exact hw.elim
  | succ n ih =>
    intro α κ y12 y13 M hw hκ hy12 hy13 hbd cl sl hc1 hc2 H locs hR hS ls hl
    have X := X0.re hκ
    have hw : ((100 ≤ y13 → Qm y12) ∧ (y13 < 100 → ((y12 = 0 → Qm y12) ∧ (¬ y12 = 0 → (inR (2 * y13)) ∧ (inR ((2 * y13) + 1)) ∧ (0 ≤ ((2 * y13) + 1) ∧ ((2 * y13) + 1) ≤ 1000) ∧ ∀ x19 : Int, 0 ≤ x19 → x19 < 10000000 → (inR (2 * y13)) ∧ (0 ≤ (2 * y13) ∧ (2 * y13) ≤ 1000) ∧ ∀ x23 : Int, 0 ≤ x23 → x23 < 46 → ((y13 < 3 → wp_L_holds_287 Qm (wp_L_holds_237 Qm n) κ y13 x19 M) ∧ (3 ≤ y13 → ((5 ≤ x23 → ((y13 < 6 → wp_L_holds_324 Qm (wp_L_holds_237 Qm n) κ y13 x19 M) ∧ (6 ≤ y13 → ((x23 < 12 → wp_L_holds_324 Qm (wp_L_holds_237 Qm n) κ y13 x19 M) ∧ (12 ≤ x23 → ((¬ (M 112 0 2) = 0 → ((30 ≤ x23 → ((32 ≤ x23 → wp_L_isSet (if 35 ≤ x23 then (if 36 ≤ x23 then (if 38 ≤ x23 then (if 40 ≤ x23 then (if 42 ≤ x23 then (if 44 ≤ x23 then (if ¬ x23 = 44 then (9 : Int) else 8) else 7) else 6) else 4) else 2) else 1) else 0) x19 M fun (x89 : Int) (M91 : Mem) => wp_L_holds_530 Qm (wp_L_holds_237 Qm n) κ x89 y13 x19 M91) ∧ (x23 < 32 → wp_L_isSorted κ x19 M fun (x92 : Int) (M94 : Mem) => wp_L_holds_530 Qm (wp_L_holds_237 Qm n) κ x92 y13 x19 M94))) ∧ (x23 < 30 → wp_L_isFilled (if 20 ≤ x23 then (if 26 ≤ x23 then (if 27 ≤ x23 then (9 : Int) else 8) else 5) else 0) x19 M fun (x102 : Int) (M104 : Mem) => wp_L_holds_530 Qm (wp_L_holds_237 Qm n) κ x102 y13 x19 M104))) ∧ ((M 112 0 2) = 0 → wp_L_holds_324 Qm (wp_L_holds_237 Qm n) κ y13 x19 M))))))) ∧ (x23 < 5 → wp_L_holds_287 Qm (wp_L_holds_237 Qm n) κ y13 x19 M)))))))) := hw
    refine lv_iload X.1.1 X.1.2.1 dL_holds_237 (lv_at hl 13 rfl) ?_
    refine sa_bipush X.1 dL_holds_239 (by decide) ?_
    refine sa_icmp_ge (tgt := 697) X.1 hy13 (inR_c (a := 100) rfl) dL_holds_241 (by decide) (fun hc => ?_) (fun hc => ?_)
    · have hw := hw.1 hc
      exact hQm _ hw _ _ hS _ (lv_sub hl [12] rfl) _ _ (by omega) (by omega)
    · have hw := hw.2 hc
      refine lv_iload X.1.1 X.1.2.1 dL_holds_244 (lv_at hl 12 rfl) ?_
      refine sa_if_eq (tgt := 697) X.1 hy12 dL_holds_246 (by decide) (fun hc => ?_) (fun hc => ?_)
      · have hw := hw.1 hc
        exact hQm _ hw _ _ hS _ (lv_sub hl [12] rfl) _ _ (by omega) (by omega)
      · have hw := hw.2 hc
        refine lv_aload_n X.1.1 X.1.2.1 dL_holds_249 rfl (lv_at hl 0 rfl) ?_
        refine sa_const X.1 dL_holds_250 ?_
        refine lv_iload X.1.1 X.1.2.1 dL_holds_251 (lv_at hl 13 rfl) ?_
        have c16 := hw.1
        have hw := hw.2
        refine sa_imul X.1 dL_holds_253 ?_
        refine sa_const X.1 dL_holds_254 ?_
        have c17 := hw.1
        have hw := hw.2
        refine sa_iadd X.1 dL_holds_255 ?_
        refine sa_ldc (n := 10000000) X.1 (by decide) kw_856 dL_holds_256 ?_
        have c18 := hw.1
        have hw := hw.2
        refine cs_from X V c18 (w := 10000000) ⟨by decide, by decide⟩ (kc := 12) hRr ⟨by omega, by omega⟩ (by decide) hR hS kw_674 hl.1 dL_holds_258 (Nat.le_of_ble_eq_true rfl) (fun x19 Mx H locs hq r20 hR hS => ?_)
        obtain ⟨hx19a, hx19b, hx19e⟩ := hq
        rw [hx19e] at hR
        have hw := hw x19 hx19a hx19b
        refine lv_istore (lv' := [(14, .int (Int32.ofInt x19)), (0, .ref b), (1, .ref (α 10 0)), (2, .ref (α 104 0)), (3, .ref (α 105 0)), (4, .ref (α 106 0)), (5, .ref (α 107 0)), (6, .ref (α 108 0)), (7, .ref (α 109 0)), (8, .ref (α 110 0)), (9, .ref (α 111 0)), (10, .ref (α 112 0)), (11, .ref (α 113 0)), (12, .int (Int32.ofInt y12)), (13, .int (Int32.ofInt y13))]) X.1.1 X.1.2.1 dL_holds_261 hl (by decide) rfl (fun ls hl => ?_)
        refine lv_aload_n X.1.1 X.1.2.1 dL_holds_263 rfl (lv_at hl 1 rfl) ?_
        refine sa_const X.1 dL_holds_264 ?_
        refine lv_iload X.1.1 X.1.2.1 dL_holds_265 (lv_at hl 14 rfl) ?_
        have c21 := hw.1
        have hw := hw.2
        refine sa_imul X.1 dL_holds_267 ?_
        refine sa_bipush X.1 dL_holds_268 (by decide) ?_
        have c22 := hw.1
        have hw := hw.2
        refine cs_from X V c22 (w := 46) ⟨by decide, by decide⟩ (kc := 12) hRr ⟨by omega, by omega⟩ (by decide) hR hS kw_674 hl.1 dL_holds_270 (Nat.le_of_ble_eq_true rfl) (fun x23 Mx H locs hq r24 hR hS => ?_)
        obtain ⟨hx23a, hx23b, hx23e⟩ := hq
        rw [hx23e] at hR
        have hw := hw x23 hx23a hx23b
        refine lv_istore (lv' := [(15, .int (Int32.ofInt x23)), (14, .int (Int32.ofInt x19)), (0, .ref b), (1, .ref (α 10 0)), (2, .ref (α 104 0)), (3, .ref (α 105 0)), (4, .ref (α 106 0)), (5, .ref (α 107 0)), (6, .ref (α 108 0)), (7, .ref (α 109 0)), (8, .ref (α 110 0)), (9, .ref (α 111 0)), (10, .ref (α 112 0)), (11, .ref (α 113 0)), (12, .int (Int32.ofInt y12)), (13, .int (Int32.ofInt y13))]) X.1.1 X.1.2.1 dL_holds_273 hl (by decide) rfl (fun ls hl => ?_)
        refine lv_iload X.1.1 X.1.2.1 dL_holds_275 (lv_at hl 15 rfl) ?_
        refine sa_const X.1 dL_holds_277 ?_
        refine sa_icmp_lt (tgt := 287) X.1 hy13 (inR_c (a := 3) rfl) dL_holds_278 (by decide) (fun hc => ?_) (fun hc => ?_)
        · have hw := hw.1 hc
          exact t_L_holds_287 X0 N V hlt he0 hRr hRc hRs hQm ih α κ _ _ _ hw X.2.2.1 hy13 r20 hbd _ _ (by omega) (by omega) _ _ hR hS _ (lv_sub hl [2, 3, 4, 5, 6, 7, 8, 9, 10, 11, 12, 13, 15, 1] rfl)
        · have hw := hw.2 hc
          refine lv_iload X.1.1 X.1.2.1 dL_holds_281 (lv_at hl 0 rfl) ?_
          refine sa_const X.1 dL_holds_283 ?_
          refine sa_icmp_ge (tgt := 303) X.1 r24 (inR_c (a := 5) rfl) dL_holds_284 (by decide) (fun hc => ?_) (fun hc => ?_)
          · have hw := hw.1 hc
            refine lv_iload X.1.1 X.1.2.1 dL_holds_303 (lv_at hl 15 rfl) ?_
            refine sa_bipush X.1 dL_holds_305 (by decide) ?_
            refine sa_icmp_lt (tgt := 324) X.1 hy13 (inR_c (a := 6) rfl) dL_holds_307 (by decide) (fun hc => ?_) (fun hc => ?_)
            · have hw := hw.1 hc
              exact t_L_holds_324 X0 N V hlt he0 hRr hRc hRs hQm ih α κ _ _ _ hw X.2.2.1 hy13 r20 hbd _ _ (by omega) (by omega) _ _ hR hS _ (lv_sub hl [2, 3, 4, 5, 6, 7, 8, 9, 10, 11, 12, 13, 15, 1] rfl)
            · have hw := hw.2 hc
              refine lv_iload X.1.1 X.1.2.1 dL_holds_310 (lv_at hl 0 rfl) ?_
              refine sa_bipush X.1 dL_holds_312 (by decide) ?_
              refine sa_icmp_lt (tgt := 324) X.1 r24 (inR_c (a := 12) rfl) dL_holds_314 (by decide) (fun hc => ?_) (fun hc => ?_)
              · have hw := hw.1 hc
                exact t_L_holds_324 X0 N V hlt he0 hRr hRc hRs hQm ih α κ _ _ _ hw X.2.2.1 hy13 r20 hbd _ _ (by omega) (by omega) _ _ hR hS _ (lv_sub hl [2, 3, 4, 5, 6, 7, 8, 9, 10, 11, 12, 13, 15, 1] rfl)
              · have hw := hw.2 hc
                refine lv_aload X.1.1 X.1.2.1 dL_holds_317 (lv_at hl 12 rfl) ?_
                refine sa_const X.1 dL_holds_319 ?_
                refine ra_112 X hR (okf X.2.2.1 rfl) ⟨by decide, by decide⟩ dL_holds_320 ?_
                have r73 := hR.r 112 0 2
                refine sa_if_ne (tgt := 342) X.1 r73 dL_holds_321 (by decide) (fun hc => ?_) (fun hc => ?_)
                · have hw := hw.1 hc
                  refine lv_iload X.1.1 X.1.2.1 dL_holds_342 (lv_at hl 0 rfl) ?_
                  refine sa_bipush X.1 dL_holds_344 (by decide) ?_
                  refine sa_icmp_ge (tgt := 405) X.1 r24 (inR_c (a := 30) rfl) dL_holds_346 (by decide) (fun hc => ?_) (fun hc => ?_)
                  · have hw := hw.1 hc
                    refine lv_iload X.1.1 X.1.2.1 dL_holds_405 (lv_at hl 0 rfl) ?_
                    refine sa_bipush X.1 dL_holds_407 (by decide) ?_
                    refine sa_icmp_ge (tgt := 433) X.1 r24 (inR_c (a := 32) rfl) dL_holds_409 (by decide) (fun hc => ?_) (fun hc => ?_)
                    · have hw := hw.1 hc
                      refine lv_aload_n X.1.1 X.1.2.1 dL_holds_433 rfl (lv_at hl 3 rfl) ?_
                      refine lv_aload_n X.1.1 X.1.2.1 dL_holds_434 rfl (lv_at hl 4 rfl) ?_
                      refine lv_aload X.1.1 X.1.2.1 dL_holds_435 (lv_at hl 10 rfl) ?_
                      refine lv_aload X.1.1 X.1.2.1 dL_holds_437 (lv_at hl 11 rfl) ?_
                      refine lv_aload X.1.1 X.1.2.1 dL_holds_439 (lv_at hl 12 rfl) ?_
                      refine lv_iload X.1.1 X.1.2.1 dL_holds_441 (lv_at hl 0 rfl) ?_
                      refine sa_bipush X.1 dL_holds_443 (by decide) ?_
                      have r86 := inR_ite (c := 35 ≤ x23) (inR_ite (c := 36 ≤ x23) (inR_ite (c := 38 ≤ x23) (inR_ite (c := 40 ≤ x23) (inR_ite (c := 42 ≤ x23) (inR_ite (c := 44 ≤ x23) (inR_ite (c := ¬ x23 = 44) (inR_c (a := 9) rfl) (inR_c (a := 8) rfl)) (inR_c (a := 7) rfl)) (inR_c (a := 6) rfl)) (inR_c (a := 4) rfl)) (inR_c (a := 2) rfl)) (inR_c (a := 1) rfl)) (inR_c (a := 0) rfl)
                      refine cut_j (A := ∀ v87 : Int, v87 = (if 35 ≤ x23 then (if 36 ≤ x23 then (if 38 ≤ x23 then (if 40 ≤ x23 then (if 42 ≤ x23 then (if 44 ≤ x23 then (if ¬ x23 = 44 then (9 : Int) else 8) else 7) else 6) else 4) else 2) else 1) else 0) → W p l e R s m args below meth c H locs cl sl Q (F0 m 523 ls [.int (Int32.ofInt v87), .ref (α 112 0), .ref (α 111 0), .ref (α 110 0), .ref (α 104 0), .ref (α 10 0)])) (fun J88 => ?_) ?_
                      · refine sa_icmp_ge (tgt := 452) X.1 r24 (inR_c (a := 35) rfl) dL_holds_445 (by decide) (fun hc => ?_) (fun hc => ?_)
                        · skip
                          refine lv_iload X.1.1 X.1.2.1 dL_holds_452 (lv_at hl 0 rfl) ?_
                          refine sa_bipush X.1 dL_holds_454 (by decide) ?_
                          refine cut_j (A := ∀ v84 : Int, v84 = (if 36 ≤ x23 then (if 38 ≤ x23 then (if 40 ≤ x23 then (if 42 ≤ x23 then (if 44 ≤ x23 then (if ¬ x23 = 44 then (9 : Int) else 8) else 7) else 6) else 4) else 2) else 1) → W p l e R s m args below meth c H locs cl sl Q (F0 m 523 ls [.int (Int32.ofInt v84), .ref (α 112 0), .ref (α 111 0), .ref (α 110 0), .ref (α 104 0), .ref (α 10 0)])) (fun J85 => ?_) ?_
                          · refine sa_icmp_ge (tgt := 463) X.1 r24 (inR_c (a := 36) rfl) dL_holds_456 (by decide) (fun hc => ?_) (fun hc => ?_)
                            · skip
                              refine lv_iload X.1.1 X.1.2.1 dL_holds_463 (lv_at hl 0 rfl) ?_
                              refine sa_bipush X.1 dL_holds_465 (by decide) ?_
                              refine cut_j (A := ∀ v82 : Int, v82 = (if 38 ≤ x23 then (if 40 ≤ x23 then (if 42 ≤ x23 then (if 44 ≤ x23 then (if ¬ x23 = 44 then (9 : Int) else 8) else 7) else 6) else 4) else 2) → W p l e R s m args below meth c H locs cl sl Q (F0 m 523 ls [.int (Int32.ofInt v82), .ref (α 112 0), .ref (α 111 0), .ref (α 110 0), .ref (α 104 0), .ref (α 10 0)])) (fun J83 => ?_) ?_
                              · refine sa_icmp_ge (tgt := 474) X.1 r24 (inR_c (a := 38) rfl) dL_holds_467 (by decide) (fun hc => ?_) (fun hc => ?_)
                                · skip
                                  refine lv_iload X.1.1 X.1.2.1 dL_holds_474 (lv_at hl 0 rfl) ?_
                                  refine sa_bipush X.1 dL_holds_476 (by decide) ?_
                                  refine cut_j (A := ∀ v80 : Int, v80 = (if 40 ≤ x23 then (if 42 ≤ x23 then (if 44 ≤ x23 then (if ¬ x23 = 44 then (9 : Int) else 8) else 7) else 6) else 4) → W p l e R s m args below meth c H locs cl sl Q (F0 m 523 ls [.int (Int32.ofInt v80), .ref (α 112 0), .ref (α 111 0), .ref (α 110 0), .ref (α 104 0), .ref (α 10 0)])) (fun J81 => ?_) ?_
                                  · refine sa_icmp_ge (tgt := 485) X.1 r24 (inR_c (a := 40) rfl) dL_holds_478 (by decide) (fun hc => ?_) (fun hc => ?_)
                                    · skip
                                      refine lv_iload X.1.1 X.1.2.1 dL_holds_485 (lv_at hl 0 rfl) ?_
                                      refine sa_bipush X.1 dL_holds_487 (by decide) ?_
                                      refine cut_j (A := ∀ v78 : Int, v78 = (if 42 ≤ x23 then (if 44 ≤ x23 then (if ¬ x23 = 44 then (9 : Int) else 8) else 7) else 6) → W p l e R s m args below meth c H locs cl sl Q (F0 m 523 ls [.int (Int32.ofInt v78), .ref (α 112 0), .ref (α 111 0), .ref (α 110 0), .ref (α 104 0), .ref (α 10 0)])) (fun J79 => ?_) ?_
                                      · refine sa_icmp_ge (tgt := 497) X.1 r24 (inR_c (a := 42) rfl) dL_holds_489 (by decide) (fun hc => ?_) (fun hc => ?_)
                                        · skip
                                          refine lv_iload X.1.1 X.1.2.1 dL_holds_497 (lv_at hl 0 rfl) ?_
                                          refine sa_bipush X.1 dL_holds_499 (by decide) ?_
                                          refine cut_j (A := ∀ v76 : Int, v76 = (if 44 ≤ x23 then (if ¬ x23 = 44 then (9 : Int) else 8) else 7) → W p l e R s m args below meth c H locs cl sl Q (F0 m 523 ls [.int (Int32.ofInt v76), .ref (α 112 0), .ref (α 111 0), .ref (α 110 0), .ref (α 104 0), .ref (α 10 0)])) (fun J77 => ?_) ?_
                                          · refine sa_icmp_ge (tgt := 509) X.1 r24 (inR_c (a := 44) rfl) dL_holds_501 (by decide) (fun hc => ?_) (fun hc => ?_)
                                            · skip
                                              refine lv_iload X.1.1 X.1.2.1 dL_holds_509 (lv_at hl 0 rfl) ?_
                                              refine sa_bipush X.1 dL_holds_511 (by decide) ?_
                                              refine cut_j (A := ∀ v74 : Int, v74 = (if ¬ x23 = 44 then (9 : Int) else 8) → W p l e R s m args below meth c H locs cl sl Q (F0 m 523 ls [.int (Int32.ofInt v74), .ref (α 112 0), .ref (α 111 0), .ref (α 110 0), .ref (α 104 0), .ref (α 10 0)])) (fun J75 => ?_) ?_
                                              · refine sa_icmp_ne (tgt := 521) X.1 r24 (inR_c (a := 44) rfl) dL_holds_513 (by decide) (fun hc => ?_) (fun hc => ?_)
                                                · skip
                                                  refine sa_bipush X.1 dL_holds_521 (by decide) ?_
                                                  exact J75 (9) (if_pos (c := ¬ x23 = 44) hc).symm
                                                · skip
                                                  refine sa_bipush X.1 dL_holds_516 (by decide) ?_
                                                  refine lv_goto (tgt := 523) X.1.1 X.1.2.1 dL_holds_518 (by decide) ?_
                                                  exact J75 (8) (if_neg (c := ¬ x23 = 44) (fun z => z hc)).symm
                                              intro v74 hv74
                                              subst hv74
                                              exact J77 ((if ¬ x23 = 44 then (9 : Int) else 8)) (if_pos (c := 44 ≤ x23) hc).symm
                                            · skip
                                              refine sa_bipush X.1 dL_holds_504 (by decide) ?_
                                              refine lv_goto (tgt := 523) X.1.1 X.1.2.1 dL_holds_506 (by decide) ?_
                                              exact J77 (7) (if_neg (c := 44 ≤ x23) (Int.not_le.mpr hc)).symm
                                          intro v76 hv76
                                          subst hv76
                                          exact J79 ((if 44 ≤ x23 then (if ¬ x23 = 44 then (9 : Int) else 8) else 7)) (if_pos (c := 42 ≤ x23) hc).symm
                                        · skip
                                          refine sa_bipush X.1 dL_holds_492 (by decide) ?_
                                          refine lv_goto (tgt := 523) X.1.1 X.1.2.1 dL_holds_494 (by decide) ?_
                                          exact J79 (6) (if_neg (c := 42 ≤ x23) (Int.not_le.mpr hc)).symm
                                      intro v78 hv78
                                      subst hv78
                                      exact J81 ((if 42 ≤ x23 then (if 44 ≤ x23 then (if ¬ x23 = 44 then (9 : Int) else 8) else 7) else 6)) (if_pos (c := 40 ≤ x23) hc).symm
                                    · skip
                                      refine sa_const X.1 dL_holds_481 ?_
                                      refine lv_goto (tgt := 523) X.1.1 X.1.2.1 dL_holds_482 (by decide) ?_
                                      exact J81 (4) (if_neg (c := 40 ≤ x23) (Int.not_le.mpr hc)).symm
                                  intro v80 hv80
                                  subst hv80
                                  exact J83 ((if 40 ≤ x23 then (if 42 ≤ x23 then (if 44 ≤ x23 then (if ¬ x23 = 44 then (9 : Int) else 8) else 7) else 6) else 4)) (if_pos (c := 38 ≤ x23) hc).symm
                                · skip
                                  refine sa_const X.1 dL_holds_470 ?_
                                  refine lv_goto (tgt := 523) X.1.1 X.1.2.1 dL_holds_471 (by decide) ?_
                                  exact J83 (2) (if_neg (c := 38 ≤ x23) (Int.not_le.mpr hc)).symm
                              intro v82 hv82
                              subst hv82
                              exact J85 ((if 38 ≤ x23 then (if 40 ≤ x23 then (if 42 ≤ x23 then (if 44 ≤ x23 then (if ¬ x23 = 44 then (9 : Int) else 8) else 7) else 6) else 4) else 2)) (if_pos (c := 36 ≤ x23) hc).symm
                            · skip
                              refine sa_const X.1 dL_holds_459 ?_
                              refine lv_goto (tgt := 523) X.1.1 X.1.2.1 dL_holds_460 (by decide) ?_
                              exact J85 (1) (if_neg (c := 36 ≤ x23) (Int.not_le.mpr hc)).symm
                          intro v84 hv84
                          subst hv84
                          exact J88 ((if 36 ≤ x23 then (if 38 ≤ x23 then (if 40 ≤ x23 then (if 42 ≤ x23 then (if 44 ≤ x23 then (if ¬ x23 = 44 then (9 : Int) else 8) else 7) else 6) else 4) else 2) else 1)) (if_pos (c := 35 ≤ x23) hc).symm
                        · skip
                          refine sa_const X.1 dL_holds_448 ?_
                          refine lv_goto (tgt := 523) X.1.1 X.1.2.1 dL_holds_449 (by decide) ?_
                          exact J88 (0) (if_neg (c := 35 ≤ x23) (Int.not_le.mpr hc)).symm
                      intro v87 hv87
                      subst hv87
                      refine lv_iload X.1.1 X.1.2.1 dL_holds_523 (lv_at hl 1 rfl) ?_
                      refine uc_call 9 (n := 7) (As := [.ref (α 10 0), .ref (α 104 0), .ref (α 110 0), .ref (α 111 0), .ref (α 112 0), .int (Int32.ofInt (if 35 ≤ x23 then (if 36 ≤ x23 then (if 38 ≤ x23 then (if 40 ≤ x23 then (if 42 ≤ x23 then (if 44 ≤ x23 then (if ¬ x23 = 44 then (9 : Int) else 8) else 7) else 6) else 4) else 2) else 1) else 0)), .int (Int32.ofInt x19)]) (rest := []) X N hR hS (m_L_isSet hlt X.2.2.1 r86 r20 hw) kw_1162 kw_1163 kw_37 kw_1164 ⟨by decide +kernel, by decide +kernel, by decide +kernel⟩ (rm_ok hRr (by decide) (by decide)) rfl rfl (Nat.le_of_ble_eq_true rfl) hl.1 dL_holds_525 ⟨by omega, by omega⟩ (fun x89 M91 H locs hw r90 hR hS => ?_)
                      refine lv_istore (lv' := [(12, .int (Int32.ofInt x89)), (15, .int (Int32.ofInt x23)), (14, .int (Int32.ofInt x19)), (0, .ref b), (1, .ref (α 10 0)), (2, .ref (α 104 0)), (3, .ref (α 105 0)), (4, .ref (α 106 0)), (5, .ref (α 107 0)), (6, .ref (α 108 0)), (7, .ref (α 109 0)), (8, .ref (α 110 0)), (9, .ref (α 111 0)), (10, .ref (α 112 0)), (11, .ref (α 113 0)), (13, .int (Int32.ofInt y13))]) X.1.1 X.1.2.1 dL_holds_528 hl (by decide) rfl (fun ls hl => ?_)
                      exact t_L_holds_530 X0 N V hlt he0 hRr hRc hRs hQm ih α κ _ _ _ _ hw X.2.2.1 r90 hy13 r20 hbd _ _ (by omega) (by omega) _ _ hR hS _ (lv_sub hl [3, 4, 5, 6, 7, 8, 9, 10, 11, 12, 13, 14, 0, 15, 2] rfl)
                    · have hw := hw.2 hc
                      refine lv_aload_n X.1.1 X.1.2.1 dL_holds_412 rfl (lv_at hl 3 rfl) ?_
                      refine lv_aload_n X.1.1 X.1.2.1 dL_holds_413 rfl (lv_at hl 4 rfl) ?_
                      refine lv_aload_n X.1.1 X.1.2.1 dL_holds_414 rfl (lv_at hl 5 rfl) ?_
                      refine lv_aload X.1.1 X.1.2.1 dL_holds_415 (lv_at hl 6 rfl) ?_
                      refine lv_aload X.1.1 X.1.2.1 dL_holds_417 (lv_at hl 7 rfl) ?_
                      refine lv_aload X.1.1 X.1.2.1 dL_holds_419 (lv_at hl 9 rfl) ?_
                      refine lv_aload X.1.1 X.1.2.1 dL_holds_421 (lv_at hl 12 rfl) ?_
                      refine lv_iload X.1.1 X.1.2.1 dL_holds_423 (lv_at hl 1 rfl) ?_
                      refine uc_call 9 (n := 8) (As := [.ref (α 10 0), .ref (α 104 0), .ref (α 105 0), .ref (α 106 0), .ref (α 107 0), .ref (α 109 0), .ref (α 112 0), .int (Int32.ofInt x19)]) (rest := []) X N hR hS (m_L_isSorted hlt X.2.2.1 r20 hw) kw_1119 kw_1120 kw_37 kw_1121 ⟨by decide +kernel, by decide +kernel, by decide +kernel⟩ (rm_ok hRr (by decide) (by decide)) rfl rfl (Nat.le_of_ble_eq_true rfl) hl.1 dL_holds_425 ⟨by omega, by omega⟩ (fun x92 M94 H locs hw r93 hR hS => ?_)
                      refine lv_istore (lv' := [(12, .int (Int32.ofInt x92)), (15, .int (Int32.ofInt x23)), (14, .int (Int32.ofInt x19)), (0, .ref b), (1, .ref (α 10 0)), (2, .ref (α 104 0)), (3, .ref (α 105 0)), (4, .ref (α 106 0)), (5, .ref (α 107 0)), (6, .ref (α 108 0)), (7, .ref (α 109 0)), (8, .ref (α 110 0)), (9, .ref (α 111 0)), (10, .ref (α 112 0)), (11, .ref (α 113 0)), (13, .int (Int32.ofInt y13))]) X.1.1 X.1.2.1 dL_holds_428 hl (by decide) rfl (fun ls hl => ?_)
                      refine lv_goto (tgt := 530) X.1.1 X.1.2.1 dL_holds_430 (by decide) ?_
                      exact t_L_holds_530 X0 N V hlt he0 hRr hRc hRs hQm ih α κ _ _ _ _ hw X.2.2.1 r93 hy13 r20 hbd _ _ (by omega) (by omega) _ _ hR hS _ (lv_sub hl [3, 4, 5, 6, 7, 8, 9, 10, 11, 12, 13, 14, 0, 15, 2] rfl)
                  · have hw := hw.2 hc
                    refine lv_aload_n X.1.1 X.1.2.1 dL_holds_349 rfl (lv_at hl 3 rfl) ?_
                    refine lv_aload_n X.1.1 X.1.2.1 dL_holds_350 rfl (lv_at hl 5 rfl) ?_
                    refine lv_aload X.1.1 X.1.2.1 dL_holds_351 (lv_at hl 7 rfl) ?_
                    refine lv_aload X.1.1 X.1.2.1 dL_holds_353 (lv_at hl 8 rfl) ?_
                    refine lv_aload X.1.1 X.1.2.1 dL_holds_355 (lv_at hl 9 rfl) ?_
                    refine lv_aload X.1.1 X.1.2.1 dL_holds_357 (lv_at hl 12 rfl) ?_
                    refine lv_iload X.1.1 X.1.2.1 dL_holds_359 (lv_at hl 0 rfl) ?_
                    refine sa_bipush X.1 dL_holds_361 (by decide) ?_
                    have r99 := inR_ite (c := 20 ≤ x23) (inR_ite (c := 26 ≤ x23) (inR_ite (c := 27 ≤ x23) (inR_c (a := 9) rfl) (inR_c (a := 8) rfl)) (inR_c (a := 5) rfl)) (inR_c (a := 0) rfl)
                    refine cut_j (A := ∀ v100 : Int, v100 = (if 20 ≤ x23 then (if 26 ≤ x23 then (if 27 ≤ x23 then (9 : Int) else 8) else 5) else 0) → W p l e R s m args below meth c H locs cl sl Q (F0 m 395 ls [.int (Int32.ofInt v100), .ref (α 112 0), .ref (α 109 0), .ref (α 108 0), .ref (α 107 0), .ref (α 105 0), .ref (α 10 0)])) (fun J101 => ?_) ?_
                    · refine sa_icmp_ge (tgt := 370) X.1 r24 (inR_c (a := 20) rfl) dL_holds_363 (by decide) (fun hc => ?_) (fun hc => ?_)
                      · skip
                        refine lv_iload X.1.1 X.1.2.1 dL_holds_370 (lv_at hl 0 rfl) ?_
                        refine sa_bipush X.1 dL_holds_372 (by decide) ?_
                        refine cut_j (A := ∀ v97 : Int, v97 = (if 26 ≤ x23 then (if 27 ≤ x23 then (9 : Int) else 8) else 5) → W p l e R s m args below meth c H locs cl sl Q (F0 m 395 ls [.int (Int32.ofInt v97), .ref (α 112 0), .ref (α 109 0), .ref (α 108 0), .ref (α 107 0), .ref (α 105 0), .ref (α 10 0)])) (fun J98 => ?_) ?_
                        · refine sa_icmp_ge (tgt := 381) X.1 r24 (inR_c (a := 26) rfl) dL_holds_374 (by decide) (fun hc => ?_) (fun hc => ?_)
                          · skip
                            refine lv_iload X.1.1 X.1.2.1 dL_holds_381 (lv_at hl 0 rfl) ?_
                            refine sa_bipush X.1 dL_holds_383 (by decide) ?_
                            refine cut_j (A := ∀ v95 : Int, v95 = (if 27 ≤ x23 then (9 : Int) else 8) → W p l e R s m args below meth c H locs cl sl Q (F0 m 395 ls [.int (Int32.ofInt v95), .ref (α 112 0), .ref (α 109 0), .ref (α 108 0), .ref (α 107 0), .ref (α 105 0), .ref (α 10 0)])) (fun J96 => ?_) ?_
                            · refine sa_icmp_ge (tgt := 393) X.1 r24 (inR_c (a := 27) rfl) dL_holds_385 (by decide) (fun hc => ?_) (fun hc => ?_)
                              · skip
                                refine sa_bipush X.1 dL_holds_393 (by decide) ?_
                                exact J96 (9) (if_pos (c := 27 ≤ x23) hc).symm
                              · skip
                                refine sa_bipush X.1 dL_holds_388 (by decide) ?_
                                refine lv_goto (tgt := 395) X.1.1 X.1.2.1 dL_holds_390 (by decide) ?_
                                exact J96 (8) (if_neg (c := 27 ≤ x23) (Int.not_le.mpr hc)).symm
                            intro v95 hv95
                            subst hv95
                            exact J98 ((if 27 ≤ x23 then (9 : Int) else 8)) (if_pos (c := 26 ≤ x23) hc).symm
                          · skip
                            refine sa_const X.1 dL_holds_377 ?_
                            refine lv_goto (tgt := 395) X.1.1 X.1.2.1 dL_holds_378 (by decide) ?_
                            exact J98 (5) (if_neg (c := 26 ≤ x23) (Int.not_le.mpr hc)).symm
                        intro v97 hv97
                        subst hv97
                        exact J101 ((if 26 ≤ x23 then (if 27 ≤ x23 then (9 : Int) else 8) else 5)) (if_pos (c := 20 ≤ x23) hc).symm
                      · skip
                        refine sa_const X.1 dL_holds_366 ?_
                        refine lv_goto (tgt := 395) X.1.1 X.1.2.1 dL_holds_367 (by decide) ?_
                        exact J101 (0) (if_neg (c := 20 ≤ x23) (Int.not_le.mpr hc)).symm
                    intro v100 hv100
                    subst hv100
                    refine lv_iload X.1.1 X.1.2.1 dL_holds_395 (lv_at hl 1 rfl) ?_
                    refine uc_call 9 (n := 8) (As := [.ref (α 10 0), .ref (α 105 0), .ref (α 107 0), .ref (α 108 0), .ref (α 109 0), .ref (α 112 0), .int (Int32.ofInt (if 20 ≤ x23 then (if 26 ≤ x23 then (if 27 ≤ x23 then (9 : Int) else 8) else 5) else 0)), .int (Int32.ofInt x19)]) (rest := []) X N hR hS (m_L_isFilled hlt X.2.2.1 r99 r20 hw) kw_1063 kw_1064 kw_37 kw_1065 ⟨by decide +kernel, by decide +kernel, by decide +kernel⟩ (rm_ok hRr (by decide) (by decide)) rfl rfl (Nat.le_of_ble_eq_true rfl) hl.1 dL_holds_397 ⟨by omega, by omega⟩ (fun x102 M104 H locs hw r103 hR hS => ?_)
                    refine lv_istore (lv' := [(12, .int (Int32.ofInt x102)), (15, .int (Int32.ofInt x23)), (14, .int (Int32.ofInt x19)), (0, .ref b), (1, .ref (α 10 0)), (2, .ref (α 104 0)), (3, .ref (α 105 0)), (4, .ref (α 106 0)), (5, .ref (α 107 0)), (6, .ref (α 108 0)), (7, .ref (α 109 0)), (8, .ref (α 110 0)), (9, .ref (α 111 0)), (10, .ref (α 112 0)), (11, .ref (α 113 0)), (13, .int (Int32.ofInt y13))]) X.1.1 X.1.2.1 dL_holds_400 hl (by decide) rfl (fun ls hl => ?_)
                    refine lv_goto (tgt := 530) X.1.1 X.1.2.1 dL_holds_402 (by decide) ?_
                    exact t_L_holds_530 X0 N V hlt he0 hRr hRc hRs hQm ih α κ _ _ _ _ hw X.2.2.1 r103 hy13 r20 hbd _ _ (by omega) (by omega) _ _ hR hS _ (lv_sub hl [3, 4, 5, 6, 7, 8, 9, 10, 11, 12, 13, 14, 0, 15, 2] rfl)
                · have hw := hw.2 hc
                  exact t_L_holds_324 X0 N V hlt he0 hRr hRc hRs hQm ih α κ _ _ _ hw X.2.2.1 hy13 r20 hbd _ _ (by omega) (by omega) _ _ hR hS _ (lv_sub hl [2, 3, 4, 5, 6, 7, 8, 9, 10, 11, 12, 13, 15, 1] rfl)
          · have hw := hw.2 hc
            exact t_L_holds_287 X0 N V hlt he0 hRr hRc hRs hQm ih α κ _ _ _ hw X.2.2.1 hy13 r20 hbd _ _ (by omega) (by omega) _ _ hR hS _ (lv_sub hl [2, 3, 4, 5, 6, 7, 8, 9, 10, 11, 12, 13, 15, 1] rfl)
set_option maxHeartbeats 4000000 in
set_option maxRecDepth 100000 in
theorem t_L_holds_234 {κb : Nat → Int} (X0 : CX p m c cL_holds 19 s args RL G B κb meth (some .boolean)) (N : NcA s) (V : LV s B b L xs) (hlt : l.stackTraces = false) (he0 : e0 = G.2.2.2.2.2) (hRr : RmOK R 12) (hRc : 9000 ≤ R.cells) (hRs : 400000 ≤ R.slots) {Qm : Int → Prop} (hQm : ∀ v : Int, Qm v → ∀ (H : Heap) (locs : List Loc), va_S (fun q => B ≤ q) s.heap H locs → ∀ (ls : Array Slot), lv_has ls 19 [(12, .int (Int32.ofInt v))] → ∀ cl sl : Nat, cl ≤ 9000 → sl ≤ 400000 → W p l e R s m args below meth c H locs cl sl Q (F0 m 697 ls [])) : ∀ (α : Ax) (κ : Nat → Int), ∀ y12 : Int, ∀ M : Mem, wp_L_holds_234 Qm κ y12 M → kOK κ → inR y12 → ∀ cl sl : Nat, (cl : Int) ≤ 91 → (sl : Int) ≤ 29700 → ∀ (H : Heap) (locs : List Loc), Rp G e0 α κ B M H → va_S (fun q => B ≤ q) s.heap H locs → ∀ (ls : Array Slot), lv_has ls 19 [(0, .ref b), (1, .ref (α 10 0)), (2, .ref (α 104 0)), (3, .ref (α 105 0)), (4, .ref (α 106 0)), (5, .ref (α 107 0)), (6, .ref (α 108 0)), (7, .ref (α 109 0)), (8, .ref (α 110 0)), (9, .ref (α 111 0)), (10, .ref (α 112 0)), (11, .ref (α 113 0)), (12, .int (Int32.ofInt y12))] → W p l e R s m args below meth c H locs cl sl Q (F0 m 234 ls []) := by
  intro α κ y12 M hw hκ hy12 cl sl hc1 hc2 H locs hR hS ls hl
  have X := X0.re hκ
  have hw : (∃ n105 : Nat, wp_L_holds_237 Qm n105 κ y12 0 M) := hw
  refine sa_const X.1 dL_holds_234 ?_
  refine lv_istore (lv' := [(13, .int (Int32.ofInt 0)), (0, .ref b), (1, .ref (α 10 0)), (2, .ref (α 104 0)), (3, .ref (α 105 0)), (4, .ref (α 106 0)), (5, .ref (α 107 0)), (6, .ref (α 108 0)), (7, .ref (α 109 0)), (8, .ref (α 110 0)), (9, .ref (α 111 0)), (10, .ref (α 112 0)), (11, .ref (α 113 0)), (12, .int (Int32.ofInt y12))]) X.1.1 X.1.2.1 dL_holds_235 hl (by decide) rfl (fun ls hl => ?_)
  obtain ⟨n105, hw⟩ := hw
  exact t_L_holds_237 X0 N V hlt he0 hRr hRc hRs hQm n105 α κ _ _ _ hw X.2.2.1 hy12 (inR_c (a := 0) rfl) (by decide) _ _ (by omega) (by omega) _ _ hR hS _ (lv_sub hl [1, 2, 3, 4, 5, 6, 7, 8, 9, 10, 11, 12, 13, 0] rfl)
set_option maxHeartbeats 4000000 in
set_option maxRecDepth 100000 in
theorem t_L_holds_117 {κb : Nat → Int} (X0 : CX p m c cL_holds 19 s args RL G B κb meth (some .boolean)) (N : NcA s) (V : LV s B b L xs) (hlt : l.stackTraces = false) (he0 : e0 = G.2.2.2.2.2) (hRr : RmOK R 12) (hRc : 9000 ≤ R.cells) (hRs : 400000 ≤ R.slots) {Qm : Int → Prop} (hQm : ∀ v : Int, Qm v → ∀ (H : Heap) (locs : List Loc), va_S (fun q => B ≤ q) s.heap H locs → ∀ (ls : Array Slot), lv_has ls 19 [(12, .int (Int32.ofInt v))] → ∀ cl sl : Nat, cl ≤ 9000 → sl ≤ 400000 → W p l e R s m args below meth c H locs cl sl Q (F0 m 697 ls [])) : ∀ n : Nat, ∀ (α : Ax) (κ : Nat → Int), ∀ y12 : Int, ∀ y13 : Int, ∀ M : Mem, wp_L_holds_117 Qm n κ y12 y13 M → kOK κ → inR y12 → inR y13 → (0 ≤ y13 ∧ y13 ≤ 4) → ∀ cl sl : Nat, (cl : Int) ≤ 71 + 5 * y13 → (sl : Int) ≤ 25300 + 1100 * y13 → ∀ (H : Heap) (locs : List Loc), Rp G e0 α κ B M H → va_S (fun q => B ≤ q) s.heap H locs → ∀ (ls : Array Slot), lv_has ls 19 [(0, .ref b), (1, .ref (α 10 0)), (2, .ref (α 104 0)), (3, .ref (α 105 0)), (4, .ref (α 106 0)), (5, .ref (α 107 0)), (6, .ref (α 108 0)), (7, .ref (α 109 0)), (8, .ref (α 110 0)), (9, .ref (α 111 0)), (10, .ref (α 112 0)), (11, .ref (α 113 0)), (12, .int (Int32.ofInt y12)), (13, .int (Int32.ofInt y13))] → W p l e R s m args below meth c H locs cl sl Q (F0 m 117 ls []) := by
  intro n
  induction n with
  | zero =>
    intro α κ y12 y13 M hw hκ hy12 hy13 hbd cl sl hc1 hc2 H locs hR hS ls hl
    exact hw.elim
  | succ n ih =>
    intro α κ y12 y13 M hw hκ hy12 hy13 hbd cl sl hc1 hc2 H locs hR hS ls hl
    have X := X0.re hκ
    have hw : (((M 112 0 0) ≤ y13 → wp_L_holds_234 Qm κ y12 M) ∧ (y13 < (M 112 0 0) → ((y12 = 0 → wp_L_holds_234 Qm κ y12 M) ∧ (¬ y12 = 0 → (inR (501 + y13)) ∧ (0 ≤ (501 + y13) ∧ (501 + y13) ≤ 1000) ∧ ∀ x108 : Int, 0 ≤ x108 → x108 < 1000000 → (inR (4 * y13)) ∧ (2 < (Int.tmod x108 5) → (inR ((Int.tmod x108 5) - 2)) ∧ True) ∧ (inR (if (Int.tmod x108 5) ≤ 2 then (0 : Int) else ((Int.tmod x108 5) - 2))) ∧ (0 ≤ (4 * y13) ∧ (4 * y13) < 16) ∧ ∀ M118 : Mem, M118 = up M 104 0 (4 * y13) (if (Int.tmod x108 5) ≤ 2 then (0 : Int) else ((Int.tmod x108 5) - 2)) → (inR (4 * y13)) ∧ (inR ((4 * y13) + 1)) ∧ (0 < (if ¬ (Int.tmod x108 2) = 0 then (25 : Int) else 60)) ∧ (inR (1 + (Int.tmod (Int.tdiv x108 5) (if ¬ (Int.tmod x108 2) = 0 then (25 : Int) else 60)))) ∧ (0 ≤ ((4 * y13) + 1) ∧ ((4 * y13) + 1) < 16) ∧ ∀ M131 : Mem, M131 = up M118 104 0 ((4 * y13) + 1) (1 + (Int.tmod (Int.tdiv x108 5) (if ¬ (Int.tmod x108 2) = 0 then (25 : Int) else 60))) → (inR (4 * y13)) ∧ (0 ≤ (4 * y13) ∧ (4 * y13) < 16) ∧ (inR (4 * y13)) ∧ (inR ((4 * y13) + 1)) ∧ (0 ≤ ((4 * y13) + 1) ∧ ((4 * y13) + 1) < 16) ∧ wp_X9_column κ (M131 104 0 (4 * y13)) (M131 104 0 ((4 * y13) + 1)) M131 (fun _ _ => False) fun (x140 : Int) (κ143 : Nat → Int) (M142 : Mem) => ∃ M145 : Mem, Gh M142 M145 ∧ (inR (y13 + 1)) ∧ (0 ≤ (y13 + 1) ∧ (y13 + 1) ≤ 4) ∧ wp_L_holds_117 Qm n κ143 (if ¬ x140 = y13 then (0 : Int) else 1) (y13 + 1) M145)))) := hw
    refine lv_iload X.1.1 X.1.2.1 dL_holds_117 (lv_at hl 13 rfl) ?_
    refine lv_aload X.1.1 X.1.2.1 dL_holds_119 (lv_at hl 10 rfl) ?_
    refine sa_const X.1 dL_holds_121 ?_
    refine ra_112 X hR (okf X.2.2.1 rfl) ⟨by decide, by decide⟩ dL_holds_122 ?_
    have r15 := hR.r 112 0 0
    refine sa_icmp_ge (tgt := 234) X.1 hy13 r15 dL_holds_123 (by decide) (fun hc => ?_) (fun hc => ?_)
    · have hw := hw.1 hc
      exact t_L_holds_234 X0 N V hlt he0 hRr hRc hRs hQm α κ _ _ hw X.2.2.1 hy12 _ _ (by omega) (by omega) _ _ hR hS _ (lv_sub hl [0, 1, 2, 3, 4, 5, 6, 7, 8, 9, 10, 11, 12] rfl)
    · have hw := hw.2 hc
      refine lv_iload X.1.1 X.1.2.1 dL_holds_126 (lv_at hl 12 rfl) ?_
      refine sa_if_eq (tgt := 234) X.1 hy12 dL_holds_128 (by decide) (fun hc => ?_) (fun hc => ?_)
      · have hw := hw.1 hc
        exact t_L_holds_234 X0 N V hlt he0 hRr hRc hRs hQm α κ _ _ hw X.2.2.1 hy12 _ _ (by omega) (by omega) _ _ hR hS _ (lv_sub hl [0, 1, 2, 3, 4, 5, 6, 7, 8, 9, 10, 11, 12] rfl)
      · have hw := hw.2 hc
        refine lv_aload_n X.1.1 X.1.2.1 dL_holds_131 rfl (lv_at hl 0 rfl) ?_
        refine sa_sipush X.1 dL_holds_132 (by decide) ?_
        refine lv_iload X.1.1 X.1.2.1 dL_holds_135 (lv_at hl 13 rfl) ?_
        have c106 := hw.1
        have hw := hw.2
        refine sa_iadd X.1 dL_holds_137 ?_
        refine sa_ldc (n := 1000000) X.1 (by decide) kw_679 dL_holds_138 ?_
        have c107 := hw.1
        have hw := hw.2
        refine cs_from X V c107 (w := 1000000) ⟨by decide, by decide⟩ (kc := 12) hRr ⟨by omega, by omega⟩ (by decide) hR hS kw_674 hl.1 dL_holds_140 (Nat.le_of_ble_eq_true rfl) (fun x108 Mx H locs hq r109 hR hS => ?_)
        obtain ⟨hx108a, hx108b, hx108e⟩ := hq
        rw [hx108e] at hR
        have hw := hw x108 hx108a hx108b
        refine lv_istore (lv' := [(14, .int (Int32.ofInt x108)), (0, .ref b), (1, .ref (α 10 0)), (2, .ref (α 104 0)), (3, .ref (α 105 0)), (4, .ref (α 106 0)), (5, .ref (α 107 0)), (6, .ref (α 108 0)), (7, .ref (α 109 0)), (8, .ref (α 110 0)), (9, .ref (α 111 0)), (10, .ref (α 112 0)), (11, .ref (α 113 0)), (12, .int (Int32.ofInt y12)), (13, .int (Int32.ofInt y13))]) X.1.1 X.1.2.1 dL_holds_143 hl (by decide) rfl (fun ls hl => ?_)
        refine lv_aload_n X.1.1 X.1.2.1 dL_holds_145 rfl (lv_at hl 3 rfl) ?_
        refine sa_const X.1 dL_holds_146 ?_
        refine lv_iload X.1.1 X.1.2.1 dL_holds_147 (lv_at hl 14 rfl) ?_
        have c110 := hw.1
        have hw := hw.2
        refine sa_imul X.1 dL_holds_149 ?_
        refine lv_iload X.1.1 X.1.2.1 dL_holds_150 (lv_at hl 0 rfl) ?_
        refine sa_const X.1 dL_holds_152 ?_
        have r111 := inR_tmod r109 (inR_c (a := 5) rfl) (by decide)
        refine sa_irem X.1 r109 (inR_c (a := 5) rfl) (Int.ne_of_gt (by decide)) dL_holds_153 ?_
        refine sa_const X.1 dL_holds_154 ?_
        have s113 := hw.1
        have hw := hw.2
        have c114 := hw.1
        have hw := hw.2
        refine cut_j (A := ∀ v115 : Int, v115 = (if (Int.tmod x108 5) ≤ 2 then (0 : Int) else ((Int.tmod x108 5) - 2)) → W p l e R s m args below meth c H locs cl sl Q (F0 m 168 ls [.int (Int32.ofInt v115), .int (Int32.ofInt (4 * y13)), .ref (α 104 0)])) (fun J116 => ?_) ?_
        · refine sa_icmp_le (tgt := 167) X.1 r111 (inR_c (a := 2) rfl) dL_holds_155 (by decide) (fun hc => ?_) (fun hc => ?_)
          · skip
            refine sa_const X.1 dL_holds_167 ?_
            exact J116 (0) (if_pos (c := (Int.tmod x108 5) ≤ 2) hc).symm
          · have hw := s113 hc
            refine lv_iload X.1.1 X.1.2.1 dL_holds_158 (lv_at hl 0 rfl) ?_
            refine sa_const X.1 dL_holds_160 ?_
            refine sa_irem X.1 r109 (inR_c (a := 5) rfl) (Int.ne_of_gt (by decide)) dL_holds_161 ?_
            refine sa_const X.1 dL_holds_162 ?_
            have c112 := hw.1
            have hw := hw.2
            refine sa_isub X.1 dL_holds_163 ?_
            refine lv_goto (tgt := 168) X.1.1 X.1.2.1 dL_holds_164 (by decide) ?_
            exact J116 (((Int.tmod x108 5) - 2)) (if_neg (c := (Int.tmod x108 5) ≤ 2) (Int.not_le.mpr hc)).symm
        intro v115 hv115
        subst hv115
        have c117 := hw.1
        have hw := hw.2
        refine wa_104 X hR hS (okf X.2.2.1 rfl) c117 c114 dL_holds_168 (fun H locs hR hS => ?_)
        obtain ⟨M118, e119⟩ : ∃ z : Mem, z = up M 104 0 (4 * y13) (if (Int.tmod x108 5) ≤ 2 then (0 : Int) else ((Int.tmod x108 5) - 2)) := ⟨_, rfl⟩
        rw [← e119] at hR
        have hw := hw M118 e119
        refine lv_aload_n X.1.1 X.1.2.1 dL_holds_169 rfl (lv_at hl 3 rfl) ?_
        refine sa_const X.1 dL_holds_170 ?_
        refine lv_iload X.1.1 X.1.2.1 dL_holds_171 (lv_at hl 14 rfl) ?_
        have c120 := hw.1
        have hw := hw.2
        refine sa_imul X.1 dL_holds_173 ?_
        refine sa_const X.1 dL_holds_174 ?_
        have c121 := hw.1
        have hw := hw.2
        refine sa_iadd X.1 dL_holds_175 ?_
        refine sa_const X.1 dL_holds_176 ?_
        refine lv_iload X.1.1 X.1.2.1 dL_holds_177 (lv_at hl 0 rfl) ?_
        refine sa_const X.1 dL_holds_179 ?_
        have r122 := inR_tdiv r109 (inR_c (a := 5) rfl) (by decide)
        refine sa_idiv X.1 r109 (inR_c (a := 5) rfl) (Int.ne_of_gt (by decide)) dL_holds_180 ?_
        refine lv_iload X.1.1 X.1.2.1 dL_holds_181 (lv_at hl 0 rfl) ?_
        refine sa_const X.1 dL_holds_183 ?_
        have r123 := inR_tmod r109 (inR_c (a := 2) rfl) (by decide)
        refine sa_irem X.1 r109 (inR_c (a := 2) rfl) (Int.ne_of_gt (by decide)) dL_holds_184 ?_
        have r124 := inR_ite (c := ¬ (Int.tmod x108 2) = 0) (inR_c (a := 25) rfl) (inR_c (a := 60) rfl)
        refine cut_j (A := ∀ v125 : Int, v125 = (if ¬ (Int.tmod x108 2) = 0 then (25 : Int) else 60) → W p l e R s m args below meth c H locs cl sl Q (F0 m 195 ls [.int (Int32.ofInt v125), .int (Int32.ofInt (Int.tdiv x108 5)), .int (Int32.ofInt 1), .int (Int32.ofInt ((4 * y13) + 1)), .ref (α 104 0)])) (fun J126 => ?_) ?_
        · refine sa_if_ne (tgt := 193) X.1 r123 dL_holds_185 (by decide) (fun hc => ?_) (fun hc => ?_)
          · skip
            refine sa_bipush X.1 dL_holds_193 (by decide) ?_
            exact J126 (25) (if_pos (c := ¬ (Int.tmod x108 2) = 0) hc).symm
          · skip
            refine sa_bipush X.1 dL_holds_188 (by decide) ?_
            refine lv_goto (tgt := 195) X.1.1 X.1.2.1 dL_holds_190 (by decide) ?_
            exact J126 (60) (if_neg (c := ¬ (Int.tmod x108 2) = 0) (fun z => z hc)).symm
        intro v125 hv125
        subst hv125
        have c127 := hw.1
        have hw := hw.2
        have r128 := inR_tmod r122 r124 c127
        refine sa_irem X.1 r122 r124 (Int.ne_of_gt c127) dL_holds_195 ?_
        have c129 := hw.1
        have hw := hw.2
        refine sa_iadd X.1 dL_holds_196 ?_
        have c130 := hw.1
        have hw := hw.2
        refine wa_104 X hR hS (okf X.2.2.1 rfl) c130 c129 dL_holds_197 (fun H locs hR hS => ?_)
        obtain ⟨M131, e132⟩ : ∃ z : Mem, z = up M118 104 0 ((4 * y13) + 1) (1 + (Int.tmod (Int.tdiv x108 5) (if ¬ (Int.tmod x108 2) = 0 then (25 : Int) else 60))) := ⟨_, rfl⟩
        rw [← e132] at hR
        have hw := hw M131 e132
        refine lv_aload_n X.1.1 X.1.2.1 dL_holds_198 rfl (lv_at hl 2 rfl) ?_
        refine lv_aload_n X.1.1 X.1.2.1 dL_holds_199 rfl (lv_at hl 3 rfl) ?_
        refine sa_const X.1 dL_holds_200 ?_
        refine lv_iload X.1.1 X.1.2.1 dL_holds_201 (lv_at hl 14 rfl) ?_
        have c133 := hw.1
        have hw := hw.2
        refine sa_imul X.1 dL_holds_203 ?_
        have c134 := hw.1
        have hw := hw.2
        refine ra_104 X hR (okf X.2.2.1 rfl) c134 dL_holds_204 ?_
        have r135 := hR.r 104 0 (4 * y13)
        refine lv_aload_n X.1.1 X.1.2.1 dL_holds_205 rfl (lv_at hl 3 rfl) ?_
        refine sa_const X.1 dL_holds_206 ?_
        refine lv_iload X.1.1 X.1.2.1 dL_holds_207 (lv_at hl 14 rfl) ?_
        have c136 := hw.1
        have hw := hw.2
        refine sa_imul X.1 dL_holds_209 ?_
        refine sa_const X.1 dL_holds_210 ?_
        have c137 := hw.1
        have hw := hw.2
        refine sa_iadd X.1 dL_holds_211 ?_
        have c138 := hw.1
        have hw := hw.2
        refine ra_104 X hR (okf X.2.2.1 rfl) c138 dL_holds_212 ?_
        have r139 := hR.r 104 0 ((4 * y13) + 1)
        refine sw_callD 8 (n := 2) (As := [.int (Int32.ofInt (M131 104 0 (4 * y13))), .int (Int32.ofInt (M131 104 0 ((4 * y13) + 1)))]) (rest := []) X hR hS (m_X9_column hlt he0 X.2.2.1 r135 r139 hw) kw_680 kw_681 kw_682 kw_38 kw_683 ⟨rfl, by decide +kernel, by decide +kernel, by decide +kernel⟩ (rm_ok hRr (by decide) (by decide)) (rc_10 X hR (okf X.2.2.1 rfl)) rfl rfl (Nat.le_of_ble_eq_true rfl) hl.1 dL_holds_213 ⟨by omega, by omega⟩ (fun E Mx ce q H locs hx _ _ _ _ _ => False.elim hx) (fun x140 κ143 α144 M142 H locs hw r141 hA hk hR hS => ?_)
        have X := X.re hk
        rw [← hA 10 (Or.inl rfl), ← hA 104 (Or.inr (Or.inr (by decide))), ← hA 105 (Or.inr (Or.inr (by decide))), ← hA 106 (Or.inr (Or.inr (by decide))), ← hA 107 (Or.inr (Or.inr (by decide))), ← hA 108 (Or.inr (Or.inr (by decide))), ← hA 109 (Or.inr (Or.inr (by decide))), ← hA 110 (Or.inr (Or.inr (by decide))), ← hA 111 (Or.inr (Or.inr (by decide))), ← hA 112 (Or.inr (Or.inr (by decide))), ← hA 113 (Or.inr (Or.inr (by decide)))] at hl
        obtain ⟨M145, g146, hw⟩ := hw
        have hR := hR.gh X.2.2.1 g146
        refine lv_iload X.1.1 X.1.2.1 dL_holds_216 (lv_at hl 14 rfl) ?_
        have r147 := inR_ite (c := ¬ x140 = y13) (inR_c (a := 0) rfl) (inR_c (a := 1) rfl)
        refine cut_j (A := ∀ v148 : Int, v148 = (if ¬ x140 = y13 then (0 : Int) else 1) → W p l e R s m args below meth c H locs (cl + 3) (sl + 1008) Q (F0 m 226 ls [.int (Int32.ofInt v148)])) (fun J149 => ?_) ?_
        · refine sa_icmp_ne (tgt := 225) X.1 r141 hy13 dL_holds_218 (by decide) (fun hc => ?_) (fun hc => ?_)
          · skip
            refine sa_const X.1 dL_holds_225 ?_
            exact J149 (0) (if_pos (c := ¬ x140 = y13) hc).symm
          · skip
            refine sa_const X.1 dL_holds_221 ?_
            refine lv_goto (tgt := 226) X.1.1 X.1.2.1 dL_holds_222 (by decide) ?_
            exact J149 (1) (if_neg (c := ¬ x140 = y13) (fun z => z hc)).symm
        intro v148 hv148
        subst hv148
        refine lv_istore (lv' := [(12, .int (Int32.ofInt (if ¬ x140 = y13 then (0 : Int) else 1))), (14, .int (Int32.ofInt x108)), (0, .ref b), (1, .ref (α144 10 0)), (2, .ref (α144 104 0)), (3, .ref (α144 105 0)), (4, .ref (α144 106 0)), (5, .ref (α144 107 0)), (6, .ref (α144 108 0)), (7, .ref (α144 109 0)), (8, .ref (α144 110 0)), (9, .ref (α144 111 0)), (10, .ref (α144 112 0)), (11, .ref (α144 113 0)), (13, .int (Int32.ofInt y13))]) X.1.1 X.1.2.1 dL_holds_226 hl (by decide) rfl (fun ls hl => ?_)
        have c150 := hw.1
        have hw := hw.2
        refine lv_iinc (v := Int32.ofInt (y13 + 1)) (lv' := [(13, .int (Int32.ofInt (y13 + 1))), (12, .int (Int32.ofInt (if ¬ x140 = y13 then (0 : Int) else 1))), (14, .int (Int32.ofInt x108)), (0, .ref b), (1, .ref (α144 10 0)), (2, .ref (α144 104 0)), (3, .ref (α144 105 0)), (4, .ref (α144 106 0)), (5, .ref (α144 107 0)), (6, .ref (α144 108 0)), (7, .ref (α144 109 0)), (8, .ref (α144 110 0)), (9, .ref (α144 111 0)), (10, .ref (α144 112 0)), (11, .ref (α144 113 0))]) X.1.1 X.1.2.1 dL_holds_228 hl (k := 14) rfl (Int32.ofInt_add _ _).symm (by decide) rfl (fun ls hl => ?_)
        refine lv_goto (tgt := 117) X.1.1 X.1.2.1 dL_holds_231 (by decide) ?_
        have c151 := hw.1
        have hw := hw.2
        exact ih α144 κ143 _ _ _ hw X.2.2.1 r147 c150 c151 _ _ (by omega) (by omega) _ _ hR hS _ (lv_sub hl [3, 4, 5, 6, 7, 8, 9, 10, 11, 12, 13, 14, 1, 0] rfl)
set_option maxHeartbeats 4000000 in
set_option maxRecDepth 100000 in
theorem t_L_holds_85 {κb : Nat → Int} (X0 : CX p m c cL_holds 19 s args RL G B κb meth (some .boolean)) (N : NcA s) (V : LV s B b L xs) (hlt : l.stackTraces = false) (he0 : e0 = G.2.2.2.2.2) (hRr : RmOK R 12) (hRc : 9000 ≤ R.cells) (hRs : 400000 ≤ R.slots) {Qm : Int → Prop} (hQm : ∀ v : Int, Qm v → ∀ (H : Heap) (locs : List Loc), va_S (fun q => B ≤ q) s.heap H locs → ∀ (ls : Array Slot), lv_has ls 19 [(12, .int (Int32.ofInt v))] → ∀ cl sl : Nat, cl ≤ 9000 → sl ≤ 400000 → W p l e R s m args below meth c H locs cl sl Q (F0 m 697 ls [])) : ∀ (α : Ax) (κ : Nat → Int), ∀ M : Mem, wp_L_holds_85 Qm κ M → kOK κ → ∀ cl sl : Nat, (cl : Int) ≤ 71 → (sl : Int) ≤ 25300 → ∀ (H : Heap) (locs : List Loc), Rp G e0 α κ B M H → va_S (fun q => B ≤ q) s.heap H locs → ∀ (ls : Array Slot), lv_has ls 19 [(0, .ref b), (1, .ref (α 10 0)), (2, .ref (α 104 0)), (3, .ref (α 105 0)), (4, .ref (α 106 0)), (5, .ref (α 107 0)), (6, .ref (α 108 0)), (7, .ref (α 109 0)), (8, .ref (α 110 0)), (9, .ref (α 111 0)), (10, .ref (α 112 0)), (11, .ref (α 113 0))] → W p l e R s m args below meth c H locs cl sl Q (F0 m 85 ls []) := by
  intro α κ M hw hκ cl sl hc1 hc2 H locs hR hS ls hl
  have X := X0.re hκ
  have hw : ∀ M6 : Mem, M6 = up M 112 0 3 60 → ∀ M8 : Mem, M8 = up M6 112 0 4 30 → ∀ x10 : Int, 0 ≤ x10 → x10 < 4 → (inR (1 + x10)) ∧ ∀ M13 : Mem, M13 = up M8 112 0 0 (1 + x10) → (∃ n152 : Nat, wp_L_holds_117 Qm n152 κ 0 0 M13) := hw
  refine sa_const X.1 dL_holds_85 ?_
  refine lv_istore (lv' := [(12, .int (Int32.ofInt 0)), (0, .ref b), (1, .ref (α 10 0)), (2, .ref (α 104 0)), (3, .ref (α 105 0)), (4, .ref (α 106 0)), (5, .ref (α 107 0)), (6, .ref (α 108 0)), (7, .ref (α 109 0)), (8, .ref (α 110 0)), (9, .ref (α 111 0)), (10, .ref (α 112 0)), (11, .ref (α 113 0))]) X.1.1 X.1.2.1 dL_holds_86 hl (by decide) rfl (fun ls hl => ?_)
  refine lv_aload X.1.1 X.1.2.1 dL_holds_88 (lv_at hl 11 rfl) ?_
  refine sa_const X.1 dL_holds_90 ?_
  refine sa_bipush X.1 dL_holds_91 (by decide) ?_
  refine wa_112 X hR hS (okf X.2.2.1 rfl) ⟨by decide, by decide⟩ (inR_c (a := 60) rfl) dL_holds_93 (fun H locs hR hS => ?_)
  obtain ⟨M6, e7⟩ : ∃ z : Mem, z = up M 112 0 3 60 := ⟨_, rfl⟩
  rw [← e7] at hR
  have hw := hw M6 e7
  refine lv_aload X.1.1 X.1.2.1 dL_holds_94 (lv_at hl 11 rfl) ?_
  refine sa_const X.1 dL_holds_96 ?_
  refine sa_bipush X.1 dL_holds_97 (by decide) ?_
  refine wa_112 X hR hS (okf X.2.2.1 rfl) ⟨by decide, by decide⟩ (inR_c (a := 30) rfl) dL_holds_99 (fun H locs hR hS => ?_)
  obtain ⟨M8, e9⟩ : ∃ z : Mem, z = up M6 112 0 4 30 := ⟨_, rfl⟩
  rw [← e9] at hR
  have hw := hw M8 e9
  refine lv_aload X.1.1 X.1.2.1 dL_holds_100 (lv_at hl 11 rfl) ?_
  refine sa_const X.1 dL_holds_102 ?_
  refine sa_const X.1 dL_holds_103 ?_
  refine lv_aload_n X.1.1 X.1.2.1 dL_holds_104 rfl (lv_at hl 1 rfl) ?_
  refine sa_sipush X.1 dL_holds_105 (by decide) ?_
  refine sa_const X.1 dL_holds_108 ?_
  refine cs_from X V ⟨by decide, by decide⟩ (w := 4) ⟨by decide, by decide⟩ (kc := 12) hRr ⟨by omega, by omega⟩ (by decide) hR hS kw_674 hl.1 dL_holds_109 (Nat.le_of_ble_eq_true rfl) (fun x10 Mx H locs hq r11 hR hS => ?_)
  obtain ⟨hx10a, hx10b, hx10e⟩ := hq
  rw [hx10e] at hR
  have hw := hw x10 hx10a hx10b
  have c12 := hw.1
  have hw := hw.2
  refine sa_iadd X.1 dL_holds_112 ?_
  refine wa_112 X hR hS (okf X.2.2.1 rfl) ⟨by decide, by decide⟩ c12 dL_holds_113 (fun H locs hR hS => ?_)
  obtain ⟨M13, e14⟩ : ∃ z : Mem, z = up M8 112 0 0 (1 + x10) := ⟨_, rfl⟩
  rw [← e14] at hR
  have hw := hw M13 e14
  refine sa_const X.1 dL_holds_114 ?_
  refine lv_istore (lv' := [(13, .int (Int32.ofInt 0)), (12, .int (Int32.ofInt 0)), (0, .ref b), (1, .ref (α 10 0)), (2, .ref (α 104 0)), (3, .ref (α 105 0)), (4, .ref (α 106 0)), (5, .ref (α 107 0)), (6, .ref (α 108 0)), (7, .ref (α 109 0)), (8, .ref (α 110 0)), (9, .ref (α 111 0)), (10, .ref (α 112 0)), (11, .ref (α 113 0))]) X.1.1 X.1.2.1 dL_holds_115 hl (by decide) rfl (fun ls hl => ?_)
  obtain ⟨n152, hw⟩ := hw
  exact t_L_holds_117 X0 N V hlt he0 hRr hRc hRs hQm n152 α κ _ _ _ hw X.2.2.1 (inR_c (a := 0) rfl) (inR_c (a := 0) rfl) (by decide) _ _ (by omega) (by omega) _ _ hR hS _ (lv_sub hl [2, 3, 4, 5, 6, 7, 8, 9, 10, 11, 12, 13, 1, 0] rfl)
set_option maxHeartbeats 4000000 in
set_option maxRecDepth 100000 in
theorem t_L_holds_66 {κb : Nat → Int} (X0 : CX p m c cL_holds 19 s args RL G B κb meth (some .boolean)) (N : NcA s) (V : LV s B b L xs) (hlt : l.stackTraces = false) (he0 : e0 = G.2.2.2.2.2) (hRr : RmOK R 12) (hRc : 9000 ≤ R.cells) (hRs : 400000 ≤ R.slots) {Qm : Int → Prop} (hQm : ∀ v : Int, Qm v → ∀ (H : Heap) (locs : List Loc), va_S (fun q => B ≤ q) s.heap H locs → ∀ (ls : Array Slot), lv_has ls 19 [(12, .int (Int32.ofInt v))] → ∀ cl sl : Nat, cl ≤ 9000 → sl ≤ 400000 → W p l e R s m args below meth c H locs cl sl Q (F0 m 697 ls [])) : ∀ (α : Ax) (κ : Nat → Int), ∀ M : Mem, wp_L_holds_66 Qm κ M → kOK κ → ∀ cl sl : Nat, (cl : Int) ≤ 71 → (sl : Int) ≤ 25300 → ∀ (H : Heap) (locs : List Loc), Rp G e0 α κ B M H → va_S (fun q => B ≤ q) s.heap H locs → ∀ (ls : Array Slot), lv_has ls 19 [(0, .ref b), (1, .ref (α 10 0)), (2, .ref (α 104 0)), (3, .ref (α 105 0)), (4, .ref (α 106 0)), (5, .ref (α 107 0)), (6, .ref (α 108 0)), (7, .ref (α 109 0)), (8, .ref (α 110 0)), (9, .ref (α 111 0)), (10, .ref (α 112 0)), (11, .ref (α 113 0))] → W p l e R s m args below meth c H locs cl sl Q (F0 m 66 ls []) := by
  intro α κ M hw hκ cl sl hc1 hc2 H locs hR hS ls hl
  have X := X0.re hκ
  have hw : wp_X9_look M fun (x2 : Int) (M1 : Mem) => ∃ M4 : Mem, Gh M1 M4 ∧ ((¬ x2 = 1 → wp_L_holds_85 Qm κ M4) ∧ (x2 = 1 → wp_X9_look M4 fun (x154 : Int) (M153 : Mem) => ∃ M156 : Mem, Gh M153 M156 ∧ ∀ M161 : Mem, M161 = up M156 112 0 3 60 → ∀ M163 : Mem, M163 = up M161 112 0 4 30 → ∀ x165 : Int, 0 ≤ x165 → x165 < 4 → (inR (1 + x165)) ∧ ∀ M168 : Mem, M168 = up M163 112 0 0 (1 + x165) → (∃ n170 : Nat, wp_L_holds_117 Qm n170 κ (if ¬ x154 = 0 then (0 : Int) else 1) 0 M168))) := hw
  refine lv_aload_n X.1.1 X.1.2.1 dL_holds_66 rfl (lv_at hl 1 rfl) ?_
  refine cs_X9_look X  (kc := 12) hRr ⟨by omega, by omega⟩ (by decide) hR hS kw_366 hl.1 dL_holds_67 (Nat.le_of_ble_eq_true rfl) hw (fun x2 M1 H locs hw r3 hR hS => ?_)
  obtain ⟨M4, g5, hw⟩ := hw
  have hR := hR.gh X.2.2.1 g5
  refine sa_const X.1 dL_holds_70 ?_
  refine sa_icmp_ne (tgt := 85) X.1 r3 (inR_c (a := 1) rfl) dL_holds_71 (by decide) (fun hc => ?_) (fun hc => ?_)
  · have hw := hw.1 hc
    exact t_L_holds_85 X0 N V hlt he0 hRr hRc hRs hQm α κ _ hw X.2.2.1 _ _ (by omega) (by omega) _ _ hR hS _ (lv_sub hl [0, 1, 2, 3, 4, 5, 6, 7, 8, 9, 10, 11] rfl)
  · have hw := hw.2 hc
    refine lv_aload_n X.1.1 X.1.2.1 dL_holds_74 rfl (lv_at hl 1 rfl) ?_
    refine cs_X9_look X  (kc := 12) hRr ⟨by omega, by omega⟩ (by decide) hR hS kw_366 hl.1 dL_holds_75 (Nat.le_of_ble_eq_true rfl) hw (fun x154 M153 H locs hw r155 hR hS => ?_)
    obtain ⟨M156, g157, hw⟩ := hw
    have hR := hR.gh X.2.2.1 g157
    have r158 := inR_ite (c := ¬ x154 = 0) (inR_c (a := 0) rfl) (inR_c (a := 1) rfl)
    refine cut_j (A := ∀ v159 : Int, v159 = (if ¬ x154 = 0 then (0 : Int) else 1) → W p l e R s m args below meth c H locs cl sl Q (F0 m 86 ls [.int (Int32.ofInt v159)])) (fun J160 => ?_) ?_
    · refine sa_if_ne (tgt := 85) X.1 r155 dL_holds_78 (by decide) (fun hc => ?_) (fun hc => ?_)
      · skip
        refine sa_const X.1 dL_holds_85 ?_
        exact J160 (0) (if_pos (c := ¬ x154 = 0) hc).symm
      · skip
        refine sa_const X.1 dL_holds_81 ?_
        refine lv_goto (tgt := 86) X.1.1 X.1.2.1 dL_holds_82 (by decide) ?_
        exact J160 (1) (if_neg (c := ¬ x154 = 0) (fun z => z hc)).symm
    intro v159 hv159
    subst hv159
    refine lv_istore (lv' := [(12, .int (Int32.ofInt (if ¬ x154 = 0 then (0 : Int) else 1))), (0, .ref b), (1, .ref (α 10 0)), (2, .ref (α 104 0)), (3, .ref (α 105 0)), (4, .ref (α 106 0)), (5, .ref (α 107 0)), (6, .ref (α 108 0)), (7, .ref (α 109 0)), (8, .ref (α 110 0)), (9, .ref (α 111 0)), (10, .ref (α 112 0)), (11, .ref (α 113 0))]) X.1.1 X.1.2.1 dL_holds_86 hl (by decide) rfl (fun ls hl => ?_)
    refine lv_aload X.1.1 X.1.2.1 dL_holds_88 (lv_at hl 11 rfl) ?_
    refine sa_const X.1 dL_holds_90 ?_
    refine sa_bipush X.1 dL_holds_91 (by decide) ?_
    refine wa_112 X hR hS (okf X.2.2.1 rfl) ⟨by decide, by decide⟩ (inR_c (a := 60) rfl) dL_holds_93 (fun H locs hR hS => ?_)
    obtain ⟨M161, e162⟩ : ∃ z : Mem, z = up M156 112 0 3 60 := ⟨_, rfl⟩
    rw [← e162] at hR
    have hw := hw M161 e162
    refine lv_aload X.1.1 X.1.2.1 dL_holds_94 (lv_at hl 11 rfl) ?_
    refine sa_const X.1 dL_holds_96 ?_
    refine sa_bipush X.1 dL_holds_97 (by decide) ?_
    refine wa_112 X hR hS (okf X.2.2.1 rfl) ⟨by decide, by decide⟩ (inR_c (a := 30) rfl) dL_holds_99 (fun H locs hR hS => ?_)
    obtain ⟨M163, e164⟩ : ∃ z : Mem, z = up M161 112 0 4 30 := ⟨_, rfl⟩
    rw [← e164] at hR
    have hw := hw M163 e164
    refine lv_aload X.1.1 X.1.2.1 dL_holds_100 (lv_at hl 11 rfl) ?_
    refine sa_const X.1 dL_holds_102 ?_
    refine sa_const X.1 dL_holds_103 ?_
    refine lv_aload_n X.1.1 X.1.2.1 dL_holds_104 rfl (lv_at hl 1 rfl) ?_
    refine sa_sipush X.1 dL_holds_105 (by decide) ?_
    refine sa_const X.1 dL_holds_108 ?_
    refine cs_from X V ⟨by decide, by decide⟩ (w := 4) ⟨by decide, by decide⟩ (kc := 12) hRr ⟨by omega, by omega⟩ (by decide) hR hS kw_674 hl.1 dL_holds_109 (Nat.le_of_ble_eq_true rfl) (fun x165 Mx H locs hq r166 hR hS => ?_)
    obtain ⟨hx165a, hx165b, hx165e⟩ := hq
    rw [hx165e] at hR
    have hw := hw x165 hx165a hx165b
    have c167 := hw.1
    have hw := hw.2
    refine sa_iadd X.1 dL_holds_112 ?_
    refine wa_112 X hR hS (okf X.2.2.1 rfl) ⟨by decide, by decide⟩ c167 dL_holds_113 (fun H locs hR hS => ?_)
    obtain ⟨M168, e169⟩ : ∃ z : Mem, z = up M163 112 0 0 (1 + x165) := ⟨_, rfl⟩
    rw [← e169] at hR
    have hw := hw M168 e169
    refine sa_const X.1 dL_holds_114 ?_
    refine lv_istore (lv' := [(13, .int (Int32.ofInt 0)), (12, .int (Int32.ofInt (if ¬ x154 = 0 then (0 : Int) else 1))), (0, .ref b), (1, .ref (α 10 0)), (2, .ref (α 104 0)), (3, .ref (α 105 0)), (4, .ref (α 106 0)), (5, .ref (α 107 0)), (6, .ref (α 108 0)), (7, .ref (α 109 0)), (8, .ref (α 110 0)), (9, .ref (α 111 0)), (10, .ref (α 112 0)), (11, .ref (α 113 0))]) X.1.1 X.1.2.1 dL_holds_115 hl (by decide) rfl (fun ls hl => ?_)
    obtain ⟨n170, hw⟩ := hw
    exact t_L_holds_117 X0 N V hlt he0 hRr hRc hRs hQm n170 α κ _ _ _ hw X.2.2.1 r158 (inR_c (a := 0) rfl) (by decide) _ _ (by omega) (by omega) _ _ hR hS _ (lv_sub hl [2, 3, 4, 5, 6, 7, 8, 9, 10, 11, 12, 13, 1, 0] rfl)
end
