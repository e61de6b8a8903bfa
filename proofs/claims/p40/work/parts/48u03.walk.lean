theorem dL_isFilled_0 : decode cL_isFilled 0 = .ok (.iload 7, 2) := by decide +kernel
theorem dL_isFilled_2 : decode cL_isFilled 2 = .ok (.aload 5, 2) := by decide +kernel
theorem dL_isFilled_4 : decode cL_isFilled 4 = .ok (.iconst 2, 1) := by decide +kernel
theorem dL_isFilled_5 : decode cL_isFilled 5 = .ok (.iaload, 1) := by decide +kernel
theorem dL_isFilled_6 : decode cL_isFilled 6 = .ok (.irem, 1) := by decide +kernel
theorem dL_isFilled_7 : decode cL_isFilled 7 = .ok (.istore 8, 2) := by decide +kernel
theorem dL_isFilled_9 : decode cL_isFilled 9 = .ok (.bipush 6, 2) := by decide +kernel
theorem dL_isFilled_11 : decode cL_isFilled 11 = .ok (.iload 8, 2) := by decide +kernel
theorem dL_isFilled_13 : decode cL_isFilled 13 = .ok (.imul, 1) := by decide +kernel
theorem dL_isFilled_14 : decode cL_isFilled 14 = .ok (.istore 9, 2) := by decide +kernel
theorem dL_isFilled_16 : decode cL_isFilled 16 = .ok (.iload 6, 2) := by decide +kernel
theorem dL_isFilled_18 : decode cL_isFilled 18 = .ok (.iconst 5, 1) := by decide +kernel
theorem dL_isFilled_19 : decode cL_isFilled 19 = .ok (.if_icmp .ge 167, 3) := by decide +kernel
theorem dL_isFilled_22 : decode cL_isFilled 22 = .ok (.iconst 1, 1) := by decide +kernel
theorem dL_isFilled_23 : decode cL_isFilled 23 = .ok (.iload 7, 2) := by decide +kernel
theorem dL_isFilled_25 : decode cL_isFilled 25 = .ok (.bipush 10, 2) := by decide +kernel
theorem dL_isFilled_27 : decode cL_isFilled 27 = .ok (.idiv, 1) := by decide +kernel
theorem dL_isFilled_28 : decode cL_isFilled 28 = .ok (.iload 7, 2) := by decide +kernel
theorem dL_isFilled_30 : decode cL_isFilled 30 = .ok (.iconst 3, 1) := by decide +kernel
theorem dL_isFilled_31 : decode cL_isFilled 31 = .ok (.idiv, 1) := by decide +kernel
theorem dL_isFilled_32 : decode cL_isFilled 32 = .ok (.iconst 4, 1) := by decide +kernel
theorem dL_isFilled_33 : decode cL_isFilled 33 = .ok (.irem, 1) := by decide +kernel
theorem dL_isFilled_34 : decode cL_isFilled 34 = .ok (.ifCond .ne 8, 3) := by decide +kernel
theorem dL_isFilled_37 : decode cL_isFilled 37 = .ok (.bipush 20, 2) := by decide +kernel
theorem dL_isFilled_39 : decode cL_isFilled 39 = .ok (.goto 5, 3) := by decide +kernel
theorem dL_isFilled_42 : decode cL_isFilled 42 = .ok (.bipush 9, 2) := by decide +kernel
theorem dL_isFilled_44 : decode cL_isFilled 44 = .ok (.irem, 1) := by decide +kernel
theorem dL_isFilled_45 : decode cL_isFilled 45 = .ok (.iadd, 1) := by decide +kernel
theorem dL_isFilled_46 : decode cL_isFilled 46 = .ok (.istore 10, 2) := by decide +kernel
theorem dL_isFilled_48 : decode cL_isFilled 48 = .ok (.iload 7, 2) := by decide +kernel
theorem dL_isFilled_50 : decode cL_isFilled 50 = .ok (.sipush 200, 3) := by decide +kernel
theorem dL_isFilled_53 : decode cL_isFilled 53 = .ok (.idiv, 1) := by decide +kernel
theorem dL_isFilled_54 : decode cL_isFilled 54 = .ok (.iconst 2, 1) := by decide +kernel
theorem dL_isFilled_55 : decode cL_isFilled 55 = .ok (.irem, 1) := by decide +kernel
theorem dL_isFilled_56 : decode cL_isFilled 56 = .ok (.ifCond .ne 7, 3) := by decide +kernel
theorem dL_isFilled_59 : decode cL_isFilled 59 = .ok (.iconst 0, 1) := by decide +kernel
theorem dL_isFilled_60 : decode cL_isFilled 60 = .ok (.goto 12, 3) := by decide +kernel
theorem dL_isFilled_63 : decode cL_isFilled 63 = .ok (.iload 7, 2) := by decide +kernel
theorem dL_isFilled_65 : decode cL_isFilled 65 = .ok (.sipush 400, 3) := by decide +kernel
theorem dL_isFilled_68 : decode cL_isFilled 68 = .ok (.idiv, 1) := by decide +kernel
theorem dL_isFilled_69 : decode cL_isFilled 69 = .ok (.iload 10, 2) := by decide +kernel
theorem dL_isFilled_71 : decode cL_isFilled 71 = .ok (.irem, 1) := by decide +kernel
theorem dL_isFilled_72 : decode cL_isFilled 72 = .ok (.istore 11, 2) := by decide +kernel
theorem dL_isFilled_74 : decode cL_isFilled 74 = .ok (.aload_n 3, 1) := by decide +kernel
theorem dL_isFilled_75 : decode cL_isFilled 75 = .ok (.iload 8, 2) := by decide +kernel
theorem dL_isFilled_77 : decode cL_isFilled 77 = .ok (.invokestatic 17, 3) := by decide +kernel
theorem dL_isFilled_80 : decode cL_isFilled 80 = .ok (.istore 12, 2) := by decide +kernel
theorem dL_isFilled_82 : decode cL_isFilled 82 = .ok (.aload_n 2, 1) := by decide +kernel
theorem dL_isFilled_83 : decode cL_isFilled 83 = .ok (.iload 9, 2) := by decide +kernel
theorem dL_isFilled_85 : decode cL_isFilled 85 = .ok (.iconst 5, 1) := by decide +kernel
theorem dL_isFilled_86 : decode cL_isFilled 86 = .ok (.iadd, 1) := by decide +kernel
theorem dL_isFilled_87 : decode cL_isFilled 87 = .ok (.iaload, 1) := by decide +kernel
theorem dL_isFilled_88 : decode cL_isFilled 88 = .ok (.ifCond .ge 7, 3) := by decide +kernel
theorem dL_isFilled_91 : decode cL_isFilled 91 = .ok (.iconst 1, 1) := by decide +kernel
theorem dL_isFilled_92 : decode cL_isFilled 92 = .ok (.goto 4, 3) := by decide +kernel
theorem dL_isFilled_95 : decode cL_isFilled 95 = .ok (.iconst 0, 1) := by decide +kernel
theorem dL_isFilled_96 : decode cL_isFilled 96 = .ok (.istore 13, 2) := by decide +kernel
theorem dL_isFilled_98 : decode cL_isFilled 98 = .ok (.iload 12, 2) := by decide +kernel
theorem dL_isFilled_100 : decode cL_isFilled 100 = .ok (.iconst 5, 1) := by decide +kernel
theorem dL_isFilled_101 : decode cL_isFilled 101 = .ok (.if_icmp .ne 10, 3) := by decide +kernel
theorem dL_isFilled_104 : decode cL_isFilled 104 = .ok (.iload 13, 2) := by decide +kernel
theorem dL_isFilled_106 : decode cL_isFilled 106 = .ok (.ifCond .eq 5, 3) := by decide +kernel
theorem dL_isFilled_109 : decode cL_isFilled 109 = .ok (.iconst 1, 1) := by decide +kernel
theorem dL_isFilled_110 : decode cL_isFilled 110 = .ok (.ireturn, 1) := by decide +kernel
theorem dL_isFilled_111 : decode cL_isFilled 111 = .ok (.iload 13, 2) := by decide +kernel
theorem dL_isFilled_113 : decode cL_isFilled 113 = .ok (.ifCond .eq 40, 3) := by decide +kernel
theorem dL_isFilled_116 : decode cL_isFilled 116 = .ok (.aload_n 3, 1) := by decide +kernel
theorem dL_isFilled_117 : decode cL_isFilled 117 = .ok (.iload 8, 2) := by decide +kernel
theorem dL_isFilled_119 : decode cL_isFilled 119 = .ok (.aload_n 3, 1) := by decide +kernel
theorem dL_isFilled_120 : decode cL_isFilled 120 = .ok (.iload 8, 2) := by decide +kernel
theorem dL_isFilled_122 : decode cL_isFilled 122 = .ok (.laload, 1) := by decide +kernel
theorem dL_isFilled_123 : decode cL_isFilled 123 = .ok (.ldc2_w 195, 3) := by decide +kernel
theorem dL_isFilled_126 : decode cL_isFilled 126 = .ok (.land, 1) := by decide +kernel
theorem dL_isFilled_127 : decode cL_isFilled 127 = .ok (.iload 10, 2) := by decide +kernel
theorem dL_isFilled_129 : decode cL_isFilled 129 = .ok (.bipush 32, 2) := by decide +kernel
theorem dL_isFilled_131 : decode cL_isFilled 131 = .ok (.iload 11, 2) := by decide +kernel
theorem dL_isFilled_133 : decode cL_isFilled 133 = .ok (.imul, 1) := by decide +kernel
theorem dL_isFilled_134 : decode cL_isFilled 134 = .ok (.iadd, 1) := by decide +kernel
theorem dL_isFilled_135 : decode cL_isFilled 135 = .ok (.i2l, 1) := by decide +kernel
theorem dL_isFilled_136 : decode cL_isFilled 136 = .ok (.bipush 10, 2) := by decide +kernel
theorem dL_isFilled_138 : decode cL_isFilled 138 = .ok (.iload 12, 2) := by decide +kernel
theorem dL_isFilled_140 : decode cL_isFilled 140 = .ok (.imul, 1) := by decide +kernel
theorem dL_isFilled_141 : decode cL_isFilled 141 = .ok (.lshl, 1) := by decide +kernel
theorem dL_isFilled_142 : decode cL_isFilled 142 = .ok (.lor, 1) := by decide +kernel
theorem dL_isFilled_143 : decode cL_isFilled 143 = .ok (.iload 12, 2) := by decide +kernel
theorem dL_isFilled_145 : decode cL_isFilled 145 = .ok (.iconst 1, 1) := by decide +kernel
theorem dL_isFilled_146 : decode cL_isFilled 146 = .ok (.iadd, 1) := by decide +kernel
theorem dL_isFilled_147 : decode cL_isFilled 147 = .ok (.i2l, 1) := by decide +kernel
theorem dL_isFilled_148 : decode cL_isFilled 148 = .ok (.bipush 50, 2) := by decide +kernel
theorem dL_isFilled_150 : decode cL_isFilled 150 = .ok (.lshl, 1) := by decide +kernel
theorem dL_isFilled_151 : decode cL_isFilled 151 = .ok (.lor, 1) := by decide +kernel
theorem dL_isFilled_152 : decode cL_isFilled 152 = .ok (.lastore, 1) := by decide +kernel
theorem dL_isFilled_153 : decode cL_isFilled 153 = .ok (.aload_n 0, 1) := by decide +kernel
theorem dL_isFilled_154 : decode cL_isFilled 154 = .ok (.iload 8, 2) := by decide +kernel
theorem dL_isFilled_156 : decode cL_isFilled 156 = .ok (.iload 10, 2) := by decide +kernel
theorem dL_isFilled_158 : decode cL_isFilled 158 = .ok (.iload 11, 2) := by decide +kernel
theorem dL_isFilled_160 : decode cL_isFilled 160 = .ok (.invokestatic 197, 3) := by decide +kernel
theorem dL_isFilled_163 : decode cL_isFilled 163 = .ok (.iload 13, 2) := by decide +kernel
theorem dL_isFilled_165 : decode cL_isFilled 165 = .ok (.ifCond .eq 10, 3) := by decide +kernel
theorem dL_isFilled_168 : decode cL_isFilled 168 = .ok (.iload 12, 2) := by decide +kernel
theorem dL_isFilled_170 : decode cL_isFilled 170 = .ok (.iconst 1, 1) := by decide +kernel
theorem dL_isFilled_171 : decode cL_isFilled 171 = .ok (.iadd, 1) := by decide +kernel
theorem dL_isFilled_172 : decode cL_isFilled 172 = .ok (.goto 5, 3) := by decide +kernel
theorem dL_isFilled_175 : decode cL_isFilled 175 = .ok (.bipush (-7), 2) := by decide +kernel
theorem dL_isFilled_177 : decode cL_isFilled 177 = .ok (.if_icmp .ne 7, 3) := by decide +kernel
theorem dL_isFilled_180 : decode cL_isFilled 180 = .ok (.iconst 1, 1) := by decide +kernel
theorem dL_isFilled_181 : decode cL_isFilled 181 = .ok (.goto 4, 3) := by decide +kernel
theorem dL_isFilled_184 : decode cL_isFilled 184 = .ok (.iconst 0, 1) := by decide +kernel
theorem dL_isFilled_185 : decode cL_isFilled 185 = .ok (.ireturn, 1) := by decide +kernel
theorem dL_isFilled_186 : decode cL_isFilled 186 = .ok (.iload 6, 2) := by decide +kernel
theorem dL_isFilled_188 : decode cL_isFilled 188 = .ok (.bipush 8, 2) := by decide +kernel
theorem dL_isFilled_190 : decode cL_isFilled 190 = .ok (.if_icmp .ge 186, 3) := by decide +kernel
theorem dL_isFilled_193 : decode cL_isFilled 193 = .ok (.iload 7, 2) := by decide +kernel
theorem dL_isFilled_195 : decode cL_isFilled 195 = .ok (.bipush 10, 2) := by decide +kernel
theorem dL_isFilled_197 : decode cL_isFilled 197 = .ok (.idiv, 1) := by decide +kernel
theorem dL_isFilled_198 : decode cL_isFilled 198 = .ok (.iconst 3, 1) := by decide +kernel
theorem dL_isFilled_199 : decode cL_isFilled 199 = .ok (.irem, 1) := by decide +kernel
theorem dL_isFilled_200 : decode cL_isFilled 200 = .ok (.istore 10, 2) := by decide +kernel
theorem dL_isFilled_202 : decode cL_isFilled 202 = .ok (.iload 7, 2) := by decide +kernel
theorem dL_isFilled_204 : decode cL_isFilled 204 = .ok (.bipush 30, 2) := by decide +kernel
theorem dL_isFilled_206 : decode cL_isFilled 206 = .ok (.idiv, 1) := by decide +kernel
theorem dL_isFilled_207 : decode cL_isFilled 207 = .ok (.iload 7, 2) := by decide +kernel
theorem dL_isFilled_209 : decode cL_isFilled 209 = .ok (.iconst 4, 1) := by decide +kernel
theorem dL_isFilled_210 : decode cL_isFilled 210 = .ok (.irem, 1) := by decide +kernel
theorem dL_isFilled_211 : decode cL_isFilled 211 = .ok (.ifCond .ne 9, 3) := by decide +kernel
theorem dL_isFilled_214 : decode cL_isFilled 214 = .ok (.sipush 20001, 3) := by decide +kernel
theorem dL_isFilled_217 : decode cL_isFilled 217 = .ok (.goto 6, 3) := by decide +kernel
theorem dL_isFilled_220 : decode cL_isFilled 220 = .ok (.sipush 301, 3) := by decide +kernel
theorem dL_isFilled_223 : decode cL_isFilled 223 = .ok (.irem, 1) := by decide +kernel
theorem dL_isFilled_224 : decode cL_isFilled 224 = .ok (.bipush 100, 2) := by decide +kernel
theorem dL_isFilled_226 : decode cL_isFilled 226 = .ok (.isub, 1) := by decide +kernel
theorem dL_isFilled_227 : decode cL_isFilled 227 = .ok (.iload 10, 2) := by decide +kernel
theorem dL_isFilled_229 : decode cL_isFilled 229 = .ok (.ifCond .ne 8, 3) := by decide +kernel
theorem dL_isFilled_232 : decode cL_isFilled 232 = .ok (.bipush 100, 2) := by decide +kernel
theorem dL_isFilled_234 : decode cL_isFilled 234 = .ok (.goto 15, 3) := by decide +kernel
theorem dL_isFilled_237 : decode cL_isFilled 237 = .ok (.iload 10, 2) := by decide +kernel
theorem dL_isFilled_239 : decode cL_isFilled 239 = .ok (.iconst 1, 1) := by decide +kernel
theorem dL_isFilled_240 : decode cL_isFilled 240 = .ok (.if_icmp .ne 8, 3) := by decide +kernel
theorem dL_isFilled_243 : decode cL_isFilled 243 = .ok (.bipush 10, 2) := by decide +kernel
theorem dL_isFilled_245 : decode cL_isFilled 245 = .ok (.goto 4, 3) := by decide +kernel
theorem dL_isFilled_248 : decode cL_isFilled 248 = .ok (.iconst 1, 1) := by decide +kernel
theorem dL_isFilled_249 : decode cL_isFilled 249 = .ok (.imul, 1) := by decide +kernel
theorem dL_isFilled_250 : decode cL_isFilled 250 = .ok (.istore 11, 2) := by decide +kernel
theorem dL_isFilled_252 : decode cL_isFilled 252 = .ok (.iload 11, 2) := by decide +kernel
theorem dL_isFilled_254 : decode cL_isFilled 254 = .ok (.ldc 201, 2) := by decide +kernel
theorem dL_isFilled_256 : decode cL_isFilled 256 = .ok (.if_icmp .le 8, 3) := by decide +kernel
theorem dL_isFilled_259 : decode cL_isFilled 259 = .ok (.ldc 201, 2) := by decide +kernel
theorem dL_isFilled_261 : decode cL_isFilled 261 = .ok (.goto 5, 3) := by decide +kernel
theorem dL_isFilled_264 : decode cL_isFilled 264 = .ok (.iload 11, 2) := by decide +kernel
theorem dL_isFilled_266 : decode cL_isFilled 266 = .ok (.istore 11, 2) := by decide +kernel
theorem dL_isFilled_268 : decode cL_isFilled 268 = .ok (.aload_n 3, 1) := by decide +kernel
theorem dL_isFilled_269 : decode cL_isFilled 269 = .ok (.iload 8, 2) := by decide +kernel
theorem dL_isFilled_271 : decode cL_isFilled 271 = .ok (.invokestatic 17, 3) := by decide +kernel
theorem dL_isFilled_274 : decode cL_isFilled 274 = .ok (.ifCond .ne 27, 3) := by decide +kernel
theorem dL_isFilled_277 : decode cL_isFilled 277 = .ok (.aload_n 2, 1) := by decide +kernel
theorem dL_isFilled_278 : decode cL_isFilled 278 = .ok (.iload 9, 2) := by decide +kernel
theorem dL_isFilled_280 : decode cL_isFilled 280 = .ok (.iconst 2, 1) := by decide +kernel
theorem dL_isFilled_281 : decode cL_isFilled 281 = .ok (.iadd, 1) := by decide +kernel
theorem dL_isFilled_282 : decode cL_isFilled 282 = .ok (.iaload, 1) := by decide +kernel
theorem dL_isFilled_283 : decode cL_isFilled 283 = .ok (.iconst 1, 1) := by decide +kernel
theorem dL_isFilled_284 : decode cL_isFilled 284 = .ok (.if_icmp .ne 17, 3) := by decide +kernel
theorem dL_isFilled_287 : decode cL_isFilled 287 = .ok (.aload_n 2, 1) := by decide +kernel
theorem dL_isFilled_288 : decode cL_isFilled 288 = .ok (.iload 9, 2) := by decide +kernel
theorem dL_isFilled_290 : decode cL_isFilled 290 = .ok (.iconst 3, 1) := by decide +kernel
theorem dL_isFilled_291 : decode cL_isFilled 291 = .ok (.iadd, 1) := by decide +kernel
theorem dL_isFilled_292 : decode cL_isFilled 292 = .ok (.iaload, 1) := by decide +kernel
theorem dL_isFilled_293 : decode cL_isFilled 293 = .ok (.iconst 1, 1) := by decide +kernel
theorem dL_isFilled_294 : decode cL_isFilled 294 = .ok (.if_icmp .ne 7, 3) := by decide +kernel
theorem dL_isFilled_297 : decode cL_isFilled 297 = .ok (.iconst 1, 1) := by decide +kernel
theorem dL_isFilled_298 : decode cL_isFilled 298 = .ok (.goto 4, 3) := by decide +kernel
theorem dL_isFilled_301 : decode cL_isFilled 301 = .ok (.iconst 0, 1) := by decide +kernel
theorem dL_isFilled_302 : decode cL_isFilled 302 = .ok (.istore 12, 2) := by decide +kernel
theorem dL_isFilled_304 : decode cL_isFilled 304 = .ok (.aload_n 2, 1) := by decide +kernel
theorem dL_isFilled_305 : decode cL_isFilled 305 = .ok (.iload 9, 2) := by decide +kernel
theorem dL_isFilled_307 : decode cL_isFilled 307 = .ok (.iconst 5, 1) := by decide +kernel
theorem dL_isFilled_308 : decode cL_isFilled 308 = .ok (.iadd, 1) := by decide +kernel
theorem dL_isFilled_309 : decode cL_isFilled 309 = .ok (.iload 12, 2) := by decide +kernel
theorem dL_isFilled_311 : decode cL_isFilled 311 = .ok (.ifCond .eq 8, 3) := by decide +kernel
theorem dL_isFilled_314 : decode cL_isFilled 314 = .ok (.iload 10, 2) := by decide +kernel
theorem dL_isFilled_316 : decode cL_isFilled 316 = .ok (.goto 9, 3) := by decide +kernel
theorem dL_isFilled_319 : decode cL_isFilled 319 = .ok (.aload_n 2, 1) := by decide +kernel
theorem dL_isFilled_320 : decode cL_isFilled 320 = .ok (.iload 9, 2) := by decide +kernel
theorem dL_isFilled_322 : decode cL_isFilled 322 = .ok (.iconst 5, 1) := by decide +kernel
theorem dL_isFilled_323 : decode cL_isFilled 323 = .ok (.iadd, 1) := by decide +kernel
theorem dL_isFilled_324 : decode cL_isFilled 324 = .ok (.iaload, 1) := by decide +kernel
theorem dL_isFilled_325 : decode cL_isFilled 325 = .ok (.iastore, 1) := by decide +kernel
theorem dL_isFilled_326 : decode cL_isFilled 326 = .ok (.aload 4, 2) := by decide +kernel
theorem dL_isFilled_328 : decode cL_isFilled 328 = .ok (.iload 8, 2) := by decide +kernel
theorem dL_isFilled_330 : decode cL_isFilled 330 = .ok (.iload 12, 2) := by decide +kernel
theorem dL_isFilled_332 : decode cL_isFilled 332 = .ok (.ifCond .eq 8, 3) := by decide +kernel
theorem dL_isFilled_335 : decode cL_isFilled 335 = .ok (.iload 11, 2) := by decide +kernel
theorem dL_isFilled_337 : decode cL_isFilled 337 = .ok (.goto 8, 3) := by decide +kernel
theorem dL_isFilled_340 : decode cL_isFilled 340 = .ok (.aload 4, 2) := by decide +kernel
theorem dL_isFilled_342 : decode cL_isFilled 342 = .ok (.iload 8, 2) := by decide +kernel
theorem dL_isFilled_344 : decode cL_isFilled 344 = .ok (.iaload, 1) := by decide +kernel
theorem dL_isFilled_345 : decode cL_isFilled 345 = .ok (.iastore, 1) := by decide +kernel
theorem dL_isFilled_346 : decode cL_isFilled 346 = .ok (.aload_n 0, 1) := by decide +kernel
theorem dL_isFilled_347 : decode cL_isFilled 347 = .ok (.iload 8, 2) := by decide +kernel
theorem dL_isFilled_349 : decode cL_isFilled 349 = .ok (.iload 11, 2) := by decide +kernel
theorem dL_isFilled_351 : decode cL_isFilled 351 = .ok (.iload 10, 2) := by decide +kernel
theorem dL_isFilled_353 : decode cL_isFilled 353 = .ok (.invokestatic 202, 3) := by decide +kernel
theorem dL_isFilled_356 : decode cL_isFilled 356 = .ok (.iload 12, 2) := by decide +kernel
theorem dL_isFilled_358 : decode cL_isFilled 358 = .ok (.ifCond .eq 7, 3) := by decide +kernel
theorem dL_isFilled_361 : decode cL_isFilled 361 = .ok (.iconst 0, 1) := by decide +kernel
theorem dL_isFilled_362 : decode cL_isFilled 362 = .ok (.goto 5, 3) := by decide +kernel
theorem dL_isFilled_365 : decode cL_isFilled 365 = .ok (.bipush (-7), 2) := by decide +kernel
theorem dL_isFilled_367 : decode cL_isFilled 367 = .ok (.if_icmp .ne 7, 3) := by decide +kernel
theorem dL_isFilled_370 : decode cL_isFilled 370 = .ok (.iconst 1, 1) := by decide +kernel
theorem dL_isFilled_371 : decode cL_isFilled 371 = .ok (.goto 4, 3) := by decide +kernel
theorem dL_isFilled_374 : decode cL_isFilled 374 = .ok (.iconst 0, 1) := by decide +kernel
theorem dL_isFilled_375 : decode cL_isFilled 375 = .ok (.ireturn, 1) := by decide +kernel
theorem dL_isFilled_376 : decode cL_isFilled 376 = .ok (.iload 6, 2) := by decide +kernel
theorem dL_isFilled_378 : decode cL_isFilled 378 = .ok (.bipush 8, 2) := by decide +kernel
theorem dL_isFilled_380 : decode cL_isFilled 380 = .ok (.if_icmp .ne 40, 3) := by decide +kernel
theorem dL_isFilled_383 : decode cL_isFilled 383 = .ok (.aload_n 3, 1) := by decide +kernel
theorem dL_isFilled_384 : decode cL_isFilled 384 = .ok (.iload 8, 2) := by decide +kernel
theorem dL_isFilled_386 : decode cL_isFilled 386 = .ok (.invokestatic 17, 3) := by decide +kernel
theorem dL_isFilled_389 : decode cL_isFilled 389 = .ok (.istore 10, 2) := by decide +kernel
theorem dL_isFilled_391 : decode cL_isFilled 391 = .ok (.aload_n 3, 1) := by decide +kernel
theorem dL_isFilled_392 : decode cL_isFilled 392 = .ok (.iload 8, 2) := by decide +kernel
theorem dL_isFilled_394 : decode cL_isFilled 394 = .ok (.lconst 0, 1) := by decide +kernel
theorem dL_isFilled_395 : decode cL_isFilled 395 = .ok (.lastore, 1) := by decide +kernel
theorem dL_isFilled_396 : decode cL_isFilled 396 = .ok (.aload_n 2, 1) := by decide +kernel
theorem dL_isFilled_397 : decode cL_isFilled 397 = .ok (.iload 9, 2) := by decide +kernel
theorem dL_isFilled_399 : decode cL_isFilled 399 = .ok (.iconst 5, 1) := by decide +kernel
theorem dL_isFilled_400 : decode cL_isFilled 400 = .ok (.iadd, 1) := by decide +kernel
theorem dL_isFilled_401 : decode cL_isFilled 401 = .ok (.iconst (-1), 1) := by decide +kernel
theorem dL_isFilled_402 : decode cL_isFilled 402 = .ok (.iastore, 1) := by decide +kernel
theorem dL_isFilled_403 : decode cL_isFilled 403 = .ok (.aload_n 0, 1) := by decide +kernel
theorem dL_isFilled_404 : decode cL_isFilled 404 = .ok (.iload 8, 2) := by decide +kernel
theorem dL_isFilled_406 : decode cL_isFilled 406 = .ok (.invokevirtual 205, 3) := by decide +kernel
theorem dL_isFilled_409 : decode cL_isFilled 409 = .ok (.iload 10, 2) := by decide +kernel
theorem dL_isFilled_411 : decode cL_isFilled 411 = .ok (.if_icmp .ne 7, 3) := by decide +kernel
theorem dL_isFilled_414 : decode cL_isFilled 414 = .ok (.iconst 1, 1) := by decide +kernel
theorem dL_isFilled_415 : decode cL_isFilled 415 = .ok (.goto 4, 3) := by decide +kernel
theorem dL_isFilled_418 : decode cL_isFilled 418 = .ok (.iconst 0, 1) := by decide +kernel
theorem dL_isFilled_419 : decode cL_isFilled 419 = .ok (.ireturn, 1) := by decide +kernel
theorem dL_isFilled_420 : decode cL_isFilled 420 = .ok (.aload_n 1, 1) := by decide +kernel
theorem dL_isFilled_421 : decode cL_isFilled 421 = .ok (.iconst 3, 1) := by decide +kernel
theorem dL_isFilled_422 : decode cL_isFilled 422 = .ok (.aload_n 2, 1) := by decide +kernel
theorem dL_isFilled_423 : decode cL_isFilled 423 = .ok (.iload 9, 2) := by decide +kernel
theorem dL_isFilled_425 : decode cL_isFilled 425 = .ok (.iaload, 1) := by decide +kernel
theorem dL_isFilled_426 : decode cL_isFilled 426 = .ok (.imul, 1) := by decide +kernel
theorem dL_isFilled_427 : decode cL_isFilled 427 = .ok (.iaload, 1) := by decide +kernel
theorem dL_isFilled_428 : decode cL_isFilled 428 = .ok (.iconst 1, 1) := by decide +kernel
theorem dL_isFilled_429 : decode cL_isFilled 429 = .ok (.if_icmp .ne 7, 3) := by decide +kernel
theorem dL_isFilled_432 : decode cL_isFilled 432 = .ok (.iconst 1, 1) := by decide +kernel
theorem dL_isFilled_433 : decode cL_isFilled 433 = .ok (.goto 4, 3) := by decide +kernel
theorem dL_isFilled_436 : decode cL_isFilled 436 = .ok (.iconst 0, 1) := by decide +kernel
theorem dL_isFilled_437 : decode cL_isFilled 437 = .ok (.istore 10, 2) := by decide +kernel
theorem dL_isFilled_439 : decode cL_isFilled 439 = .ok (.aload_n 2, 1) := by decide +kernel
theorem dL_isFilled_440 : decode cL_isFilled 440 = .ok (.iload 9, 2) := by decide +kernel
theorem dL_isFilled_442 : decode cL_isFilled 442 = .ok (.iconst 4, 1) := by decide +kernel
theorem dL_isFilled_443 : decode cL_isFilled 443 = .ok (.iadd, 1) := by decide +kernel
theorem dL_isFilled_444 : decode cL_isFilled 444 = .ok (.iaload, 1) := by decide +kernel
theorem dL_isFilled_445 : decode cL_isFilled 445 = .ok (.istore 11, 2) := by decide +kernel
theorem dL_isFilled_447 : decode cL_isFilled 447 = .ok (.aload_n 2, 1) := by decide +kernel
theorem dL_isFilled_448 : decode cL_isFilled 448 = .ok (.iload 9, 2) := by decide +kernel
theorem dL_isFilled_450 : decode cL_isFilled 450 = .ok (.iconst 4, 1) := by decide +kernel
theorem dL_isFilled_451 : decode cL_isFilled 451 = .ok (.iadd, 1) := by decide +kernel
theorem dL_isFilled_452 : decode cL_isFilled 452 = .ok (.iload 10, 2) := by decide +kernel
theorem dL_isFilled_454 : decode cL_isFilled 454 = .ok (.ifCond .eq 13, 3) := by decide +kernel
theorem dL_isFilled_457 : decode cL_isFilled 457 = .ok (.iload 7, 2) := by decide +kernel
theorem dL_isFilled_459 : decode cL_isFilled 459 = .ok (.bipush 10, 2) := by decide +kernel
theorem dL_isFilled_461 : decode cL_isFilled 461 = .ok (.idiv, 1) := by decide +kernel
theorem dL_isFilled_462 : decode cL_isFilled 462 = .ok (.iconst 4, 1) := by decide +kernel
theorem dL_isFilled_463 : decode cL_isFilled 463 = .ok (.irem, 1) := by decide +kernel
theorem dL_isFilled_464 : decode cL_isFilled 464 = .ok (.goto 5, 3) := by decide +kernel
theorem dL_isFilled_467 : decode cL_isFilled 467 = .ok (.iload 11, 2) := by decide +kernel
theorem dL_isFilled_469 : decode cL_isFilled 469 = .ok (.iastore, 1) := by decide +kernel
theorem dL_isFilled_470 : decode cL_isFilled 470 = .ok (.aload_n 0, 1) := by decide +kernel
theorem dL_isFilled_471 : decode cL_isFilled 471 = .ok (.iload 8, 2) := by decide +kernel
theorem dL_isFilled_473 : decode cL_isFilled 473 = .ok (.iload 7, 2) := by decide +kernel
theorem dL_isFilled_475 : decode cL_isFilled 475 = .ok (.bipush 10, 2) := by decide +kernel
theorem dL_isFilled_477 : decode cL_isFilled 477 = .ok (.idiv, 1) := by decide +kernel
theorem dL_isFilled_478 : decode cL_isFilled 478 = .ok (.iconst 4, 1) := by decide +kernel
theorem dL_isFilled_479 : decode cL_isFilled 479 = .ok (.irem, 1) := by decide +kernel
theorem dL_isFilled_480 : decode cL_isFilled 480 = .ok (.invokestatic 208, 3) := by decide +kernel
theorem dL_isFilled_483 : decode cL_isFilled 483 = .ok (.iload 10, 2) := by decide +kernel
theorem dL_isFilled_485 : decode cL_isFilled 485 = .ok (.ifCond .eq 8, 3) := by decide +kernel
theorem dL_isFilled_488 : decode cL_isFilled 488 = .ok (.iload 11, 2) := by decide +kernel
theorem dL_isFilled_490 : decode cL_isFilled 490 = .ok (.goto 5, 3) := by decide +kernel
theorem dL_isFilled_493 : decode cL_isFilled 493 = .ok (.bipush (-7), 2) := by decide +kernel
theorem dL_isFilled_495 : decode cL_isFilled 495 = .ok (.if_icmp .ne 7, 3) := by decide +kernel
theorem dL_isFilled_498 : decode cL_isFilled 498 = .ok (.iconst 1, 1) := by decide +kernel
theorem dL_isFilled_499 : decode cL_isFilled 499 = .ok (.goto 4, 3) := by decide +kernel
theorem dL_isFilled_502 : decode cL_isFilled 502 = .ok (.iconst 0, 1) := by decide +kernel
theorem dL_isFilled_503 : decode cL_isFilled 503 = .ok (.ireturn, 1) := by decide +kernel
theorem dL_isSet_0 : decode cL_isSet 0 = .ok (.iload 5, 2) := by decide +kernel
theorem dL_isSet_2 : decode cL_isSet 2 = .ok (.ifCond .ne 91, 3) := by decide +kernel
theorem dL_isSet_5 : decode cL_isSet 5 = .ok (.aload 4, 2) := by decide +kernel
theorem dL_isSet_7 : decode cL_isSet 7 = .ok (.iconst 3, 1) := by decide +kernel
theorem dL_isSet_8 : decode cL_isSet 8 = .ok (.iload 6, 2) := by decide +kernel
theorem dL_isSet_10 : decode cL_isSet 10 = .ok (.iconst 3, 1) := by decide +kernel
theorem dL_isSet_11 : decode cL_isSet 11 = .ok (.irem, 1) := by decide +kernel
theorem dL_isSet_12 : decode cL_isSet 12 = .ok (.ifCond .ne 16, 3) := by decide +kernel
theorem dL_isSet_15 : decode cL_isSet 15 = .ok (.iconst 1, 1) := by decide +kernel
theorem dL_isSet_16 : decode cL_isSet 16 = .ok (.iload 6, 2) := by decide +kernel
theorem dL_isSet_18 : decode cL_isSet 18 = .ok (.iconst 3, 1) := by decide +kernel
theorem dL_isSet_19 : decode cL_isSet 19 = .ok (.idiv, 1) := by decide +kernel
theorem dL_isSet_20 : decode cL_isSet 20 = .ok (.sipush 150, 3) := by decide +kernel
theorem dL_isSet_23 : decode cL_isSet 23 = .ok (.irem, 1) := by decide +kernel
theorem dL_isSet_24 : decode cL_isSet 24 = .ok (.iadd, 1) := by decide +kernel
theorem dL_isSet_25 : decode cL_isSet 25 = .ok (.goto 13, 3) := by decide +kernel
theorem dL_isSet_28 : decode cL_isSet 28 = .ok (.bipush 10, 2) := by decide +kernel
theorem dL_isSet_30 : decode cL_isSet 30 = .ok (.iload 6, 2) := by decide +kernel
theorem dL_isSet_32 : decode cL_isSet 32 = .ok (.iconst 3, 1) := by decide +kernel
theorem dL_isSet_33 : decode cL_isSet 33 = .ok (.idiv, 1) := by decide +kernel
theorem dL_isSet_34 : decode cL_isSet 34 = .ok (.bipush 60, 2) := by decide +kernel
theorem dL_isSet_36 : decode cL_isSet 36 = .ok (.irem, 1) := by decide +kernel
theorem dL_isSet_37 : decode cL_isSet 37 = .ok (.iadd, 1) := by decide +kernel
theorem dL_isSet_38 : decode cL_isSet 38 = .ok (.iastore, 1) := by decide +kernel
theorem dL_isSet_39 : decode cL_isSet 39 = .ok (.aload 4, 2) := by decide +kernel
theorem dL_isSet_41 : decode cL_isSet 41 = .ok (.iconst 4, 1) := by decide +kernel
theorem dL_isSet_42 : decode cL_isSet 42 = .ok (.iload 6, 2) := by decide +kernel
theorem dL_isSet_44 : decode cL_isSet 44 = .ok (.sipush 450, 3) := by decide +kernel
theorem dL_isSet_47 : decode cL_isSet 47 = .ok (.idiv, 1) := by decide +kernel
theorem dL_isSet_48 : decode cL_isSet 48 = .ok (.iconst 3, 1) := by decide +kernel
theorem dL_isSet_49 : decode cL_isSet 49 = .ok (.irem, 1) := by decide +kernel
theorem dL_isSet_50 : decode cL_isSet 50 = .ok (.ifCond .ne 17, 3) := by decide +kernel
theorem dL_isSet_53 : decode cL_isSet 53 = .ok (.iconst 1, 1) := by decide +kernel
theorem dL_isSet_54 : decode cL_isSet 54 = .ok (.iload 6, 2) := by decide +kernel
theorem dL_isSet_56 : decode cL_isSet 56 = .ok (.sipush 1350, 3) := by decide +kernel
theorem dL_isSet_59 : decode cL_isSet 59 = .ok (.idiv, 1) := by decide +kernel
theorem dL_isSet_60 : decode cL_isSet 60 = .ok (.bipush 100, 2) := by decide +kernel
theorem dL_isSet_62 : decode cL_isSet 62 = .ok (.irem, 1) := by decide +kernel
theorem dL_isSet_63 : decode cL_isSet 63 = .ok (.iadd, 1) := by decide +kernel
theorem dL_isSet_64 : decode cL_isSet 64 = .ok (.goto 14, 3) := by decide +kernel
theorem dL_isSet_67 : decode cL_isSet 67 = .ok (.iconst 3, 1) := by decide +kernel
theorem dL_isSet_68 : decode cL_isSet 68 = .ok (.iload 6, 2) := by decide +kernel
theorem dL_isSet_70 : decode cL_isSet 70 = .ok (.sipush 1350, 3) := by decide +kernel
theorem dL_isSet_73 : decode cL_isSet 73 = .ok (.idiv, 1) := by decide +kernel
theorem dL_isSet_74 : decode cL_isSet 74 = .ok (.bipush 12, 2) := by decide +kernel
theorem dL_isSet_76 : decode cL_isSet 76 = .ok (.irem, 1) := by decide +kernel
theorem dL_isSet_77 : decode cL_isSet 77 = .ok (.iadd, 1) := by decide +kernel
theorem dL_isSet_78 : decode cL_isSet 78 = .ok (.iastore, 1) := by decide +kernel
theorem dL_isSet_79 : decode cL_isSet 79 = .ok (.aload_n 0, 1) := by decide +kernel
theorem dL_isSet_80 : decode cL_isSet 80 = .ok (.aload 4, 2) := by decide +kernel
theorem dL_isSet_82 : decode cL_isSet 82 = .ok (.iconst 3, 1) := by decide +kernel
theorem dL_isSet_83 : decode cL_isSet 83 = .ok (.iaload, 1) := by decide +kernel
theorem dL_isSet_84 : decode cL_isSet 84 = .ok (.aload 4, 2) := by decide +kernel
theorem dL_isSet_86 : decode cL_isSet 86 = .ok (.iconst 4, 1) := by decide +kernel
theorem dL_isSet_87 : decode cL_isSet 87 = .ok (.iaload, 1) := by decide +kernel
theorem dL_isSet_88 : decode cL_isSet 88 = .ok (.invokevirtual 224, 3) := by decide +kernel
theorem dL_isSet_91 : decode cL_isSet 91 = .ok (.iconst 1, 1) := by decide +kernel
theorem dL_isSet_92 : decode cL_isSet 92 = .ok (.ireturn, 1) := by decide +kernel
theorem dL_isSet_93 : decode cL_isSet 93 = .ok (.iload 6, 2) := by decide +kernel
theorem dL_isSet_95 : decode cL_isSet 95 = .ok (.aload 4, 2) := by decide +kernel
theorem dL_isSet_97 : decode cL_isSet 97 = .ok (.iconst 0, 1) := by decide +kernel
theorem dL_isSet_98 : decode cL_isSet 98 = .ok (.iaload, 1) := by decide +kernel
theorem dL_isSet_99 : decode cL_isSet 99 = .ok (.irem, 1) := by decide +kernel
theorem dL_isSet_100 : decode cL_isSet 100 = .ok (.istore 7, 2) := by decide +kernel
theorem dL_isSet_102 : decode cL_isSet 102 = .ok (.iload 5, 2) := by decide +kernel
theorem dL_isSet_104 : decode cL_isSet 104 = .ok (.iconst 1, 1) := by decide +kernel
theorem dL_isSet_105 : decode cL_isSet 105 = .ok (.if_icmp .ne 39, 3) := by decide +kernel
theorem dL_isSet_108 : decode cL_isSet 108 = .ok (.aload 4, 2) := by decide +kernel
theorem dL_isSet_110 : decode cL_isSet 110 = .ok (.iconst 5, 1) := by decide +kernel
theorem dL_isSet_111 : decode cL_isSet 111 = .ok (.iconst 1, 1) := by decide +kernel
theorem dL_isSet_112 : decode cL_isSet 112 = .ok (.aload 4, 2) := by decide +kernel
theorem dL_isSet_114 : decode cL_isSet 114 = .ok (.iconst 5, 1) := by decide +kernel
theorem dL_isSet_115 : decode cL_isSet 115 = .ok (.iaload, 1) := by decide +kernel
theorem dL_isSet_116 : decode cL_isSet 116 = .ok (.isub, 1) := by decide +kernel
theorem dL_isSet_117 : decode cL_isSet 117 = .ok (.iastore, 1) := by decide +kernel
theorem dL_isSet_118 : decode cL_isSet 118 = .ok (.aload_n 0, 1) := by decide +kernel
theorem dL_isSet_119 : decode cL_isSet 119 = .ok (.invokevirtual 228, 3) := by decide +kernel
theorem dL_isSet_122 : decode cL_isSet 122 = .ok (.aload 4, 2) := by decide +kernel
theorem dL_isSet_124 : decode cL_isSet 124 = .ok (.iconst 5, 1) := by decide +kernel
theorem dL_isSet_125 : decode cL_isSet 125 = .ok (.iaload, 1) := by decide +kernel
theorem dL_isSet_126 : decode cL_isSet 126 = .ok (.iconst 1, 1) := by decide +kernel
theorem dL_isSet_127 : decode cL_isSet 127 = .ok (.if_icmp .ne 7, 3) := by decide +kernel
theorem dL_isSet_130 : decode cL_isSet 130 = .ok (.iconst 1, 1) := by decide +kernel
theorem dL_isSet_131 : decode cL_isSet 131 = .ok (.goto 4, 3) := by decide +kernel
theorem dL_isSet_134 : decode cL_isSet 134 = .ok (.iconst 0, 1) := by decide +kernel
theorem dL_isSet_135 : decode cL_isSet 135 = .ok (.if_icmp .ne 7, 3) := by decide +kernel
theorem dL_isSet_138 : decode cL_isSet 138 = .ok (.iconst 1, 1) := by decide +kernel
theorem dL_isSet_139 : decode cL_isSet 139 = .ok (.goto 4, 3) := by decide +kernel
theorem dL_isSet_142 : decode cL_isSet 142 = .ok (.iconst 0, 1) := by decide +kernel
theorem dL_isSet_143 : decode cL_isSet 143 = .ok (.ireturn, 1) := by decide +kernel
theorem dL_isSet_144 : decode cL_isSet 144 = .ok (.iload 5, 2) := by decide +kernel
theorem dL_isSet_146 : decode cL_isSet 146 = .ok (.iconst 4, 1) := by decide +kernel
theorem dL_isSet_147 : decode cL_isSet 147 = .ok (.if_icmp .ge 53, 3) := by decide +kernel
theorem dL_isSet_150 : decode cL_isSet 150 = .ok (.aload_n 1, 1) := by decide +kernel
theorem dL_isSet_151 : decode cL_isSet 151 = .ok (.iconst 4, 1) := by decide +kernel
theorem dL_isSet_152 : decode cL_isSet 152 = .ok (.iload 7, 2) := by decide +kernel
theorem dL_isSet_154 : decode cL_isSet 154 = .ok (.imul, 1) := by decide +kernel
theorem dL_isSet_155 : decode cL_isSet 155 = .ok (.iconst 2, 1) := by decide +kernel
theorem dL_isSet_156 : decode cL_isSet 156 = .ok (.iadd, 1) := by decide +kernel
theorem dL_isSet_157 : decode cL_isSet 157 = .ok (.iconst 1, 1) := by decide +kernel
theorem dL_isSet_158 : decode cL_isSet 158 = .ok (.aload_n 1, 1) := by decide +kernel
theorem dL_isSet_159 : decode cL_isSet 159 = .ok (.iconst 4, 1) := by decide +kernel
theorem dL_isSet_160 : decode cL_isSet 160 = .ok (.iload 7, 2) := by decide +kernel
theorem dL_isSet_162 : decode cL_isSet 162 = .ok (.imul, 1) := by decide +kernel
theorem dL_isSet_163 : decode cL_isSet 163 = .ok (.iconst 2, 1) := by decide +kernel
theorem dL_isSet_164 : decode cL_isSet 164 = .ok (.iadd, 1) := by decide +kernel
theorem dL_isSet_165 : decode cL_isSet 165 = .ok (.iaload, 1) := by decide +kernel
theorem dL_isSet_166 : decode cL_isSet 166 = .ok (.isub, 1) := by decide +kernel
theorem dL_isSet_167 : decode cL_isSet 167 = .ok (.iastore, 1) := by decide +kernel
theorem dL_isSet_168 : decode cL_isSet 168 = .ok (.aload_n 0, 1) := by decide +kernel
theorem dL_isSet_169 : decode cL_isSet 169 = .ok (.iload 7, 2) := by decide +kernel
theorem dL_isSet_171 : decode cL_isSet 171 = .ok (.invokevirtual 232, 3) := by decide +kernel
theorem dL_isSet_174 : decode cL_isSet 174 = .ok (.aload_n 1, 1) := by decide +kernel
theorem dL_isSet_175 : decode cL_isSet 175 = .ok (.iconst 4, 1) := by decide +kernel
theorem dL_isSet_176 : decode cL_isSet 176 = .ok (.iload 7, 2) := by decide +kernel
theorem dL_isSet_178 : decode cL_isSet 178 = .ok (.imul, 1) := by decide +kernel
theorem dL_isSet_179 : decode cL_isSet 179 = .ok (.iconst 2, 1) := by decide +kernel
theorem dL_isSet_180 : decode cL_isSet 180 = .ok (.iadd, 1) := by decide +kernel
theorem dL_isSet_181 : decode cL_isSet 181 = .ok (.iaload, 1) := by decide +kernel
theorem dL_isSet_182 : decode cL_isSet 182 = .ok (.iconst 1, 1) := by decide +kernel
theorem dL_isSet_183 : decode cL_isSet 183 = .ok (.if_icmp .ne 7, 3) := by decide +kernel
theorem dL_isSet_186 : decode cL_isSet 186 = .ok (.iconst 1, 1) := by decide +kernel
theorem dL_isSet_187 : decode cL_isSet 187 = .ok (.goto 4, 3) := by decide +kernel
theorem dL_isSet_190 : decode cL_isSet 190 = .ok (.iconst 0, 1) := by decide +kernel
theorem dL_isSet_191 : decode cL_isSet 191 = .ok (.if_icmp .ne 7, 3) := by decide +kernel
theorem dL_isSet_194 : decode cL_isSet 194 = .ok (.iconst 1, 1) := by decide +kernel
theorem dL_isSet_195 : decode cL_isSet 195 = .ok (.goto 4, 3) := by decide +kernel
theorem dL_isSet_198 : decode cL_isSet 198 = .ok (.iconst 0, 1) := by decide +kernel
theorem dL_isSet_199 : decode cL_isSet 199 = .ok (.ireturn, 1) := by decide +kernel
theorem dL_isSet_200 : decode cL_isSet 200 = .ok (.iload 5, 2) := by decide +kernel
theorem dL_isSet_202 : decode cL_isSet 202 = .ok (.bipush 6, 2) := by decide +kernel
theorem dL_isSet_204 : decode cL_isSet 204 = .ok (.if_icmp .ge 92, 3) := by decide +kernel
theorem dL_isSet_207 : decode cL_isSet 207 = .ok (.aload_n 1, 1) := by decide +kernel
theorem dL_isSet_208 : decode cL_isSet 208 = .ok (.iconst 4, 1) := by decide +kernel
theorem dL_isSet_209 : decode cL_isSet 209 = .ok (.iload 7, 2) := by decide +kernel
theorem dL_isSet_211 : decode cL_isSet 211 = .ok (.imul, 1) := by decide +kernel
theorem dL_isSet_212 : decode cL_isSet 212 = .ok (.iconst 3, 1) := by decide +kernel
theorem dL_isSet_213 : decode cL_isSet 213 = .ok (.iadd, 1) := by decide +kernel
theorem dL_isSet_214 : decode cL_isSet 214 = .ok (.iaload, 1) := by decide +kernel
theorem dL_isSet_215 : decode cL_isSet 215 = .ok (.iconst 1, 1) := by decide +kernel
theorem dL_isSet_216 : decode cL_isSet 216 = .ok (.if_icmp .eq 13, 3) := by decide +kernel
theorem dL_isSet_219 : decode cL_isSet 219 = .ok (.aload_n 1, 1) := by decide +kernel
theorem dL_isSet_220 : decode cL_isSet 220 = .ok (.aload 4, 2) := by decide +kernel
theorem dL_isSet_222 : decode cL_isSet 222 = .ok (.invokestatic 49, 3) := by decide +kernel
theorem dL_isSet_225 : decode cL_isSet 225 = .ok (.iconst 1, 1) := by decide +kernel
theorem dL_isSet_226 : decode cL_isSet 226 = .ok (.if_icmp .le 7, 3) := by decide +kernel
theorem dL_isSet_229 : decode cL_isSet 229 = .ok (.iconst 1, 1) := by decide +kernel
theorem dL_isSet_230 : decode cL_isSet 230 = .ok (.goto 4, 3) := by decide +kernel
theorem dL_isSet_233 : decode cL_isSet 233 = .ok (.iconst 0, 1) := by decide +kernel
theorem dL_isSet_234 : decode cL_isSet 234 = .ok (.istore 8, 2) := by decide +kernel
theorem dL_isSet_236 : decode cL_isSet 236 = .ok (.aload_n 1, 1) := by decide +kernel
theorem dL_isSet_237 : decode cL_isSet 237 = .ok (.iconst 4, 1) := by decide +kernel
theorem dL_isSet_238 : decode cL_isSet 238 = .ok (.iload 7, 2) := by decide +kernel
theorem dL_isSet_240 : decode cL_isSet 240 = .ok (.imul, 1) := by decide +kernel
theorem dL_isSet_241 : decode cL_isSet 241 = .ok (.iconst 3, 1) := by decide +kernel
theorem dL_isSet_242 : decode cL_isSet 242 = .ok (.iadd, 1) := by decide +kernel
theorem dL_isSet_243 : decode cL_isSet 243 = .ok (.iload 8, 2) := by decide +kernel
theorem dL_isSet_245 : decode cL_isSet 245 = .ok (.ifCond .eq 16, 3) := by decide +kernel
theorem dL_isSet_248 : decode cL_isSet 248 = .ok (.iconst 1, 1) := by decide +kernel
theorem dL_isSet_249 : decode cL_isSet 249 = .ok (.aload_n 1, 1) := by decide +kernel
theorem dL_isSet_250 : decode cL_isSet 250 = .ok (.iconst 4, 1) := by decide +kernel
theorem dL_isSet_251 : decode cL_isSet 251 = .ok (.iload 7, 2) := by decide +kernel
theorem dL_isSet_253 : decode cL_isSet 253 = .ok (.imul, 1) := by decide +kernel
theorem dL_isSet_254 : decode cL_isSet 254 = .ok (.iconst 3, 1) := by decide +kernel
theorem dL_isSet_255 : decode cL_isSet 255 = .ok (.iadd, 1) := by decide +kernel
theorem dL_isSet_256 : decode cL_isSet 256 = .ok (.iaload, 1) := by decide +kernel
theorem dL_isSet_257 : decode cL_isSet 257 = .ok (.isub, 1) := by decide +kernel
theorem dL_isSet_258 : decode cL_isSet 258 = .ok (.goto 4, 3) := by decide +kernel
theorem dL_isSet_261 : decode cL_isSet 261 = .ok (.iconst 0, 1) := by decide +kernel
theorem dL_isSet_262 : decode cL_isSet 262 = .ok (.iastore, 1) := by decide +kernel
theorem dL_isSet_263 : decode cL_isSet 263 = .ok (.aload_n 0, 1) := by decide +kernel
theorem dL_isSet_264 : decode cL_isSet 264 = .ok (.iload 7, 2) := by decide +kernel
theorem dL_isSet_266 : decode cL_isSet 266 = .ok (.invokestatic 235, 3) := by decide +kernel
theorem dL_isSet_269 : decode cL_isSet 269 = .ok (.iload 8, 2) := by decide +kernel
theorem dL_isSet_271 : decode cL_isSet 271 = .ok (.ifCond .eq 14, 3) := by decide +kernel
theorem dL_isSet_274 : decode cL_isSet 274 = .ok (.aload_n 1, 1) := by decide +kernel
theorem dL_isSet_275 : decode cL_isSet 275 = .ok (.iconst 4, 1) := by decide +kernel
theorem dL_isSet_276 : decode cL_isSet 276 = .ok (.iload 7, 2) := by decide +kernel
theorem dL_isSet_278 : decode cL_isSet 278 = .ok (.imul, 1) := by decide +kernel
theorem dL_isSet_279 : decode cL_isSet 279 = .ok (.iconst 3, 1) := by decide +kernel
theorem dL_isSet_280 : decode cL_isSet 280 = .ok (.iadd, 1) := by decide +kernel
theorem dL_isSet_281 : decode cL_isSet 281 = .ok (.iaload, 1) := by decide +kernel
theorem dL_isSet_282 : decode cL_isSet 282 = .ok (.goto 5, 3) := by decide +kernel
theorem dL_isSet_285 : decode cL_isSet 285 = .ok (.bipush (-7), 2) := by decide +kernel
theorem dL_isSet_287 : decode cL_isSet 287 = .ok (.if_icmp .ne 7, 3) := by decide +kernel
theorem dL_isSet_290 : decode cL_isSet 290 = .ok (.iconst 1, 1) := by decide +kernel
theorem dL_isSet_291 : decode cL_isSet 291 = .ok (.goto 4, 3) := by decide +kernel
theorem dL_isSet_294 : decode cL_isSet 294 = .ok (.iconst 0, 1) := by decide +kernel
theorem dL_isSet_295 : decode cL_isSet 295 = .ok (.ireturn, 1) := by decide +kernel
theorem dL_isSet_296 : decode cL_isSet 296 = .ok (.iload 6, 2) := by decide +kernel
theorem dL_isSet_298 : decode cL_isSet 298 = .ok (.bipush 50, 2) := by decide +kernel
theorem dL_isSet_300 : decode cL_isSet 300 = .ok (.idiv, 1) := by decide +kernel
theorem dL_isSet_301 : decode cL_isSet 301 = .ok (.bipush 6, 2) := by decide +kernel
theorem dL_isSet_303 : decode cL_isSet 303 = .ok (.irem, 1) := by decide +kernel
theorem dL_isSet_304 : decode cL_isSet 304 = .ok (.istore 8, 2) := by decide +kernel
theorem dL_isSet_306 : decode cL_isSet 306 = .ok (.iload 6, 2) := by decide +kernel
theorem dL_isSet_308 : decode cL_isSet 308 = .ok (.sipush 300, 3) := by decide +kernel
theorem dL_isSet_311 : decode cL_isSet 311 = .ok (.idiv, 1) := by decide +kernel
theorem dL_isSet_312 : decode cL_isSet 312 = .ok (.iconst 4, 1) := by decide +kernel
theorem dL_isSet_313 : decode cL_isSet 313 = .ok (.irem, 1) := by decide +kernel
theorem dL_isSet_314 : decode cL_isSet 314 = .ok (.istore 9, 2) := by decide +kernel
theorem dL_isSet_316 : decode cL_isSet 316 = .ok (.iload 5, 2) := by decide +kernel
theorem dL_isSet_318 : decode cL_isSet 318 = .ok (.bipush 6, 2) := by decide +kernel
theorem dL_isSet_320 : decode cL_isSet 320 = .ok (.if_icmp .ne 65, 3) := by decide +kernel
theorem dL_isSet_323 : decode cL_isSet 323 = .ok (.aload 4, 2) := by decide +kernel
theorem dL_isSet_325 : decode cL_isSet 325 = .ok (.iconst 2, 1) := by decide +kernel
theorem dL_isSet_326 : decode cL_isSet 326 = .ok (.iaload, 1) := by decide +kernel
theorem dL_isSet_327 : decode cL_isSet 327 = .ok (.ifCond .le 58, 3) := by decide +kernel
theorem dL_isSet_330 : decode cL_isSet 330 = .ok (.iload 6, 2) := by decide +kernel
theorem dL_isSet_332 : decode cL_isSet 332 = .ok (.iconst 4, 1) := by decide +kernel
theorem dL_isSet_333 : decode cL_isSet 333 = .ok (.idiv, 1) := by decide +kernel
theorem dL_isSet_334 : decode cL_isSet 334 = .ok (.aload 4, 2) := by decide +kernel
theorem dL_isSet_336 : decode cL_isSet 336 = .ok (.iconst 2, 1) := by decide +kernel
theorem dL_isSet_337 : decode cL_isSet 337 = .ok (.iaload, 1) := by decide +kernel
theorem dL_isSet_338 : decode cL_isSet 338 = .ok (.irem, 1) := by decide +kernel
theorem dL_isSet_339 : decode cL_isSet 339 = .ok (.istore 10, 2) := by decide +kernel
theorem dL_isSet_341 : decode cL_isSet 341 = .ok (.aload_n 2, 1) := by decide +kernel
theorem dL_isSet_342 : decode cL_isSet 342 = .ok (.iconst 4, 1) := by decide +kernel
theorem dL_isSet_343 : decode cL_isSet 343 = .ok (.iload 10, 2) := by decide +kernel
theorem dL_isSet_345 : decode cL_isSet 345 = .ok (.imul, 1) := by decide +kernel
theorem dL_isSet_346 : decode cL_isSet 346 = .ok (.iload 9, 2) := by decide +kernel
theorem dL_isSet_348 : decode cL_isSet 348 = .ok (.iadd, 1) := by decide +kernel
theorem dL_isSet_349 : decode cL_isSet 349 = .ok (.iaload, 1) := by decide +kernel
theorem dL_isSet_350 : decode cL_isSet 350 = .ok (.istore 11, 2) := by decide +kernel
theorem dL_isSet_352 : decode cL_isSet 352 = .ok (.aload_n 2, 1) := by decide +kernel
theorem dL_isSet_353 : decode cL_isSet 353 = .ok (.iconst 4, 1) := by decide +kernel
theorem dL_isSet_354 : decode cL_isSet 354 = .ok (.iload 10, 2) := by decide +kernel
theorem dL_isSet_356 : decode cL_isSet 356 = .ok (.imul, 1) := by decide +kernel
theorem dL_isSet_357 : decode cL_isSet 357 = .ok (.iload 9, 2) := by decide +kernel
theorem dL_isSet_359 : decode cL_isSet 359 = .ok (.iadd, 1) := by decide +kernel
theorem dL_isSet_360 : decode cL_isSet 360 = .ok (.iload 8, 2) := by decide +kernel
theorem dL_isSet_362 : decode cL_isSet 362 = .ok (.iastore, 1) := by decide +kernel
theorem dL_isSet_363 : decode cL_isSet 363 = .ok (.aload_n 0, 1) := by decide +kernel
theorem dL_isSet_364 : decode cL_isSet 364 = .ok (.iconst 0, 1) := by decide +kernel
theorem dL_isSet_365 : decode cL_isSet 365 = .ok (.iload 10, 2) := by decide +kernel
theorem dL_isSet_367 : decode cL_isSet 367 = .ok (.iload 9, 2) := by decide +kernel
theorem dL_isSet_369 : decode cL_isSet 369 = .ok (.iload 8, 2) := by decide +kernel
theorem dL_isSet_371 : decode cL_isSet 371 = .ok (.invokevirtual 239, 3) := by decide +kernel
theorem dL_isSet_374 : decode cL_isSet 374 = .ok (.iload 11, 2) := by decide +kernel
theorem dL_isSet_376 : decode cL_isSet 376 = .ok (.if_icmp .ne 7, 3) := by decide +kernel
theorem dL_isSet_379 : decode cL_isSet 379 = .ok (.iconst 1, 1) := by decide +kernel
theorem dL_isSet_380 : decode cL_isSet 380 = .ok (.goto 4, 3) := by decide +kernel
theorem dL_isSet_383 : decode cL_isSet 383 = .ok (.iconst 0, 1) := by decide +kernel
theorem dL_isSet_384 : decode cL_isSet 384 = .ok (.ireturn, 1) := by decide +kernel
theorem dL_isSet_385 : decode cL_isSet 385 = .ok (.iload 5, 2) := by decide +kernel
theorem dL_isSet_387 : decode cL_isSet 387 = .ok (.bipush 7, 2) := by decide +kernel
theorem dL_isSet_389 : decode cL_isSet 389 = .ok (.if_icmp .ne 72, 3) := by decide +kernel
theorem dL_isSet_392 : decode cL_isSet 392 = .ok (.iload 6, 2) := by decide +kernel
theorem dL_isSet_394 : decode cL_isSet 394 = .ok (.iconst 4, 1) := by decide +kernel
theorem dL_isSet_395 : decode cL_isSet 395 = .ok (.idiv, 1) := by decide +kernel
theorem dL_isSet_396 : decode cL_isSet 396 = .ok (.aload 4, 2) := by decide +kernel
theorem dL_isSet_398 : decode cL_isSet 398 = .ok (.iconst 1, 1) := by decide +kernel
theorem dL_isSet_399 : decode cL_isSet 399 = .ok (.iaload, 1) := by decide +kernel
theorem dL_isSet_400 : decode cL_isSet 400 = .ok (.irem, 1) := by decide +kernel
theorem dL_isSet_401 : decode cL_isSet 401 = .ok (.istore 10, 2) := by decide +kernel
theorem dL_isSet_403 : decode cL_isSet 403 = .ok (.aload_n 2, 1) := by decide +kernel
theorem dL_isSet_404 : decode cL_isSet 404 = .ok (.bipush 40, 2) := by decide +kernel
theorem dL_isSet_406 : decode cL_isSet 406 = .ok (.iconst 2, 1) := by decide +kernel
theorem dL_isSet_407 : decode cL_isSet 407 = .ok (.iload 10, 2) := by decide +kernel
theorem dL_isSet_409 : decode cL_isSet 409 = .ok (.imul, 1) := by decide +kernel
theorem dL_isSet_410 : decode cL_isSet 410 = .ok (.iadd, 1) := by decide +kernel
theorem dL_isSet_411 : decode cL_isSet 411 = .ok (.iload 9, 2) := by decide +kernel
theorem dL_isSet_413 : decode cL_isSet 413 = .ok (.iconst 2, 1) := by decide +kernel
theorem dL_isSet_414 : decode cL_isSet 414 = .ok (.irem, 1) := by decide +kernel
theorem dL_isSet_415 : decode cL_isSet 415 = .ok (.iadd, 1) := by decide +kernel
theorem dL_isSet_416 : decode cL_isSet 416 = .ok (.iaload, 1) := by decide +kernel
theorem dL_isSet_417 : decode cL_isSet 417 = .ok (.istore 11, 2) := by decide +kernel
theorem dL_isSet_419 : decode cL_isSet 419 = .ok (.aload_n 2, 1) := by decide +kernel
theorem dL_isSet_420 : decode cL_isSet 420 = .ok (.bipush 40, 2) := by decide +kernel
theorem dL_isSet_422 : decode cL_isSet 422 = .ok (.iconst 2, 1) := by decide +kernel
theorem dL_isSet_423 : decode cL_isSet 423 = .ok (.iload 10, 2) := by decide +kernel
theorem dL_isSet_425 : decode cL_isSet 425 = .ok (.imul, 1) := by decide +kernel
theorem dL_isSet_426 : decode cL_isSet 426 = .ok (.iadd, 1) := by decide +kernel
theorem dL_isSet_427 : decode cL_isSet 427 = .ok (.iload 9, 2) := by decide +kernel
theorem dL_isSet_429 : decode cL_isSet 429 = .ok (.iconst 2, 1) := by decide +kernel
theorem dL_isSet_430 : decode cL_isSet 430 = .ok (.irem, 1) := by decide +kernel
theorem dL_isSet_431 : decode cL_isSet 431 = .ok (.iadd, 1) := by decide +kernel
theorem dL_isSet_432 : decode cL_isSet 432 = .ok (.iload 8, 2) := by decide +kernel
theorem dL_isSet_434 : decode cL_isSet 434 = .ok (.iastore, 1) := by decide +kernel
theorem dL_isSet_435 : decode cL_isSet 435 = .ok (.aload_n 0, 1) := by decide +kernel
theorem dL_isSet_436 : decode cL_isSet 436 = .ok (.iconst 1, 1) := by decide +kernel
theorem dL_isSet_437 : decode cL_isSet 437 = .ok (.iload 10, 2) := by decide +kernel
theorem dL_isSet_439 : decode cL_isSet 439 = .ok (.iload 9, 2) := by decide +kernel
theorem dL_isSet_441 : decode cL_isSet 441 = .ok (.iconst 2, 1) := by decide +kernel
theorem dL_isSet_442 : decode cL_isSet 442 = .ok (.irem, 1) := by decide +kernel
theorem dL_isSet_443 : decode cL_isSet 443 = .ok (.iconst 2, 1) := by decide +kernel
theorem dL_isSet_444 : decode cL_isSet 444 = .ok (.imul, 1) := by decide +kernel
theorem dL_isSet_445 : decode cL_isSet 445 = .ok (.iload 8, 2) := by decide +kernel
theorem dL_isSet_447 : decode cL_isSet 447 = .ok (.invokevirtual 239, 3) := by decide +kernel
theorem dL_isSet_450 : decode cL_isSet 450 = .ok (.iload 11, 2) := by decide +kernel
theorem dL_isSet_452 : decode cL_isSet 452 = .ok (.if_icmp .ne 7, 3) := by decide +kernel
theorem dL_isSet_455 : decode cL_isSet 455 = .ok (.iconst 1, 1) := by decide +kernel
theorem dL_isSet_456 : decode cL_isSet 456 = .ok (.goto 4, 3) := by decide +kernel
theorem dL_isSet_459 : decode cL_isSet 459 = .ok (.iconst 0, 1) := by decide +kernel
theorem dL_isSet_460 : decode cL_isSet 460 = .ok (.ireturn, 1) := by decide +kernel
theorem dL_isSet_461 : decode cL_isSet 461 = .ok (.iload 5, 2) := by decide +kernel
theorem dL_isSet_463 : decode cL_isSet 463 = .ok (.bipush 8, 2) := by decide +kernel
theorem dL_isSet_465 : decode cL_isSet 465 = .ok (.if_icmp .ne 61, 3) := by decide +kernel
theorem dL_isSet_468 : decode cL_isSet 468 = .ok (.aload_n 3, 1) := by decide +kernel
theorem dL_isSet_469 : decode cL_isSet 469 = .ok (.iconst 2, 1) := by decide +kernel
theorem dL_isSet_470 : decode cL_isSet 470 = .ok (.iload 7, 2) := by decide +kernel
theorem dL_isSet_472 : decode cL_isSet 472 = .ok (.imul, 1) := by decide +kernel
theorem dL_isSet_473 : decode cL_isSet 473 = .ok (.iload 9, 2) := by decide +kernel
theorem dL_isSet_475 : decode cL_isSet 475 = .ok (.iconst 2, 1) := by decide +kernel
theorem dL_isSet_476 : decode cL_isSet 476 = .ok (.irem, 1) := by decide +kernel
theorem dL_isSet_477 : decode cL_isSet 477 = .ok (.iadd, 1) := by decide +kernel
theorem dL_isSet_478 : decode cL_isSet 478 = .ok (.iaload, 1) := by decide +kernel
theorem dL_isSet_479 : decode cL_isSet 479 = .ok (.istore 10, 2) := by decide +kernel
theorem dL_isSet_481 : decode cL_isSet 481 = .ok (.aload_n 3, 1) := by decide +kernel
theorem dL_isSet_482 : decode cL_isSet 482 = .ok (.iconst 2, 1) := by decide +kernel
theorem dL_isSet_483 : decode cL_isSet 483 = .ok (.iload 7, 2) := by decide +kernel
theorem dL_isSet_485 : decode cL_isSet 485 = .ok (.imul, 1) := by decide +kernel
theorem dL_isSet_486 : decode cL_isSet 486 = .ok (.iload 9, 2) := by decide +kernel
theorem dL_isSet_488 : decode cL_isSet 488 = .ok (.iconst 2, 1) := by decide +kernel
theorem dL_isSet_489 : decode cL_isSet 489 = .ok (.irem, 1) := by decide +kernel
theorem dL_isSet_490 : decode cL_isSet 490 = .ok (.iadd, 1) := by decide +kernel
theorem dL_isSet_491 : decode cL_isSet 491 = .ok (.iload 8, 2) := by decide +kernel
theorem dL_isSet_493 : decode cL_isSet 493 = .ok (.iastore, 1) := by decide +kernel
theorem dL_isSet_494 : decode cL_isSet 494 = .ok (.aload_n 0, 1) := by decide +kernel
theorem dL_isSet_495 : decode cL_isSet 495 = .ok (.iconst 2, 1) := by decide +kernel
theorem dL_isSet_496 : decode cL_isSet 496 = .ok (.iload 7, 2) := by decide +kernel
theorem dL_isSet_498 : decode cL_isSet 498 = .ok (.iload 9, 2) := by decide +kernel
theorem dL_isSet_500 : decode cL_isSet 500 = .ok (.iconst 2, 1) := by decide +kernel
theorem dL_isSet_501 : decode cL_isSet 501 = .ok (.irem, 1) := by decide +kernel
theorem dL_isSet_502 : decode cL_isSet 502 = .ok (.ifCond .ne 7, 3) := by decide +kernel
theorem dL_isSet_505 : decode cL_isSet 505 = .ok (.iconst 3, 1) := by decide +kernel
theorem dL_isSet_506 : decode cL_isSet 506 = .ok (.goto 4, 3) := by decide +kernel
theorem dL_isSet_509 : decode cL_isSet 509 = .ok (.iconst 1, 1) := by decide +kernel
theorem dL_isSet_510 : decode cL_isSet 510 = .ok (.iload 8, 2) := by decide +kernel
theorem dL_isSet_512 : decode cL_isSet 512 = .ok (.invokevirtual 239, 3) := by decide +kernel
theorem dL_isSet_515 : decode cL_isSet 515 = .ok (.iload 10, 2) := by decide +kernel
theorem dL_isSet_517 : decode cL_isSet 517 = .ok (.if_icmp .ne 7, 3) := by decide +kernel
theorem dL_isSet_520 : decode cL_isSet 520 = .ok (.iconst 1, 1) := by decide +kernel
theorem dL_isSet_521 : decode cL_isSet 521 = .ok (.goto 4, 3) := by decide +kernel
theorem dL_isSet_524 : decode cL_isSet 524 = .ok (.iconst 0, 1) := by decide +kernel
theorem dL_isSet_525 : decode cL_isSet 525 = .ok (.ireturn, 1) := by decide +kernel
theorem dL_isSet_526 : decode cL_isSet 526 = .ok (.aload_n 3, 1) := by decide +kernel
theorem dL_isSet_527 : decode cL_isSet 527 = .ok (.bipush 8, 2) := by decide +kernel
theorem dL_isSet_529 : decode cL_isSet 529 = .ok (.iaload, 1) := by decide +kernel
theorem dL_isSet_530 : decode cL_isSet 530 = .ok (.istore 10, 2) := by decide +kernel
theorem dL_isSet_532 : decode cL_isSet 532 = .ok (.aload_n 3, 1) := by decide +kernel
theorem dL_isSet_533 : decode cL_isSet 533 = .ok (.bipush 8, 2) := by decide +kernel
theorem dL_isSet_535 : decode cL_isSet 535 = .ok (.iload 8, 2) := by decide +kernel
theorem dL_isSet_537 : decode cL_isSet 537 = .ok (.iastore, 1) := by decide +kernel
theorem dL_isSet_538 : decode cL_isSet 538 = .ok (.aload_n 0, 1) := by decide +kernel
theorem dL_isSet_539 : decode cL_isSet 539 = .ok (.iconst 3, 1) := by decide +kernel
theorem dL_isSet_540 : decode cL_isSet 540 = .ok (.iload 6, 2) := by decide +kernel
theorem dL_isSet_542 : decode cL_isSet 542 = .ok (.iload 6, 2) := by decide +kernel
theorem dL_isSet_544 : decode cL_isSet 544 = .ok (.bipush 7, 2) := by decide +kernel
theorem dL_isSet_546 : decode cL_isSet 546 = .ok (.idiv, 1) := by decide +kernel
theorem dL_isSet_547 : decode cL_isSet 547 = .ok (.iload 8, 2) := by decide +kernel
theorem dL_isSet_549 : decode cL_isSet 549 = .ok (.invokevirtual 239, 3) := by decide +kernel
theorem dL_isSet_552 : decode cL_isSet 552 = .ok (.iload 10, 2) := by decide +kernel
theorem dL_isSet_554 : decode cL_isSet 554 = .ok (.if_icmp .ne 7, 3) := by decide +kernel
theorem dL_isSet_557 : decode cL_isSet 557 = .ok (.iconst 1, 1) := by decide +kernel
theorem dL_isSet_558 : decode cL_isSet 558 = .ok (.goto 4, 3) := by decide +kernel
theorem dL_isSet_561 : decode cL_isSet 561 = .ok (.iconst 0, 1) := by decide +kernel
theorem dL_isSet_562 : decode cL_isSet 562 = .ok (.ireturn, 1) := by decide +kernel
section
variable {p : Program} {l : Launch} {e : Env} {s : State} {m : MethodId} {args : Array Value} {below : List Frame} {meth : Method} {c : Code} {G : Gx} {e0 : Nat} {α : Ax} {κ : Nat → Int} {B : Nat}
def wp_L_isFilled_153 (p6 : Int) (p7 : Int) (Qm : Int → Mem → Prop) (y8 : Int) (y10 : Int) (y11 : Int) (y12 : Int) (y13 : Int) (M : Mem) : Prop := wp_L_worded y8 y10 y11 M fun (x146 : Int) (M148 : Mem) => ∃ M149 : Mem, Gh M148 M149 ∧ (¬ y13 = 0 → (inR (y12 + 1)) ∧ True) ∧ (inR (if y13 = 0 then ((-7) : Int) else (y12 + 1))) ∧ (bit (if ¬ x146 = (if y13 = 0 then ((-7) : Int) else (y12 + 1)) then (0 : Int) else 1)) ∧ Qm (if ¬ x146 = (if y13 = 0 then ((-7) : Int) else (y12 + 1)) then (0 : Int) else 1) M149
def wp_L_isFilled_111 (p6 : Int) (p7 : Int) (Qm : Int → Mem → Prop) (y8 : Int) (y10 : Int) (y11 : Int) (y12 : Int) (y13 : Int) (M : Mem) : Prop := ((y13 = 0 → wp_L_isFilled_153 p6 p7 Qm y8 y10 y11 y12 y13 M) ∧ (¬ y13 = 0 → (wNew M y8 y10 y11 y12) ∧ ∀ M161 : Mem, M161 = wW M y8 y10 y11 y12 → wp_L_isFilled_153 p6 p7 Qm y8 y10 y11 y12 y13 M161))
def wp_L_isFilled (p6 : Int) (p7 : Int) (M : Mem) (Qm : Int → Mem → Prop) : Prop := (0 < (M 112 0 2)) ∧ (inR (6 * (Int.tmod p7 (M 112 0 2)))) ∧ ((5 ≤ p6 → ((8 ≤ p6 → ((¬ p6 = 8 → (0 ≤ (6 * (Int.tmod p7 (M 112 0 2))) ∧ (6 * (Int.tmod p7 (M 112 0 2))) < 60) ∧ (inR (3 * (M 107 0 (6 * (Int.tmod p7 (M 112 0 2)))))) ∧ (0 ≤ (3 * (M 107 0 (6 * (Int.tmod p7 (M 112 0 2))))) ∧ (3 * (M 107 0 (6 * (Int.tmod p7 (M 112 0 2))))) < 30) ∧ (inR ((6 * (Int.tmod p7 (M 112 0 2))) + 4)) ∧ (0 ≤ ((6 * (Int.tmod p7 (M 112 0 2))) + 4) ∧ ((6 * (Int.tmod p7 (M 112 0 2))) + 4) < 60) ∧ (inR ((6 * (Int.tmod p7 (M 112 0 2))) + 4)) ∧ (0 ≤ ((6 * (Int.tmod p7 (M 112 0 2))) + 4) ∧ ((6 * (Int.tmod p7 (M 112 0 2))) + 4) < 60) ∧ ∀ M21 : Mem, M21 = up M 107 0 ((6 * (Int.tmod p7 (M 112 0 2))) + 4) (if (if ¬ (M 105 0 (3 * (M 107 0 (6 * (Int.tmod p7 (M 112 0 2)))))) = 1 then (0 : Int) else 1) = 0 then (M 107 0 ((6 * (Int.tmod p7 (M 112 0 2))) + 4)) else (Int.tmod (Int.tdiv p7 10) 4)) → wp_L_noted (Int.tmod p7 (M 112 0 2)) (Int.tmod (Int.tdiv p7 10) 4) M21 fun (x25 : Int) (M27 : Mem) => ∃ M28 : Mem, Gh M27 M28 ∧ (bit (if ¬ x25 = (if (if ¬ (M 105 0 (3 * (M 107 0 (6 * (Int.tmod p7 (M 112 0 2)))))) = 1 then (0 : Int) else 1) = 0 then ((-7) : Int) else (M 107 0 ((6 * (Int.tmod p7 (M 112 0 2))) + 4))) then (0 : Int) else 1)) ∧ Qm (if ¬ x25 = (if (if ¬ (M 105 0 (3 * (M 107 0 (6 * (Int.tmod p7 (M 112 0 2)))))) = 1 then (0 : Int) else 1) = 0 then ((-7) : Int) else (M 107 0 ((6 * (Int.tmod p7 (M 112 0 2))) + 4))) then (0 : Int) else 1) M28) ∧ (p6 = 8 → wp_L_words (Int.tmod p7 (M 112 0 2)) M fun (x38 : Int) (M37 : Mem) => (0 ≤ (Int.tmod p7 (M 112 0 2)) ∧ (Int.tmod p7 (M 112 0 2)) < 10) ∧ ∀ M41 : Mem, M41 = wZ M37 (Int.tmod p7 (M 112 0 2)) → (inR ((6 * (Int.tmod p7 (M 112 0 2))) + 5)) ∧ (0 ≤ ((6 * (Int.tmod p7 (M 112 0 2))) + 5) ∧ ((6 * (Int.tmod p7 (M 112 0 2))) + 5) < 60) ∧ ∀ M45 : Mem, M45 = up M41 107 0 ((6 * (Int.tmod p7 (M 112 0 2))) + 5) (-1) → wo_X9_empty (Int.tmod p7 (M 112 0 2)) M45 fun (x48 : Int) (M47 : Mem) => ∃ M50 : Mem, Gh M47 M50 ∧ (bit (if ¬ x48 = x38 then (0 : Int) else 1)) ∧ Qm (if ¬ x48 = x38 then (0 : Int) else 1) M50))) ∧ (p6 < 8 → (0 < (if ¬ (Int.tmod p7 4) = 0 then (301 : Int) else 20001)) ∧ (inR ((Int.tmod (Int.tdiv p7 30) (if ¬ (Int.tmod p7 4) = 0 then (301 : Int) else 20001)) - 100)) ∧ (inR (((Int.tmod (Int.tdiv p7 30) (if ¬ (Int.tmod p7 4) = 0 then (301 : Int) else 20001)) - 100) * (if ¬ (Int.tmod (Int.tdiv p7 10) 3) = 0 then (if ¬ (Int.tmod (Int.tdiv p7 10) 3) = 1 then (1 : Int) else 10) else 100))) ∧ wp_L_words (Int.tmod p7 (M 112 0 2)) M fun (x76 : Int) (M75 : Mem) => (x76 = 0 → (inR ((6 * (Int.tmod p7 (M 112 0 2))) + 2)) ∧ (0 ≤ ((6 * (Int.tmod p7 (M 112 0 2))) + 2) ∧ ((6 * (Int.tmod p7 (M 112 0 2))) + 2) < 60) ∧ ((M75 107 0 ((6 * (Int.tmod p7 (M 112 0 2))) + 2)) = 1 → (inR ((6 * (Int.tmod p7 (M 112 0 2))) + 3)) ∧ (0 ≤ ((6 * (Int.tmod p7 (M 112 0 2))) + 3) ∧ ((6 * (Int.tmod p7 (M 112 0 2))) + 3) < 60) ∧ True) ∧ True) ∧ (inR ((6 * (Int.tmod p7 (M 112 0 2))) + 5)) ∧ ((if ¬ x76 = 0 then (0 : Int) else (if ¬ (M75 107 0 ((6 * (Int.tmod p7 (M 112 0 2))) + 2)) = 1 then (0 : Int) else (if ¬ (M75 107 0 ((6 * (Int.tmod p7 (M 112 0 2))) + 3)) = 1 then (0 : Int) else 1))) = 0 → (inR ((6 * (Int.tmod p7 (M 112 0 2))) + 5)) ∧ (0 ≤ ((6 * (Int.tmod p7 (M 112 0 2))) + 5) ∧ ((6 * (Int.tmod p7 (M 112 0 2))) + 5) < 60) ∧ True) ∧ (0 ≤ ((6 * (Int.tmod p7 (M 112 0 2))) + 5) ∧ ((6 * (Int.tmod p7 (M 112 0 2))) + 5) < 60) ∧ ∀ M99 : Mem, M99 = up M75 107 0 ((6 * (Int.tmod p7 (M 112 0 2))) + 5) (if (if ¬ x76 = 0 then (0 : Int) else (if ¬ (M75 107 0 ((6 * (Int.tmod p7 (M 112 0 2))) + 2)) = 1 then (0 : Int) else (if ¬ (M75 107 0 ((6 * (Int.tmod p7 (M 112 0 2))) + 3)) = 1 then (0 : Int) else 1))) = 0 then (M75 107 0 ((6 * (Int.tmod p7 (M 112 0 2))) + 5)) else (Int.tmod (Int.tdiv p7 10) 3)) → ((if ¬ x76 = 0 then (0 : Int) else (if ¬ (M75 107 0 ((6 * (Int.tmod p7 (M 112 0 2))) + 2)) = 1 then (0 : Int) else (if ¬ (M75 107 0 ((6 * (Int.tmod p7 (M 112 0 2))) + 3)) = 1 then (0 : Int) else 1))) = 0 → (0 ≤ (Int.tmod p7 (M 112 0 2)) ∧ (Int.tmod p7 (M 112 0 2)) < 10) ∧ True) ∧ (0 ≤ (Int.tmod p7 (M 112 0 2)) ∧ (Int.tmod p7 (M 112 0 2)) < 10) ∧ ∀ M107 : Mem, M107 = up M99 109 0 (Int.tmod p7 (M 112 0 2)) (if (if ¬ x76 = 0 then (0 : Int) else (if ¬ (M75 107 0 ((6 * (Int.tmod p7 (M 112 0 2))) + 2)) = 1 then (0 : Int) else (if ¬ (M75 107 0 ((6 * (Int.tmod p7 (M 112 0 2))) + 3)) = 1 then (0 : Int) else 1))) = 0 then (M99 109 0 (Int.tmod p7 (M 112 0 2))) else (if (((Int.tmod (Int.tdiv p7 30) (if ¬ (Int.tmod p7 4) = 0 then (301 : Int) else 20001)) - 100) * (if ¬ (Int.tmod (Int.tdiv p7 10) 3) = 0 then (if ¬ (Int.tmod (Int.tdiv p7 10) 3) = 1 then (1 : Int) else 10) else 100)) ≤ 1000000 then (((Int.tmod (Int.tdiv p7 30) (if ¬ (Int.tmod p7 4) = 0 then (301 : Int) else 20001)) - 100) * (if ¬ (Int.tmod (Int.tdiv p7 10) 3) = 0 then (if ¬ (Int.tmod (Int.tdiv p7 10) 3) = 1 then (1 : Int) else 10) else 100)) else 1000000)) → wp_L_figured (Int.tmod p7 (M 112 0 2)) (if (((Int.tmod (Int.tdiv p7 30) (if ¬ (Int.tmod p7 4) = 0 then (301 : Int) else 20001)) - 100) * (if ¬ (Int.tmod (Int.tdiv p7 10) 3) = 0 then (if ¬ (Int.tmod (Int.tdiv p7 10) 3) = 1 then (1 : Int) else 10) else 100)) ≤ 1000000 then (((Int.tmod (Int.tdiv p7 30) (if ¬ (Int.tmod p7 4) = 0 then (301 : Int) else 20001)) - 100) * (if ¬ (Int.tmod (Int.tdiv p7 10) 3) = 0 then (if ¬ (Int.tmod (Int.tdiv p7 10) 3) = 1 then (1 : Int) else 10) else 100)) else 1000000) (Int.tmod (Int.tdiv p7 10) 3) M107 fun (x109 : Int) (M111 : Mem) => ∃ M112 : Mem, Gh M111 M112 ∧ (bit (if ¬ x109 = (if (if ¬ x76 = 0 then (0 : Int) else (if ¬ (M75 107 0 ((6 * (Int.tmod p7 (M 112 0 2))) + 2)) = 1 then (0 : Int) else (if ¬ (M75 107 0 ((6 * (Int.tmod p7 (M 112 0 2))) + 3)) = 1 then (0 : Int) else 1))) = 0 then ((-7) : Int) else 0) then (0 : Int) else 1)) ∧ Qm (if ¬ x109 = (if (if ¬ x76 = 0 then (0 : Int) else (if ¬ (M75 107 0 ((6 * (Int.tmod p7 (M 112 0 2))) + 2)) = 1 then (0 : Int) else (if ¬ (M75 107 0 ((6 * (Int.tmod p7 (M 112 0 2))) + 3)) = 1 then (0 : Int) else 1))) = 0 then ((-7) : Int) else 0) then (0 : Int) else 1) M112))) ∧ (p6 < 5 → (0 < (if ¬ (Int.tmod (Int.tdiv p7 3) 4) = 0 then (9 : Int) else 20)) ∧ (inR (1 + (Int.tmod (Int.tdiv p7 10) (if ¬ (Int.tmod (Int.tdiv p7 3) 4) = 0 then (9 : Int) else 20)))) ∧ (¬ (Int.tmod (Int.tdiv p7 200) 2) = 0 → (0 < (1 + (Int.tmod (Int.tdiv p7 10) (if ¬ (Int.tmod (Int.tdiv p7 3) 4) = 0 then (9 : Int) else 20)))) ∧ True) ∧ (inR (if ¬ (Int.tmod (Int.tdiv p7 200) 2) = 0 then (Int.tmod (Int.tdiv p7 400) (1 + (Int.tmod (Int.tdiv p7 10) (if ¬ (Int.tmod (Int.tdiv p7 3) 4) = 0 then (9 : Int) else 20)))) else 0)) ∧ wp_L_words (Int.tmod p7 (M 112 0 2)) M fun (x138 : Int) (M137 : Mem) => (inR ((6 * (Int.tmod p7 (M 112 0 2))) + 5)) ∧ (0 ≤ ((6 * (Int.tmod p7 (M 112 0 2))) + 5) ∧ ((6 * (Int.tmod p7 (M 112 0 2))) + 5) < 60) ∧ ((¬ x138 = 5 → wp_L_isFilled_111 p6 p7 Qm (Int.tmod p7 (M 112 0 2)) (1 + (Int.tmod (Int.tdiv p7 10) (if ¬ (Int.tmod (Int.tdiv p7 3) 4) = 0 then (9 : Int) else 20))) (if ¬ (Int.tmod (Int.tdiv p7 200) 2) = 0 then (Int.tmod (Int.tdiv p7 400) (1 + (Int.tmod (Int.tdiv p7 10) (if ¬ (Int.tmod (Int.tdiv p7 3) 4) = 0 then (9 : Int) else 20)))) else 0) x138 (if 0 ≤ (M137 107 0 ((6 * (Int.tmod p7 (M 112 0 2))) + 5)) then (0 : Int) else 1) M137) ∧ (x138 = 5 → (((if 0 ≤ (M137 107 0 ((6 * (Int.tmod p7 (M 112 0 2))) + 5)) then (0 : Int) else 1) = 0 → wp_L_isFilled_111 p6 p7 Qm (Int.tmod p7 (M 112 0 2)) (1 + (Int.tmod (Int.tdiv p7 10) (if ¬ (Int.tmod (Int.tdiv p7 3) 4) = 0 then (9 : Int) else 20))) (if ¬ (Int.tmod (Int.tdiv p7 200) 2) = 0 then (Int.tmod (Int.tdiv p7 400) (1 + (Int.tmod (Int.tdiv p7 10) (if ¬ (Int.tmod (Int.tdiv p7 3) 4) = 0 then (9 : Int) else 20)))) else 0) x138 (if 0 ≤ (M137 107 0 ((6 * (Int.tmod p7 (M 112 0 2))) + 5)) then (0 : Int) else 1) M137) ∧ (¬ (if 0 ≤ (M137 107 0 ((6 * (Int.tmod p7 (M 112 0 2))) + 5)) then (0 : Int) else 1) = 0 → Qm 1 M137))))))
set_option maxHeartbeats 4000000 in
set_option maxRecDepth 100000 in
theorem t_L_isFilled_153 {α0 : Ax} {κ0 : Nat → Int} {p6 : Int} {p7 : Int} (X : CX p m c cL_isFilled 14 s args RL G B κ meth (some .boolean)) (N : NcA s) (hlt : l.stackTraces = false) (hb : Bk G e0 α κ α0 κ0 B) (hp6 : inR p6) (hp7 : inR p7) {Qm : Int → Mem → Prop} : ∀ y8 : Int, ∀ y10 : Int, ∀ y11 : Int, ∀ y12 : Int, ∀ y13 : Int, ∀ M : Mem, wp_L_isFilled_153 p6 p7 Qm y8 y10 y11 y12 y13 M → inR y8 → inR y10 → inR y11 → inR y12 → inR y13 → ∀ cl sl : Nat, cl + 2 ≤ 2 → sl + 12 ≤ 12 → ∀ (H : Heap) (locs : List Loc), Rp G e0 α κ B M H → va_S (fun q => B ≤ q) s.heap H locs → ∀ (ls : Array Slot), lv_has ls 14 [(0, .ref (α 10 0)), (8, .int (Int32.ofInt y8)), (10, .int (Int32.ofInt y10)), (11, .int (Int32.ofInt y11)), (12, .int (Int32.ofInt y12)), (13, .int (Int32.ofInt y13))] → WU p l e 9 2 12 s m args below meth c G e0 α0 κ0 B Qm H locs cl sl 153 ls [] := by
  intro y8 y10 y11 y12 y13 M hw hy8 hy10 hy11 hy12 hy13 cl sl hc1 hc2 H locs hR hS ls hl
  have hw : wp_L_worded y8 y10 y11 M fun (x146 : Int) (M148 : Mem) => ∃ M149 : Mem, Gh M148 M149 ∧ (¬ y13 = 0 → (inR (y12 + 1)) ∧ True) ∧ (inR (if y13 = 0 then ((-7) : Int) else (y12 + 1))) ∧ (bit (if ¬ x146 = (if y13 = 0 then ((-7) : Int) else (y12 + 1)) then (0 : Int) else 1)) ∧ Qm (if ¬ x146 = (if y13 = 0 then ((-7) : Int) else (y12 + 1)) then (0 : Int) else 1) M149 := hw
  refine lv_aload_n X.1.1 X.1.2.1 dL_isFilled_153 rfl (lv_at hl 0 rfl) ?_
  refine lv_iload X.1.1 X.1.2.1 dL_isFilled_154 (lv_at hl 1 rfl) ?_
  refine lv_iload X.1.1 X.1.2.1 dL_isFilled_156 (lv_at hl 2 rfl) ?_
  refine lv_iload X.1.1 X.1.2.1 dL_isFilled_158 (lv_at hl 3 rfl) ?_
  refine sc_call 8 (n := 4) (As := [.ref (α 10 0), .int (Int32.ofInt y8), .int (Int32.ofInt y10), .int (Int32.ofInt y11)]) (rest := []) X N hR hS (w_L_worded hlt X.2.2.1 hy8 hy10 hy11 hw) kw_1070 kw_1071 kw_37 kw_1072 ⟨by decide +kernel, by decide +kernel, by decide +kernel⟩ (rm_ok rmX_ok (by decide) (by decide)) rfl rfl (Nat.le_of_ble_eq_true rfl) hl.1 dL_isFilled_160 ⟨by show _ ≤ 2; omega, by show _ ≤ 12; omega⟩ (fun x146 M148 H locs hw r147 hR hS => ?_)
  obtain ⟨M149, g150, hw⟩ := hw
  have hR := hR.gh X.2.2.1 g150
  refine lv_iload X.1.1 X.1.2.1 dL_isFilled_163 (lv_at hl 5 rfl) ?_
  have s152 := hw.1
  have hw := hw.2
  have c153 := hw.1
  have hw := hw.2
  refine cut_j (A := ∀ v154 : Int, v154 = (if y13 = 0 then ((-7) : Int) else (y12 + 1)) → WU p l e 9 2 12 s m args below meth c G e0 α0 κ0 B Qm H locs (cl + 2) (sl + 12) 177 ls [.int (Int32.ofInt v154), .int (Int32.ofInt x146)]) (fun J155 => ?_) ?_
  · refine sa_if_eq (tgt := 175) X.1 hy13 dL_isFilled_165 (by decide) (fun hc => ?_) (fun hc => ?_)
    · skip
      refine sa_bipush X.1 dL_isFilled_175 (by decide) ?_
      exact J155 ((-7)) (if_pos (c := y13 = 0) hc).symm
    · have hw := s152 hc
      refine lv_iload X.1.1 X.1.2.1 dL_isFilled_168 (lv_at hl 4 rfl) ?_
      refine sa_const X.1 dL_isFilled_170 ?_
      have c151 := hw.1
      have hw := hw.2
      refine sa_iadd X.1 dL_isFilled_171 ?_
      refine lv_goto (tgt := 177) X.1.1 X.1.2.1 dL_isFilled_172 (by decide) ?_
      exact J155 ((y12 + 1)) (if_neg (c := y13 = 0) hc).symm
  intro v154 hv154
  subst hv154
  have r156 := inR_ite (c := ¬ x146 = (if y13 = 0 then ((-7) : Int) else (y12 + 1))) (inR_c (a := 0) rfl) (inR_c (a := 1) rfl)
  refine cut_j (A := ∀ v157 : Int, v157 = (if ¬ x146 = (if y13 = 0 then ((-7) : Int) else (y12 + 1)) then (0 : Int) else 1) → WU p l e 9 2 12 s m args below meth c G e0 α0 κ0 B Qm H locs (cl + 2) (sl + 12) 185 ls [.int (Int32.ofInt v157)]) (fun J158 => ?_) ?_
  · refine sa_icmp_ne (tgt := 184) X.1 r147 c153 dL_isFilled_177 (by decide) (fun hc => ?_) (fun hc => ?_)
    · skip
      refine sa_const X.1 dL_isFilled_184 ?_
      exact J158 (0) (if_pos (c := ¬ x146 = (if y13 = 0 then ((-7) : Int) else (y12 + 1))) hc).symm
    · skip
      refine sa_const X.1 dL_isFilled_180 ?_
      refine lv_goto (tgt := 185) X.1.1 X.1.2.1 dL_isFilled_181 (by decide) ?_
      exact J158 (1) (if_neg (c := ¬ x146 = (if y13 = 0 then ((-7) : Int) else (y12 + 1))) (fun z => z hc)).symm
  intro v157 hv157
  subst hv157
  have c159 := hw.1
  have hw := hw.2
  exact su_zret X hb hR hS c159 hw dL_isFilled_185 (by omega) (by omega)
set_option maxHeartbeats 4000000 in
set_option maxRecDepth 100000 in
theorem t_L_isFilled_111 {α0 : Ax} {κ0 : Nat → Int} {p6 : Int} {p7 : Int} (X : CX p m c cL_isFilled 14 s args RL G B κ meth (some .boolean)) (N : NcA s) (hlt : l.stackTraces = false) (hb : Bk G e0 α κ α0 κ0 B) (hp6 : inR p6) (hp7 : inR p7) {Qm : Int → Mem → Prop} : ∀ y8 : Int, ∀ y10 : Int, ∀ y11 : Int, ∀ y12 : Int, ∀ y13 : Int, ∀ M : Mem, wp_L_isFilled_111 p6 p7 Qm y8 y10 y11 y12 y13 M → inR y8 → inR y10 → inR y11 → inR y12 → inR y13 → ∀ cl sl : Nat, cl + 2 ≤ 2 → sl + 12 ≤ 12 → ∀ (H : Heap) (locs : List Loc), Rp G e0 α κ B M H → va_S (fun q => B ≤ q) s.heap H locs → ∀ (ls : Array Slot), lv_has ls 14 [(0, .ref (α 10 0)), (3, .ref (α 108 0)), (8, .int (Int32.ofInt y8)), (10, .int (Int32.ofInt y10)), (11, .int (Int32.ofInt y11)), (12, .int (Int32.ofInt y12)), (13, .int (Int32.ofInt y13))] → WU p l e 9 2 12 s m args below meth c G e0 α0 κ0 B Qm H locs cl sl 111 ls [] := by
  intro y8 y10 y11 y12 y13 M hw hy8 hy10 hy11 hy12 hy13 cl sl hc1 hc2 H locs hR hS ls hl
  have hw : ((y13 = 0 → wp_L_isFilled_153 p6 p7 Qm y8 y10 y11 y12 y13 M) ∧ (¬ y13 = 0 → (wNew M y8 y10 y11 y12) ∧ ∀ M161 : Mem, M161 = wW M y8 y10 y11 y12 → wp_L_isFilled_153 p6 p7 Qm y8 y10 y11 y12 y13 M161)) := hw
  refine lv_iload X.1.1 X.1.2.1 dL_isFilled_111 (lv_at hl 6 rfl) ?_
  refine sa_if_eq (tgt := 153) X.1 hy13 dL_isFilled_113 (by decide) (fun hc => ?_) (fun hc => ?_)
  · have hw := hw.1 hc
    exact t_L_isFilled_153 X N hlt hb hp6 hp7 _ _ _ _ _ _ hw hy8 hy10 hy11 hy12 hy13 _ _ (by omega) (by omega) _ _ hR hS _ (lv_sub hl [0, 2, 3, 4, 5, 6] rfl)
  · have hw := hw.2 hc
    have c160 := hw.1
    have hw := hw.2
    refine lv_aload_n X.1.1 X.1.2.1 dL_isFilled_116 rfl (lv_at hl 1 rfl) ?_
    refine lv_iload X.1.1 X.1.2.1 dL_isFilled_117 (lv_at hl 2 rfl) ?_
    refine lv_aload_n X.1.1 X.1.2.1 dL_isFilled_119 rfl (lv_at hl 1 rfl) ?_
    refine lv_iload X.1.1 X.1.2.1 dL_isFilled_120 (lv_at hl 2 rfl) ?_
    refine wl_ld X hR ⟨c160.1.1, c160.1.2⟩ dL_isFilled_122 ?_
    refine lv_ldc2 X.1.1 X.1.2.1 X.1.2.2.2.1 (X.1.2.2.2.2 _ kw_1069) dL_isFilled_123 ?_
    refine lv_land X.1.1 X.1.2.1 dL_isFilled_126 ?_
    refine lv_iload X.1.1 X.1.2.1 dL_isFilled_127 (lv_at hl 3 rfl) ?_
    refine sa_bipush X.1 dL_isFilled_129 (by decide) ?_
    refine lv_iload X.1.1 X.1.2.1 dL_isFilled_131 (lv_at hl 4 rfl) ?_
    refine sa_imul X.1 dL_isFilled_133 ?_
    refine sa_iadd X.1 dL_isFilled_134 ?_
    refine lv_i2l X.1.1 X.1.2.1 dL_isFilled_135 rfl ?_
    refine sa_bipush X.1 dL_isFilled_136 (by decide) ?_
    refine lv_iload X.1.1 X.1.2.1 dL_isFilled_138 (lv_at hl 5 rfl) ?_
    refine sa_imul X.1 dL_isFilled_140 ?_
    refine lv_lshl X.1.1 X.1.2.1 dL_isFilled_141 rfl ?_
    refine lv_lor X.1.1 X.1.2.1 dL_isFilled_142 ?_
    refine lv_iload X.1.1 X.1.2.1 dL_isFilled_143 (lv_at hl 5 rfl) ?_
    refine sa_const X.1 dL_isFilled_145 ?_
    refine sa_iadd X.1 dL_isFilled_146 ?_
    refine lv_i2l X.1.1 X.1.2.1 dL_isFilled_147 rfl ?_
    refine sa_bipush X.1 dL_isFilled_148 (by decide) ?_
    refine lv_lshl X.1.1 X.1.2.1 dL_isFilled_150 rfl ?_
    refine lv_lor X.1.1 X.1.2.1 dL_isFilled_151 ?_
    refine wl_word X hR hS c160 dL_isFilled_152 (fun H locs hR hS => ?_)
    obtain ⟨M161, e162⟩ : ∃ z : Mem, z = wW M y8 y10 y11 y12 := ⟨_, rfl⟩
    rw [← e162] at hR
    have hw := hw M161 e162
    exact t_L_isFilled_153 X N hlt hb hp6 hp7 _ _ _ _ _ _ hw hy8 hy10 hy11 hy12 hy13 _ _ (by omega) (by omega) _ _ hR hS _ (lv_sub hl [0, 2, 3, 4, 5, 6] rfl)
set_option maxHeartbeats 4000000 in
set_option maxRecDepth 100000 in
theorem t_L_isFilled {α0 : Ax} {κ0 : Nat → Int} {p6 : Int} {p7 : Int} (X : CX p m c cL_isFilled 14 s args RL G B κ meth (some .boolean)) (N : NcA s) (hlt : l.stackTraces = false) (hb : Bk G e0 α κ α0 κ0 B) (hp6 : inR p6) (hp7 : inR p7) {M : Mem} {Qm : Int → Mem → Prop} (hw : wp_L_isFilled p6 p7 M Qm) (cl sl : Nat) (hc1 : cl + 2 ≤ 2) (hc2 : sl + 12 ≤ 12) (H : Heap) (locs : List Loc) (hR : Rp G e0 α κ B M H) (hS : va_S (fun q => B ≤ q) s.heap H locs) (ls : Array Slot) (hl : lv_has ls 14 [(0, .ref (α 10 0)), (1, .ref (α 105 0)), (2, .ref (α 107 0)), (3, .ref (α 108 0)), (4, .ref (α 109 0)), (5, .ref (α 112 0)), (6, .int (Int32.ofInt p6)), (7, .int (Int32.ofInt p7))]) : WU p l e 9 2 12 s m args below meth c G e0 α0 κ0 B Qm H locs cl sl 0 ls [] := by
  have hw : (0 < (M 112 0 2)) ∧ (inR (6 * (Int.tmod p7 (M 112 0 2)))) ∧ ((5 ≤ p6 → ((8 ≤ p6 → ((¬ p6 = 8 → (0 ≤ (6 * (Int.tmod p7 (M 112 0 2))) ∧ (6 * (Int.tmod p7 (M 112 0 2))) < 60) ∧ (inR (3 * (M 107 0 (6 * (Int.tmod p7 (M 112 0 2)))))) ∧ (0 ≤ (3 * (M 107 0 (6 * (Int.tmod p7 (M 112 0 2))))) ∧ (3 * (M 107 0 (6 * (Int.tmod p7 (M 112 0 2))))) < 30) ∧ (inR ((6 * (Int.tmod p7 (M 112 0 2))) + 4)) ∧ (0 ≤ ((6 * (Int.tmod p7 (M 112 0 2))) + 4) ∧ ((6 * (Int.tmod p7 (M 112 0 2))) + 4) < 60) ∧ (inR ((6 * (Int.tmod p7 (M 112 0 2))) + 4)) ∧ (0 ≤ ((6 * (Int.tmod p7 (M 112 0 2))) + 4) ∧ ((6 * (Int.tmod p7 (M 112 0 2))) + 4) < 60) ∧ ∀ M21 : Mem, M21 = up M 107 0 ((6 * (Int.tmod p7 (M 112 0 2))) + 4) (if (if ¬ (M 105 0 (3 * (M 107 0 (6 * (Int.tmod p7 (M 112 0 2)))))) = 1 then (0 : Int) else 1) = 0 then (M 107 0 ((6 * (Int.tmod p7 (M 112 0 2))) + 4)) else (Int.tmod (Int.tdiv p7 10) 4)) → wp_L_noted (Int.tmod p7 (M 112 0 2)) (Int.tmod (Int.tdiv p7 10) 4) M21 fun (x25 : Int) (M27 : Mem) => ∃ M28 : Mem, Gh M27 M28 ∧ (bit (if ¬ x25 = (if (if ¬ (M 105 0 (3 * (M 107 0 (6 * (Int.tmod p7 (M 112 0 2)))))) = 1 then (0 : Int) else 1) = 0 then ((-7) : Int) else (M 107 0 ((6 * (Int.tmod p7 (M 112 0 2))) + 4))) then (0 : Int) else 1)) ∧ Qm (if ¬ x25 = (if (if ¬ (M 105 0 (3 * (M 107 0 (6 * (Int.tmod p7 (M 112 0 2)))))) = 1 then (0 : Int) else 1) = 0 then ((-7) : Int) else (M 107 0 ((6 * (Int.tmod p7 (M 112 0 2))) + 4))) then (0 : Int) else 1) M28) ∧ (p6 = 8 → wp_L_words (Int.tmod p7 (M 112 0 2)) M fun (x38 : Int) (M37 : Mem) => (0 ≤ (Int.tmod p7 (M 112 0 2)) ∧ (Int.tmod p7 (M 112 0 2)) < 10) ∧ ∀ M41 : Mem, M41 = wZ M37 (Int.tmod p7 (M 112 0 2)) → (inR ((6 * (Int.tmod p7 (M 112 0 2))) + 5)) ∧ (0 ≤ ((6 * (Int.tmod p7 (M 112 0 2))) + 5) ∧ ((6 * (Int.tmod p7 (M 112 0 2))) + 5) < 60) ∧ ∀ M45 : Mem, M45 = up M41 107 0 ((6 * (Int.tmod p7 (M 112 0 2))) + 5) (-1) → wo_X9_empty (Int.tmod p7 (M 112 0 2)) M45 fun (x48 : Int) (M47 : Mem) => ∃ M50 : Mem, Gh M47 M50 ∧ (bit (if ¬ x48 = x38 then (0 : Int) else 1)) ∧ Qm (if ¬ x48 = x38 then (0 : Int) else 1) M50))) ∧ (p6 < 8 → (0 < (if ¬ (Int.tmod p7 4) = 0 then (301 : Int) else 20001)) ∧ (inR ((Int.tmod (Int.tdiv p7 30) (if ¬ (Int.tmod p7 4) = 0 then (301 : Int) else 20001)) - 100)) ∧ (inR (((Int.tmod (Int.tdiv p7 30) (if ¬ (Int.tmod p7 4) = 0 then (301 : Int) else 20001)) - 100) * (if ¬ (Int.tmod (Int.tdiv p7 10) 3) = 0 then (if ¬ (Int.tmod (Int.tdiv p7 10) 3) = 1 then (1 : Int) else 10) else 100))) ∧ wp_L_words (Int.tmod p7 (M 112 0 2)) M fun (x76 : Int) (M75 : Mem) => (x76 = 0 → (inR ((6 * (Int.tmod p7 (M 112 0 2))) + 2)) ∧ (0 ≤ ((6 * (Int.tmod p7 (M 112 0 2))) + 2) ∧ ((6 * (Int.tmod p7 (M 112 0 2))) + 2) < 60) ∧ ((M75 107 0 ((6 * (Int.tmod p7 (M 112 0 2))) + 2)) = 1 → (inR ((6 * (Int.tmod p7 (M 112 0 2))) + 3)) ∧ (0 ≤ ((6 * (Int.tmod p7 (M 112 0 2))) + 3) ∧ ((6 * (Int.tmod p7 (M 112 0 2))) + 3) < 60) ∧ True) ∧ True) ∧ (inR ((6 * (Int.tmod p7 (M 112 0 2))) + 5)) ∧ ((if ¬ x76 = 0 then (0 : Int) else (if ¬ (M75 107 0 ((6 * (Int.tmod p7 (M 112 0 2))) + 2)) = 1 then (0 : Int) else (if ¬ (M75 107 0 ((6 * (Int.tmod p7 (M 112 0 2))) + 3)) = 1 then (0 : Int) else 1))) = 0 → (inR ((6 * (Int.tmod p7 (M 112 0 2))) + 5)) ∧ (0 ≤ ((6 * (Int.tmod p7 (M 112 0 2))) + 5) ∧ ((6 * (Int.tmod p7 (M 112 0 2))) + 5) < 60) ∧ True) ∧ (0 ≤ ((6 * (Int.tmod p7 (M 112 0 2))) + 5) ∧ ((6 * (Int.tmod p7 (M 112 0 2))) + 5) < 60) ∧ ∀ M99 : Mem, M99 = up M75 107 0 ((6 * (Int.tmod p7 (M 112 0 2))) + 5) (if (if ¬ x76 = 0 then (0 : Int) else (if ¬ (M75 107 0 ((6 * (Int.tmod p7 (M 112 0 2))) + 2)) = 1 then (0 : Int) else (if ¬ (M75 107 0 ((6 * (Int.tmod p7 (M 112 0 2))) + 3)) = 1 then (0 : Int) else 1))) = 0 then (M75 107 0 ((6 * (Int.tmod p7 (M 112 0 2))) + 5)) else (Int.tmod (Int.tdiv p7 10) 3)) → ((if ¬ x76 = 0 then (0 : Int) else (if ¬ (M75 107 0 ((6 * (Int.tmod p7 (M 112 0 2))) + 2)) = 1 then (0 : Int) else (if ¬ (M75 107 0 ((6 * (Int.tmod p7 (M 112 0 2))) + 3)) = 1 then (0 : Int) else 1))) = 0 → (0 ≤ (Int.tmod p7 (M 112 0 2)) ∧ (Int.tmod p7 (M 112 0 2)) < 10) ∧ True) ∧ (0 ≤ (Int.tmod p7 (M 112 0 2)) ∧ (Int.tmod p7 (M 112 0 2)) < 10) ∧ ∀ M107 : Mem, M107 = up M99 109 0 (Int.tmod p7 (M 112 0 2)) (if (if ¬ x76 = 0 then (0 : Int) else (if ¬ (M75 107 0 ((6 * (Int.tmod p7 (M 112 0 2))) + 2)) = 1 then (0 : Int) else (if ¬ (M75 107 0 ((6 * (Int.tmod p7 (M 112 0 2))) + 3)) = 1 then (0 : Int) else 1))) = 0 then (M99 109 0 (Int.tmod p7 (M 112 0 2))) else (if (((Int.tmod (Int.tdiv p7 30) (if ¬ (Int.tmod p7 4) = 0 then (301 : Int) else 20001)) - 100) * (if ¬ (Int.tmod (Int.tdiv p7 10) 3) = 0 then (if ¬ (Int.tmod (Int.tdiv p7 10) 3) = 1 then (1 : Int) else 10) else 100)) ≤ 1000000 then (((Int.tmod (Int.tdiv p7 30) (if ¬ (Int.tmod p7 4) = 0 then (301 : Int) else 20001)) - 100) * (if ¬ (Int.tmod (Int.tdiv p7 10) 3) = 0 then (if ¬ (Int.tmod (Int.tdiv p7 10) 3) = 1 then (1 : Int) else 10) else 100)) else 1000000)) → wp_L_figured (Int.tmod p7 (M 112 0 2)) (if (((Int.tmod (Int.tdiv p7 30) (if ¬ (Int.tmod p7 4) = 0 then (301 : Int) else 20001)) - 100) * (if ¬ (Int.tmod (Int.tdiv p7 10) 3) = 0 then (if ¬ (Int.tmod (Int.tdiv p7 10) 3) = 1 then (1 : Int) else 10) else 100)) ≤ 1000000 then (((Int.tmod (Int.tdiv p7 30) (if ¬ (Int.tmod p7 4) = 0 then (301 : Int) else 20001)) - 100) * (if ¬ (Int.tmod (Int.tdiv p7 10) 3) = 0 then (if ¬ (Int.tmod (Int.tdiv p7 10) 3) = 1 then (1 : Int) else 10) else 100)) else 1000000) (Int.tmod (Int.tdiv p7 10) 3) M107 fun (x109 : Int) (M111 : Mem) => ∃ M112 : Mem, Gh M111 M112 ∧ (bit (if ¬ x109 = (if (if ¬ x76 = 0 then (0 : Int) else (if ¬ (M75 107 0 ((6 * (Int.tmod p7 (M 112 0 2))) + 2)) = 1 then (0 : Int) else (if ¬ (M75 107 0 ((6 * (Int.tmod p7 (M 112 0 2))) + 3)) = 1 then (0 : Int) else 1))) = 0 then ((-7) : Int) else 0) then (0 : Int) else 1)) ∧ Qm (if ¬ x109 = (if (if ¬ x76 = 0 then (0 : Int) else (if ¬ (M75 107 0 ((6 * (Int.tmod p7 (M 112 0 2))) + 2)) = 1 then (0 : Int) else (if ¬ (M75 107 0 ((6 * (Int.tmod p7 (M 112 0 2))) + 3)) = 1 then (0 : Int) else 1))) = 0 then ((-7) : Int) else 0) then (0 : Int) else 1) M112))) ∧ (p6 < 5 → (0 < (if ¬ (Int.tmod (Int.tdiv p7 3) 4) = 0 then (9 : Int) else 20)) ∧ (inR (1 + (Int.tmod (Int.tdiv p7 10) (if ¬ (Int.tmod (Int.tdiv p7 3) 4) = 0 then (9 : Int) else 20)))) ∧ (¬ (Int.tmod (Int.tdiv p7 200) 2) = 0 → (0 < (1 + (Int.tmod (Int.tdiv p7 10) (if ¬ (Int.tmod (Int.tdiv p7 3) 4) = 0 then (9 : Int) else 20)))) ∧ True) ∧ (inR (if ¬ (Int.tmod (Int.tdiv p7 200) 2) = 0 then (Int.tmod (Int.tdiv p7 400) (1 + (Int.tmod (Int.tdiv p7 10) (if ¬ (Int.tmod (Int.tdiv p7 3) 4) = 0 then (9 : Int) else 20)))) else 0)) ∧ wp_L_words (Int.tmod p7 (M 112 0 2)) M fun (x138 : Int) (M137 : Mem) => (inR ((6 * (Int.tmod p7 (M 112 0 2))) + 5)) ∧ (0 ≤ ((6 * (Int.tmod p7 (M 112 0 2))) + 5) ∧ ((6 * (Int.tmod p7 (M 112 0 2))) + 5) < 60) ∧ ((¬ x138 = 5 → wp_L_isFilled_111 p6 p7 Qm (Int.tmod p7 (M 112 0 2)) (1 + (Int.tmod (Int.tdiv p7 10) (if ¬ (Int.tmod (Int.tdiv p7 3) 4) = 0 then (9 : Int) else 20))) (if ¬ (Int.tmod (Int.tdiv p7 200) 2) = 0 then (Int.tmod (Int.tdiv p7 400) (1 + (Int.tmod (Int.tdiv p7 10) (if ¬ (Int.tmod (Int.tdiv p7 3) 4) = 0 then (9 : Int) else 20)))) else 0) x138 (if 0 ≤ (M137 107 0 ((6 * (Int.tmod p7 (M 112 0 2))) + 5)) then (0 : Int) else 1) M137) ∧ (x138 = 5 → (((if 0 ≤ (M137 107 0 ((6 * (Int.tmod p7 (M 112 0 2))) + 5)) then (0 : Int) else 1) = 0 → wp_L_isFilled_111 p6 p7 Qm (Int.tmod p7 (M 112 0 2)) (1 + (Int.tmod (Int.tdiv p7 10) (if ¬ (Int.tmod (Int.tdiv p7 3) 4) = 0 then (9 : Int) else 20))) (if ¬ (Int.tmod (Int.tdiv p7 200) 2) = 0 then (Int.tmod (Int.tdiv p7 400) (1 + (Int.tmod (Int.tdiv p7 10) (if ¬ (Int.tmod (Int.tdiv p7 3) 4) = 0 then (9 : Int) else 20)))) else 0) x138 (if 0 ≤ (M137 107 0 ((6 * (Int.tmod p7 (M 112 0 2))) + 5)) then (0 : Int) else 1) M137) ∧ (¬ (if 0 ≤ (M137 107 0 ((6 * (Int.tmod p7 (M 112 0 2))) + 5)) then (0 : Int) else 1) = 0 → Qm 1 M137)))))) := hw
  refine lv_iload X.1.1 X.1.2.1 dL_isFilled_0 (lv_at hl 7 rfl) ?_
  refine lv_aload X.1.1 X.1.2.1 dL_isFilled_2 (lv_at hl 5 rfl) ?_
  refine sa_const X.1 dL_isFilled_4 ?_
  refine ra_112 X hR (okf X.2.2.1 rfl) ⟨by decide, by decide⟩ dL_isFilled_5 ?_
  have r1 := hR.r 112 0 2
  have c2 := hw.1
  have hw := hw.2
  have r3 := inR_tmod hp7 r1 c2
  refine sa_irem X.1 hp7 r1 (Int.ne_of_gt c2) dL_isFilled_6 ?_
  refine lv_istore (lv' := [(8, .int (Int32.ofInt (Int.tmod p7 (M 112 0 2)))), (0, .ref (α 10 0)), (1, .ref (α 105 0)), (2, .ref (α 107 0)), (3, .ref (α 108 0)), (4, .ref (α 109 0)), (5, .ref (α 112 0)), (6, .int (Int32.ofInt p6)), (7, .int (Int32.ofInt p7))]) X.1.1 X.1.2.1 dL_isFilled_7 hl (by decide) rfl (fun ls hl => ?_)
  refine sa_bipush X.1 dL_isFilled_9 (by decide) ?_
  refine lv_iload X.1.1 X.1.2.1 dL_isFilled_11 (lv_at hl 0 rfl) ?_
  have c4 := hw.1
  have hw := hw.2
  refine sa_imul X.1 dL_isFilled_13 ?_
  refine lv_istore (lv' := [(9, .int (Int32.ofInt (6 * (Int.tmod p7 (M 112 0 2))))), (8, .int (Int32.ofInt (Int.tmod p7 (M 112 0 2)))), (0, .ref (α 10 0)), (1, .ref (α 105 0)), (2, .ref (α 107 0)), (3, .ref (α 108 0)), (4, .ref (α 109 0)), (5, .ref (α 112 0)), (6, .int (Int32.ofInt p6)), (7, .int (Int32.ofInt p7))]) X.1.1 X.1.2.1 dL_isFilled_14 hl (by decide) rfl (fun ls hl => ?_)
  refine lv_iload X.1.1 X.1.2.1 dL_isFilled_16 (lv_at hl 8 rfl) ?_
  refine sa_const X.1 dL_isFilled_18 ?_
  refine sa_icmp_ge (tgt := 186) X.1 hp6 (inR_c (a := 5) rfl) dL_isFilled_19 (by decide) (fun hc => ?_) (fun hc => ?_)
  · have hw := hw.1 hc
    refine lv_iload X.1.1 X.1.2.1 dL_isFilled_186 (lv_at hl 8 rfl) ?_
    refine sa_bipush X.1 dL_isFilled_188 (by decide) ?_
    refine sa_icmp_ge (tgt := 376) X.1 hp6 (inR_c (a := 8) rfl) dL_isFilled_190 (by decide) (fun hc => ?_) (fun hc => ?_)
    · have hw := hw.1 hc
      refine lv_iload X.1.1 X.1.2.1 dL_isFilled_376 (lv_at hl 8 rfl) ?_
      refine sa_bipush X.1 dL_isFilled_378 (by decide) ?_
      refine sa_icmp_ne (tgt := 420) X.1 hp6 (inR_c (a := 8) rfl) dL_isFilled_380 (by decide) (fun hc => ?_) (fun hc => ?_)
      · have hw := hw.1 hc
        refine lv_aload_n X.1.1 X.1.2.1 dL_isFilled_420 rfl (lv_at hl 3 rfl) ?_
        refine sa_const X.1 dL_isFilled_421 ?_
        refine lv_aload_n X.1.1 X.1.2.1 dL_isFilled_422 rfl (lv_at hl 4 rfl) ?_
        refine lv_iload X.1.1 X.1.2.1 dL_isFilled_423 (lv_at hl 0 rfl) ?_
        have c5 := hw.1
        have hw := hw.2
        refine ra_107 X hR (okf X.2.2.1 rfl) c5 dL_isFilled_425 ?_
        have r6 := hR.r 107 0 (6 * (Int.tmod p7 (M 112 0 2)))
        have c7 := hw.1
        have hw := hw.2
        refine sa_imul X.1 dL_isFilled_426 ?_
        have c8 := hw.1
        have hw := hw.2
        refine ra_105 X hR (okf X.2.2.1 rfl) c8 dL_isFilled_427 ?_
        have r9 := hR.r 105 0 (3 * (M 107 0 (6 * (Int.tmod p7 (M 112 0 2)))))
        refine sa_const X.1 dL_isFilled_428 ?_
        have r10 := inR_ite (c := ¬ (M 105 0 (3 * (M 107 0 (6 * (Int.tmod p7 (M 112 0 2)))))) = 1) (inR_c (a := 0) rfl) (inR_c (a := 1) rfl)
        refine cut_j (A := ∀ v11 : Int, v11 = (if ¬ (M 105 0 (3 * (M 107 0 (6 * (Int.tmod p7 (M 112 0 2)))))) = 1 then (0 : Int) else 1) → WU p l e 9 2 12 s m args below meth c G e0 α0 κ0 B Qm H locs cl sl 437 ls [.int (Int32.ofInt v11)]) (fun J12 => ?_) ?_
        · refine sa_icmp_ne (tgt := 436) X.1 r9 (inR_c (a := 1) rfl) dL_isFilled_429 (by decide) (fun hc => ?_) (fun hc => ?_)
          · skip
            refine sa_const X.1 dL_isFilled_436 ?_
            exact J12 (0) (if_pos (c := ¬ (M 105 0 (3 * (M 107 0 (6 * (Int.tmod p7 (M 112 0 2)))))) = 1) hc).symm
          · skip
            refine sa_const X.1 dL_isFilled_432 ?_
            refine lv_goto (tgt := 437) X.1.1 X.1.2.1 dL_isFilled_433 (by decide) ?_
            exact J12 (1) (if_neg (c := ¬ (M 105 0 (3 * (M 107 0 (6 * (Int.tmod p7 (M 112 0 2)))))) = 1) (fun z => z hc)).symm
        intro v11 hv11
        subst hv11
        refine lv_istore (lv' := [(10, .int (Int32.ofInt (if ¬ (M 105 0 (3 * (M 107 0 (6 * (Int.tmod p7 (M 112 0 2)))))) = 1 then (0 : Int) else 1))), (9, .int (Int32.ofInt (6 * (Int.tmod p7 (M 112 0 2))))), (8, .int (Int32.ofInt (Int.tmod p7 (M 112 0 2)))), (0, .ref (α 10 0)), (1, .ref (α 105 0)), (2, .ref (α 107 0)), (3, .ref (α 108 0)), (4, .ref (α 109 0)), (5, .ref (α 112 0)), (6, .int (Int32.ofInt p6)), (7, .int (Int32.ofInt p7))]) X.1.1 X.1.2.1 dL_isFilled_437 hl (by decide) rfl (fun ls hl => ?_)
        refine lv_aload_n X.1.1 X.1.2.1 dL_isFilled_439 rfl (lv_at hl 5 rfl) ?_
        refine lv_iload X.1.1 X.1.2.1 dL_isFilled_440 (lv_at hl 1 rfl) ?_
        refine sa_const X.1 dL_isFilled_442 ?_
        have c13 := hw.1
        have hw := hw.2
        refine sa_iadd X.1 dL_isFilled_443 ?_
        have c14 := hw.1
        have hw := hw.2
        refine ra_107 X hR (okf X.2.2.1 rfl) c14 dL_isFilled_444 ?_
        have r15 := hR.r 107 0 ((6 * (Int.tmod p7 (M 112 0 2))) + 4)
        refine lv_istore (lv' := [(11, .int (Int32.ofInt (M 107 0 ((6 * (Int.tmod p7 (M 112 0 2))) + 4)))), (10, .int (Int32.ofInt (if ¬ (M 105 0 (3 * (M 107 0 (6 * (Int.tmod p7 (M 112 0 2)))))) = 1 then (0 : Int) else 1))), (9, .int (Int32.ofInt (6 * (Int.tmod p7 (M 112 0 2))))), (8, .int (Int32.ofInt (Int.tmod p7 (M 112 0 2)))), (0, .ref (α 10 0)), (1, .ref (α 105 0)), (2, .ref (α 107 0)), (3, .ref (α 108 0)), (4, .ref (α 109 0)), (5, .ref (α 112 0)), (6, .int (Int32.ofInt p6)), (7, .int (Int32.ofInt p7))]) X.1.1 X.1.2.1 dL_isFilled_445 hl (by decide) rfl (fun ls hl => ?_)
        refine lv_aload_n X.1.1 X.1.2.1 dL_isFilled_447 rfl (lv_at hl 6 rfl) ?_
        refine lv_iload X.1.1 X.1.2.1 dL_isFilled_448 (lv_at hl 2 rfl) ?_
        refine sa_const X.1 dL_isFilled_450 ?_
        have c16 := hw.1
        have hw := hw.2
        refine sa_iadd X.1 dL_isFilled_451 ?_
        refine lv_iload X.1.1 X.1.2.1 dL_isFilled_452 (lv_at hl 1 rfl) ?_
        have r17 := inR_ite (c := (if ¬ (M 105 0 (3 * (M 107 0 (6 * (Int.tmod p7 (M 112 0 2)))))) = 1 then (0 : Int) else 1) = 0) r15 (inR_tmod (inR_tdiv hp7 (inR_c (a := 10) rfl) (by decide)) (inR_c (a := 4) rfl) (by decide))
        refine cut_j (A := ∀ v18 : Int, v18 = (if (if ¬ (M 105 0 (3 * (M 107 0 (6 * (Int.tmod p7 (M 112 0 2)))))) = 1 then (0 : Int) else 1) = 0 then (M 107 0 ((6 * (Int.tmod p7 (M 112 0 2))) + 4)) else (Int.tmod (Int.tdiv p7 10) 4)) → WU p l e 9 2 12 s m args below meth c G e0 α0 κ0 B Qm H locs cl sl 469 ls [.int (Int32.ofInt v18), .int (Int32.ofInt ((6 * (Int.tmod p7 (M 112 0 2))) + 4)), .ref (α 107 0)]) (fun J19 => ?_) ?_
        · refine sa_if_eq (tgt := 467) X.1 r10 dL_isFilled_454 (by decide) (fun hc => ?_) (fun hc => ?_)
          · skip
            refine lv_iload X.1.1 X.1.2.1 dL_isFilled_467 (lv_at hl 0 rfl) ?_
            exact J19 ((M 107 0 ((6 * (Int.tmod p7 (M 112 0 2))) + 4))) (if_pos (c := (if ¬ (M 105 0 (3 * (M 107 0 (6 * (Int.tmod p7 (M 112 0 2)))))) = 1 then (0 : Int) else 1) = 0) hc).symm
          · skip
            refine lv_iload X.1.1 X.1.2.1 dL_isFilled_457 (lv_at hl 11 rfl) ?_
            refine sa_bipush X.1 dL_isFilled_459 (by decide) ?_
            refine sa_idiv X.1 hp7 (inR_c (a := 10) rfl) (Int.ne_of_gt (by decide)) dL_isFilled_461 ?_
            refine sa_const X.1 dL_isFilled_462 ?_
            refine sa_irem X.1 (inR_tdiv hp7 (inR_c (a := 10) rfl) (by decide)) (inR_c (a := 4) rfl) (Int.ne_of_gt (by decide)) dL_isFilled_463 ?_
            refine lv_goto (tgt := 469) X.1.1 X.1.2.1 dL_isFilled_464 (by decide) ?_
            exact J19 ((Int.tmod (Int.tdiv p7 10) 4)) (if_neg (c := (if ¬ (M 105 0 (3 * (M 107 0 (6 * (Int.tmod p7 (M 112 0 2)))))) = 1 then (0 : Int) else 1) = 0) hc).symm
        intro v18 hv18
        subst hv18
        have c20 := hw.1
        have hw := hw.2
        refine wa_107 X hR hS (okf X.2.2.1 rfl) c20 r17 dL_isFilled_469 (fun H locs hR hS => ?_)
        obtain ⟨M21, e22⟩ : ∃ z : Mem, z = up M 107 0 ((6 * (Int.tmod p7 (M 112 0 2))) + 4) (if (if ¬ (M 105 0 (3 * (M 107 0 (6 * (Int.tmod p7 (M 112 0 2)))))) = 1 then (0 : Int) else 1) = 0 then (M 107 0 ((6 * (Int.tmod p7 (M 112 0 2))) + 4)) else (Int.tmod (Int.tdiv p7 10) 4)) := ⟨_, rfl⟩
        rw [← e22] at hR
        have hw := hw M21 e22
        refine lv_aload_n X.1.1 X.1.2.1 dL_isFilled_470 rfl (lv_at hl 4 rfl) ?_
        refine lv_iload X.1.1 X.1.2.1 dL_isFilled_471 (lv_at hl 3 rfl) ?_
        refine lv_iload X.1.1 X.1.2.1 dL_isFilled_473 (lv_at hl 11 rfl) ?_
        refine sa_bipush X.1 dL_isFilled_475 (by decide) ?_
        have r23 := inR_tdiv hp7 (inR_c (a := 10) rfl) (by decide)
        refine sa_idiv X.1 hp7 (inR_c (a := 10) rfl) (Int.ne_of_gt (by decide)) dL_isFilled_477 ?_
        refine sa_const X.1 dL_isFilled_478 ?_
        have r24 := inR_tmod r23 (inR_c (a := 4) rfl) (by decide)
        refine sa_irem X.1 r23 (inR_c (a := 4) rfl) (Int.ne_of_gt (by decide)) dL_isFilled_479 ?_
        refine sc_call 8 (n := 3) (As := [.ref (α 10 0), .int (Int32.ofInt (Int.tmod p7 (M 112 0 2))), .int (Int32.ofInt (Int.tmod (Int.tdiv p7 10) 4))]) (rest := []) X N hR hS (w_L_noted hlt X.2.2.1 r3 r24 hw) kw_1110 kw_1111 kw_37 kw_1112 ⟨by decide +kernel, by decide +kernel, by decide +kernel⟩ (rm_ok rmX_ok (by decide) (by decide)) rfl rfl (Nat.le_of_ble_eq_true rfl) hl.1 dL_isFilled_480 ⟨by show _ ≤ 2; omega, by show _ ≤ 12; omega⟩ (fun x25 M27 H locs hw r26 hR hS => ?_)
        obtain ⟨M28, g29, hw⟩ := hw
        have hR := hR.gh X.2.2.1 g29
        refine lv_iload X.1.1 X.1.2.1 dL_isFilled_483 (lv_at hl 1 rfl) ?_
        have r30 := inR_ite (c := (if ¬ (M 105 0 (3 * (M 107 0 (6 * (Int.tmod p7 (M 112 0 2)))))) = 1 then (0 : Int) else 1) = 0) (inR_c (a := -7) rfl) r15
        refine cut_j (A := ∀ v31 : Int, v31 = (if (if ¬ (M 105 0 (3 * (M 107 0 (6 * (Int.tmod p7 (M 112 0 2)))))) = 1 then (0 : Int) else 1) = 0 then ((-7) : Int) else (M 107 0 ((6 * (Int.tmod p7 (M 112 0 2))) + 4))) → WU p l e 9 2 12 s m args below meth c G e0 α0 κ0 B Qm H locs (cl + 2) (sl + 12) 495 ls [.int (Int32.ofInt v31), .int (Int32.ofInt x25)]) (fun J32 => ?_) ?_
        · refine sa_if_eq (tgt := 493) X.1 r10 dL_isFilled_485 (by decide) (fun hc => ?_) (fun hc => ?_)
          · skip
            refine sa_bipush X.1 dL_isFilled_493 (by decide) ?_
            exact J32 ((-7)) (if_pos (c := (if ¬ (M 105 0 (3 * (M 107 0 (6 * (Int.tmod p7 (M 112 0 2)))))) = 1 then (0 : Int) else 1) = 0) hc).symm
          · skip
            refine lv_iload X.1.1 X.1.2.1 dL_isFilled_488 (lv_at hl 0 rfl) ?_
            refine lv_goto (tgt := 495) X.1.1 X.1.2.1 dL_isFilled_490 (by decide) ?_
            exact J32 ((M 107 0 ((6 * (Int.tmod p7 (M 112 0 2))) + 4))) (if_neg (c := (if ¬ (M 105 0 (3 * (M 107 0 (6 * (Int.tmod p7 (M 112 0 2)))))) = 1 then (0 : Int) else 1) = 0) hc).symm
        intro v31 hv31
        subst hv31
        have r33 := inR_ite (c := ¬ x25 = (if (if ¬ (M 105 0 (3 * (M 107 0 (6 * (Int.tmod p7 (M 112 0 2)))))) = 1 then (0 : Int) else 1) = 0 then ((-7) : Int) else (M 107 0 ((6 * (Int.tmod p7 (M 112 0 2))) + 4)))) (inR_c (a := 0) rfl) (inR_c (a := 1) rfl)
        refine cut_j (A := ∀ v34 : Int, v34 = (if ¬ x25 = (if (if ¬ (M 105 0 (3 * (M 107 0 (6 * (Int.tmod p7 (M 112 0 2)))))) = 1 then (0 : Int) else 1) = 0 then ((-7) : Int) else (M 107 0 ((6 * (Int.tmod p7 (M 112 0 2))) + 4))) then (0 : Int) else 1) → WU p l e 9 2 12 s m args below meth c G e0 α0 κ0 B Qm H locs (cl + 2) (sl + 12) 503 ls [.int (Int32.ofInt v34)]) (fun J35 => ?_) ?_
        · refine sa_icmp_ne (tgt := 502) X.1 r26 r30 dL_isFilled_495 (by decide) (fun hc => ?_) (fun hc => ?_)
          · skip
            refine sa_const X.1 dL_isFilled_502 ?_
            exact J35 (0) (if_pos (c := ¬ x25 = (if (if ¬ (M 105 0 (3 * (M 107 0 (6 * (Int.tmod p7 (M 112 0 2)))))) = 1 then (0 : Int) else 1) = 0 then ((-7) : Int) else (M 107 0 ((6 * (Int.tmod p7 (M 112 0 2))) + 4)))) hc).symm
          · skip
            refine sa_const X.1 dL_isFilled_498 ?_
            refine lv_goto (tgt := 503) X.1.1 X.1.2.1 dL_isFilled_499 (by decide) ?_
            exact J35 (1) (if_neg (c := ¬ x25 = (if (if ¬ (M 105 0 (3 * (M 107 0 (6 * (Int.tmod p7 (M 112 0 2)))))) = 1 then (0 : Int) else 1) = 0 then ((-7) : Int) else (M 107 0 ((6 * (Int.tmod p7 (M 112 0 2))) + 4)))) (fun z => z hc)).symm
        intro v34 hv34
        subst hv34
        have c36 := hw.1
        have hw := hw.2
        exact su_zret X hb hR hS c36 hw dL_isFilled_503 (by omega) (by omega)
      · have hw := hw.2 hc
        refine lv_aload_n X.1.1 X.1.2.1 dL_isFilled_383 rfl (lv_at hl 5 rfl) ?_
        refine lv_iload X.1.1 X.1.2.1 dL_isFilled_384 (lv_at hl 1 rfl) ?_
        refine cs_L_words X r3 (kc := 9) rmX_ok ⟨by show _ ≤ 2; omega, by show _ ≤ 12; omega⟩ (by decide) hR hS kw_1066 hl.1 dL_isFilled_386 (Nat.le_of_ble_eq_true rfl) hw (fun x38 M37 H locs hw r39 hR hS => ?_)
        refine lv_istore (lv' := [(10, .int (Int32.ofInt x38)), (9, .int (Int32.ofInt (6 * (Int.tmod p7 (M 112 0 2))))), (8, .int (Int32.ofInt (Int.tmod p7 (M 112 0 2)))), (0, .ref (α 10 0)), (1, .ref (α 105 0)), (2, .ref (α 107 0)), (3, .ref (α 108 0)), (4, .ref (α 109 0)), (5, .ref (α 112 0)), (6, .int (Int32.ofInt p6)), (7, .int (Int32.ofInt p7))]) X.1.1 X.1.2.1 dL_isFilled_389 hl (by decide) rfl (fun ls hl => ?_)
        have c40 := hw.1
        have hw := hw.2
        refine lv_aload_n X.1.1 X.1.2.1 dL_isFilled_391 rfl (lv_at hl 6 rfl) ?_
        refine lv_iload X.1.1 X.1.2.1 dL_isFilled_392 (lv_at hl 2 rfl) ?_
        refine wl_zero X hR hS c40 dL_isFilled_394 dL_isFilled_395 (fun H locs hR hS => ?_)
        obtain ⟨M41, e42⟩ : ∃ z : Mem, z = wZ M37 (Int.tmod p7 (M 112 0 2)) := ⟨_, rfl⟩
        rw [← e42] at hR
        have hw := hw M41 e42
        refine lv_aload_n X.1.1 X.1.2.1 dL_isFilled_396 rfl (lv_at hl 5 rfl) ?_
        refine lv_iload X.1.1 X.1.2.1 dL_isFilled_397 (lv_at hl 1 rfl) ?_
        refine sa_const X.1 dL_isFilled_399 ?_
        have c43 := hw.1
        have hw := hw.2
        refine sa_iadd X.1 dL_isFilled_400 ?_
        refine sa_const X.1 dL_isFilled_401 ?_
        have c44 := hw.1
        have hw := hw.2
        refine wa_107 X hR hS (okf X.2.2.1 rfl) c44 (inR_c (a := -1) rfl) dL_isFilled_402 (fun H locs hR hS => ?_)
        obtain ⟨M45, e46⟩ : ∃ z : Mem, z = up M41 107 0 ((6 * (Int.tmod p7 (M 112 0 2))) + 5) (-1) := ⟨_, rfl⟩
        rw [← e46] at hR
        have hw := hw M45 e46
        refine lv_aload_n X.1.1 X.1.2.1 dL_isFilled_403 rfl (lv_at hl 3 rfl) ?_
        refine lv_iload X.1.1 X.1.2.1 dL_isFilled_404 (lv_at hl 2 rfl) ?_
        refine co_X9_empty X r3 (kc := 9) rmX_ok ⟨by show _ ≤ 2; omega, by show _ ≤ 12; omega⟩ (by decide) hR hS kw_1106 hl.1 dL_isFilled_406 (Nat.le_of_ble_eq_true rfl) hw (fun x48 M47 H locs hw r49 hR hS => ?_)
        obtain ⟨M50, g51, hw⟩ := hw
        have hR := hR.gh X.2.2.1 g51
        refine lv_iload X.1.1 X.1.2.1 dL_isFilled_409 (lv_at hl 0 rfl) ?_
        have r52 := inR_ite (c := ¬ x48 = x38) (inR_c (a := 0) rfl) (inR_c (a := 1) rfl)
        refine cut_j (A := ∀ v53 : Int, v53 = (if ¬ x48 = x38 then (0 : Int) else 1) → WU p l e 9 2 12 s m args below meth c G e0 α0 κ0 B Qm H locs cl sl 419 ls [.int (Int32.ofInt v53)]) (fun J54 => ?_) ?_
        · refine sa_icmp_ne (tgt := 418) X.1 r49 r39 dL_isFilled_411 (by decide) (fun hc => ?_) (fun hc => ?_)
          · skip
            refine sa_const X.1 dL_isFilled_418 ?_
            exact J54 (0) (if_pos (c := ¬ x48 = x38) hc).symm
          · skip
            refine sa_const X.1 dL_isFilled_414 ?_
            refine lv_goto (tgt := 419) X.1.1 X.1.2.1 dL_isFilled_415 (by decide) ?_
            exact J54 (1) (if_neg (c := ¬ x48 = x38) (fun z => z hc)).symm
        intro v53 hv53
        subst hv53
        have c55 := hw.1
        have hw := hw.2
        exact su_zret X hb hR hS c55 hw dL_isFilled_419 (by omega) (by omega)
    · have hw := hw.2 hc
      refine lv_iload X.1.1 X.1.2.1 dL_isFilled_193 (lv_at hl 9 rfl) ?_
      refine sa_bipush X.1 dL_isFilled_195 (by decide) ?_
      have r56 := inR_tdiv hp7 (inR_c (a := 10) rfl) (by decide)
      refine sa_idiv X.1 hp7 (inR_c (a := 10) rfl) (Int.ne_of_gt (by decide)) dL_isFilled_197 ?_
      refine sa_const X.1 dL_isFilled_198 ?_
      have r57 := inR_tmod r56 (inR_c (a := 3) rfl) (by decide)
      refine sa_irem X.1 r56 (inR_c (a := 3) rfl) (Int.ne_of_gt (by decide)) dL_isFilled_199 ?_
      refine lv_istore (lv' := [(10, .int (Int32.ofInt (Int.tmod (Int.tdiv p7 10) 3))), (9, .int (Int32.ofInt (6 * (Int.tmod p7 (M 112 0 2))))), (8, .int (Int32.ofInt (Int.tmod p7 (M 112 0 2)))), (0, .ref (α 10 0)), (1, .ref (α 105 0)), (2, .ref (α 107 0)), (3, .ref (α 108 0)), (4, .ref (α 109 0)), (5, .ref (α 112 0)), (6, .int (Int32.ofInt p6)), (7, .int (Int32.ofInt p7))]) X.1.1 X.1.2.1 dL_isFilled_200 hl (by decide) rfl (fun ls hl => ?_)
      refine lv_iload X.1.1 X.1.2.1 dL_isFilled_202 (lv_at hl 10 rfl) ?_
      refine sa_bipush X.1 dL_isFilled_204 (by decide) ?_
      have r58 := inR_tdiv hp7 (inR_c (a := 30) rfl) (by decide)
      refine sa_idiv X.1 hp7 (inR_c (a := 30) rfl) (Int.ne_of_gt (by decide)) dL_isFilled_206 ?_
      refine lv_iload X.1.1 X.1.2.1 dL_isFilled_207 (lv_at hl 10 rfl) ?_
      refine sa_const X.1 dL_isFilled_209 ?_
      have r59 := inR_tmod hp7 (inR_c (a := 4) rfl) (by decide)
      refine sa_irem X.1 hp7 (inR_c (a := 4) rfl) (Int.ne_of_gt (by decide)) dL_isFilled_210 ?_
      have r60 := inR_ite (c := ¬ (Int.tmod p7 4) = 0) (inR_c (a := 301) rfl) (inR_c (a := 20001) rfl)
      refine cut_j (A := ∀ v61 : Int, v61 = (if ¬ (Int.tmod p7 4) = 0 then (301 : Int) else 20001) → WU p l e 9 2 12 s m args below meth c G e0 α0 κ0 B Qm H locs cl sl 223 ls [.int (Int32.ofInt v61), .int (Int32.ofInt (Int.tdiv p7 30))]) (fun J62 => ?_) ?_
      · refine sa_if_ne (tgt := 220) X.1 r59 dL_isFilled_211 (by decide) (fun hc => ?_) (fun hc => ?_)
        · skip
          refine sa_sipush X.1 dL_isFilled_220 (by decide) ?_
          exact J62 (301) (if_pos (c := ¬ (Int.tmod p7 4) = 0) hc).symm
        · skip
          refine sa_sipush X.1 dL_isFilled_214 (by decide) ?_
          refine lv_goto (tgt := 223) X.1.1 X.1.2.1 dL_isFilled_217 (by decide) ?_
          exact J62 (20001) (if_neg (c := ¬ (Int.tmod p7 4) = 0) (fun z => z hc)).symm
      intro v61 hv61
      subst hv61
      have c63 := hw.1
      have hw := hw.2
      have r64 := inR_tmod r58 r60 c63
      refine sa_irem X.1 r58 r60 (Int.ne_of_gt c63) dL_isFilled_223 ?_
      refine sa_bipush X.1 dL_isFilled_224 (by decide) ?_
      have c65 := hw.1
      have hw := hw.2
      refine sa_isub X.1 dL_isFilled_226 ?_
      refine lv_iload X.1.1 X.1.2.1 dL_isFilled_227 (lv_at hl 0 rfl) ?_
      have r68 := inR_ite (c := ¬ (Int.tmod (Int.tdiv p7 10) 3) = 0) (inR_ite (c := ¬ (Int.tmod (Int.tdiv p7 10) 3) = 1) (inR_c (a := 1) rfl) (inR_c (a := 10) rfl)) (inR_c (a := 100) rfl)
      refine cut_j (A := ∀ v69 : Int, v69 = (if ¬ (Int.tmod (Int.tdiv p7 10) 3) = 0 then (if ¬ (Int.tmod (Int.tdiv p7 10) 3) = 1 then (1 : Int) else 10) else 100) → WU p l e 9 2 12 s m args below meth c G e0 α0 κ0 B Qm H locs cl sl 249 ls [.int (Int32.ofInt v69), .int (Int32.ofInt ((Int.tmod (Int.tdiv p7 30) (if ¬ (Int.tmod p7 4) = 0 then (301 : Int) else 20001)) - 100))]) (fun J70 => ?_) ?_
      · refine sa_if_ne (tgt := 237) X.1 r57 dL_isFilled_229 (by decide) (fun hc => ?_) (fun hc => ?_)
        · skip
          refine lv_iload X.1.1 X.1.2.1 dL_isFilled_237 (lv_at hl 0 rfl) ?_
          refine sa_const X.1 dL_isFilled_239 ?_
          refine cut_j (A := ∀ v66 : Int, v66 = (if ¬ (Int.tmod (Int.tdiv p7 10) 3) = 1 then (1 : Int) else 10) → WU p l e 9 2 12 s m args below meth c G e0 α0 κ0 B Qm H locs cl sl 249 ls [.int (Int32.ofInt v66), .int (Int32.ofInt ((Int.tmod (Int.tdiv p7 30) (if ¬ (Int.tmod p7 4) = 0 then (301 : Int) else 20001)) - 100))]) (fun J67 => ?_) ?_
          · refine sa_icmp_ne (tgt := 248) X.1 r57 (inR_c (a := 1) rfl) dL_isFilled_240 (by decide) (fun hc => ?_) (fun hc => ?_)
            · skip
              refine sa_const X.1 dL_isFilled_248 ?_
              exact J67 (1) (if_pos (c := ¬ (Int.tmod (Int.tdiv p7 10) 3) = 1) hc).symm
            · skip
              refine sa_bipush X.1 dL_isFilled_243 (by decide) ?_
              refine lv_goto (tgt := 249) X.1.1 X.1.2.1 dL_isFilled_245 (by decide) ?_
              exact J67 (10) (if_neg (c := ¬ (Int.tmod (Int.tdiv p7 10) 3) = 1) (fun z => z hc)).symm
          intro v66 hv66
          subst hv66
          exact J70 ((if ¬ (Int.tmod (Int.tdiv p7 10) 3) = 1 then (1 : Int) else 10)) (if_pos (c := ¬ (Int.tmod (Int.tdiv p7 10) 3) = 0) hc).symm
        · skip
          refine sa_bipush X.1 dL_isFilled_232 (by decide) ?_
          refine lv_goto (tgt := 249) X.1.1 X.1.2.1 dL_isFilled_234 (by decide) ?_
          exact J70 (100) (if_neg (c := ¬ (Int.tmod (Int.tdiv p7 10) 3) = 0) (fun z => z hc)).symm
      intro v69 hv69
      subst hv69
      have c71 := hw.1
      have hw := hw.2
      refine sa_imul X.1 dL_isFilled_249 ?_
      refine lv_istore (lv' := [(11, .int (Int32.ofInt (((Int.tmod (Int.tdiv p7 30) (if ¬ (Int.tmod p7 4) = 0 then (301 : Int) else 20001)) - 100) * (if ¬ (Int.tmod (Int.tdiv p7 10) 3) = 0 then (if ¬ (Int.tmod (Int.tdiv p7 10) 3) = 1 then (1 : Int) else 10) else 100)))), (10, .int (Int32.ofInt (Int.tmod (Int.tdiv p7 10) 3))), (9, .int (Int32.ofInt (6 * (Int.tmod p7 (M 112 0 2))))), (8, .int (Int32.ofInt (Int.tmod p7 (M 112 0 2)))), (0, .ref (α 10 0)), (1, .ref (α 105 0)), (2, .ref (α 107 0)), (3, .ref (α 108 0)), (4, .ref (α 109 0)), (5, .ref (α 112 0)), (6, .int (Int32.ofInt p6)), (7, .int (Int32.ofInt p7))]) X.1.1 X.1.2.1 dL_isFilled_250 hl (by decide) rfl (fun ls hl => ?_)
      refine lv_iload X.1.1 X.1.2.1 dL_isFilled_252 (lv_at hl 0 rfl) ?_
      refine sa_ldc (n := 1000000) X.1 (by decide) kw_679 dL_isFilled_254 ?_
      have r72 := inR_ite (c := (((Int.tmod (Int.tdiv p7 30) (if ¬ (Int.tmod p7 4) = 0 then (301 : Int) else 20001)) - 100) * (if ¬ (Int.tmod (Int.tdiv p7 10) 3) = 0 then (if ¬ (Int.tmod (Int.tdiv p7 10) 3) = 1 then (1 : Int) else 10) else 100)) ≤ 1000000) c71 (inR_c (a := 1000000) rfl)
      refine cut_j (A := ∀ v73 : Int, v73 = (if (((Int.tmod (Int.tdiv p7 30) (if ¬ (Int.tmod p7 4) = 0 then (301 : Int) else 20001)) - 100) * (if ¬ (Int.tmod (Int.tdiv p7 10) 3) = 0 then (if ¬ (Int.tmod (Int.tdiv p7 10) 3) = 1 then (1 : Int) else 10) else 100)) ≤ 1000000 then (((Int.tmod (Int.tdiv p7 30) (if ¬ (Int.tmod p7 4) = 0 then (301 : Int) else 20001)) - 100) * (if ¬ (Int.tmod (Int.tdiv p7 10) 3) = 0 then (if ¬ (Int.tmod (Int.tdiv p7 10) 3) = 1 then (1 : Int) else 10) else 100)) else 1000000) → WU p l e 9 2 12 s m args below meth c G e0 α0 κ0 B Qm H locs cl sl 266 ls [.int (Int32.ofInt v73)]) (fun J74 => ?_) ?_
      · refine sa_icmp_le (tgt := 264) X.1 c71 (inR_c (a := 1000000) rfl) dL_isFilled_256 (by decide) (fun hc => ?_) (fun hc => ?_)
        · skip
          refine lv_iload X.1.1 X.1.2.1 dL_isFilled_264 (lv_at hl 0 rfl) ?_
          exact J74 ((((Int.tmod (Int.tdiv p7 30) (if ¬ (Int.tmod p7 4) = 0 then (301 : Int) else 20001)) - 100) * (if ¬ (Int.tmod (Int.tdiv p7 10) 3) = 0 then (if ¬ (Int.tmod (Int.tdiv p7 10) 3) = 1 then (1 : Int) else 10) else 100))) (if_pos (c := (((Int.tmod (Int.tdiv p7 30) (if ¬ (Int.tmod p7 4) = 0 then (301 : Int) else 20001)) - 100) * (if ¬ (Int.tmod (Int.tdiv p7 10) 3) = 0 then (if ¬ (Int.tmod (Int.tdiv p7 10) 3) = 1 then (1 : Int) else 10) else 100)) ≤ 1000000) hc).symm
        · skip
          refine sa_ldc (n := 1000000) X.1 (by decide) kw_679 dL_isFilled_259 ?_
          refine lv_goto (tgt := 266) X.1.1 X.1.2.1 dL_isFilled_261 (by decide) ?_
          exact J74 (1000000) (if_neg (c := (((Int.tmod (Int.tdiv p7 30) (if ¬ (Int.tmod p7 4) = 0 then (301 : Int) else 20001)) - 100) * (if ¬ (Int.tmod (Int.tdiv p7 10) 3) = 0 then (if ¬ (Int.tmod (Int.tdiv p7 10) 3) = 1 then (1 : Int) else 10) else 100)) ≤ 1000000) (Int.not_le.mpr hc)).symm
      intro v73 hv73
      subst hv73
      refine lv_istore (lv' := [(11, .int (Int32.ofInt (if (((Int.tmod (Int.tdiv p7 30) (if ¬ (Int.tmod p7 4) = 0 then (301 : Int) else 20001)) - 100) * (if ¬ (Int.tmod (Int.tdiv p7 10) 3) = 0 then (if ¬ (Int.tmod (Int.tdiv p7 10) 3) = 1 then (1 : Int) else 10) else 100)) ≤ 1000000 then (((Int.tmod (Int.tdiv p7 30) (if ¬ (Int.tmod p7 4) = 0 then (301 : Int) else 20001)) - 100) * (if ¬ (Int.tmod (Int.tdiv p7 10) 3) = 0 then (if ¬ (Int.tmod (Int.tdiv p7 10) 3) = 1 then (1 : Int) else 10) else 100)) else 1000000))), (10, .int (Int32.ofInt (Int.tmod (Int.tdiv p7 10) 3))), (9, .int (Int32.ofInt (6 * (Int.tmod p7 (M 112 0 2))))), (8, .int (Int32.ofInt (Int.tmod p7 (M 112 0 2)))), (0, .ref (α 10 0)), (1, .ref (α 105 0)), (2, .ref (α 107 0)), (3, .ref (α 108 0)), (4, .ref (α 109 0)), (5, .ref (α 112 0)), (6, .int (Int32.ofInt p6)), (7, .int (Int32.ofInt p7))]) X.1.1 X.1.2.1 dL_isFilled_266 hl (by decide) rfl (fun ls hl => ?_)
      refine lv_aload_n X.1.1 X.1.2.1 dL_isFilled_268 rfl (lv_at hl 7 rfl) ?_
      refine lv_iload X.1.1 X.1.2.1 dL_isFilled_269 (lv_at hl 3 rfl) ?_
      refine cs_L_words X r3 (kc := 9) rmX_ok ⟨by show _ ≤ 2; omega, by show _ ≤ 12; omega⟩ (by decide) hR hS kw_1066 hl.1 dL_isFilled_271 (Nat.le_of_ble_eq_true rfl) hw (fun x76 M75 H locs hw r77 hR hS => ?_)
      have s87 := hw.1
      have hw := hw.2
      have r88 := inR_ite (c := ¬ x76 = 0) (inR_c (a := 0) rfl) (inR_ite (c := ¬ (M75 107 0 ((6 * (Int.tmod p7 (M 112 0 2))) + 2)) = 1) (inR_c (a := 0) rfl) (inR_ite (c := ¬ (M75 107 0 ((6 * (Int.tmod p7 (M 112 0 2))) + 3)) = 1) (inR_c (a := 0) rfl) (inR_c (a := 1) rfl)))
      refine cut_j (A := ∀ v89 : Int, v89 = (if ¬ x76 = 0 then (0 : Int) else (if ¬ (M75 107 0 ((6 * (Int.tmod p7 (M 112 0 2))) + 2)) = 1 then (0 : Int) else (if ¬ (M75 107 0 ((6 * (Int.tmod p7 (M 112 0 2))) + 3)) = 1 then (0 : Int) else 1))) → WU p l e 9 2 12 s m args below meth c G e0 α0 κ0 B Qm H locs cl sl 302 ls [.int (Int32.ofInt v89)]) (fun J90 => ?_) ?_
      · refine sa_if_ne (tgt := 301) X.1 r77 dL_isFilled_274 (by decide) (fun hc => ?_) (fun hc => ?_)
        · skip
          refine sa_const X.1 dL_isFilled_301 ?_
          exact J90 (0) (if_pos (c := ¬ x76 = 0) hc).symm
        · have hw := s87 hc
          refine lv_aload_n X.1.1 X.1.2.1 dL_isFilled_277 rfl (lv_at hl 6 rfl) ?_
          refine lv_iload X.1.1 X.1.2.1 dL_isFilled_278 (lv_at hl 2 rfl) ?_
          refine sa_const X.1 dL_isFilled_280 ?_
          have c78 := hw.1
          have hw := hw.2
          refine sa_iadd X.1 dL_isFilled_281 ?_
          have c79 := hw.1
          have hw := hw.2
          refine ra_107 X hR (okf X.2.2.1 rfl) c79 dL_isFilled_282 ?_
          refine sa_const X.1 dL_isFilled_283 ?_
          have s84 := hw.1
          have hw := hw.2
          refine cut_j (A := ∀ v85 : Int, v85 = (if ¬ (M75 107 0 ((6 * (Int.tmod p7 (M 112 0 2))) + 2)) = 1 then (0 : Int) else (if ¬ (M75 107 0 ((6 * (Int.tmod p7 (M 112 0 2))) + 3)) = 1 then (0 : Int) else 1)) → WU p l e 9 2 12 s m args below meth c G e0 α0 κ0 B Qm H locs cl sl 302 ls [.int (Int32.ofInt v85)]) (fun J86 => ?_) ?_
          · refine sa_icmp_ne (tgt := 301) X.1 (hR.r 107 0 ((6 * (Int.tmod p7 (M 112 0 2))) + 2)) (inR_c (a := 1) rfl) dL_isFilled_284 (by decide) (fun hc => ?_) (fun hc => ?_)
            · skip
              refine sa_const X.1 dL_isFilled_301 ?_
              exact J86 (0) (if_pos (c := ¬ (M75 107 0 ((6 * (Int.tmod p7 (M 112 0 2))) + 2)) = 1) hc).symm
            · have hw := s84 hc
              refine lv_aload_n X.1.1 X.1.2.1 dL_isFilled_287 rfl (lv_at hl 6 rfl) ?_
              refine lv_iload X.1.1 X.1.2.1 dL_isFilled_288 (lv_at hl 2 rfl) ?_
              refine sa_const X.1 dL_isFilled_290 ?_
              have c80 := hw.1
              have hw := hw.2
              refine sa_iadd X.1 dL_isFilled_291 ?_
              have c81 := hw.1
              have hw := hw.2
              refine ra_107 X hR (okf X.2.2.1 rfl) c81 dL_isFilled_292 ?_
              refine sa_const X.1 dL_isFilled_293 ?_
              refine cut_j (A := ∀ v82 : Int, v82 = (if ¬ (M75 107 0 ((6 * (Int.tmod p7 (M 112 0 2))) + 3)) = 1 then (0 : Int) else 1) → WU p l e 9 2 12 s m args below meth c G e0 α0 κ0 B Qm H locs cl sl 302 ls [.int (Int32.ofInt v82)]) (fun J83 => ?_) ?_
              · refine sa_icmp_ne (tgt := 301) X.1 (hR.r 107 0 ((6 * (Int.tmod p7 (M 112 0 2))) + 3)) (inR_c (a := 1) rfl) dL_isFilled_294 (by decide) (fun hc => ?_) (fun hc => ?_)
                · skip
                  refine sa_const X.1 dL_isFilled_301 ?_
                  exact J83 (0) (if_pos (c := ¬ (M75 107 0 ((6 * (Int.tmod p7 (M 112 0 2))) + 3)) = 1) hc).symm
                · skip
                  refine sa_const X.1 dL_isFilled_297 ?_
                  refine lv_goto (tgt := 302) X.1.1 X.1.2.1 dL_isFilled_298 (by decide) ?_
                  exact J83 (1) (if_neg (c := ¬ (M75 107 0 ((6 * (Int.tmod p7 (M 112 0 2))) + 3)) = 1) (fun z => z hc)).symm
              intro v82 hv82
              subst hv82
              exact J86 ((if ¬ (M75 107 0 ((6 * (Int.tmod p7 (M 112 0 2))) + 3)) = 1 then (0 : Int) else 1)) (if_neg (c := ¬ (M75 107 0 ((6 * (Int.tmod p7 (M 112 0 2))) + 2)) = 1) (fun z => z hc)).symm
          intro v85 hv85
          subst hv85
          exact J90 ((if ¬ (M75 107 0 ((6 * (Int.tmod p7 (M 112 0 2))) + 2)) = 1 then (0 : Int) else (if ¬ (M75 107 0 ((6 * (Int.tmod p7 (M 112 0 2))) + 3)) = 1 then (0 : Int) else 1))) (if_neg (c := ¬ x76 = 0) (fun z => z hc)).symm
      intro v89 hv89
      subst hv89
      refine lv_istore (lv' := [(12, .int (Int32.ofInt (if ¬ x76 = 0 then (0 : Int) else (if ¬ (M75 107 0 ((6 * (Int.tmod p7 (M 112 0 2))) + 2)) = 1 then (0 : Int) else (if ¬ (M75 107 0 ((6 * (Int.tmod p7 (M 112 0 2))) + 3)) = 1 then (0 : Int) else 1))))), (11, .int (Int32.ofInt (if (((Int.tmod (Int.tdiv p7 30) (if ¬ (Int.tmod p7 4) = 0 then (301 : Int) else 20001)) - 100) * (if ¬ (Int.tmod (Int.tdiv p7 10) 3) = 0 then (if ¬ (Int.tmod (Int.tdiv p7 10) 3) = 1 then (1 : Int) else 10) else 100)) ≤ 1000000 then (((Int.tmod (Int.tdiv p7 30) (if ¬ (Int.tmod p7 4) = 0 then (301 : Int) else 20001)) - 100) * (if ¬ (Int.tmod (Int.tdiv p7 10) 3) = 0 then (if ¬ (Int.tmod (Int.tdiv p7 10) 3) = 1 then (1 : Int) else 10) else 100)) else 1000000))), (10, .int (Int32.ofInt (Int.tmod (Int.tdiv p7 10) 3))), (9, .int (Int32.ofInt (6 * (Int.tmod p7 (M 112 0 2))))), (8, .int (Int32.ofInt (Int.tmod p7 (M 112 0 2)))), (0, .ref (α 10 0)), (1, .ref (α 105 0)), (2, .ref (α 107 0)), (3, .ref (α 108 0)), (4, .ref (α 109 0)), (5, .ref (α 112 0)), (6, .int (Int32.ofInt p6)), (7, .int (Int32.ofInt p7))]) X.1.1 X.1.2.1 dL_isFilled_302 hl (by decide) rfl (fun ls hl => ?_)
      refine lv_aload_n X.1.1 X.1.2.1 dL_isFilled_304 rfl (lv_at hl 7 rfl) ?_
      refine lv_iload X.1.1 X.1.2.1 dL_isFilled_305 (lv_at hl 3 rfl) ?_
      refine sa_const X.1 dL_isFilled_307 ?_
      have c91 := hw.1
      have hw := hw.2
      refine sa_iadd X.1 dL_isFilled_308 ?_
      refine lv_iload X.1.1 X.1.2.1 dL_isFilled_309 (lv_at hl 0 rfl) ?_
      have s94 := hw.1
      have hw := hw.2
      have r95 := inR_ite (c := (if ¬ x76 = 0 then (0 : Int) else (if ¬ (M75 107 0 ((6 * (Int.tmod p7 (M 112 0 2))) + 2)) = 1 then (0 : Int) else (if ¬ (M75 107 0 ((6 * (Int.tmod p7 (M 112 0 2))) + 3)) = 1 then (0 : Int) else 1))) = 0) (hR.r 107 0 ((6 * (Int.tmod p7 (M 112 0 2))) + 5)) r57
      refine cut_j (A := ∀ v96 : Int, v96 = (if (if ¬ x76 = 0 then (0 : Int) else (if ¬ (M75 107 0 ((6 * (Int.tmod p7 (M 112 0 2))) + 2)) = 1 then (0 : Int) else (if ¬ (M75 107 0 ((6 * (Int.tmod p7 (M 112 0 2))) + 3)) = 1 then (0 : Int) else 1))) = 0 then (M75 107 0 ((6 * (Int.tmod p7 (M 112 0 2))) + 5)) else (Int.tmod (Int.tdiv p7 10) 3)) → WU p l e 9 2 12 s m args below meth c G e0 α0 κ0 B Qm H locs cl sl 325 ls [.int (Int32.ofInt v96), .int (Int32.ofInt ((6 * (Int.tmod p7 (M 112 0 2))) + 5)), .ref (α 107 0)]) (fun J97 => ?_) ?_
      · refine sa_if_eq (tgt := 319) X.1 r88 dL_isFilled_311 (by decide) (fun hc => ?_) (fun hc => ?_)
        · have hw := s94 hc
          refine lv_aload_n X.1.1 X.1.2.1 dL_isFilled_319 rfl (lv_at hl 7 rfl) ?_
          refine lv_iload X.1.1 X.1.2.1 dL_isFilled_320 (lv_at hl 3 rfl) ?_
          refine sa_const X.1 dL_isFilled_322 ?_
          have c92 := hw.1
          have hw := hw.2
          refine sa_iadd X.1 dL_isFilled_323 ?_
          have c93 := hw.1
          have hw := hw.2
          refine ra_107 X hR (okf X.2.2.1 rfl) c93 dL_isFilled_324 ?_
          exact J97 ((M75 107 0 ((6 * (Int.tmod p7 (M 112 0 2))) + 5))) (if_pos (c := (if ¬ x76 = 0 then (0 : Int) else (if ¬ (M75 107 0 ((6 * (Int.tmod p7 (M 112 0 2))) + 2)) = 1 then (0 : Int) else (if ¬ (M75 107 0 ((6 * (Int.tmod p7 (M 112 0 2))) + 3)) = 1 then (0 : Int) else 1))) = 0) hc).symm
        · skip
          refine lv_iload X.1.1 X.1.2.1 dL_isFilled_314 (lv_at hl 2 rfl) ?_
          refine lv_goto (tgt := 325) X.1.1 X.1.2.1 dL_isFilled_316 (by decide) ?_
          exact J97 ((Int.tmod (Int.tdiv p7 10) 3)) (if_neg (c := (if ¬ x76 = 0 then (0 : Int) else (if ¬ (M75 107 0 ((6 * (Int.tmod p7 (M 112 0 2))) + 2)) = 1 then (0 : Int) else (if ¬ (M75 107 0 ((6 * (Int.tmod p7 (M 112 0 2))) + 3)) = 1 then (0 : Int) else 1))) = 0) hc).symm
      intro v96 hv96
      subst hv96
      have c98 := hw.1
      have hw := hw.2
      refine wa_107 X hR hS (okf X.2.2.1 rfl) c98 r95 dL_isFilled_325 (fun H locs hR hS => ?_)
      obtain ⟨M99, e100⟩ : ∃ z : Mem, z = up M75 107 0 ((6 * (Int.tmod p7 (M 112 0 2))) + 5) (if (if ¬ x76 = 0 then (0 : Int) else (if ¬ (M75 107 0 ((6 * (Int.tmod p7 (M 112 0 2))) + 2)) = 1 then (0 : Int) else (if ¬ (M75 107 0 ((6 * (Int.tmod p7 (M 112 0 2))) + 3)) = 1 then (0 : Int) else 1))) = 0 then (M75 107 0 ((6 * (Int.tmod p7 (M 112 0 2))) + 5)) else (Int.tmod (Int.tdiv p7 10) 3)) := ⟨_, rfl⟩
      rw [← e100] at hR
      have hw := hw M99 e100
      refine lv_aload X.1.1 X.1.2.1 dL_isFilled_326 (lv_at hl 9 rfl) ?_
      refine lv_iload X.1.1 X.1.2.1 dL_isFilled_328 (lv_at hl 4 rfl) ?_
      refine lv_iload X.1.1 X.1.2.1 dL_isFilled_330 (lv_at hl 0 rfl) ?_
      have s102 := hw.1
      have hw := hw.2
      have r103 := inR_ite (c := (if ¬ x76 = 0 then (0 : Int) else (if ¬ (M75 107 0 ((6 * (Int.tmod p7 (M 112 0 2))) + 2)) = 1 then (0 : Int) else (if ¬ (M75 107 0 ((6 * (Int.tmod p7 (M 112 0 2))) + 3)) = 1 then (0 : Int) else 1))) = 0) (hR.r 109 0 (Int.tmod p7 (M 112 0 2))) r72
      refine cut_j (A := ∀ v104 : Int, v104 = (if (if ¬ x76 = 0 then (0 : Int) else (if ¬ (M75 107 0 ((6 * (Int.tmod p7 (M 112 0 2))) + 2)) = 1 then (0 : Int) else (if ¬ (M75 107 0 ((6 * (Int.tmod p7 (M 112 0 2))) + 3)) = 1 then (0 : Int) else 1))) = 0 then (M99 109 0 (Int.tmod p7 (M 112 0 2))) else (if (((Int.tmod (Int.tdiv p7 30) (if ¬ (Int.tmod p7 4) = 0 then (301 : Int) else 20001)) - 100) * (if ¬ (Int.tmod (Int.tdiv p7 10) 3) = 0 then (if ¬ (Int.tmod (Int.tdiv p7 10) 3) = 1 then (1 : Int) else 10) else 100)) ≤ 1000000 then (((Int.tmod (Int.tdiv p7 30) (if ¬ (Int.tmod p7 4) = 0 then (301 : Int) else 20001)) - 100) * (if ¬ (Int.tmod (Int.tdiv p7 10) 3) = 0 then (if ¬ (Int.tmod (Int.tdiv p7 10) 3) = 1 then (1 : Int) else 10) else 100)) else 1000000)) → WU p l e 9 2 12 s m args below meth c G e0 α0 κ0 B Qm H locs cl sl 345 ls [.int (Int32.ofInt v104), .int (Int32.ofInt (Int.tmod p7 (M 112 0 2))), .ref (α 109 0)]) (fun J105 => ?_) ?_
      · refine sa_if_eq (tgt := 340) X.1 r88 dL_isFilled_332 (by decide) (fun hc => ?_) (fun hc => ?_)
        · have hw := s102 hc
          refine lv_aload X.1.1 X.1.2.1 dL_isFilled_340 (lv_at hl 9 rfl) ?_
          refine lv_iload X.1.1 X.1.2.1 dL_isFilled_342 (lv_at hl 4 rfl) ?_
          have c101 := hw.1
          have hw := hw.2
          refine ra_109 X hR (okf X.2.2.1 rfl) c101 dL_isFilled_344 ?_
          exact J105 ((M99 109 0 (Int.tmod p7 (M 112 0 2)))) (if_pos (c := (if ¬ x76 = 0 then (0 : Int) else (if ¬ (M75 107 0 ((6 * (Int.tmod p7 (M 112 0 2))) + 2)) = 1 then (0 : Int) else (if ¬ (M75 107 0 ((6 * (Int.tmod p7 (M 112 0 2))) + 3)) = 1 then (0 : Int) else 1))) = 0) hc).symm
        · skip
          refine lv_iload X.1.1 X.1.2.1 dL_isFilled_335 (lv_at hl 1 rfl) ?_
          refine lv_goto (tgt := 345) X.1.1 X.1.2.1 dL_isFilled_337 (by decide) ?_
          exact J105 ((if (((Int.tmod (Int.tdiv p7 30) (if ¬ (Int.tmod p7 4) = 0 then (301 : Int) else 20001)) - 100) * (if ¬ (Int.tmod (Int.tdiv p7 10) 3) = 0 then (if ¬ (Int.tmod (Int.tdiv p7 10) 3) = 1 then (1 : Int) else 10) else 100)) ≤ 1000000 then (((Int.tmod (Int.tdiv p7 30) (if ¬ (Int.tmod p7 4) = 0 then (301 : Int) else 20001)) - 100) * (if ¬ (Int.tmod (Int.tdiv p7 10) 3) = 0 then (if ¬ (Int.tmod (Int.tdiv p7 10) 3) = 1 then (1 : Int) else 10) else 100)) else 1000000)) (if_neg (c := (if ¬ x76 = 0 then (0 : Int) else (if ¬ (M75 107 0 ((6 * (Int.tmod p7 (M 112 0 2))) + 2)) = 1 then (0 : Int) else (if ¬ (M75 107 0 ((6 * (Int.tmod p7 (M 112 0 2))) + 3)) = 1 then (0 : Int) else 1))) = 0) hc).symm
      intro v104 hv104
      subst hv104
      have c106 := hw.1
      have hw := hw.2
      refine wa_109 X hR hS (okf X.2.2.1 rfl) c106 r103 dL_isFilled_345 (fun H locs hR hS => ?_)
      obtain ⟨M107, e108⟩ : ∃ z : Mem, z = up M99 109 0 (Int.tmod p7 (M 112 0 2)) (if (if ¬ x76 = 0 then (0 : Int) else (if ¬ (M75 107 0 ((6 * (Int.tmod p7 (M 112 0 2))) + 2)) = 1 then (0 : Int) else (if ¬ (M75 107 0 ((6 * (Int.tmod p7 (M 112 0 2))) + 3)) = 1 then (0 : Int) else 1))) = 0 then (M99 109 0 (Int.tmod p7 (M 112 0 2))) else (if (((Int.tmod (Int.tdiv p7 30) (if ¬ (Int.tmod p7 4) = 0 then (301 : Int) else 20001)) - 100) * (if ¬ (Int.tmod (Int.tdiv p7 10) 3) = 0 then (if ¬ (Int.tmod (Int.tdiv p7 10) 3) = 1 then (1 : Int) else 10) else 100)) ≤ 1000000 then (((Int.tmod (Int.tdiv p7 30) (if ¬ (Int.tmod p7 4) = 0 then (301 : Int) else 20001)) - 100) * (if ¬ (Int.tmod (Int.tdiv p7 10) 3) = 0 then (if ¬ (Int.tmod (Int.tdiv p7 10) 3) = 1 then (1 : Int) else 10) else 100)) else 1000000)) := ⟨_, rfl⟩
      rw [← e108] at hR
      have hw := hw M107 e108
      refine lv_aload_n X.1.1 X.1.2.1 dL_isFilled_346 rfl (lv_at hl 5 rfl) ?_
      refine lv_iload X.1.1 X.1.2.1 dL_isFilled_347 (lv_at hl 4 rfl) ?_
      refine lv_iload X.1.1 X.1.2.1 dL_isFilled_349 (lv_at hl 1 rfl) ?_
      refine lv_iload X.1.1 X.1.2.1 dL_isFilled_351 (lv_at hl 2 rfl) ?_
      refine sc_call 8 (n := 4) (As := [.ref (α 10 0), .int (Int32.ofInt (Int.tmod p7 (M 112 0 2))), .int (Int32.ofInt (if (((Int.tmod (Int.tdiv p7 30) (if ¬ (Int.tmod p7 4) = 0 then (301 : Int) else 20001)) - 100) * (if ¬ (Int.tmod (Int.tdiv p7 10) 3) = 0 then (if ¬ (Int.tmod (Int.tdiv p7 10) 3) = 1 then (1 : Int) else 10) else 100)) ≤ 1000000 then (((Int.tmod (Int.tdiv p7 30) (if ¬ (Int.tmod p7 4) = 0 then (301 : Int) else 20001)) - 100) * (if ¬ (Int.tmod (Int.tdiv p7 10) 3) = 0 then (if ¬ (Int.tmod (Int.tdiv p7 10) 3) = 1 then (1 : Int) else 10) else 100)) else 1000000)), .int (Int32.ofInt (Int.tmod (Int.tdiv p7 10) 3))]) (rest := []) X N hR hS (w_L_figured hlt X.2.2.1 r3 r72 r57 hw) kw_1092 kw_1093 kw_37 kw_1094 ⟨by decide +kernel, by decide +kernel, by decide +kernel⟩ (rm_ok rmX_ok (by decide) (by decide)) rfl rfl (Nat.le_of_ble_eq_true rfl) hl.1 dL_isFilled_353 ⟨by show _ ≤ 2; omega, by show _ ≤ 12; omega⟩ (fun x109 M111 H locs hw r110 hR hS => ?_)
      obtain ⟨M112, g113, hw⟩ := hw
      have hR := hR.gh X.2.2.1 g113
      refine lv_iload X.1.1 X.1.2.1 dL_isFilled_356 (lv_at hl 0 rfl) ?_
      have r114 := inR_ite (c := (if ¬ x76 = 0 then (0 : Int) else (if ¬ (M75 107 0 ((6 * (Int.tmod p7 (M 112 0 2))) + 2)) = 1 then (0 : Int) else (if ¬ (M75 107 0 ((6 * (Int.tmod p7 (M 112 0 2))) + 3)) = 1 then (0 : Int) else 1))) = 0) (inR_c (a := -7) rfl) (inR_c (a := 0) rfl)
      refine cut_j (A := ∀ v115 : Int, v115 = (if (if ¬ x76 = 0 then (0 : Int) else (if ¬ (M75 107 0 ((6 * (Int.tmod p7 (M 112 0 2))) + 2)) = 1 then (0 : Int) else (if ¬ (M75 107 0 ((6 * (Int.tmod p7 (M 112 0 2))) + 3)) = 1 then (0 : Int) else 1))) = 0 then ((-7) : Int) else 0) → WU p l e 9 2 12 s m args below meth c G e0 α0 κ0 B Qm H locs (cl + 2) (sl + 12) 367 ls [.int (Int32.ofInt v115), .int (Int32.ofInt x109)]) (fun J116 => ?_) ?_
      · refine sa_if_eq (tgt := 365) X.1 r88 dL_isFilled_358 (by decide) (fun hc => ?_) (fun hc => ?_)
        · skip
          refine sa_bipush X.1 dL_isFilled_365 (by decide) ?_
          exact J116 ((-7)) (if_pos (c := (if ¬ x76 = 0 then (0 : Int) else (if ¬ (M75 107 0 ((6 * (Int.tmod p7 (M 112 0 2))) + 2)) = 1 then (0 : Int) else (if ¬ (M75 107 0 ((6 * (Int.tmod p7 (M 112 0 2))) + 3)) = 1 then (0 : Int) else 1))) = 0) hc).symm
        · skip
          refine sa_const X.1 dL_isFilled_361 ?_
          refine lv_goto (tgt := 367) X.1.1 X.1.2.1 dL_isFilled_362 (by decide) ?_
          exact J116 (0) (if_neg (c := (if ¬ x76 = 0 then (0 : Int) else (if ¬ (M75 107 0 ((6 * (Int.tmod p7 (M 112 0 2))) + 2)) = 1 then (0 : Int) else (if ¬ (M75 107 0 ((6 * (Int.tmod p7 (M 112 0 2))) + 3)) = 1 then (0 : Int) else 1))) = 0) hc).symm
      intro v115 hv115
      subst hv115
      have r117 := inR_ite (c := ¬ x109 = (if (if ¬ x76 = 0 then (0 : Int) else (if ¬ (M75 107 0 ((6 * (Int.tmod p7 (M 112 0 2))) + 2)) = 1 then (0 : Int) else (if ¬ (M75 107 0 ((6 * (Int.tmod p7 (M 112 0 2))) + 3)) = 1 then (0 : Int) else 1))) = 0 then ((-7) : Int) else 0)) (inR_c (a := 0) rfl) (inR_c (a := 1) rfl)
      refine cut_j (A := ∀ v118 : Int, v118 = (if ¬ x109 = (if (if ¬ x76 = 0 then (0 : Int) else (if ¬ (M75 107 0 ((6 * (Int.tmod p7 (M 112 0 2))) + 2)) = 1 then (0 : Int) else (if ¬ (M75 107 0 ((6 * (Int.tmod p7 (M 112 0 2))) + 3)) = 1 then (0 : Int) else 1))) = 0 then ((-7) : Int) else 0) then (0 : Int) else 1) → WU p l e 9 2 12 s m args below meth c G e0 α0 κ0 B Qm H locs (cl + 2) (sl + 12) 375 ls [.int (Int32.ofInt v118)]) (fun J119 => ?_) ?_
      · refine sa_icmp_ne (tgt := 374) X.1 r110 r114 dL_isFilled_367 (by decide) (fun hc => ?_) (fun hc => ?_)
        · skip
          refine sa_const X.1 dL_isFilled_374 ?_
          exact J119 (0) (if_pos (c := ¬ x109 = (if (if ¬ x76 = 0 then (0 : Int) else (if ¬ (M75 107 0 ((6 * (Int.tmod p7 (M 112 0 2))) + 2)) = 1 then (0 : Int) else (if ¬ (M75 107 0 ((6 * (Int.tmod p7 (M 112 0 2))) + 3)) = 1 then (0 : Int) else 1))) = 0 then ((-7) : Int) else 0)) hc).symm
        · skip
          refine sa_const X.1 dL_isFilled_370 ?_
          refine lv_goto (tgt := 375) X.1.1 X.1.2.1 dL_isFilled_371 (by decide) ?_
          exact J119 (1) (if_neg (c := ¬ x109 = (if (if ¬ x76 = 0 then (0 : Int) else (if ¬ (M75 107 0 ((6 * (Int.tmod p7 (M 112 0 2))) + 2)) = 1 then (0 : Int) else (if ¬ (M75 107 0 ((6 * (Int.tmod p7 (M 112 0 2))) + 3)) = 1 then (0 : Int) else 1))) = 0 then ((-7) : Int) else 0)) (fun z => z hc)).symm
      intro v118 hv118
      subst hv118
      have c120 := hw.1
      have hw := hw.2
      exact su_zret X hb hR hS c120 hw dL_isFilled_375 (by omega) (by omega)
  · have hw := hw.2 hc
    refine sa_const X.1 dL_isFilled_22 ?_
    refine lv_iload X.1.1 X.1.2.1 dL_isFilled_23 (lv_at hl 9 rfl) ?_
    refine sa_bipush X.1 dL_isFilled_25 (by decide) ?_
    have r121 := inR_tdiv hp7 (inR_c (a := 10) rfl) (by decide)
    refine sa_idiv X.1 hp7 (inR_c (a := 10) rfl) (Int.ne_of_gt (by decide)) dL_isFilled_27 ?_
    refine lv_iload X.1.1 X.1.2.1 dL_isFilled_28 (lv_at hl 9 rfl) ?_
    refine sa_const X.1 dL_isFilled_30 ?_
    have r122 := inR_tdiv hp7 (inR_c (a := 3) rfl) (by decide)
    refine sa_idiv X.1 hp7 (inR_c (a := 3) rfl) (Int.ne_of_gt (by decide)) dL_isFilled_31 ?_
    refine sa_const X.1 dL_isFilled_32 ?_
    have r123 := inR_tmod r122 (inR_c (a := 4) rfl) (by decide)
    refine sa_irem X.1 r122 (inR_c (a := 4) rfl) (Int.ne_of_gt (by decide)) dL_isFilled_33 ?_
    have r124 := inR_ite (c := ¬ (Int.tmod (Int.tdiv p7 3) 4) = 0) (inR_c (a := 9) rfl) (inR_c (a := 20) rfl)
    refine cut_j (A := ∀ v125 : Int, v125 = (if ¬ (Int.tmod (Int.tdiv p7 3) 4) = 0 then (9 : Int) else 20) → WU p l e 9 2 12 s m args below meth c G e0 α0 κ0 B Qm H locs cl sl 44 ls [.int (Int32.ofInt v125), .int (Int32.ofInt (Int.tdiv p7 10)), .int (Int32.ofInt 1)]) (fun J126 => ?_) ?_
    · refine sa_if_ne (tgt := 42) X.1 r123 dL_isFilled_34 (by decide) (fun hc => ?_) (fun hc => ?_)
      · skip
        refine sa_bipush X.1 dL_isFilled_42 (by decide) ?_
        exact J126 (9) (if_pos (c := ¬ (Int.tmod (Int.tdiv p7 3) 4) = 0) hc).symm
      · skip
        refine sa_bipush X.1 dL_isFilled_37 (by decide) ?_
        refine lv_goto (tgt := 44) X.1.1 X.1.2.1 dL_isFilled_39 (by decide) ?_
        exact J126 (20) (if_neg (c := ¬ (Int.tmod (Int.tdiv p7 3) 4) = 0) (fun z => z hc)).symm
    intro v125 hv125
    subst hv125
    have c127 := hw.1
    have hw := hw.2
    have r128 := inR_tmod r121 r124 c127
    refine sa_irem X.1 r121 r124 (Int.ne_of_gt c127) dL_isFilled_44 ?_
    have c129 := hw.1
    have hw := hw.2
    refine sa_iadd X.1 dL_isFilled_45 ?_
    refine lv_istore (lv' := [(10, .int (Int32.ofInt (1 + (Int.tmod (Int.tdiv p7 10) (if ¬ (Int.tmod (Int.tdiv p7 3) 4) = 0 then (9 : Int) else 20))))), (9, .int (Int32.ofInt (6 * (Int.tmod p7 (M 112 0 2))))), (8, .int (Int32.ofInt (Int.tmod p7 (M 112 0 2)))), (0, .ref (α 10 0)), (1, .ref (α 105 0)), (2, .ref (α 107 0)), (3, .ref (α 108 0)), (4, .ref (α 109 0)), (5, .ref (α 112 0)), (6, .int (Int32.ofInt p6)), (7, .int (Int32.ofInt p7))]) X.1.1 X.1.2.1 dL_isFilled_46 hl (by decide) rfl (fun ls hl => ?_)
    refine lv_iload X.1.1 X.1.2.1 dL_isFilled_48 (lv_at hl 10 rfl) ?_
    refine sa_sipush X.1 dL_isFilled_50 (by decide) ?_
    have r130 := inR_tdiv hp7 (inR_c (a := 200) rfl) (by decide)
    refine sa_idiv X.1 hp7 (inR_c (a := 200) rfl) (Int.ne_of_gt (by decide)) dL_isFilled_53 ?_
    refine sa_const X.1 dL_isFilled_54 ?_
    have r131 := inR_tmod r130 (inR_c (a := 2) rfl) (by decide)
    refine sa_irem X.1 r130 (inR_c (a := 2) rfl) (Int.ne_of_gt (by decide)) dL_isFilled_55 ?_
    have s133 := hw.1
    have hw := hw.2
    have c134 := hw.1
    have hw := hw.2
    refine cut_j (A := ∀ v135 : Int, v135 = (if ¬ (Int.tmod (Int.tdiv p7 200) 2) = 0 then (Int.tmod (Int.tdiv p7 400) (1 + (Int.tmod (Int.tdiv p7 10) (if ¬ (Int.tmod (Int.tdiv p7 3) 4) = 0 then (9 : Int) else 20)))) else 0) → WU p l e 9 2 12 s m args below meth c G e0 α0 κ0 B Qm H locs cl sl 72 ls [.int (Int32.ofInt v135)]) (fun J136 => ?_) ?_
    · refine sa_if_ne (tgt := 63) X.1 r131 dL_isFilled_56 (by decide) (fun hc => ?_) (fun hc => ?_)
      · have hw := s133 hc
        refine lv_iload X.1.1 X.1.2.1 dL_isFilled_63 (lv_at hl 10 rfl) ?_
        refine sa_sipush X.1 dL_isFilled_65 (by decide) ?_
        refine sa_idiv X.1 hp7 (inR_c (a := 400) rfl) (Int.ne_of_gt (by decide)) dL_isFilled_68 ?_
        refine lv_iload X.1.1 X.1.2.1 dL_isFilled_69 (lv_at hl 0 rfl) ?_
        have c132 := hw.1
        have hw := hw.2
        refine sa_irem X.1 (inR_tdiv hp7 (inR_c (a := 400) rfl) (by decide)) c129 (Int.ne_of_gt c132) dL_isFilled_71 ?_
        exact J136 ((Int.tmod (Int.tdiv p7 400) (1 + (Int.tmod (Int.tdiv p7 10) (if ¬ (Int.tmod (Int.tdiv p7 3) 4) = 0 then (9 : Int) else 20))))) (if_pos (c := ¬ (Int.tmod (Int.tdiv p7 200) 2) = 0) hc).symm
      · skip
        refine sa_const X.1 dL_isFilled_59 ?_
        refine lv_goto (tgt := 72) X.1.1 X.1.2.1 dL_isFilled_60 (by decide) ?_
        exact J136 (0) (if_neg (c := ¬ (Int.tmod (Int.tdiv p7 200) 2) = 0) (fun z => z hc)).symm
    intro v135 hv135
    subst hv135
    refine lv_istore (lv' := [(11, .int (Int32.ofInt (if ¬ (Int.tmod (Int.tdiv p7 200) 2) = 0 then (Int.tmod (Int.tdiv p7 400) (1 + (Int.tmod (Int.tdiv p7 10) (if ¬ (Int.tmod (Int.tdiv p7 3) 4) = 0 then (9 : Int) else 20)))) else 0))), (10, .int (Int32.ofInt (1 + (Int.tmod (Int.tdiv p7 10) (if ¬ (Int.tmod (Int.tdiv p7 3) 4) = 0 then (9 : Int) else 20))))), (9, .int (Int32.ofInt (6 * (Int.tmod p7 (M 112 0 2))))), (8, .int (Int32.ofInt (Int.tmod p7 (M 112 0 2)))), (0, .ref (α 10 0)), (1, .ref (α 105 0)), (2, .ref (α 107 0)), (3, .ref (α 108 0)), (4, .ref (α 109 0)), (5, .ref (α 112 0)), (6, .int (Int32.ofInt p6)), (7, .int (Int32.ofInt p7))]) X.1.1 X.1.2.1 dL_isFilled_72 hl (by decide) rfl (fun ls hl => ?_)
    refine lv_aload_n X.1.1 X.1.2.1 dL_isFilled_74 rfl (lv_at hl 7 rfl) ?_
    refine lv_iload X.1.1 X.1.2.1 dL_isFilled_75 (lv_at hl 3 rfl) ?_
    refine cs_L_words X r3 (kc := 9) rmX_ok ⟨by show _ ≤ 2; omega, by show _ ≤ 12; omega⟩ (by decide) hR hS kw_1066 hl.1 dL_isFilled_77 (Nat.le_of_ble_eq_true rfl) hw (fun x138 M137 H locs hw r139 hR hS => ?_)
    refine lv_istore (lv' := [(12, .int (Int32.ofInt x138)), (11, .int (Int32.ofInt (if ¬ (Int.tmod (Int.tdiv p7 200) 2) = 0 then (Int.tmod (Int.tdiv p7 400) (1 + (Int.tmod (Int.tdiv p7 10) (if ¬ (Int.tmod (Int.tdiv p7 3) 4) = 0 then (9 : Int) else 20)))) else 0))), (10, .int (Int32.ofInt (1 + (Int.tmod (Int.tdiv p7 10) (if ¬ (Int.tmod (Int.tdiv p7 3) 4) = 0 then (9 : Int) else 20))))), (9, .int (Int32.ofInt (6 * (Int.tmod p7 (M 112 0 2))))), (8, .int (Int32.ofInt (Int.tmod p7 (M 112 0 2)))), (0, .ref (α 10 0)), (1, .ref (α 105 0)), (2, .ref (α 107 0)), (3, .ref (α 108 0)), (4, .ref (α 109 0)), (5, .ref (α 112 0)), (6, .int (Int32.ofInt p6)), (7, .int (Int32.ofInt p7))]) X.1.1 X.1.2.1 dL_isFilled_80 hl (by decide) rfl (fun ls hl => ?_)
    refine lv_aload_n X.1.1 X.1.2.1 dL_isFilled_82 rfl (lv_at hl 7 rfl) ?_
    refine lv_iload X.1.1 X.1.2.1 dL_isFilled_83 (lv_at hl 3 rfl) ?_
    refine sa_const X.1 dL_isFilled_85 ?_
    have c140 := hw.1
    have hw := hw.2
    refine sa_iadd X.1 dL_isFilled_86 ?_
    have c141 := hw.1
    have hw := hw.2
    refine ra_107 X hR (okf X.2.2.1 rfl) c141 dL_isFilled_87 ?_
    have r142 := hR.r 107 0 ((6 * (Int.tmod p7 (M 112 0 2))) + 5)
    have r143 := inR_ite (c := 0 ≤ (M137 107 0 ((6 * (Int.tmod p7 (M 112 0 2))) + 5))) (inR_c (a := 0) rfl) (inR_c (a := 1) rfl)
    refine cut_j (A := ∀ v144 : Int, v144 = (if 0 ≤ (M137 107 0 ((6 * (Int.tmod p7 (M 112 0 2))) + 5)) then (0 : Int) else 1) → WU p l e 9 2 12 s m args below meth c G e0 α0 κ0 B Qm H locs cl sl 96 ls [.int (Int32.ofInt v144)]) (fun J145 => ?_) ?_
    · refine sa_if_ge (tgt := 95) X.1 r142 dL_isFilled_88 (by decide) (fun hc => ?_) (fun hc => ?_)
      · skip
        refine sa_const X.1 dL_isFilled_95 ?_
        exact J145 (0) (if_pos (c := 0 ≤ (M137 107 0 ((6 * (Int.tmod p7 (M 112 0 2))) + 5))) hc).symm
      · skip
        refine sa_const X.1 dL_isFilled_91 ?_
        refine lv_goto (tgt := 96) X.1.1 X.1.2.1 dL_isFilled_92 (by decide) ?_
        exact J145 (1) (if_neg (c := 0 ≤ (M137 107 0 ((6 * (Int.tmod p7 (M 112 0 2))) + 5))) (Int.not_le.mpr hc)).symm
    intro v144 hv144
    subst hv144
    refine lv_istore (lv' := [(13, .int (Int32.ofInt (if 0 ≤ (M137 107 0 ((6 * (Int.tmod p7 (M 112 0 2))) + 5)) then (0 : Int) else 1))), (12, .int (Int32.ofInt x138)), (11, .int (Int32.ofInt (if ¬ (Int.tmod (Int.tdiv p7 200) 2) = 0 then (Int.tmod (Int.tdiv p7 400) (1 + (Int.tmod (Int.tdiv p7 10) (if ¬ (Int.tmod (Int.tdiv p7 3) 4) = 0 then (9 : Int) else 20)))) else 0))), (10, .int (Int32.ofInt (1 + (Int.tmod (Int.tdiv p7 10) (if ¬ (Int.tmod (Int.tdiv p7 3) 4) = 0 then (9 : Int) else 20))))), (9, .int (Int32.ofInt (6 * (Int.tmod p7 (M 112 0 2))))), (8, .int (Int32.ofInt (Int.tmod p7 (M 112 0 2)))), (0, .ref (α 10 0)), (1, .ref (α 105 0)), (2, .ref (α 107 0)), (3, .ref (α 108 0)), (4, .ref (α 109 0)), (5, .ref (α 112 0)), (6, .int (Int32.ofInt p6)), (7, .int (Int32.ofInt p7))]) X.1.1 X.1.2.1 dL_isFilled_96 hl (by decide) rfl (fun ls hl => ?_)
    refine lv_iload X.1.1 X.1.2.1 dL_isFilled_98 (lv_at hl 1 rfl) ?_
    refine sa_const X.1 dL_isFilled_100 ?_
    refine sa_icmp_ne (tgt := 111) X.1 r139 (inR_c (a := 5) rfl) dL_isFilled_101 (by decide) (fun hc => ?_) (fun hc => ?_)
    · have hw := hw.1 hc
      exact t_L_isFilled_111 X N hlt hb hp6 hp7 _ _ _ _ _ _ hw r3 c129 c134 r139 r143 _ _ (by omega) (by omega) _ _ hR hS _ (lv_sub hl [6, 9, 5, 3, 2, 1, 0] rfl)
    · have hw := hw.2 hc
      refine lv_iload X.1.1 X.1.2.1 dL_isFilled_104 (lv_at hl 0 rfl) ?_
      refine sa_if_eq (tgt := 111) X.1 r143 dL_isFilled_106 (by decide) (fun hc => ?_) (fun hc => ?_)
      · have hw := hw.1 hc
        exact t_L_isFilled_111 X N hlt hb hp6 hp7 _ _ _ _ _ _ hw r3 c129 c134 r139 r143 _ _ (by omega) (by omega) _ _ hR hS _ (lv_sub hl [6, 9, 5, 3, 2, 1, 0] rfl)
      · have hw := hw.2 hc
        refine sa_const X.1 dL_isFilled_109 ?_
        exact su_zret X hb hR hS (Or.inr rfl) hw dL_isFilled_110 (by omega) (by omega)
theorem m_L_isFilled {l : Launch} {G : Gx} {e0 : Nat} {α : Ax} {κ : Nat → Int} {B : Nat} {p6 : Int} {p7 : Int} (hlt : l.stackTraces = false) (hκ : kOK κ) (hp6 : inR p6) (hp7 : inR p7) {M : Mem} {Qm : Int → Mem → Prop} (hw : wp_L_isFilled p6 p7 M Qm) : UC l yL_isFilled (Cond.code yL_isFilled cL_isFilled 14 (some .boolean)) 9 2 12 G e0 α κ B [.ref (α 10 0), .ref (α 105 0), .ref (α 107 0), .ref (α 108 0), .ref (α 109 0), .ref (α 112 0), .int (Int32.ofInt p6), .int (Int32.ofInt p7)] M Qm :=
  UC.mk hκ (by decide +kernel) rfl (Nat.le_of_ble_eq_true rfl) (lv := [(0, .ref (α 10 0)), (1, .ref (α 105 0)), (2, .ref (α 107 0)), (3, .ref (α 108 0)), (4, .ref (α 109 0)), (5, .ref (α 112 0)), (6, .int (Int32.ofInt p6)), (7, .int (Int32.ofInt p7))]) rfl (fun p e s m args below meth c ls X N hR hS hl => t_L_isFilled X N hlt Bk.rf hp6 hp7 hw 0 0 (by decide) (by decide) _ _ hR hS ls hl)
def wp_L_isSet_385 (p5 : Int) (p6 : Int) (Qm : Int → Mem → Prop) (y7 : Int) (y8 : Int) (y9 : Int) (M : Mem) : Prop := ((¬ p5 = 7 → ((¬ p5 = 8 → ∀ M9 : Mem, M9 = up M 111 0 8 y8 → wo_X9_border 3 p6 (Int.tdiv p6 7) y8 M9 fun (x13 : Int) (M12 : Mem) => ∃ M15 : Mem, Gh M12 M15 ∧ (bit (if ¬ x13 = (M 111 0 8) then (0 : Int) else 1)) ∧ Qm (if ¬ x13 = (M 111 0 8) then (0 : Int) else 1) M15) ∧ (p5 = 8 → (inR (2 * y7)) ∧ (inR ((2 * y7) + (Int.tmod y9 2))) ∧ (0 ≤ ((2 * y7) + (Int.tmod y9 2)) ∧ ((2 * y7) + (Int.tmod y9 2)) < 9) ∧ (inR (2 * y7)) ∧ (inR ((2 * y7) + (Int.tmod y9 2))) ∧ (0 ≤ ((2 * y7) + (Int.tmod y9 2)) ∧ ((2 * y7) + (Int.tmod y9 2)) < 9) ∧ ∀ M30 : Mem, M30 = up M 111 0 ((2 * y7) + (Int.tmod y9 2)) y8 → wo_X9_border 2 y7 (if ¬ (Int.tmod y9 2) = 0 then (1 : Int) else 3) y8 M30 fun (x37 : Int) (M36 : Mem) => ∃ M39 : Mem, Gh M36 M39 ∧ (bit (if ¬ x37 = (M 111 0 ((2 * y7) + (Int.tmod y9 2))) then (0 : Int) else 1)) ∧ Qm (if ¬ x37 = (M 111 0 ((2 * y7) + (Int.tmod y9 2))) then (0 : Int) else 1) M39))) ∧ (p5 = 7 → (0 < (M 112 0 1)) ∧ (inR (2 * (Int.tmod (Int.tdiv p6 4) (M 112 0 1)))) ∧ (inR (40 + (2 * (Int.tmod (Int.tdiv p6 4) (M 112 0 1))))) ∧ (inR ((40 + (2 * (Int.tmod (Int.tdiv p6 4) (M 112 0 1)))) + (Int.tmod y9 2))) ∧ (0 ≤ ((40 + (2 * (Int.tmod (Int.tdiv p6 4) (M 112 0 1)))) + (Int.tmod y9 2)) ∧ ((40 + (2 * (Int.tmod (Int.tdiv p6 4) (M 112 0 1)))) + (Int.tmod y9 2)) < 60) ∧ (inR (2 * (Int.tmod (Int.tdiv p6 4) (M 112 0 1)))) ∧ (inR (40 + (2 * (Int.tmod (Int.tdiv p6 4) (M 112 0 1))))) ∧ (inR ((40 + (2 * (Int.tmod (Int.tdiv p6 4) (M 112 0 1)))) + (Int.tmod y9 2))) ∧ (0 ≤ ((40 + (2 * (Int.tmod (Int.tdiv p6 4) (M 112 0 1)))) + (Int.tmod y9 2)) ∧ ((40 + (2 * (Int.tmod (Int.tdiv p6 4) (M 112 0 1)))) + (Int.tmod y9 2)) < 60) ∧ ∀ M60 : Mem, M60 = up M 110 0 ((40 + (2 * (Int.tmod (Int.tdiv p6 4) (M 112 0 1)))) + (Int.tmod y9 2)) y8 → (inR ((Int.tmod y9 2) * 2)) ∧ wo_X9_border 1 (Int.tmod (Int.tdiv p6 4) (M 112 0 1)) ((Int.tmod y9 2) * 2) y8 M60 fun (x65 : Int) (M64 : Mem) => ∃ M67 : Mem, Gh M64 M67 ∧ (bit (if ¬ x65 = (M 110 0 ((40 + (2 * (Int.tmod (Int.tdiv p6 4) (M 112 0 1)))) + (Int.tmod y9 2))) then (0 : Int) else 1)) ∧ Qm (if ¬ x65 = (M 110 0 ((40 + (2 * (Int.tmod (Int.tdiv p6 4) (M 112 0 1)))) + (Int.tmod y9 2))) then (0 : Int) else 1) M67))
def wp_L_isSet_229 (p5 : Int) (p6 : Int) (Qm : Int → Mem → Prop) (y7 : Int) (M : Mem) : Prop := (inR (4 * y7)) ∧ (inR ((4 * y7) + 3)) ∧ (inR (4 * y7)) ∧ (inR ((4 * y7) + 3)) ∧ (0 ≤ ((4 * y7) + 3) ∧ ((4 * y7) + 3) < 16) ∧ (inR (1 - (M 104 0 ((4 * y7) + 3)))) ∧ (0 ≤ ((4 * y7) + 3) ∧ ((4 * y7) + 3) < 16) ∧ ∀ M108 : Mem, M108 = up M 104 0 ((4 * y7) + 3) (1 - (M 104 0 ((4 * y7) + 3))) → wp_L_hid y7 M108 fun (x110 : Int) (M112 : Mem) => ∃ M113 : Mem, Gh M112 M113 ∧ (inR (4 * y7)) ∧ (inR ((4 * y7) + 3)) ∧ (0 ≤ ((4 * y7) + 3) ∧ ((4 * y7) + 3) < 16) ∧ (bit (if ¬ x110 = (M113 104 0 ((4 * y7) + 3)) then (0 : Int) else 1)) ∧ Qm (if ¬ x110 = (M113 104 0 ((4 * y7) + 3)) then (0 : Int) else 1) M113
def wp_L_isSet (p5 : Int) (p6 : Int) (M : Mem) (Qm : Int → Mem → Prop) : Prop := ((¬ p5 = 0 → (0 < (M 112 0 0)) ∧ ((¬ p5 = 1 → ((4 ≤ p5 → ((6 ≤ p5 → ((¬ p5 = 6 → wp_L_isSet_385 p5 p6 Qm (Int.tmod p6 (M 112 0 0)) (Int.tmod (Int.tdiv p6 50) 6) (Int.tmod (Int.tdiv p6 300) 4) M) ∧ (p5 = 6 → (((M 112 0 2) ≤ 0 → wp_L_isSet_385 p5 p6 Qm (Int.tmod p6 (M 112 0 0)) (Int.tmod (Int.tdiv p6 50) 6) (Int.tmod (Int.tdiv p6 300) 4) M) ∧ (0 < (M 112 0 2) → (0 < (M 112 0 2)) ∧ (inR (4 * (Int.tmod (Int.tdiv p6 4) (M 112 0 2)))) ∧ (inR ((4 * (Int.tmod (Int.tdiv p6 4) (M 112 0 2))) + (Int.tmod (Int.tdiv p6 300) 4))) ∧ (0 ≤ ((4 * (Int.tmod (Int.tdiv p6 4) (M 112 0 2))) + (Int.tmod (Int.tdiv p6 300) 4)) ∧ ((4 * (Int.tmod (Int.tdiv p6 4) (M 112 0 2))) + (Int.tmod (Int.tdiv p6 300) 4)) < 60) ∧ (inR (4 * (Int.tmod (Int.tdiv p6 4) (M 112 0 2)))) ∧ (inR ((4 * (Int.tmod (Int.tdiv p6 4) (M 112 0 2))) + (Int.tmod (Int.tdiv p6 300) 4))) ∧ (0 ≤ ((4 * (Int.tmod (Int.tdiv p6 4) (M 112 0 2))) + (Int.tmod (Int.tdiv p6 300) 4)) ∧ ((4 * (Int.tmod (Int.tdiv p6 4) (M 112 0 2))) + (Int.tmod (Int.tdiv p6 300) 4)) < 60) ∧ ∀ M85 : Mem, M85 = up M 110 0 ((4 * (Int.tmod (Int.tdiv p6 4) (M 112 0 2))) + (Int.tmod (Int.tdiv p6 300) 4)) (Int.tmod (Int.tdiv p6 50) 6) → wo_X9_border 0 (Int.tmod (Int.tdiv p6 4) (M 112 0 2)) (Int.tmod (Int.tdiv p6 300) 4) (Int.tmod (Int.tdiv p6 50) 6) M85 fun (x88 : Int) (M87 : Mem) => ∃ M90 : Mem, Gh M87 M90 ∧ (bit (if ¬ x88 = (M 110 0 ((4 * (Int.tmod (Int.tdiv p6 4) (M 112 0 2))) + (Int.tmod (Int.tdiv p6 300) 4))) then (0 : Int) else 1)) ∧ Qm (if ¬ x88 = (M 110 0 ((4 * (Int.tmod (Int.tdiv p6 4) (M 112 0 2))) + (Int.tmod (Int.tdiv p6 300) 4))) then (0 : Int) else 1) M90))))) ∧ (p5 < 6 → (inR (4 * (Int.tmod p6 (M 112 0 0)))) ∧ (inR ((4 * (Int.tmod p6 (M 112 0 0))) + 3)) ∧ (0 ≤ ((4 * (Int.tmod p6 (M 112 0 0))) + 3) ∧ ((4 * (Int.tmod p6 (M 112 0 0))) + 3) < 16) ∧ (((M 104 0 ((4 * (Int.tmod p6 (M 112 0 0))) + 3)) = 1 → wp_L_isSet_229 p5 p6 Qm (Int.tmod p6 (M 112 0 0)) M) ∧ (¬ (M 104 0 ((4 * (Int.tmod p6 (M 112 0 0))) + 3)) = 1 → wp_L_visible M fun (x124 : Int) (M123 : Mem) => (inR (4 * (Int.tmod p6 (M 112 0 0)))) ∧ (inR ((4 * (Int.tmod p6 (M 112 0 0))) + 3)) ∧ (¬ (if x124 ≤ 1 then (0 : Int) else 1) = 0 → (inR (4 * (Int.tmod p6 (M 112 0 0)))) ∧ (inR ((4 * (Int.tmod p6 (M 112 0 0))) + 3)) ∧ (0 ≤ ((4 * (Int.tmod p6 (M 112 0 0))) + 3) ∧ ((4 * (Int.tmod p6 (M 112 0 0))) + 3) < 16) ∧ (inR (1 - (M123 104 0 ((4 * (Int.tmod p6 (M 112 0 0))) + 3)))) ∧ True) ∧ (inR (if (if x124 ≤ 1 then (0 : Int) else 1) = 0 then (0 : Int) else (1 - (M123 104 0 ((4 * (Int.tmod p6 (M 112 0 0))) + 3))))) ∧ (0 ≤ ((4 * (Int.tmod p6 (M 112 0 0))) + 3) ∧ ((4 * (Int.tmod p6 (M 112 0 0))) + 3) < 16) ∧ ∀ M140 : Mem, M140 = up M123 104 0 ((4 * (Int.tmod p6 (M 112 0 0))) + 3) (if (if x124 ≤ 1 then (0 : Int) else 1) = 0 then (0 : Int) else (1 - (M123 104 0 ((4 * (Int.tmod p6 (M 112 0 0))) + 3)))) → wp_L_hid (Int.tmod p6 (M 112 0 0)) M140 fun (x142 : Int) (M144 : Mem) => ∃ M145 : Mem, Gh M144 M145 ∧ (¬ (if x124 ≤ 1 then (0 : Int) else 1) = 0 → (inR (4 * (Int.tmod p6 (M 112 0 0)))) ∧ (inR ((4 * (Int.tmod p6 (M 112 0 0))) + 3)) ∧ (0 ≤ ((4 * (Int.tmod p6 (M 112 0 0))) + 3) ∧ ((4 * (Int.tmod p6 (M 112 0 0))) + 3) < 16) ∧ True) ∧ (bit (if ¬ x142 = (if (if x124 ≤ 1 then (0 : Int) else 1) = 0 then ((-7) : Int) else (M145 104 0 ((4 * (Int.tmod p6 (M 112 0 0))) + 3))) then (0 : Int) else 1)) ∧ Qm (if ¬ x142 = (if (if x124 ≤ 1 then (0 : Int) else 1) = 0 then ((-7) : Int) else (M145 104 0 ((4 * (Int.tmod p6 (M 112 0 0))) + 3))) then (0 : Int) else 1) M145))))) ∧ (p5 < 4 → (inR (4 * (Int.tmod p6 (M 112 0 0)))) ∧ (inR ((4 * (Int.tmod p6 (M 112 0 0))) + 2)) ∧ (inR (4 * (Int.tmod p6 (M 112 0 0)))) ∧ (inR ((4 * (Int.tmod p6 (M 112 0 0))) + 2)) ∧ (0 ≤ ((4 * (Int.tmod p6 (M 112 0 0))) + 2) ∧ ((4 * (Int.tmod p6 (M 112 0 0))) + 2) < 16) ∧ (inR (1 - (M 104 0 ((4 * (Int.tmod p6 (M 112 0 0))) + 2)))) ∧ (0 ≤ ((4 * (Int.tmod p6 (M 112 0 0))) + 2) ∧ ((4 * (Int.tmod p6 (M 112 0 0))) + 2) < 16) ∧ ∀ M166 : Mem, M166 = up M 104 0 ((4 * (Int.tmod p6 (M 112 0 0))) + 2) (1 - (M 104 0 ((4 * (Int.tmod p6 (M 112 0 0))) + 2))) → wo_X9_totalled (Int.tmod p6 (M 112 0 0)) M166 fun (x169 : Int) (M168 : Mem) => ∃ M171 : Mem, Gh M168 M171 ∧ (inR (4 * (Int.tmod p6 (M 112 0 0)))) ∧ (inR ((4 * (Int.tmod p6 (M 112 0 0))) + 2)) ∧ (0 ≤ ((4 * (Int.tmod p6 (M 112 0 0))) + 2) ∧ ((4 * (Int.tmod p6 (M 112 0 0))) + 2) < 16) ∧ (bit (if ¬ x169 = (if ¬ (M171 104 0 ((4 * (Int.tmod p6 (M 112 0 0))) + 2)) = 1 then (0 : Int) else 1) then (0 : Int) else 1)) ∧ Qm (if ¬ x169 = (if ¬ (M171 104 0 ((4 * (Int.tmod p6 (M 112 0 0))) + 2)) = 1 then (0 : Int) else 1) then (0 : Int) else 1) M171))) ∧ (p5 = 1 → (inR (1 - (M 112 0 5))) ∧ ∀ M186 : Mem, M186 = up M 112 0 5 (1 - (M 112 0 5)) → wp_X9_notesAtEnd M186 fun (x189 : Int) (M188 : Mem) => ∃ M191 : Mem, Gh M188 M191 ∧ (bit (if ¬ x189 = (if ¬ (M191 112 0 5) = 1 then (0 : Int) else 1) then (0 : Int) else 1)) ∧ Qm (if ¬ x189 = (if ¬ (M191 112 0 5) = 1 then (0 : Int) else 1) then (0 : Int) else 1) M191))) ∧ (p5 = 0 → (¬ (Int.tmod p6 3) = 0 → (inR (10 + (Int.tmod (Int.tdiv p6 3) 60))) ∧ True) ∧ ((Int.tmod p6 3) = 0 → (inR (1 + (Int.tmod (Int.tdiv p6 3) 150))) ∧ True) ∧ (inR (if ¬ (Int.tmod p6 3) = 0 then (10 + (Int.tmod (Int.tdiv p6 3) 60)) else (1 + (Int.tmod (Int.tdiv p6 3) 150)))) ∧ ∀ M209 : Mem, M209 = up M 112 0 3 (if ¬ (Int.tmod p6 3) = 0 then (10 + (Int.tmod (Int.tdiv p6 3) 60)) else (1 + (Int.tmod (Int.tdiv p6 3) 150))) → (¬ (Int.tmod (Int.tdiv p6 450) 3) = 0 → (inR (3 + (Int.tmod (Int.tdiv p6 1350) 12))) ∧ True) ∧ ((Int.tmod (Int.tdiv p6 450) 3) = 0 → (inR (1 + (Int.tmod (Int.tdiv p6 1350) 100))) ∧ True) ∧ (inR (if ¬ (Int.tmod (Int.tdiv p6 450) 3) = 0 then (3 + (Int.tmod (Int.tdiv p6 1350) 12)) else (1 + (Int.tmod (Int.tdiv p6 1350) 100)))) ∧ ∀ M220 : Mem, M220 = up M209 112 0 4 (if ¬ (Int.tmod (Int.tdiv p6 450) 3) = 0 then (3 + (Int.tmod (Int.tdiv p6 1350) 12)) else (1 + (Int.tmod (Int.tdiv p6 1350) 100))) → wo_X9_setPaper (M220 112 0 3) (M220 112 0 4) M220 fun (M224 : Mem) => ∃ M225 : Mem, Gh M224 M225 ∧ Qm 1 M225))
set_option maxHeartbeats 4000000 in
set_option maxRecDepth 100000 in
theorem t_L_isSet_385 {α0 : Ax} {κ0 : Nat → Int} {p5 : Int} {p6 : Int} (X : CX p m c cL_isSet 12 s args RL G B κ meth (some .boolean)) (N : NcA s) (hlt : l.stackTraces = false) (hb : Bk G e0 α κ α0 κ0 B) (hp5 : inR p5) (hp6 : inR p6) {Qm : Int → Mem → Prop} : ∀ y7 : Int, ∀ y8 : Int, ∀ y9 : Int, ∀ M : Mem, wp_L_isSet_385 p5 p6 Qm y7 y8 y9 M → inR y7 → inR y8 → inR y9 → ∀ cl sl : Nat, cl + 0 ≤ 2 → sl + 0 ≤ 12 → ∀ (H : Heap) (locs : List Loc), Rp G e0 α κ B M H → va_S (fun q => B ≤ q) s.heap H locs → ∀ (ls : Array Slot), lv_has ls 12 [(0, .ref (α 10 0)), (2, .ref (α 110 0)), (3, .ref (α 111 0)), (4, .ref (α 112 0)), (5, .int (Int32.ofInt p5)), (6, .int (Int32.ofInt p6)), (7, .int (Int32.ofInt y7)), (8, .int (Int32.ofInt y8)), (9, .int (Int32.ofInt y9))] → WU p l e 9 2 12 s m args below meth c G e0 α0 κ0 B Qm H locs cl sl 385 ls [] := by
  intro y7 y8 y9 M hw hy7 hy8 hy9 cl sl hc1 hc2 H locs hR hS ls hl
  have hw : ((¬ p5 = 7 → ((¬ p5 = 8 → ∀ M9 : Mem, M9 = up M 111 0 8 y8 → wo_X9_border 3 p6 (Int.tdiv p6 7) y8 M9 fun (x13 : Int) (M12 : Mem) => ∃ M15 : Mem, Gh M12 M15 ∧ (bit (if ¬ x13 = (M 111 0 8) then (0 : Int) else 1)) ∧ Qm (if ¬ x13 = (M 111 0 8) then (0 : Int) else 1) M15) ∧ (p5 = 8 → (inR (2 * y7)) ∧ (inR ((2 * y7) + (Int.tmod y9 2))) ∧ (0 ≤ ((2 * y7) + (Int.tmod y9 2)) ∧ ((2 * y7) + (Int.tmod y9 2)) < 9) ∧ (inR (2 * y7)) ∧ (inR ((2 * y7) + (Int.tmod y9 2))) ∧ (0 ≤ ((2 * y7) + (Int.tmod y9 2)) ∧ ((2 * y7) + (Int.tmod y9 2)) < 9) ∧ ∀ M30 : Mem, M30 = up M 111 0 ((2 * y7) + (Int.tmod y9 2)) y8 → wo_X9_border 2 y7 (if ¬ (Int.tmod y9 2) = 0 then (1 : Int) else 3) y8 M30 fun (x37 : Int) (M36 : Mem) => ∃ M39 : Mem, Gh M36 M39 ∧ (bit (if ¬ x37 = (M 111 0 ((2 * y7) + (Int.tmod y9 2))) then (0 : Int) else 1)) ∧ Qm (if ¬ x37 = (M 111 0 ((2 * y7) + (Int.tmod y9 2))) then (0 : Int) else 1) M39))) ∧ (p5 = 7 → (0 < (M 112 0 1)) ∧ (inR (2 * (Int.tmod (Int.tdiv p6 4) (M 112 0 1)))) ∧ (inR (40 + (2 * (Int.tmod (Int.tdiv p6 4) (M 112 0 1))))) ∧ (inR ((40 + (2 * (Int.tmod (Int.tdiv p6 4) (M 112 0 1)))) + (Int.tmod y9 2))) ∧ (0 ≤ ((40 + (2 * (Int.tmod (Int.tdiv p6 4) (M 112 0 1)))) + (Int.tmod y9 2)) ∧ ((40 + (2 * (Int.tmod (Int.tdiv p6 4) (M 112 0 1)))) + (Int.tmod y9 2)) < 60) ∧ (inR (2 * (Int.tmod (Int.tdiv p6 4) (M 112 0 1)))) ∧ (inR (40 + (2 * (Int.tmod (Int.tdiv p6 4) (M 112 0 1))))) ∧ (inR ((40 + (2 * (Int.tmod (Int.tdiv p6 4) (M 112 0 1)))) + (Int.tmod y9 2))) ∧ (0 ≤ ((40 + (2 * (Int.tmod (Int.tdiv p6 4) (M 112 0 1)))) + (Int.tmod y9 2)) ∧ ((40 + (2 * (Int.tmod (Int.tdiv p6 4) (M 112 0 1)))) + (Int.tmod y9 2)) < 60) ∧ ∀ M60 : Mem, M60 = up M 110 0 ((40 + (2 * (Int.tmod (Int.tdiv p6 4) (M 112 0 1)))) + (Int.tmod y9 2)) y8 → (inR ((Int.tmod y9 2) * 2)) ∧ wo_X9_border 1 (Int.tmod (Int.tdiv p6 4) (M 112 0 1)) ((Int.tmod y9 2) * 2) y8 M60 fun (x65 : Int) (M64 : Mem) => ∃ M67 : Mem, Gh M64 M67 ∧ (bit (if ¬ x65 = (M 110 0 ((40 + (2 * (Int.tmod (Int.tdiv p6 4) (M 112 0 1)))) + (Int.tmod y9 2))) then (0 : Int) else 1)) ∧ Qm (if ¬ x65 = (M 110 0 ((40 + (2 * (Int.tmod (Int.tdiv p6 4) (M 112 0 1)))) + (Int.tmod y9 2))) then (0 : Int) else 1) M67)) := hw
  refine lv_iload X.1.1 X.1.2.1 dL_isSet_385 (lv_at hl 4 rfl) ?_
  refine sa_bipush X.1 dL_isSet_387 (by decide) ?_
  refine sa_icmp_ne (tgt := 461) X.1 hp5 (inR_c (a := 7) rfl) dL_isSet_389 (by decide) (fun hc => ?_) (fun hc => ?_)
  · have hw := hw.1 hc
    refine lv_iload X.1.1 X.1.2.1 dL_isSet_461 (lv_at hl 4 rfl) ?_
    refine sa_bipush X.1 dL_isSet_463 (by decide) ?_
    refine sa_icmp_ne (tgt := 526) X.1 hp5 (inR_c (a := 8) rfl) dL_isSet_465 (by decide) (fun hc => ?_) (fun hc => ?_)
    · have hw := hw.1 hc
      refine lv_aload_n X.1.1 X.1.2.1 dL_isSet_526 rfl (lv_at hl 2 rfl) ?_
      refine sa_bipush X.1 dL_isSet_527 (by decide) ?_
      refine ra_111 X hR (okf X.2.2.1 rfl) ⟨by decide, by decide⟩ dL_isSet_529 ?_
      have r8 := hR.r 111 0 8
      refine lv_istore (lv' := [(10, .int (Int32.ofInt (M 111 0 8))), (0, .ref (α 10 0)), (2, .ref (α 110 0)), (3, .ref (α 111 0)), (4, .ref (α 112 0)), (5, .int (Int32.ofInt p5)), (6, .int (Int32.ofInt p6)), (7, .int (Int32.ofInt y7)), (8, .int (Int32.ofInt y8)), (9, .int (Int32.ofInt y9))]) X.1.1 X.1.2.1 dL_isSet_530 hl (by decide) rfl (fun ls hl => ?_)
      refine lv_aload_n X.1.1 X.1.2.1 dL_isSet_532 rfl (lv_at hl 3 rfl) ?_
      refine sa_bipush X.1 dL_isSet_533 (by decide) ?_
      refine lv_iload X.1.1 X.1.2.1 dL_isSet_535 (lv_at hl 8 rfl) ?_
      refine wa_111 X hR hS (okf X.2.2.1 rfl) ⟨by decide, by decide⟩ hy8 dL_isSet_537 (fun H locs hR hS => ?_)
      obtain ⟨M9, e10⟩ : ∃ z : Mem, z = up M 111 0 8 y8 := ⟨_, rfl⟩
      rw [← e10] at hR
      have hw := hw M9 e10
      refine lv_aload_n X.1.1 X.1.2.1 dL_isSet_538 rfl (lv_at hl 1 rfl) ?_
      refine sa_const X.1 dL_isSet_539 ?_
      refine lv_iload X.1.1 X.1.2.1 dL_isSet_540 (lv_at hl 6 rfl) ?_
      refine lv_iload X.1.1 X.1.2.1 dL_isSet_542 (lv_at hl 6 rfl) ?_
      refine sa_bipush X.1 dL_isSet_544 (by decide) ?_
      have r11 := inR_tdiv hp6 (inR_c (a := 7) rfl) (by decide)
      refine sa_idiv X.1 hp6 (inR_c (a := 7) rfl) (Int.ne_of_gt (by decide)) dL_isSet_546 ?_
      refine lv_iload X.1.1 X.1.2.1 dL_isSet_547 (lv_at hl 8 rfl) ?_
      refine co_X9_border X (inR_c (a := 3) rfl) hp6 r11 hy8 (kc := 9) rmX_ok ⟨by show _ ≤ 2; omega, by show _ ≤ 12; omega⟩ (by decide) hR hS kw_1196 hl.1 dL_isSet_549 (Nat.le_of_ble_eq_true rfl) hw (fun x13 M12 H locs hw r14 hR hS => ?_)
      obtain ⟨M15, g16, hw⟩ := hw
      have hR := hR.gh X.2.2.1 g16
      refine lv_iload X.1.1 X.1.2.1 dL_isSet_552 (lv_at hl 0 rfl) ?_
      have r17 := inR_ite (c := ¬ x13 = (M 111 0 8)) (inR_c (a := 0) rfl) (inR_c (a := 1) rfl)
      refine cut_j (A := ∀ v18 : Int, v18 = (if ¬ x13 = (M 111 0 8) then (0 : Int) else 1) → WU p l e 9 2 12 s m args below meth c G e0 α0 κ0 B Qm H locs cl sl 562 ls [.int (Int32.ofInt v18)]) (fun J19 => ?_) ?_
      · refine sa_icmp_ne (tgt := 561) X.1 r14 r8 dL_isSet_554 (by decide) (fun hc => ?_) (fun hc => ?_)
        · skip
          refine sa_const X.1 dL_isSet_561 ?_
          exact J19 (0) (if_pos (c := ¬ x13 = (M 111 0 8)) hc).symm
        · skip
          refine sa_const X.1 dL_isSet_557 ?_
          refine lv_goto (tgt := 562) X.1.1 X.1.2.1 dL_isSet_558 (by decide) ?_
          exact J19 (1) (if_neg (c := ¬ x13 = (M 111 0 8)) (fun z => z hc)).symm
      intro v18 hv18
      subst hv18
      have c20 := hw.1
      have hw := hw.2
      exact su_zret X hb hR hS c20 hw dL_isSet_562 (by omega) (by omega)
    · have hw := hw.2 hc
      refine lv_aload_n X.1.1 X.1.2.1 dL_isSet_468 rfl (lv_at hl 2 rfl) ?_
      refine sa_const X.1 dL_isSet_469 ?_
      refine lv_iload X.1.1 X.1.2.1 dL_isSet_470 (lv_at hl 6 rfl) ?_
      have c21 := hw.1
      have hw := hw.2
      refine sa_imul X.1 dL_isSet_472 ?_
      refine lv_iload X.1.1 X.1.2.1 dL_isSet_473 (lv_at hl 8 rfl) ?_
      refine sa_const X.1 dL_isSet_475 ?_
      have r22 := inR_tmod hy9 (inR_c (a := 2) rfl) (by decide)
      refine sa_irem X.1 hy9 (inR_c (a := 2) rfl) (Int.ne_of_gt (by decide)) dL_isSet_476 ?_
      have c23 := hw.1
      have hw := hw.2
      refine sa_iadd X.1 dL_isSet_477 ?_
      have c24 := hw.1
      have hw := hw.2
      refine ra_111 X hR (okf X.2.2.1 rfl) c24 dL_isSet_478 ?_
      have r25 := hR.r 111 0 ((2 * y7) + (Int.tmod y9 2))
      refine lv_istore (lv' := [(10, .int (Int32.ofInt (M 111 0 ((2 * y7) + (Int.tmod y9 2))))), (0, .ref (α 10 0)), (2, .ref (α 110 0)), (3, .ref (α 111 0)), (4, .ref (α 112 0)), (5, .int (Int32.ofInt p5)), (6, .int (Int32.ofInt p6)), (7, .int (Int32.ofInt y7)), (8, .int (Int32.ofInt y8)), (9, .int (Int32.ofInt y9))]) X.1.1 X.1.2.1 dL_isSet_479 hl (by decide) rfl (fun ls hl => ?_)
      refine lv_aload_n X.1.1 X.1.2.1 dL_isSet_481 rfl (lv_at hl 3 rfl) ?_
      refine sa_const X.1 dL_isSet_482 ?_
      refine lv_iload X.1.1 X.1.2.1 dL_isSet_483 (lv_at hl 7 rfl) ?_
      have c26 := hw.1
      have hw := hw.2
      refine sa_imul X.1 dL_isSet_485 ?_
      refine lv_iload X.1.1 X.1.2.1 dL_isSet_486 (lv_at hl 9 rfl) ?_
      refine sa_const X.1 dL_isSet_488 ?_
      have r27 := inR_tmod hy9 (inR_c (a := 2) rfl) (by decide)
      refine sa_irem X.1 hy9 (inR_c (a := 2) rfl) (Int.ne_of_gt (by decide)) dL_isSet_489 ?_
      have c28 := hw.1
      have hw := hw.2
      refine sa_iadd X.1 dL_isSet_490 ?_
      refine lv_iload X.1.1 X.1.2.1 dL_isSet_491 (lv_at hl 8 rfl) ?_
      have c29 := hw.1
      have hw := hw.2
      refine wa_111 X hR hS (okf X.2.2.1 rfl) c29 hy8 dL_isSet_493 (fun H locs hR hS => ?_)
      obtain ⟨M30, e31⟩ : ∃ z : Mem, z = up M 111 0 ((2 * y7) + (Int.tmod y9 2)) y8 := ⟨_, rfl⟩
      rw [← e31] at hR
      have hw := hw M30 e31
      refine lv_aload_n X.1.1 X.1.2.1 dL_isSet_494 rfl (lv_at hl 1 rfl) ?_
      refine sa_const X.1 dL_isSet_495 ?_
      refine lv_iload X.1.1 X.1.2.1 dL_isSet_496 (lv_at hl 7 rfl) ?_
      refine lv_iload X.1.1 X.1.2.1 dL_isSet_498 (lv_at hl 9 rfl) ?_
      refine sa_const X.1 dL_isSet_500 ?_
      have r32 := inR_tmod hy9 (inR_c (a := 2) rfl) (by decide)
      refine sa_irem X.1 hy9 (inR_c (a := 2) rfl) (Int.ne_of_gt (by decide)) dL_isSet_501 ?_
      have r33 := inR_ite (c := ¬ (Int.tmod y9 2) = 0) (inR_c (a := 1) rfl) (inR_c (a := 3) rfl)
      refine cut_j (A := ∀ v34 : Int, v34 = (if ¬ (Int.tmod y9 2) = 0 then (1 : Int) else 3) → WU p l e 9 2 12 s m args below meth c G e0 α0 κ0 B Qm H locs cl sl 510 ls [.int (Int32.ofInt v34), .int (Int32.ofInt y7), .int (Int32.ofInt 2), .ref (α 10 0)]) (fun J35 => ?_) ?_
      · refine sa_if_ne (tgt := 509) X.1 r32 dL_isSet_502 (by decide) (fun hc => ?_) (fun hc => ?_)
        · skip
          refine sa_const X.1 dL_isSet_509 ?_
          exact J35 (1) (if_pos (c := ¬ (Int.tmod y9 2) = 0) hc).symm
        · skip
          refine sa_const X.1 dL_isSet_505 ?_
          refine lv_goto (tgt := 510) X.1.1 X.1.2.1 dL_isSet_506 (by decide) ?_
          exact J35 (3) (if_neg (c := ¬ (Int.tmod y9 2) = 0) (fun z => z hc)).symm
      intro v34 hv34
      subst hv34
      refine lv_iload X.1.1 X.1.2.1 dL_isSet_510 (lv_at hl 8 rfl) ?_
      refine co_X9_border X (inR_c (a := 2) rfl) hy7 r33 hy8 (kc := 9) rmX_ok ⟨by show _ ≤ 2; omega, by show _ ≤ 12; omega⟩ (by decide) hR hS kw_1196 hl.1 dL_isSet_512 (Nat.le_of_ble_eq_true rfl) hw (fun x37 M36 H locs hw r38 hR hS => ?_)
      obtain ⟨M39, g40, hw⟩ := hw
      have hR := hR.gh X.2.2.1 g40
      refine lv_iload X.1.1 X.1.2.1 dL_isSet_515 (lv_at hl 0 rfl) ?_
      have r41 := inR_ite (c := ¬ x37 = (M 111 0 ((2 * y7) + (Int.tmod y9 2)))) (inR_c (a := 0) rfl) (inR_c (a := 1) rfl)
      refine cut_j (A := ∀ v42 : Int, v42 = (if ¬ x37 = (M 111 0 ((2 * y7) + (Int.tmod y9 2))) then (0 : Int) else 1) → WU p l e 9 2 12 s m args below meth c G e0 α0 κ0 B Qm H locs cl sl 525 ls [.int (Int32.ofInt v42)]) (fun J43 => ?_) ?_
      · refine sa_icmp_ne (tgt := 524) X.1 r38 r25 dL_isSet_517 (by decide) (fun hc => ?_) (fun hc => ?_)
        · skip
          refine sa_const X.1 dL_isSet_524 ?_
          exact J43 (0) (if_pos (c := ¬ x37 = (M 111 0 ((2 * y7) + (Int.tmod y9 2)))) hc).symm
        · skip
          refine sa_const X.1 dL_isSet_520 ?_
          refine lv_goto (tgt := 525) X.1.1 X.1.2.1 dL_isSet_521 (by decide) ?_
          exact J43 (1) (if_neg (c := ¬ x37 = (M 111 0 ((2 * y7) + (Int.tmod y9 2)))) (fun z => z hc)).symm
      intro v42 hv42
      subst hv42
      have c44 := hw.1
      have hw := hw.2
      exact su_zret X hb hR hS c44 hw dL_isSet_525 (by omega) (by omega)
  · have hw := hw.2 hc
    refine lv_iload X.1.1 X.1.2.1 dL_isSet_392 (lv_at hl 5 rfl) ?_
    refine sa_const X.1 dL_isSet_394 ?_
    have r45 := inR_tdiv hp6 (inR_c (a := 4) rfl) (by decide)
    refine sa_idiv X.1 hp6 (inR_c (a := 4) rfl) (Int.ne_of_gt (by decide)) dL_isSet_395 ?_
    refine lv_aload X.1.1 X.1.2.1 dL_isSet_396 (lv_at hl 3 rfl) ?_
    refine sa_const X.1 dL_isSet_398 ?_
    refine ra_112 X hR (okf X.2.2.1 rfl) ⟨by decide, by decide⟩ dL_isSet_399 ?_
    have r46 := hR.r 112 0 1
    have c47 := hw.1
    have hw := hw.2
    have r48 := inR_tmod r45 r46 c47
    refine sa_irem X.1 r45 r46 (Int.ne_of_gt c47) dL_isSet_400 ?_
    refine lv_istore (lv' := [(10, .int (Int32.ofInt (Int.tmod (Int.tdiv p6 4) (M 112 0 1)))), (0, .ref (α 10 0)), (2, .ref (α 110 0)), (3, .ref (α 111 0)), (4, .ref (α 112 0)), (5, .int (Int32.ofInt p5)), (6, .int (Int32.ofInt p6)), (7, .int (Int32.ofInt y7)), (8, .int (Int32.ofInt y8)), (9, .int (Int32.ofInt y9))]) X.1.1 X.1.2.1 dL_isSet_401 hl (by decide) rfl (fun ls hl => ?_)
    refine lv_aload_n X.1.1 X.1.2.1 dL_isSet_403 rfl (lv_at hl 2 rfl) ?_
    refine sa_bipush X.1 dL_isSet_404 (by decide) ?_
    refine sa_const X.1 dL_isSet_406 ?_
    refine lv_iload X.1.1 X.1.2.1 dL_isSet_407 (lv_at hl 0 rfl) ?_
    have c49 := hw.1
    have hw := hw.2
    refine sa_imul X.1 dL_isSet_409 ?_
    have c50 := hw.1
    have hw := hw.2
    refine sa_iadd X.1 dL_isSet_410 ?_
    refine lv_iload X.1.1 X.1.2.1 dL_isSet_411 (lv_at hl 9 rfl) ?_
    refine sa_const X.1 dL_isSet_413 ?_
    have r51 := inR_tmod hy9 (inR_c (a := 2) rfl) (by decide)
    refine sa_irem X.1 hy9 (inR_c (a := 2) rfl) (Int.ne_of_gt (by decide)) dL_isSet_414 ?_
    have c52 := hw.1
    have hw := hw.2
    refine sa_iadd X.1 dL_isSet_415 ?_
    have c53 := hw.1
    have hw := hw.2
    refine ra_110 X hR (okf X.2.2.1 rfl) c53 dL_isSet_416 ?_
    have r54 := hR.r 110 0 ((40 + (2 * (Int.tmod (Int.tdiv p6 4) (M 112 0 1)))) + (Int.tmod y9 2))
    refine lv_istore (lv' := [(11, .int (Int32.ofInt (M 110 0 ((40 + (2 * (Int.tmod (Int.tdiv p6 4) (M 112 0 1)))) + (Int.tmod y9 2))))), (10, .int (Int32.ofInt (Int.tmod (Int.tdiv p6 4) (M 112 0 1)))), (0, .ref (α 10 0)), (2, .ref (α 110 0)), (3, .ref (α 111 0)), (4, .ref (α 112 0)), (5, .int (Int32.ofInt p5)), (6, .int (Int32.ofInt p6)), (7, .int (Int32.ofInt y7)), (8, .int (Int32.ofInt y8)), (9, .int (Int32.ofInt y9))]) X.1.1 X.1.2.1 dL_isSet_417 hl (by decide) rfl (fun ls hl => ?_)
    refine lv_aload_n X.1.1 X.1.2.1 dL_isSet_419 rfl (lv_at hl 3 rfl) ?_
    refine sa_bipush X.1 dL_isSet_420 (by decide) ?_
    refine sa_const X.1 dL_isSet_422 ?_
    refine lv_iload X.1.1 X.1.2.1 dL_isSet_423 (lv_at hl 1 rfl) ?_
    have c55 := hw.1
    have hw := hw.2
    refine sa_imul X.1 dL_isSet_425 ?_
    have c56 := hw.1
    have hw := hw.2
    refine sa_iadd X.1 dL_isSet_426 ?_
    refine lv_iload X.1.1 X.1.2.1 dL_isSet_427 (lv_at hl 10 rfl) ?_
    refine sa_const X.1 dL_isSet_429 ?_
    have r57 := inR_tmod hy9 (inR_c (a := 2) rfl) (by decide)
    refine sa_irem X.1 hy9 (inR_c (a := 2) rfl) (Int.ne_of_gt (by decide)) dL_isSet_430 ?_
    have c58 := hw.1
    have hw := hw.2
    refine sa_iadd X.1 dL_isSet_431 ?_
    refine lv_iload X.1.1 X.1.2.1 dL_isSet_432 (lv_at hl 9 rfl) ?_
    have c59 := hw.1
    have hw := hw.2
    refine wa_110 X hR hS (okf X.2.2.1 rfl) c59 hy8 dL_isSet_434 (fun H locs hR hS => ?_)
    obtain ⟨M60, e61⟩ : ∃ z : Mem, z = up M 110 0 ((40 + (2 * (Int.tmod (Int.tdiv p6 4) (M 112 0 1)))) + (Int.tmod y9 2)) y8 := ⟨_, rfl⟩
    rw [← e61] at hR
    have hw := hw M60 e61
    refine lv_aload_n X.1.1 X.1.2.1 dL_isSet_435 rfl (lv_at hl 2 rfl) ?_
    refine sa_const X.1 dL_isSet_436 ?_
    refine lv_iload X.1.1 X.1.2.1 dL_isSet_437 (lv_at hl 1 rfl) ?_
    refine lv_iload X.1.1 X.1.2.1 dL_isSet_439 (lv_at hl 10 rfl) ?_
    refine sa_const X.1 dL_isSet_441 ?_
    have r62 := inR_tmod hy9 (inR_c (a := 2) rfl) (by decide)
    refine sa_irem X.1 hy9 (inR_c (a := 2) rfl) (Int.ne_of_gt (by decide)) dL_isSet_442 ?_
    refine sa_const X.1 dL_isSet_443 ?_
    have c63 := hw.1
    have hw := hw.2
    refine sa_imul X.1 dL_isSet_444 ?_
    refine lv_iload X.1.1 X.1.2.1 dL_isSet_445 (lv_at hl 9 rfl) ?_
    refine co_X9_border X (inR_c (a := 1) rfl) r48 c63 hy8 (kc := 9) rmX_ok ⟨by show _ ≤ 2; omega, by show _ ≤ 12; omega⟩ (by decide) hR hS kw_1196 hl.1 dL_isSet_447 (Nat.le_of_ble_eq_true rfl) hw (fun x65 M64 H locs hw r66 hR hS => ?_)
    obtain ⟨M67, g68, hw⟩ := hw
    have hR := hR.gh X.2.2.1 g68
    refine lv_iload X.1.1 X.1.2.1 dL_isSet_450 (lv_at hl 0 rfl) ?_
    have r69 := inR_ite (c := ¬ x65 = (M 110 0 ((40 + (2 * (Int.tmod (Int.tdiv p6 4) (M 112 0 1)))) + (Int.tmod y9 2)))) (inR_c (a := 0) rfl) (inR_c (a := 1) rfl)
    refine cut_j (A := ∀ v70 : Int, v70 = (if ¬ x65 = (M 110 0 ((40 + (2 * (Int.tmod (Int.tdiv p6 4) (M 112 0 1)))) + (Int.tmod y9 2))) then (0 : Int) else 1) → WU p l e 9 2 12 s m args below meth c G e0 α0 κ0 B Qm H locs cl sl 460 ls [.int (Int32.ofInt v70)]) (fun J71 => ?_) ?_
    · refine sa_icmp_ne (tgt := 459) X.1 r66 r54 dL_isSet_452 (by decide) (fun hc => ?_) (fun hc => ?_)
      · skip
        refine sa_const X.1 dL_isSet_459 ?_
        exact J71 (0) (if_pos (c := ¬ x65 = (M 110 0 ((40 + (2 * (Int.tmod (Int.tdiv p6 4) (M 112 0 1)))) + (Int.tmod y9 2)))) hc).symm
      · skip
        refine sa_const X.1 dL_isSet_455 ?_
        refine lv_goto (tgt := 460) X.1.1 X.1.2.1 dL_isSet_456 (by decide) ?_
        exact J71 (1) (if_neg (c := ¬ x65 = (M 110 0 ((40 + (2 * (Int.tmod (Int.tdiv p6 4) (M 112 0 1)))) + (Int.tmod y9 2)))) (fun z => z hc)).symm
    intro v70 hv70
    subst hv70
    have c72 := hw.1
    have hw := hw.2
    exact su_zret X hb hR hS c72 hw dL_isSet_460 (by omega) (by omega)
set_option maxHeartbeats 4000000 in
set_option maxRecDepth 100000 in
theorem t_L_isSet_229 {α0 : Ax} {κ0 : Nat → Int} {p5 : Int} {p6 : Int} (X : CX p m c cL_isSet 12 s args RL G B κ meth (some .boolean)) (N : NcA s) (hlt : l.stackTraces = false) (hb : Bk G e0 α κ α0 κ0 B) (hp5 : inR p5) (hp6 : inR p6) {Qm : Int → Mem → Prop} : ∀ y7 : Int, ∀ M : Mem, wp_L_isSet_229 p5 p6 Qm y7 M → inR y7 → ∀ cl sl : Nat, cl + 2 ≤ 2 → sl + 12 ≤ 12 → ∀ (H : Heap) (locs : List Loc), Rp G e0 α κ B M H → va_S (fun q => B ≤ q) s.heap H locs → ∀ (ls : Array Slot), lv_has ls 12 [(0, .ref (α 10 0)), (1, .ref (α 104 0)), (7, .int (Int32.ofInt y7))] → WU p l e 9 2 12 s m args below meth c G e0 α0 κ0 B Qm H locs cl sl 229 ls [] := by
  intro y7 M hw hy7 cl sl hc1 hc2 H locs hR hS ls hl
  have hw : (inR (4 * y7)) ∧ (inR ((4 * y7) + 3)) ∧ (inR (4 * y7)) ∧ (inR ((4 * y7) + 3)) ∧ (0 ≤ ((4 * y7) + 3) ∧ ((4 * y7) + 3) < 16) ∧ (inR (1 - (M 104 0 ((4 * y7) + 3)))) ∧ (0 ≤ ((4 * y7) + 3) ∧ ((4 * y7) + 3) < 16) ∧ ∀ M108 : Mem, M108 = up M 104 0 ((4 * y7) + 3) (1 - (M 104 0 ((4 * y7) + 3))) → wp_L_hid y7 M108 fun (x110 : Int) (M112 : Mem) => ∃ M113 : Mem, Gh M112 M113 ∧ (inR (4 * y7)) ∧ (inR ((4 * y7) + 3)) ∧ (0 ≤ ((4 * y7) + 3) ∧ ((4 * y7) + 3) < 16) ∧ (bit (if ¬ x110 = (M113 104 0 ((4 * y7) + 3)) then (0 : Int) else 1)) ∧ Qm (if ¬ x110 = (M113 104 0 ((4 * y7) + 3)) then (0 : Int) else 1) M113 := hw
  refine sa_const X.1 dL_isSet_229 ?_
  refine lv_goto (tgt := 234) X.1.1 X.1.2.1 dL_isSet_230 (by decide) ?_
  refine lv_istore (lv' := [(8, .int (Int32.ofInt 1)), (0, .ref (α 10 0)), (1, .ref (α 104 0)), (7, .int (Int32.ofInt y7))]) X.1.1 X.1.2.1 dL_isSet_234 hl (by decide) rfl (fun ls hl => ?_)
  refine lv_aload_n X.1.1 X.1.2.1 dL_isSet_236 rfl (lv_at hl 2 rfl) ?_
  refine sa_const X.1 dL_isSet_237 ?_
  refine lv_iload X.1.1 X.1.2.1 dL_isSet_238 (lv_at hl 3 rfl) ?_
  have c100 := hw.1
  have hw := hw.2
  refine sa_imul X.1 dL_isSet_240 ?_
  refine sa_const X.1 dL_isSet_241 ?_
  have c101 := hw.1
  have hw := hw.2
  refine sa_iadd X.1 dL_isSet_242 ?_
  refine lv_iload X.1.1 X.1.2.1 dL_isSet_243 (lv_at hl 0 rfl) ?_
  refine sa_if_eq (tgt := 261) X.1 (inR_c (a := 1) rfl) dL_isSet_245 (by decide) (fun hc => absurd hc (by decide)) (fun hc => ?_)
  refine sa_const X.1 dL_isSet_248 ?_
  refine lv_aload_n X.1.1 X.1.2.1 dL_isSet_249 rfl (lv_at hl 2 rfl) ?_
  refine sa_const X.1 dL_isSet_250 ?_
  refine lv_iload X.1.1 X.1.2.1 dL_isSet_251 (lv_at hl 3 rfl) ?_
  have c102 := hw.1
  have hw := hw.2
  refine sa_imul X.1 dL_isSet_253 ?_
  refine sa_const X.1 dL_isSet_254 ?_
  have c103 := hw.1
  have hw := hw.2
  refine sa_iadd X.1 dL_isSet_255 ?_
  have c104 := hw.1
  have hw := hw.2
  refine ra_104 X hR (okf X.2.2.1 rfl) c104 dL_isSet_256 ?_
  have r105 := hR.r 104 0 ((4 * y7) + 3)
  have c106 := hw.1
  have hw := hw.2
  refine sa_isub X.1 dL_isSet_257 ?_
  refine lv_goto (tgt := 262) X.1.1 X.1.2.1 dL_isSet_258 (by decide) ?_
  have c107 := hw.1
  have hw := hw.2
  refine wa_104 X hR hS (okf X.2.2.1 rfl) c107 c106 dL_isSet_262 (fun H locs hR hS => ?_)
  obtain ⟨M108, e109⟩ : ∃ z : Mem, z = up M 104 0 ((4 * y7) + 3) (1 - (M 104 0 ((4 * y7) + 3))) := ⟨_, rfl⟩
  rw [← e109] at hR
  have hw := hw M108 e109
  refine lv_aload_n X.1.1 X.1.2.1 dL_isSet_263 rfl (lv_at hl 1 rfl) ?_
  refine lv_iload X.1.1 X.1.2.1 dL_isSet_264 (lv_at hl 3 rfl) ?_
  refine sc_call 8 (n := 2) (As := [.ref (α 10 0), .int (Int32.ofInt y7)]) (rest := []) X N hR hS (w_L_hid hlt X.2.2.1 hy7 hw) kw_1182 kw_1183 kw_37 kw_1184 ⟨by decide +kernel, by decide +kernel, by decide +kernel⟩ (rm_ok rmX_ok (by decide) (by decide)) rfl rfl (Nat.le_of_ble_eq_true rfl) hl.1 dL_isSet_266 ⟨by show _ ≤ 2; omega, by show _ ≤ 12; omega⟩ (fun x110 M112 H locs hw r111 hR hS => ?_)
  obtain ⟨M113, g114, hw⟩ := hw
  have hR := hR.gh X.2.2.1 g114
  refine lv_iload X.1.1 X.1.2.1 dL_isSet_269 (lv_at hl 0 rfl) ?_
  refine sa_if_eq (tgt := 285) X.1 (inR_c (a := 1) rfl) dL_isSet_271 (by decide) (fun hc => absurd hc (by decide)) (fun hc => ?_)
  refine lv_aload_n X.1.1 X.1.2.1 dL_isSet_274 rfl (lv_at hl 2 rfl) ?_
  refine sa_const X.1 dL_isSet_275 ?_
  refine lv_iload X.1.1 X.1.2.1 dL_isSet_276 (lv_at hl 3 rfl) ?_
  have c115 := hw.1
  have hw := hw.2
  refine sa_imul X.1 dL_isSet_278 ?_
  refine sa_const X.1 dL_isSet_279 ?_
  have c116 := hw.1
  have hw := hw.2
  refine sa_iadd X.1 dL_isSet_280 ?_
  have c117 := hw.1
  have hw := hw.2
  refine ra_104 X hR (okf X.2.2.1 rfl) c117 dL_isSet_281 ?_
  have r118 := hR.r 104 0 ((4 * y7) + 3)
  refine lv_goto (tgt := 287) X.1.1 X.1.2.1 dL_isSet_282 (by decide) ?_
  have r119 := inR_ite (c := ¬ x110 = (M113 104 0 ((4 * y7) + 3))) (inR_c (a := 0) rfl) (inR_c (a := 1) rfl)
  refine cut_j (A := ∀ v120 : Int, v120 = (if ¬ x110 = (M113 104 0 ((4 * y7) + 3)) then (0 : Int) else 1) → WU p l e 9 2 12 s m args below meth c G e0 α0 κ0 B Qm H locs (cl + 2) (sl + 12) 295 ls [.int (Int32.ofInt v120)]) (fun J121 => ?_) ?_
  · refine sa_icmp_ne (tgt := 294) X.1 r111 r118 dL_isSet_287 (by decide) (fun hc => ?_) (fun hc => ?_)
    · skip
      refine sa_const X.1 dL_isSet_294 ?_
      exact J121 (0) (if_pos (c := ¬ x110 = (M113 104 0 ((4 * y7) + 3))) hc).symm
    · skip
      refine sa_const X.1 dL_isSet_290 ?_
      refine lv_goto (tgt := 295) X.1.1 X.1.2.1 dL_isSet_291 (by decide) ?_
      exact J121 (1) (if_neg (c := ¬ x110 = (M113 104 0 ((4 * y7) + 3))) (fun z => z hc)).symm
  intro v120 hv120
  subst hv120
  have c122 := hw.1
  have hw := hw.2
  exact su_zret X hb hR hS c122 hw dL_isSet_295 (by omega) (by omega)
set_option maxHeartbeats 4000000 in
set_option maxRecDepth 100000 in
theorem t_L_isSet {α0 : Ax} {κ0 : Nat → Int} {p5 : Int} {p6 : Int} (X : CX p m c cL_isSet 12 s args RL G B κ meth (some .boolean)) (N : NcA s) (hlt : l.stackTraces = false) (hb : Bk G e0 α κ α0 κ0 B) (hp5 : inR p5) (hp6 : inR p6) {M : Mem} {Qm : Int → Mem → Prop} (hw : wp_L_isSet p5 p6 M Qm) (cl sl : Nat) (hc1 : cl + 2 ≤ 2) (hc2 : sl + 12 ≤ 12) (H : Heap) (locs : List Loc) (hR : Rp G e0 α κ B M H) (hS : va_S (fun q => B ≤ q) s.heap H locs) (ls : Array Slot) (hl : lv_has ls 12 [(0, .ref (α 10 0)), (1, .ref (α 104 0)), (2, .ref (α 110 0)), (3, .ref (α 111 0)), (4, .ref (α 112 0)), (5, .int (Int32.ofInt p5)), (6, .int (Int32.ofInt p6))]) : WU p l e 9 2 12 s m args below meth c G e0 α0 κ0 B Qm H locs cl sl 0 ls [] := by
  have hw : ((¬ p5 = 0 → (0 < (M 112 0 0)) ∧ ((¬ p5 = 1 → ((4 ≤ p5 → ((6 ≤ p5 → ((¬ p5 = 6 → wp_L_isSet_385 p5 p6 Qm (Int.tmod p6 (M 112 0 0)) (Int.tmod (Int.tdiv p6 50) 6) (Int.tmod (Int.tdiv p6 300) 4) M) ∧ (p5 = 6 → (((M 112 0 2) ≤ 0 → wp_L_isSet_385 p5 p6 Qm (Int.tmod p6 (M 112 0 0)) (Int.tmod (Int.tdiv p6 50) 6) (Int.tmod (Int.tdiv p6 300) 4) M) ∧ (0 < (M 112 0 2) → (0 < (M 112 0 2)) ∧ (inR (4 * (Int.tmod (Int.tdiv p6 4) (M 112 0 2)))) ∧ (inR ((4 * (Int.tmod (Int.tdiv p6 4) (M 112 0 2))) + (Int.tmod (Int.tdiv p6 300) 4))) ∧ (0 ≤ ((4 * (Int.tmod (Int.tdiv p6 4) (M 112 0 2))) + (Int.tmod (Int.tdiv p6 300) 4)) ∧ ((4 * (Int.tmod (Int.tdiv p6 4) (M 112 0 2))) + (Int.tmod (Int.tdiv p6 300) 4)) < 60) ∧ (inR (4 * (Int.tmod (Int.tdiv p6 4) (M 112 0 2)))) ∧ (inR ((4 * (Int.tmod (Int.tdiv p6 4) (M 112 0 2))) + (Int.tmod (Int.tdiv p6 300) 4))) ∧ (0 ≤ ((4 * (Int.tmod (Int.tdiv p6 4) (M 112 0 2))) + (Int.tmod (Int.tdiv p6 300) 4)) ∧ ((4 * (Int.tmod (Int.tdiv p6 4) (M 112 0 2))) + (Int.tmod (Int.tdiv p6 300) 4)) < 60) ∧ ∀ M85 : Mem, M85 = up M 110 0 ((4 * (Int.tmod (Int.tdiv p6 4) (M 112 0 2))) + (Int.tmod (Int.tdiv p6 300) 4)) (Int.tmod (Int.tdiv p6 50) 6) → wo_X9_border 0 (Int.tmod (Int.tdiv p6 4) (M 112 0 2)) (Int.tmod (Int.tdiv p6 300) 4) (Int.tmod (Int.tdiv p6 50) 6) M85 fun (x88 : Int) (M87 : Mem) => ∃ M90 : Mem, Gh M87 M90 ∧ (bit (if ¬ x88 = (M 110 0 ((4 * (Int.tmod (Int.tdiv p6 4) (M 112 0 2))) + (Int.tmod (Int.tdiv p6 300) 4))) then (0 : Int) else 1)) ∧ Qm (if ¬ x88 = (M 110 0 ((4 * (Int.tmod (Int.tdiv p6 4) (M 112 0 2))) + (Int.tmod (Int.tdiv p6 300) 4))) then (0 : Int) else 1) M90))))) ∧ (p5 < 6 → (inR (4 * (Int.tmod p6 (M 112 0 0)))) ∧ (inR ((4 * (Int.tmod p6 (M 112 0 0))) + 3)) ∧ (0 ≤ ((4 * (Int.tmod p6 (M 112 0 0))) + 3) ∧ ((4 * (Int.tmod p6 (M 112 0 0))) + 3) < 16) ∧ (((M 104 0 ((4 * (Int.tmod p6 (M 112 0 0))) + 3)) = 1 → wp_L_isSet_229 p5 p6 Qm (Int.tmod p6 (M 112 0 0)) M) ∧ (¬ (M 104 0 ((4 * (Int.tmod p6 (M 112 0 0))) + 3)) = 1 → wp_L_visible M fun (x124 : Int) (M123 : Mem) => (inR (4 * (Int.tmod p6 (M 112 0 0)))) ∧ (inR ((4 * (Int.tmod p6 (M 112 0 0))) + 3)) ∧ (¬ (if x124 ≤ 1 then (0 : Int) else 1) = 0 → (inR (4 * (Int.tmod p6 (M 112 0 0)))) ∧ (inR ((4 * (Int.tmod p6 (M 112 0 0))) + 3)) ∧ (0 ≤ ((4 * (Int.tmod p6 (M 112 0 0))) + 3) ∧ ((4 * (Int.tmod p6 (M 112 0 0))) + 3) < 16) ∧ (inR (1 - (M123 104 0 ((4 * (Int.tmod p6 (M 112 0 0))) + 3)))) ∧ True) ∧ (inR (if (if x124 ≤ 1 then (0 : Int) else 1) = 0 then (0 : Int) else (1 - (M123 104 0 ((4 * (Int.tmod p6 (M 112 0 0))) + 3))))) ∧ (0 ≤ ((4 * (Int.tmod p6 (M 112 0 0))) + 3) ∧ ((4 * (Int.tmod p6 (M 112 0 0))) + 3) < 16) ∧ ∀ M140 : Mem, M140 = up M123 104 0 ((4 * (Int.tmod p6 (M 112 0 0))) + 3) (if (if x124 ≤ 1 then (0 : Int) else 1) = 0 then (0 : Int) else (1 - (M123 104 0 ((4 * (Int.tmod p6 (M 112 0 0))) + 3)))) → wp_L_hid (Int.tmod p6 (M 112 0 0)) M140 fun (x142 : Int) (M144 : Mem) => ∃ M145 : Mem, Gh M144 M145 ∧ (¬ (if x124 ≤ 1 then (0 : Int) else 1) = 0 → (inR (4 * (Int.tmod p6 (M 112 0 0)))) ∧ (inR ((4 * (Int.tmod p6 (M 112 0 0))) + 3)) ∧ (0 ≤ ((4 * (Int.tmod p6 (M 112 0 0))) + 3) ∧ ((4 * (Int.tmod p6 (M 112 0 0))) + 3) < 16) ∧ True) ∧ (bit (if ¬ x142 = (if (if x124 ≤ 1 then (0 : Int) else 1) = 0 then ((-7) : Int) else (M145 104 0 ((4 * (Int.tmod p6 (M 112 0 0))) + 3))) then (0 : Int) else 1)) ∧ Qm (if ¬ x142 = (if (if x124 ≤ 1 then (0 : Int) else 1) = 0 then ((-7) : Int) else (M145 104 0 ((4 * (Int.tmod p6 (M 112 0 0))) + 3))) then (0 : Int) else 1) M145))))) ∧ (p5 < 4 → (inR (4 * (Int.tmod p6 (M 112 0 0)))) ∧ (inR ((4 * (Int.tmod p6 (M 112 0 0))) + 2)) ∧ (inR (4 * (Int.tmod p6 (M 112 0 0)))) ∧ (inR ((4 * (Int.tmod p6 (M 112 0 0))) + 2)) ∧ (0 ≤ ((4 * (Int.tmod p6 (M 112 0 0))) + 2) ∧ ((4 * (Int.tmod p6 (M 112 0 0))) + 2) < 16) ∧ (inR (1 - (M 104 0 ((4 * (Int.tmod p6 (M 112 0 0))) + 2)))) ∧ (0 ≤ ((4 * (Int.tmod p6 (M 112 0 0))) + 2) ∧ ((4 * (Int.tmod p6 (M 112 0 0))) + 2) < 16) ∧ ∀ M166 : Mem, M166 = up M 104 0 ((4 * (Int.tmod p6 (M 112 0 0))) + 2) (1 - (M 104 0 ((4 * (Int.tmod p6 (M 112 0 0))) + 2))) → wo_X9_totalled (Int.tmod p6 (M 112 0 0)) M166 fun (x169 : Int) (M168 : Mem) => ∃ M171 : Mem, Gh M168 M171 ∧ (inR (4 * (Int.tmod p6 (M 112 0 0)))) ∧ (inR ((4 * (Int.tmod p6 (M 112 0 0))) + 2)) ∧ (0 ≤ ((4 * (Int.tmod p6 (M 112 0 0))) + 2) ∧ ((4 * (Int.tmod p6 (M 112 0 0))) + 2) < 16) ∧ (bit (if ¬ x169 = (if ¬ (M171 104 0 ((4 * (Int.tmod p6 (M 112 0 0))) + 2)) = 1 then (0 : Int) else 1) then (0 : Int) else 1)) ∧ Qm (if ¬ x169 = (if ¬ (M171 104 0 ((4 * (Int.tmod p6 (M 112 0 0))) + 2)) = 1 then (0 : Int) else 1) then (0 : Int) else 1) M171))) ∧ (p5 = 1 → (inR (1 - (M 112 0 5))) ∧ ∀ M186 : Mem, M186 = up M 112 0 5 (1 - (M 112 0 5)) → wp_X9_notesAtEnd M186 fun (x189 : Int) (M188 : Mem) => ∃ M191 : Mem, Gh M188 M191 ∧ (bit (if ¬ x189 = (if ¬ (M191 112 0 5) = 1 then (0 : Int) else 1) then (0 : Int) else 1)) ∧ Qm (if ¬ x189 = (if ¬ (M191 112 0 5) = 1 then (0 : Int) else 1) then (0 : Int) else 1) M191))) ∧ (p5 = 0 → (¬ (Int.tmod p6 3) = 0 → (inR (10 + (Int.tmod (Int.tdiv p6 3) 60))) ∧ True) ∧ ((Int.tmod p6 3) = 0 → (inR (1 + (Int.tmod (Int.tdiv p6 3) 150))) ∧ True) ∧ (inR (if ¬ (Int.tmod p6 3) = 0 then (10 + (Int.tmod (Int.tdiv p6 3) 60)) else (1 + (Int.tmod (Int.tdiv p6 3) 150)))) ∧ ∀ M209 : Mem, M209 = up M 112 0 3 (if ¬ (Int.tmod p6 3) = 0 then (10 + (Int.tmod (Int.tdiv p6 3) 60)) else (1 + (Int.tmod (Int.tdiv p6 3) 150))) → (¬ (Int.tmod (Int.tdiv p6 450) 3) = 0 → (inR (3 + (Int.tmod (Int.tdiv p6 1350) 12))) ∧ True) ∧ ((Int.tmod (Int.tdiv p6 450) 3) = 0 → (inR (1 + (Int.tmod (Int.tdiv p6 1350) 100))) ∧ True) ∧ (inR (if ¬ (Int.tmod (Int.tdiv p6 450) 3) = 0 then (3 + (Int.tmod (Int.tdiv p6 1350) 12)) else (1 + (Int.tmod (Int.tdiv p6 1350) 100)))) ∧ ∀ M220 : Mem, M220 = up M209 112 0 4 (if ¬ (Int.tmod (Int.tdiv p6 450) 3) = 0 then (3 + (Int.tmod (Int.tdiv p6 1350) 12)) else (1 + (Int.tmod (Int.tdiv p6 1350) 100))) → wo_X9_setPaper (M220 112 0 3) (M220 112 0 4) M220 fun (M224 : Mem) => ∃ M225 : Mem, Gh M224 M225 ∧ Qm 1 M225)) := hw
  refine lv_iload X.1.1 X.1.2.1 dL_isSet_0 (lv_at hl 5 rfl) ?_
  refine sa_if_ne (tgt := 93) X.1 hp5 dL_isSet_2 (by decide) (fun hc => ?_) (fun hc => ?_)
  · have hw := hw.1 hc
    refine lv_iload X.1.1 X.1.2.1 dL_isSet_93 (lv_at hl 6 rfl) ?_
    refine lv_aload X.1.1 X.1.2.1 dL_isSet_95 (lv_at hl 4 rfl) ?_
    refine sa_const X.1 dL_isSet_97 ?_
    refine ra_112 X hR (okf X.2.2.1 rfl) ⟨by decide, by decide⟩ dL_isSet_98 ?_
    have r1 := hR.r 112 0 0
    have c2 := hw.1
    have hw := hw.2
    have r3 := inR_tmod hp6 r1 c2
    refine sa_irem X.1 hp6 r1 (Int.ne_of_gt c2) dL_isSet_99 ?_
    refine lv_istore (lv' := [(7, .int (Int32.ofInt (Int.tmod p6 (M 112 0 0)))), (0, .ref (α 10 0)), (1, .ref (α 104 0)), (2, .ref (α 110 0)), (3, .ref (α 111 0)), (4, .ref (α 112 0)), (5, .int (Int32.ofInt p5)), (6, .int (Int32.ofInt p6))]) X.1.1 X.1.2.1 dL_isSet_100 hl (by decide) rfl (fun ls hl => ?_)
    refine lv_iload X.1.1 X.1.2.1 dL_isSet_102 (lv_at hl 6 rfl) ?_
    refine sa_const X.1 dL_isSet_104 ?_
    refine sa_icmp_ne (tgt := 144) X.1 hp5 (inR_c (a := 1) rfl) dL_isSet_105 (by decide) (fun hc => ?_) (fun hc => ?_)
    · have hw := hw.1 hc
      refine lv_iload X.1.1 X.1.2.1 dL_isSet_144 (lv_at hl 6 rfl) ?_
      refine sa_const X.1 dL_isSet_146 ?_
      refine sa_icmp_ge (tgt := 200) X.1 hp5 (inR_c (a := 4) rfl) dL_isSet_147 (by decide) (fun hc => ?_) (fun hc => ?_)
      · have hw := hw.1 hc
        refine lv_iload X.1.1 X.1.2.1 dL_isSet_200 (lv_at hl 6 rfl) ?_
        refine sa_bipush X.1 dL_isSet_202 (by decide) ?_
        refine sa_icmp_ge (tgt := 296) X.1 hp5 (inR_c (a := 6) rfl) dL_isSet_204 (by decide) (fun hc => ?_) (fun hc => ?_)
        · have hw := hw.1 hc
          refine lv_iload X.1.1 X.1.2.1 dL_isSet_296 (lv_at hl 7 rfl) ?_
          refine sa_bipush X.1 dL_isSet_298 (by decide) ?_
          have r4 := inR_tdiv hp6 (inR_c (a := 50) rfl) (by decide)
          refine sa_idiv X.1 hp6 (inR_c (a := 50) rfl) (Int.ne_of_gt (by decide)) dL_isSet_300 ?_
          refine sa_bipush X.1 dL_isSet_301 (by decide) ?_
          have r5 := inR_tmod r4 (inR_c (a := 6) rfl) (by decide)
          refine sa_irem X.1 r4 (inR_c (a := 6) rfl) (Int.ne_of_gt (by decide)) dL_isSet_303 ?_
          refine lv_istore (lv' := [(8, .int (Int32.ofInt (Int.tmod (Int.tdiv p6 50) 6))), (7, .int (Int32.ofInt (Int.tmod p6 (M 112 0 0)))), (0, .ref (α 10 0)), (1, .ref (α 104 0)), (2, .ref (α 110 0)), (3, .ref (α 111 0)), (4, .ref (α 112 0)), (5, .int (Int32.ofInt p5)), (6, .int (Int32.ofInt p6))]) X.1.1 X.1.2.1 dL_isSet_304 hl (by decide) rfl (fun ls hl => ?_)
          refine lv_iload X.1.1 X.1.2.1 dL_isSet_306 (lv_at hl 8 rfl) ?_
          refine sa_sipush X.1 dL_isSet_308 (by decide) ?_
          have r6 := inR_tdiv hp6 (inR_c (a := 300) rfl) (by decide)
          refine sa_idiv X.1 hp6 (inR_c (a := 300) rfl) (Int.ne_of_gt (by decide)) dL_isSet_311 ?_
          refine sa_const X.1 dL_isSet_312 ?_
          have r7 := inR_tmod r6 (inR_c (a := 4) rfl) (by decide)
          refine sa_irem X.1 r6 (inR_c (a := 4) rfl) (Int.ne_of_gt (by decide)) dL_isSet_313 ?_
          refine lv_istore (lv' := [(9, .int (Int32.ofInt (Int.tmod (Int.tdiv p6 300) 4))), (8, .int (Int32.ofInt (Int.tmod (Int.tdiv p6 50) 6))), (7, .int (Int32.ofInt (Int.tmod p6 (M 112 0 0)))), (0, .ref (α 10 0)), (1, .ref (α 104 0)), (2, .ref (α 110 0)), (3, .ref (α 111 0)), (4, .ref (α 112 0)), (5, .int (Int32.ofInt p5)), (6, .int (Int32.ofInt p6))]) X.1.1 X.1.2.1 dL_isSet_314 hl (by decide) rfl (fun ls hl => ?_)
          refine lv_iload X.1.1 X.1.2.1 dL_isSet_316 (lv_at hl 8 rfl) ?_
          refine sa_bipush X.1 dL_isSet_318 (by decide) ?_
          refine sa_icmp_ne (tgt := 385) X.1 hp5 (inR_c (a := 6) rfl) dL_isSet_320 (by decide) (fun hc => ?_) (fun hc => ?_)
          · have hw := hw.1 hc
            exact t_L_isSet_385 X N hlt hb hp5 hp6 _ _ _ _ hw r3 r5 r7 _ _ (by omega) (by omega) _ _ hR hS _ (lv_sub hl [3, 5, 6, 7, 8, 9, 2, 1, 0] rfl)
          · have hw := hw.2 hc
            refine lv_aload X.1.1 X.1.2.1 dL_isSet_323 (lv_at hl 7 rfl) ?_
            refine sa_const X.1 dL_isSet_325 ?_
            refine ra_112 X hR (okf X.2.2.1 rfl) ⟨by decide, by decide⟩ dL_isSet_326 ?_
            have r73 := hR.r 112 0 2
            refine sa_if_le (tgt := 385) X.1 r73 dL_isSet_327 (by decide) (fun hc => ?_) (fun hc => ?_)
            · have hw := hw.1 hc
              exact t_L_isSet_385 X N hlt hb hp5 hp6 _ _ _ _ hw r3 r5 r7 _ _ (by omega) (by omega) _ _ hR hS _ (lv_sub hl [3, 5, 6, 7, 8, 9, 2, 1, 0] rfl)
            · have hw := hw.2 hc
              refine lv_iload X.1.1 X.1.2.1 dL_isSet_330 (lv_at hl 9 rfl) ?_
              refine sa_const X.1 dL_isSet_332 ?_
              have r74 := inR_tdiv hp6 (inR_c (a := 4) rfl) (by decide)
              refine sa_idiv X.1 hp6 (inR_c (a := 4) rfl) (Int.ne_of_gt (by decide)) dL_isSet_333 ?_
              refine lv_aload X.1.1 X.1.2.1 dL_isSet_334 (lv_at hl 7 rfl) ?_
              refine sa_const X.1 dL_isSet_336 ?_
              refine ra_112 X hR (okf X.2.2.1 rfl) ⟨by decide, by decide⟩ dL_isSet_337 ?_
              have r75 := hR.r 112 0 2
              have c76 := hw.1
              have hw := hw.2
              have r77 := inR_tmod r74 r75 c76
              refine sa_irem X.1 r74 r75 (Int.ne_of_gt c76) dL_isSet_338 ?_
              refine lv_istore (lv' := [(10, .int (Int32.ofInt (Int.tmod (Int.tdiv p6 4) (M 112 0 2)))), (9, .int (Int32.ofInt (Int.tmod (Int.tdiv p6 300) 4))), (8, .int (Int32.ofInt (Int.tmod (Int.tdiv p6 50) 6))), (7, .int (Int32.ofInt (Int.tmod p6 (M 112 0 0)))), (0, .ref (α 10 0)), (1, .ref (α 104 0)), (2, .ref (α 110 0)), (3, .ref (α 111 0)), (4, .ref (α 112 0)), (5, .int (Int32.ofInt p5)), (6, .int (Int32.ofInt p6))]) X.1.1 X.1.2.1 dL_isSet_339 hl (by decide) rfl (fun ls hl => ?_)
              refine lv_aload_n X.1.1 X.1.2.1 dL_isSet_341 rfl (lv_at hl 6 rfl) ?_
              refine sa_const X.1 dL_isSet_342 ?_
              refine lv_iload X.1.1 X.1.2.1 dL_isSet_343 (lv_at hl 0 rfl) ?_
              have c78 := hw.1
              have hw := hw.2
              refine sa_imul X.1 dL_isSet_345 ?_
              refine lv_iload X.1.1 X.1.2.1 dL_isSet_346 (lv_at hl 1 rfl) ?_
              have c79 := hw.1
              have hw := hw.2
              refine sa_iadd X.1 dL_isSet_348 ?_
              have c80 := hw.1
              have hw := hw.2
              refine ra_110 X hR (okf X.2.2.1 rfl) c80 dL_isSet_349 ?_
              have r81 := hR.r 110 0 ((4 * (Int.tmod (Int.tdiv p6 4) (M 112 0 2))) + (Int.tmod (Int.tdiv p6 300) 4))
              refine lv_istore (lv' := [(11, .int (Int32.ofInt (M 110 0 ((4 * (Int.tmod (Int.tdiv p6 4) (M 112 0 2))) + (Int.tmod (Int.tdiv p6 300) 4))))), (10, .int (Int32.ofInt (Int.tmod (Int.tdiv p6 4) (M 112 0 2)))), (9, .int (Int32.ofInt (Int.tmod (Int.tdiv p6 300) 4))), (8, .int (Int32.ofInt (Int.tmod (Int.tdiv p6 50) 6))), (7, .int (Int32.ofInt (Int.tmod p6 (M 112 0 0)))), (0, .ref (α 10 0)), (1, .ref (α 104 0)), (2, .ref (α 110 0)), (3, .ref (α 111 0)), (4, .ref (α 112 0)), (5, .int (Int32.ofInt p5)), (6, .int (Int32.ofInt p6))]) X.1.1 X.1.2.1 dL_isSet_350 hl (by decide) rfl (fun ls hl => ?_)
              refine lv_aload_n X.1.1 X.1.2.1 dL_isSet_352 rfl (lv_at hl 7 rfl) ?_
              refine sa_const X.1 dL_isSet_353 ?_
              refine lv_iload X.1.1 X.1.2.1 dL_isSet_354 (lv_at hl 1 rfl) ?_
              have c82 := hw.1
              have hw := hw.2
              refine sa_imul X.1 dL_isSet_356 ?_
              refine lv_iload X.1.1 X.1.2.1 dL_isSet_357 (lv_at hl 2 rfl) ?_
              have c83 := hw.1
              have hw := hw.2
              refine sa_iadd X.1 dL_isSet_359 ?_
              refine lv_iload X.1.1 X.1.2.1 dL_isSet_360 (lv_at hl 3 rfl) ?_
              have c84 := hw.1
              have hw := hw.2
              refine wa_110 X hR hS (okf X.2.2.1 rfl) c84 r5 dL_isSet_362 (fun H locs hR hS => ?_)
              obtain ⟨M85, e86⟩ : ∃ z : Mem, z = up M 110 0 ((4 * (Int.tmod (Int.tdiv p6 4) (M 112 0 2))) + (Int.tmod (Int.tdiv p6 300) 4)) (Int.tmod (Int.tdiv p6 50) 6) := ⟨_, rfl⟩
              rw [← e86] at hR
              have hw := hw M85 e86
              refine lv_aload_n X.1.1 X.1.2.1 dL_isSet_363 rfl (lv_at hl 5 rfl) ?_
              refine sa_const X.1 dL_isSet_364 ?_
              refine lv_iload X.1.1 X.1.2.1 dL_isSet_365 (lv_at hl 1 rfl) ?_
              refine lv_iload X.1.1 X.1.2.1 dL_isSet_367 (lv_at hl 2 rfl) ?_
              refine lv_iload X.1.1 X.1.2.1 dL_isSet_369 (lv_at hl 3 rfl) ?_
              refine co_X9_border X (inR_c (a := 0) rfl) r77 r7 r5 (kc := 9) rmX_ok ⟨by show _ ≤ 2; omega, by show _ ≤ 12; omega⟩ (by decide) hR hS kw_1196 hl.1 dL_isSet_371 (Nat.le_of_ble_eq_true rfl) hw (fun x88 M87 H locs hw r89 hR hS => ?_)
              obtain ⟨M90, g91, hw⟩ := hw
              have hR := hR.gh X.2.2.1 g91
              refine lv_iload X.1.1 X.1.2.1 dL_isSet_374 (lv_at hl 0 rfl) ?_
              have r92 := inR_ite (c := ¬ x88 = (M 110 0 ((4 * (Int.tmod (Int.tdiv p6 4) (M 112 0 2))) + (Int.tmod (Int.tdiv p6 300) 4)))) (inR_c (a := 0) rfl) (inR_c (a := 1) rfl)
              refine cut_j (A := ∀ v93 : Int, v93 = (if ¬ x88 = (M 110 0 ((4 * (Int.tmod (Int.tdiv p6 4) (M 112 0 2))) + (Int.tmod (Int.tdiv p6 300) 4))) then (0 : Int) else 1) → WU p l e 9 2 12 s m args below meth c G e0 α0 κ0 B Qm H locs cl sl 384 ls [.int (Int32.ofInt v93)]) (fun J94 => ?_) ?_
              · refine sa_icmp_ne (tgt := 383) X.1 r89 r81 dL_isSet_376 (by decide) (fun hc => ?_) (fun hc => ?_)
                · skip
                  refine sa_const X.1 dL_isSet_383 ?_
                  exact J94 (0) (if_pos (c := ¬ x88 = (M 110 0 ((4 * (Int.tmod (Int.tdiv p6 4) (M 112 0 2))) + (Int.tmod (Int.tdiv p6 300) 4)))) hc).symm
                · skip
                  refine sa_const X.1 dL_isSet_379 ?_
                  refine lv_goto (tgt := 384) X.1.1 X.1.2.1 dL_isSet_380 (by decide) ?_
                  exact J94 (1) (if_neg (c := ¬ x88 = (M 110 0 ((4 * (Int.tmod (Int.tdiv p6 4) (M 112 0 2))) + (Int.tmod (Int.tdiv p6 300) 4)))) (fun z => z hc)).symm
              intro v93 hv93
              subst hv93
              have c95 := hw.1
              have hw := hw.2
              exact su_zret X hb hR hS c95 hw dL_isSet_384 (by omega) (by omega)
        · have hw := hw.2 hc
          refine lv_aload_n X.1.1 X.1.2.1 dL_isSet_207 rfl (lv_at hl 2 rfl) ?_
          refine sa_const X.1 dL_isSet_208 ?_
          refine lv_iload X.1.1 X.1.2.1 dL_isSet_209 (lv_at hl 0 rfl) ?_
          have c96 := hw.1
          have hw := hw.2
          refine sa_imul X.1 dL_isSet_211 ?_
          refine sa_const X.1 dL_isSet_212 ?_
          have c97 := hw.1
          have hw := hw.2
          refine sa_iadd X.1 dL_isSet_213 ?_
          have c98 := hw.1
          have hw := hw.2
          refine ra_104 X hR (okf X.2.2.1 rfl) c98 dL_isSet_214 ?_
          have r99 := hR.r 104 0 ((4 * (Int.tmod p6 (M 112 0 0))) + 3)
          refine sa_const X.1 dL_isSet_215 ?_
          refine sa_icmp_eq (tgt := 229) X.1 r99 (inR_c (a := 1) rfl) dL_isSet_216 (by decide) (fun hc => ?_) (fun hc => ?_)
          · have hw := hw.1 hc
            exact t_L_isSet_229 X N hlt hb hp5 hp6 _ _ hw r3 _ _ (by omega) (by omega) _ _ hR hS _ (lv_sub hl [1, 2, 0] rfl)
          · have hw := hw.2 hc
            refine lv_aload_n X.1.1 X.1.2.1 dL_isSet_219 rfl (lv_at hl 2 rfl) ?_
            refine lv_aload X.1.1 X.1.2.1 dL_isSet_220 (lv_at hl 5 rfl) ?_
            refine cs_L_visible X  (kc := 9) rmX_ok ⟨by show _ ≤ 2; omega, by show _ ≤ 12; omega⟩ (by decide) hR hS kw_1179 hl.1 dL_isSet_222 (Nat.le_of_ble_eq_true rfl) hw (fun x124 M123 H locs hw r125 hR hS => ?_)
            refine sa_const X.1 dL_isSet_225 ?_
            have r126 := inR_ite (c := x124 ≤ 1) (inR_c (a := 0) rfl) (inR_c (a := 1) rfl)
            refine cut_j (A := ∀ v127 : Int, v127 = (if x124 ≤ 1 then (0 : Int) else 1) → WU p l e 9 2 12 s m args below meth c G e0 α0 κ0 B Qm H locs cl sl 234 ls [.int (Int32.ofInt v127)]) (fun J128 => ?_) ?_
            · refine sa_icmp_le (tgt := 233) X.1 r125 (inR_c (a := 1) rfl) dL_isSet_226 (by decide) (fun hc => ?_) (fun hc => ?_)
              · skip
                refine sa_const X.1 dL_isSet_233 ?_
                exact J128 (0) (if_pos (c := x124 ≤ 1) hc).symm
              · skip
                refine sa_const X.1 dL_isSet_229 ?_
                refine lv_goto (tgt := 234) X.1.1 X.1.2.1 dL_isSet_230 (by decide) ?_
                exact J128 (1) (if_neg (c := x124 ≤ 1) (Int.not_le.mpr hc)).symm
            intro v127 hv127
            subst hv127
            refine lv_istore (lv' := [(8, .int (Int32.ofInt (if x124 ≤ 1 then (0 : Int) else 1))), (7, .int (Int32.ofInt (Int.tmod p6 (M 112 0 0)))), (0, .ref (α 10 0)), (1, .ref (α 104 0)), (2, .ref (α 110 0)), (3, .ref (α 111 0)), (4, .ref (α 112 0)), (5, .int (Int32.ofInt p5)), (6, .int (Int32.ofInt p6))]) X.1.1 X.1.2.1 dL_isSet_234 hl (by decide) rfl (fun ls hl => ?_)
            refine lv_aload_n X.1.1 X.1.2.1 dL_isSet_236 rfl (lv_at hl 3 rfl) ?_
            refine sa_const X.1 dL_isSet_237 ?_
            refine lv_iload X.1.1 X.1.2.1 dL_isSet_238 (lv_at hl 1 rfl) ?_
            have c129 := hw.1
            have hw := hw.2
            refine sa_imul X.1 dL_isSet_240 ?_
            refine sa_const X.1 dL_isSet_241 ?_
            have c130 := hw.1
            have hw := hw.2
            refine sa_iadd X.1 dL_isSet_242 ?_
            refine lv_iload X.1.1 X.1.2.1 dL_isSet_243 (lv_at hl 0 rfl) ?_
            have s135 := hw.1
            have hw := hw.2
            have c136 := hw.1
            have hw := hw.2
            refine cut_j (A := ∀ v137 : Int, v137 = (if (if x124 ≤ 1 then (0 : Int) else 1) = 0 then (0 : Int) else (1 - (M123 104 0 ((4 * (Int.tmod p6 (M 112 0 0))) + 3)))) → WU p l e 9 2 12 s m args below meth c G e0 α0 κ0 B Qm H locs cl sl 262 ls [.int (Int32.ofInt v137), .int (Int32.ofInt ((4 * (Int.tmod p6 (M 112 0 0))) + 3)), .ref (α 104 0)]) (fun J138 => ?_) ?_
            · refine sa_if_eq (tgt := 261) X.1 r126 dL_isSet_245 (by decide) (fun hc => ?_) (fun hc => ?_)
              · skip
                refine sa_const X.1 dL_isSet_261 ?_
                exact J138 (0) (if_pos (c := (if x124 ≤ 1 then (0 : Int) else 1) = 0) hc).symm
              · have hw := s135 hc
                refine sa_const X.1 dL_isSet_248 ?_
                refine lv_aload_n X.1.1 X.1.2.1 dL_isSet_249 rfl (lv_at hl 3 rfl) ?_
                refine sa_const X.1 dL_isSet_250 ?_
                refine lv_iload X.1.1 X.1.2.1 dL_isSet_251 (lv_at hl 1 rfl) ?_
                have c131 := hw.1
                have hw := hw.2
                refine sa_imul X.1 dL_isSet_253 ?_
                refine sa_const X.1 dL_isSet_254 ?_
                have c132 := hw.1
                have hw := hw.2
                refine sa_iadd X.1 dL_isSet_255 ?_
                have c133 := hw.1
                have hw := hw.2
                refine ra_104 X hR (okf X.2.2.1 rfl) c133 dL_isSet_256 ?_
                have c134 := hw.1
                have hw := hw.2
                refine sa_isub X.1 dL_isSet_257 ?_
                refine lv_goto (tgt := 262) X.1.1 X.1.2.1 dL_isSet_258 (by decide) ?_
                exact J138 ((1 - (M123 104 0 ((4 * (Int.tmod p6 (M 112 0 0))) + 3)))) (if_neg (c := (if x124 ≤ 1 then (0 : Int) else 1) = 0) hc).symm
            intro v137 hv137
            subst hv137
            have c139 := hw.1
            have hw := hw.2
            refine wa_104 X hR hS (okf X.2.2.1 rfl) c139 c136 dL_isSet_262 (fun H locs hR hS => ?_)
            obtain ⟨M140, e141⟩ : ∃ z : Mem, z = up M123 104 0 ((4 * (Int.tmod p6 (M 112 0 0))) + 3) (if (if x124 ≤ 1 then (0 : Int) else 1) = 0 then (0 : Int) else (1 - (M123 104 0 ((4 * (Int.tmod p6 (M 112 0 0))) + 3)))) := ⟨_, rfl⟩
            rw [← e141] at hR
            have hw := hw M140 e141
            refine lv_aload_n X.1.1 X.1.2.1 dL_isSet_263 rfl (lv_at hl 2 rfl) ?_
            refine lv_iload X.1.1 X.1.2.1 dL_isSet_264 (lv_at hl 1 rfl) ?_
            refine sc_call 8 (n := 2) (As := [.ref (α 10 0), .int (Int32.ofInt (Int.tmod p6 (M 112 0 0)))]) (rest := []) X N hR hS (w_L_hid hlt X.2.2.1 r3 hw) kw_1182 kw_1183 kw_37 kw_1184 ⟨by decide +kernel, by decide +kernel, by decide +kernel⟩ (rm_ok rmX_ok (by decide) (by decide)) rfl rfl (Nat.le_of_ble_eq_true rfl) hl.1 dL_isSet_266 ⟨by show _ ≤ 2; omega, by show _ ≤ 12; omega⟩ (fun x142 M144 H locs hw r143 hR hS => ?_)
            obtain ⟨M145, g146, hw⟩ := hw
            have hR := hR.gh X.2.2.1 g146
            refine lv_iload X.1.1 X.1.2.1 dL_isSet_269 (lv_at hl 0 rfl) ?_
            have s150 := hw.1
            have hw := hw.2
            have r151 := inR_ite (c := (if x124 ≤ 1 then (0 : Int) else 1) = 0) (inR_c (a := -7) rfl) (hR.r 104 0 ((4 * (Int.tmod p6 (M 112 0 0))) + 3))
            refine cut_j (A := ∀ v152 : Int, v152 = (if (if x124 ≤ 1 then (0 : Int) else 1) = 0 then ((-7) : Int) else (M145 104 0 ((4 * (Int.tmod p6 (M 112 0 0))) + 3))) → WU p l e 9 2 12 s m args below meth c G e0 α0 κ0 B Qm H locs (cl + 2) (sl + 12) 287 ls [.int (Int32.ofInt v152), .int (Int32.ofInt x142)]) (fun J153 => ?_) ?_
            · refine sa_if_eq (tgt := 285) X.1 r126 dL_isSet_271 (by decide) (fun hc => ?_) (fun hc => ?_)
              · skip
                refine sa_bipush X.1 dL_isSet_285 (by decide) ?_
                exact J153 ((-7)) (if_pos (c := (if x124 ≤ 1 then (0 : Int) else 1) = 0) hc).symm
              · have hw := s150 hc
                refine lv_aload_n X.1.1 X.1.2.1 dL_isSet_274 rfl (lv_at hl 3 rfl) ?_
                refine sa_const X.1 dL_isSet_275 ?_
                refine lv_iload X.1.1 X.1.2.1 dL_isSet_276 (lv_at hl 1 rfl) ?_
                have c147 := hw.1
                have hw := hw.2
                refine sa_imul X.1 dL_isSet_278 ?_
                refine sa_const X.1 dL_isSet_279 ?_
                have c148 := hw.1
                have hw := hw.2
                refine sa_iadd X.1 dL_isSet_280 ?_
                have c149 := hw.1
                have hw := hw.2
                refine ra_104 X hR (okf X.2.2.1 rfl) c149 dL_isSet_281 ?_
                refine lv_goto (tgt := 287) X.1.1 X.1.2.1 dL_isSet_282 (by decide) ?_
                exact J153 ((M145 104 0 ((4 * (Int.tmod p6 (M 112 0 0))) + 3))) (if_neg (c := (if x124 ≤ 1 then (0 : Int) else 1) = 0) hc).symm
            intro v152 hv152
            subst hv152
            have r154 := inR_ite (c := ¬ x142 = (if (if x124 ≤ 1 then (0 : Int) else 1) = 0 then ((-7) : Int) else (M145 104 0 ((4 * (Int.tmod p6 (M 112 0 0))) + 3)))) (inR_c (a := 0) rfl) (inR_c (a := 1) rfl)
            refine cut_j (A := ∀ v155 : Int, v155 = (if ¬ x142 = (if (if x124 ≤ 1 then (0 : Int) else 1) = 0 then ((-7) : Int) else (M145 104 0 ((4 * (Int.tmod p6 (M 112 0 0))) + 3))) then (0 : Int) else 1) → WU p l e 9 2 12 s m args below meth c G e0 α0 κ0 B Qm H locs (cl + 2) (sl + 12) 295 ls [.int (Int32.ofInt v155)]) (fun J156 => ?_) ?_
            · refine sa_icmp_ne (tgt := 294) X.1 r143 r151 dL_isSet_287 (by decide) (fun hc => ?_) (fun hc => ?_)
              · skip
                refine sa_const X.1 dL_isSet_294 ?_
                exact J156 (0) (if_pos (c := ¬ x142 = (if (if x124 ≤ 1 then (0 : Int) else 1) = 0 then ((-7) : Int) else (M145 104 0 ((4 * (Int.tmod p6 (M 112 0 0))) + 3)))) hc).symm
              · skip
                refine sa_const X.1 dL_isSet_290 ?_
                refine lv_goto (tgt := 295) X.1.1 X.1.2.1 dL_isSet_291 (by decide) ?_
                exact J156 (1) (if_neg (c := ¬ x142 = (if (if x124 ≤ 1 then (0 : Int) else 1) = 0 then ((-7) : Int) else (M145 104 0 ((4 * (Int.tmod p6 (M 112 0 0))) + 3)))) (fun z => z hc)).symm
            intro v155 hv155
            subst hv155
            have c157 := hw.1
            have hw := hw.2
            exact su_zret X hb hR hS c157 hw dL_isSet_295 (by omega) (by omega)
      · have hw := hw.2 hc
        refine lv_aload_n X.1.1 X.1.2.1 dL_isSet_150 rfl (lv_at hl 2 rfl) ?_
        refine sa_const X.1 dL_isSet_151 ?_
        refine lv_iload X.1.1 X.1.2.1 dL_isSet_152 (lv_at hl 0 rfl) ?_
        have c158 := hw.1
        have hw := hw.2
        refine sa_imul X.1 dL_isSet_154 ?_
        refine sa_const X.1 dL_isSet_155 ?_
        have c159 := hw.1
        have hw := hw.2
        refine sa_iadd X.1 dL_isSet_156 ?_
        refine sa_const X.1 dL_isSet_157 ?_
        refine lv_aload_n X.1.1 X.1.2.1 dL_isSet_158 rfl (lv_at hl 2 rfl) ?_
        refine sa_const X.1 dL_isSet_159 ?_
        refine lv_iload X.1.1 X.1.2.1 dL_isSet_160 (lv_at hl 0 rfl) ?_
        have c160 := hw.1
        have hw := hw.2
        refine sa_imul X.1 dL_isSet_162 ?_
        refine sa_const X.1 dL_isSet_163 ?_
        have c161 := hw.1
        have hw := hw.2
        refine sa_iadd X.1 dL_isSet_164 ?_
        have c162 := hw.1
        have hw := hw.2
        refine ra_104 X hR (okf X.2.2.1 rfl) c162 dL_isSet_165 ?_
        have r163 := hR.r 104 0 ((4 * (Int.tmod p6 (M 112 0 0))) + 2)
        have c164 := hw.1
        have hw := hw.2
        refine sa_isub X.1 dL_isSet_166 ?_
        have c165 := hw.1
        have hw := hw.2
        refine wa_104 X hR hS (okf X.2.2.1 rfl) c165 c164 dL_isSet_167 (fun H locs hR hS => ?_)
        obtain ⟨M166, e167⟩ : ∃ z : Mem, z = up M 104 0 ((4 * (Int.tmod p6 (M 112 0 0))) + 2) (1 - (M 104 0 ((4 * (Int.tmod p6 (M 112 0 0))) + 2))) := ⟨_, rfl⟩
        rw [← e167] at hR
        have hw := hw M166 e167
        refine lv_aload_n X.1.1 X.1.2.1 dL_isSet_168 rfl (lv_at hl 1 rfl) ?_
        refine lv_iload X.1.1 X.1.2.1 dL_isSet_169 (lv_at hl 0 rfl) ?_
        refine co_X9_totalled X r3 (kc := 9) rmX_ok ⟨by show _ ≤ 2; omega, by show _ ≤ 12; omega⟩ (by decide) hR hS kw_1174 hl.1 dL_isSet_171 (Nat.le_of_ble_eq_true rfl) hw (fun x169 M168 H locs hw r170 hR hS => ?_)
        obtain ⟨M171, g172, hw⟩ := hw
        have hR := hR.gh X.2.2.1 g172
        refine lv_aload_n X.1.1 X.1.2.1 dL_isSet_174 rfl (lv_at hl 2 rfl) ?_
        refine sa_const X.1 dL_isSet_175 ?_
        refine lv_iload X.1.1 X.1.2.1 dL_isSet_176 (lv_at hl 0 rfl) ?_
        have c173 := hw.1
        have hw := hw.2
        refine sa_imul X.1 dL_isSet_178 ?_
        refine sa_const X.1 dL_isSet_179 ?_
        have c174 := hw.1
        have hw := hw.2
        refine sa_iadd X.1 dL_isSet_180 ?_
        have c175 := hw.1
        have hw := hw.2
        refine ra_104 X hR (okf X.2.2.1 rfl) c175 dL_isSet_181 ?_
        have r176 := hR.r 104 0 ((4 * (Int.tmod p6 (M 112 0 0))) + 2)
        refine sa_const X.1 dL_isSet_182 ?_
        have r177 := inR_ite (c := ¬ (M171 104 0 ((4 * (Int.tmod p6 (M 112 0 0))) + 2)) = 1) (inR_c (a := 0) rfl) (inR_c (a := 1) rfl)
        refine cut_j (A := ∀ v178 : Int, v178 = (if ¬ (M171 104 0 ((4 * (Int.tmod p6 (M 112 0 0))) + 2)) = 1 then (0 : Int) else 1) → WU p l e 9 2 12 s m args below meth c G e0 α0 κ0 B Qm H locs cl sl 191 ls [.int (Int32.ofInt v178), .int (Int32.ofInt x169)]) (fun J179 => ?_) ?_
        · refine sa_icmp_ne (tgt := 190) X.1 r176 (inR_c (a := 1) rfl) dL_isSet_183 (by decide) (fun hc => ?_) (fun hc => ?_)
          · skip
            refine sa_const X.1 dL_isSet_190 ?_
            exact J179 (0) (if_pos (c := ¬ (M171 104 0 ((4 * (Int.tmod p6 (M 112 0 0))) + 2)) = 1) hc).symm
          · skip
            refine sa_const X.1 dL_isSet_186 ?_
            refine lv_goto (tgt := 191) X.1.1 X.1.2.1 dL_isSet_187 (by decide) ?_
            exact J179 (1) (if_neg (c := ¬ (M171 104 0 ((4 * (Int.tmod p6 (M 112 0 0))) + 2)) = 1) (fun z => z hc)).symm
        intro v178 hv178
        subst hv178
        have r180 := inR_ite (c := ¬ x169 = (if ¬ (M171 104 0 ((4 * (Int.tmod p6 (M 112 0 0))) + 2)) = 1 then (0 : Int) else 1)) (inR_c (a := 0) rfl) (inR_c (a := 1) rfl)
        refine cut_j (A := ∀ v181 : Int, v181 = (if ¬ x169 = (if ¬ (M171 104 0 ((4 * (Int.tmod p6 (M 112 0 0))) + 2)) = 1 then (0 : Int) else 1) then (0 : Int) else 1) → WU p l e 9 2 12 s m args below meth c G e0 α0 κ0 B Qm H locs cl sl 199 ls [.int (Int32.ofInt v181)]) (fun J182 => ?_) ?_
        · refine sa_icmp_ne (tgt := 198) X.1 r170 r177 dL_isSet_191 (by decide) (fun hc => ?_) (fun hc => ?_)
          · skip
            refine sa_const X.1 dL_isSet_198 ?_
            exact J182 (0) (if_pos (c := ¬ x169 = (if ¬ (M171 104 0 ((4 * (Int.tmod p6 (M 112 0 0))) + 2)) = 1 then (0 : Int) else 1)) hc).symm
          · skip
            refine sa_const X.1 dL_isSet_194 ?_
            refine lv_goto (tgt := 199) X.1.1 X.1.2.1 dL_isSet_195 (by decide) ?_
            exact J182 (1) (if_neg (c := ¬ x169 = (if ¬ (M171 104 0 ((4 * (Int.tmod p6 (M 112 0 0))) + 2)) = 1 then (0 : Int) else 1)) (fun z => z hc)).symm
        intro v181 hv181
        subst hv181
        have c183 := hw.1
        have hw := hw.2
        exact su_zret X hb hR hS c183 hw dL_isSet_199 (by omega) (by omega)
    · have hw := hw.2 hc
      refine lv_aload X.1.1 X.1.2.1 dL_isSet_108 (lv_at hl 5 rfl) ?_
      refine sa_const X.1 dL_isSet_110 ?_
      refine sa_const X.1 dL_isSet_111 ?_
      refine lv_aload X.1.1 X.1.2.1 dL_isSet_112 (lv_at hl 5 rfl) ?_
      refine sa_const X.1 dL_isSet_114 ?_
      refine ra_112 X hR (okf X.2.2.1 rfl) ⟨by decide, by decide⟩ dL_isSet_115 ?_
      have r184 := hR.r 112 0 5
      have c185 := hw.1
      have hw := hw.2
      refine sa_isub X.1 dL_isSet_116 ?_
      refine wa_112 X hR hS (okf X.2.2.1 rfl) ⟨by decide, by decide⟩ c185 dL_isSet_117 (fun H locs hR hS => ?_)
      obtain ⟨M186, e187⟩ : ∃ z : Mem, z = up M 112 0 5 (1 - (M 112 0 5)) := ⟨_, rfl⟩
      rw [← e187] at hR
      have hw := hw M186 e187
      refine lv_aload_n X.1.1 X.1.2.1 dL_isSet_118 rfl (lv_at hl 1 rfl) ?_
      refine cs_X9_notesAtEnd X  (kc := 9) rmX_ok ⟨by show _ ≤ 2; omega, by show _ ≤ 12; omega⟩ (by decide) hR hS kw_1170 hl.1 dL_isSet_119 (Nat.le_of_ble_eq_true rfl) hw (fun x189 M188 H locs hw r190 hR hS => ?_)
      obtain ⟨M191, g192, hw⟩ := hw
      have hR := hR.gh X.2.2.1 g192
      refine lv_aload X.1.1 X.1.2.1 dL_isSet_122 (lv_at hl 5 rfl) ?_
      refine sa_const X.1 dL_isSet_124 ?_
      refine ra_112 X hR (okf X.2.2.1 rfl) ⟨by decide, by decide⟩ dL_isSet_125 ?_
      have r193 := hR.r 112 0 5
      refine sa_const X.1 dL_isSet_126 ?_
      have r194 := inR_ite (c := ¬ (M191 112 0 5) = 1) (inR_c (a := 0) rfl) (inR_c (a := 1) rfl)
      refine cut_j (A := ∀ v195 : Int, v195 = (if ¬ (M191 112 0 5) = 1 then (0 : Int) else 1) → WU p l e 9 2 12 s m args below meth c G e0 α0 κ0 B Qm H locs cl sl 135 ls [.int (Int32.ofInt v195), .int (Int32.ofInt x189)]) (fun J196 => ?_) ?_
      · refine sa_icmp_ne (tgt := 134) X.1 r193 (inR_c (a := 1) rfl) dL_isSet_127 (by decide) (fun hc => ?_) (fun hc => ?_)
        · skip
          refine sa_const X.1 dL_isSet_134 ?_
          exact J196 (0) (if_pos (c := ¬ (M191 112 0 5) = 1) hc).symm
        · skip
          refine sa_const X.1 dL_isSet_130 ?_
          refine lv_goto (tgt := 135) X.1.1 X.1.2.1 dL_isSet_131 (by decide) ?_
          exact J196 (1) (if_neg (c := ¬ (M191 112 0 5) = 1) (fun z => z hc)).symm
      intro v195 hv195
      subst hv195
      have r197 := inR_ite (c := ¬ x189 = (if ¬ (M191 112 0 5) = 1 then (0 : Int) else 1)) (inR_c (a := 0) rfl) (inR_c (a := 1) rfl)
      refine cut_j (A := ∀ v198 : Int, v198 = (if ¬ x189 = (if ¬ (M191 112 0 5) = 1 then (0 : Int) else 1) then (0 : Int) else 1) → WU p l e 9 2 12 s m args below meth c G e0 α0 κ0 B Qm H locs cl sl 143 ls [.int (Int32.ofInt v198)]) (fun J199 => ?_) ?_
      · refine sa_icmp_ne (tgt := 142) X.1 r190 r194 dL_isSet_135 (by decide) (fun hc => ?_) (fun hc => ?_)
        · skip
          refine sa_const X.1 dL_isSet_142 ?_
          exact J199 (0) (if_pos (c := ¬ x189 = (if ¬ (M191 112 0 5) = 1 then (0 : Int) else 1)) hc).symm
        · skip
          refine sa_const X.1 dL_isSet_138 ?_
          refine lv_goto (tgt := 143) X.1.1 X.1.2.1 dL_isSet_139 (by decide) ?_
          exact J199 (1) (if_neg (c := ¬ x189 = (if ¬ (M191 112 0 5) = 1 then (0 : Int) else 1)) (fun z => z hc)).symm
      intro v198 hv198
      subst hv198
      have c200 := hw.1
      have hw := hw.2
      exact su_zret X hb hR hS c200 hw dL_isSet_143 (by omega) (by omega)
  · have hw := hw.2 hc
    refine lv_aload X.1.1 X.1.2.1 dL_isSet_5 (lv_at hl 4 rfl) ?_
    refine sa_const X.1 dL_isSet_7 ?_
    refine lv_iload X.1.1 X.1.2.1 dL_isSet_8 (lv_at hl 6 rfl) ?_
    refine sa_const X.1 dL_isSet_10 ?_
    have r201 := inR_tmod hp6 (inR_c (a := 3) rfl) (by decide)
    refine sa_irem X.1 hp6 (inR_c (a := 3) rfl) (Int.ne_of_gt (by decide)) dL_isSet_11 ?_
    have s204 := hw.1
    have hw := hw.2
    have s205 := hw.1
    have hw := hw.2
    have c206 := hw.1
    have hw := hw.2
    refine cut_j (A := ∀ v207 : Int, v207 = (if ¬ (Int.tmod p6 3) = 0 then (10 + (Int.tmod (Int.tdiv p6 3) 60)) else (1 + (Int.tmod (Int.tdiv p6 3) 150))) → WU p l e 9 2 12 s m args below meth c G e0 α0 κ0 B Qm H locs cl sl 38 ls [.int (Int32.ofInt v207), .int (Int32.ofInt 3), .ref (α 112 0)]) (fun J208 => ?_) ?_
    · refine sa_if_ne (tgt := 28) X.1 r201 dL_isSet_12 (by decide) (fun hc => ?_) (fun hc => ?_)
      · have hw := s204 hc
        refine sa_bipush X.1 dL_isSet_28 (by decide) ?_
        refine lv_iload X.1.1 X.1.2.1 dL_isSet_30 (lv_at hl 6 rfl) ?_
        refine sa_const X.1 dL_isSet_32 ?_
        refine sa_idiv X.1 hp6 (inR_c (a := 3) rfl) (Int.ne_of_gt (by decide)) dL_isSet_33 ?_
        refine sa_bipush X.1 dL_isSet_34 (by decide) ?_
        refine sa_irem X.1 (inR_tdiv hp6 (inR_c (a := 3) rfl) (by decide)) (inR_c (a := 60) rfl) (Int.ne_of_gt (by decide)) dL_isSet_36 ?_
        have c202 := hw.1
        have hw := hw.2
        refine sa_iadd X.1 dL_isSet_37 ?_
        exact J208 ((10 + (Int.tmod (Int.tdiv p6 3) 60))) (if_pos (c := ¬ (Int.tmod p6 3) = 0) hc).symm
      · have hw := s205 hc
        refine sa_const X.1 dL_isSet_15 ?_
        refine lv_iload X.1.1 X.1.2.1 dL_isSet_16 (lv_at hl 6 rfl) ?_
        refine sa_const X.1 dL_isSet_18 ?_
        refine sa_idiv X.1 hp6 (inR_c (a := 3) rfl) (Int.ne_of_gt (by decide)) dL_isSet_19 ?_
        refine sa_sipush X.1 dL_isSet_20 (by decide) ?_
        refine sa_irem X.1 (inR_tdiv hp6 (inR_c (a := 3) rfl) (by decide)) (inR_c (a := 150) rfl) (Int.ne_of_gt (by decide)) dL_isSet_23 ?_
        have c203 := hw.1
        have hw := hw.2
        refine sa_iadd X.1 dL_isSet_24 ?_
        refine lv_goto (tgt := 38) X.1.1 X.1.2.1 dL_isSet_25 (by decide) ?_
        exact J208 ((1 + (Int.tmod (Int.tdiv p6 3) 150))) (if_neg (c := ¬ (Int.tmod p6 3) = 0) (fun z => z hc)).symm
    intro v207 hv207
    subst hv207
    refine wa_112 X hR hS (okf X.2.2.1 rfl) ⟨by decide, by decide⟩ c206 dL_isSet_38 (fun H locs hR hS => ?_)
    obtain ⟨M209, e210⟩ : ∃ z : Mem, z = up M 112 0 3 (if ¬ (Int.tmod p6 3) = 0 then (10 + (Int.tmod (Int.tdiv p6 3) 60)) else (1 + (Int.tmod (Int.tdiv p6 3) 150))) := ⟨_, rfl⟩
    rw [← e210] at hR
    have hw := hw M209 e210
    refine lv_aload X.1.1 X.1.2.1 dL_isSet_39 (lv_at hl 4 rfl) ?_
    refine sa_const X.1 dL_isSet_41 ?_
    refine lv_iload X.1.1 X.1.2.1 dL_isSet_42 (lv_at hl 6 rfl) ?_
    refine sa_sipush X.1 dL_isSet_44 (by decide) ?_
    have r211 := inR_tdiv hp6 (inR_c (a := 450) rfl) (by decide)
    refine sa_idiv X.1 hp6 (inR_c (a := 450) rfl) (Int.ne_of_gt (by decide)) dL_isSet_47 ?_
    refine sa_const X.1 dL_isSet_48 ?_
    have r212 := inR_tmod r211 (inR_c (a := 3) rfl) (by decide)
    refine sa_irem X.1 r211 (inR_c (a := 3) rfl) (Int.ne_of_gt (by decide)) dL_isSet_49 ?_
    have s215 := hw.1
    have hw := hw.2
    have s216 := hw.1
    have hw := hw.2
    have c217 := hw.1
    have hw := hw.2
    refine cut_j (A := ∀ v218 : Int, v218 = (if ¬ (Int.tmod (Int.tdiv p6 450) 3) = 0 then (3 + (Int.tmod (Int.tdiv p6 1350) 12)) else (1 + (Int.tmod (Int.tdiv p6 1350) 100))) → WU p l e 9 2 12 s m args below meth c G e0 α0 κ0 B Qm H locs cl sl 78 ls [.int (Int32.ofInt v218), .int (Int32.ofInt 4), .ref (α 112 0)]) (fun J219 => ?_) ?_
    · refine sa_if_ne (tgt := 67) X.1 r212 dL_isSet_50 (by decide) (fun hc => ?_) (fun hc => ?_)
      · have hw := s215 hc
        refine sa_const X.1 dL_isSet_67 ?_
        refine lv_iload X.1.1 X.1.2.1 dL_isSet_68 (lv_at hl 6 rfl) ?_
        refine sa_sipush X.1 dL_isSet_70 (by decide) ?_
        refine sa_idiv X.1 hp6 (inR_c (a := 1350) rfl) (Int.ne_of_gt (by decide)) dL_isSet_73 ?_
        refine sa_bipush X.1 dL_isSet_74 (by decide) ?_
        refine sa_irem X.1 (inR_tdiv hp6 (inR_c (a := 1350) rfl) (by decide)) (inR_c (a := 12) rfl) (Int.ne_of_gt (by decide)) dL_isSet_76 ?_
        have c213 := hw.1
        have hw := hw.2
        refine sa_iadd X.1 dL_isSet_77 ?_
        exact J219 ((3 + (Int.tmod (Int.tdiv p6 1350) 12))) (if_pos (c := ¬ (Int.tmod (Int.tdiv p6 450) 3) = 0) hc).symm
      · have hw := s216 hc
        refine sa_const X.1 dL_isSet_53 ?_
        refine lv_iload X.1.1 X.1.2.1 dL_isSet_54 (lv_at hl 6 rfl) ?_
        refine sa_sipush X.1 dL_isSet_56 (by decide) ?_
        refine sa_idiv X.1 hp6 (inR_c (a := 1350) rfl) (Int.ne_of_gt (by decide)) dL_isSet_59 ?_
        refine sa_bipush X.1 dL_isSet_60 (by decide) ?_
        refine sa_irem X.1 (inR_tdiv hp6 (inR_c (a := 1350) rfl) (by decide)) (inR_c (a := 100) rfl) (Int.ne_of_gt (by decide)) dL_isSet_62 ?_
        have c214 := hw.1
        have hw := hw.2
        refine sa_iadd X.1 dL_isSet_63 ?_
        refine lv_goto (tgt := 78) X.1.1 X.1.2.1 dL_isSet_64 (by decide) ?_
        exact J219 ((1 + (Int.tmod (Int.tdiv p6 1350) 100))) (if_neg (c := ¬ (Int.tmod (Int.tdiv p6 450) 3) = 0) (fun z => z hc)).symm
    intro v218 hv218
    subst hv218
    refine wa_112 X hR hS (okf X.2.2.1 rfl) ⟨by decide, by decide⟩ c217 dL_isSet_78 (fun H locs hR hS => ?_)
    obtain ⟨M220, e221⟩ : ∃ z : Mem, z = up M209 112 0 4 (if ¬ (Int.tmod (Int.tdiv p6 450) 3) = 0 then (3 + (Int.tmod (Int.tdiv p6 1350) 12)) else (1 + (Int.tmod (Int.tdiv p6 1350) 100))) := ⟨_, rfl⟩
    rw [← e221] at hR
    have hw := hw M220 e221
    refine lv_aload_n X.1.1 X.1.2.1 dL_isSet_79 rfl (lv_at hl 0 rfl) ?_
    refine lv_aload X.1.1 X.1.2.1 dL_isSet_80 (lv_at hl 4 rfl) ?_
    refine sa_const X.1 dL_isSet_82 ?_
    refine ra_112 X hR (okf X.2.2.1 rfl) ⟨by decide, by decide⟩ dL_isSet_83 ?_
    have r222 := hR.r 112 0 3
    refine lv_aload X.1.1 X.1.2.1 dL_isSet_84 (lv_at hl 4 rfl) ?_
    refine sa_const X.1 dL_isSet_86 ?_
    refine ra_112 X hR (okf X.2.2.1 rfl) ⟨by decide, by decide⟩ dL_isSet_87 ?_
    have r223 := hR.r 112 0 4
    refine co_X9_setPaper X r222 r223 (kc := 9) rmX_ok ⟨by show _ ≤ 2; omega, by show _ ≤ 12; omega⟩ (by decide) hR hS kw_1165 hl.1 dL_isSet_88 (Nat.le_of_ble_eq_true rfl) hw (fun M224 H locs hw hR hS => ?_)
    obtain ⟨M225, g226, hw⟩ := hw
    have hR := hR.gh X.2.2.1 g226
    refine sa_const X.1 dL_isSet_91 ?_
    exact su_zret X hb hR hS (Or.inr rfl) hw dL_isSet_92 (by omega) (by omega)
theorem m_L_isSet {l : Launch} {G : Gx} {e0 : Nat} {α : Ax} {κ : Nat → Int} {B : Nat} {p5 : Int} {p6 : Int} (hlt : l.stackTraces = false) (hκ : kOK κ) (hp5 : inR p5) (hp6 : inR p6) {M : Mem} {Qm : Int → Mem → Prop} (hw : wp_L_isSet p5 p6 M Qm) : UC l yL_isSet (Cond.code yL_isSet cL_isSet 12 (some .boolean)) 9 2 12 G e0 α κ B [.ref (α 10 0), .ref (α 104 0), .ref (α 110 0), .ref (α 111 0), .ref (α 112 0), .int (Int32.ofInt p5), .int (Int32.ofInt p6)] M Qm :=
  UC.mk hκ (by decide +kernel) rfl (Nat.le_of_ble_eq_true rfl) (lv := [(0, .ref (α 10 0)), (1, .ref (α 104 0)), (2, .ref (α 110 0)), (3, .ref (α 111 0)), (4, .ref (α 112 0)), (5, .int (Int32.ofInt p5)), (6, .int (Int32.ofInt p6))]) rfl (fun p e s m args below meth c ls X N hR hS hl => t_L_isSet X N hlt Bk.rf hp5 hp6 hw 0 0 (by decide) (by decide) _ _ hR hS ls hl)
end
