theorem dL_walk_0 : decode cL_walk 0 = .ok (.aload_n 0, 1) := by decide +kernel
theorem dL_walk_1 : decode cL_walk 1 = .ok (.aload 4, 2) := by decide +kernel
theorem dL_walk_3 : decode cL_walk 3 = .ok (.invokestatic 69, 3) := by decide +kernel
theorem dL_walk_6 : decode cL_walk 6 = .ok (.ifCond .eq 7, 3) := by decide +kernel
theorem dL_walk_9 : decode cL_walk 9 = .ok (.iconst 1, 1) := by decide +kernel
theorem dL_walk_10 : decode cL_walk 10 = .ok (.goto 4, 3) := by decide +kernel
theorem dL_walk_13 : decode cL_walk 13 = .ok (.iconst 0, 1) := by decide +kernel
theorem dL_walk_14 : decode cL_walk 14 = .ok (.istore 9, 2) := by decide +kernel
theorem dL_walk_16 : decode cL_walk 16 = .ok (.iconst 0, 1) := by decide +kernel
theorem dL_walk_17 : decode cL_walk 17 = .ok (.istore 10, 2) := by decide +kernel
theorem dL_walk_19 : decode cL_walk 19 = .ok (.iconst 0, 1) := by decide +kernel
theorem dL_walk_20 : decode cL_walk 20 = .ok (.istore 11, 2) := by decide +kernel
theorem dL_walk_22 : decode cL_walk 22 = .ok (.iconst (-1), 1) := by decide +kernel
theorem dL_walk_23 : decode cL_walk 23 = .ok (.istore 12, 2) := by decide +kernel
theorem dL_walk_25 : decode cL_walk 25 = .ok (.iconst 0, 1) := by decide +kernel
theorem dL_walk_26 : decode cL_walk 26 = .ok (.istore 13, 2) := by decide +kernel
theorem dL_walk_28 : decode cL_walk 28 = .ok (.iload 13, 2) := by decide +kernel
theorem dL_walk_30 : decode cL_walk 30 = .ok (.bipush 60, 2) := by decide +kernel
theorem dL_walk_32 : decode cL_walk 32 = .ok (.if_icmp .ge 15, 3) := by decide +kernel
theorem dL_walk_35 : decode cL_walk 35 = .ok (.aload 7, 2) := by decide +kernel
theorem dL_walk_37 : decode cL_walk 37 = .ok (.iload 13, 2) := by decide +kernel
theorem dL_walk_39 : decode cL_walk 39 = .ok (.iconst 0, 1) := by decide +kernel
theorem dL_walk_40 : decode cL_walk 40 = .ok (.iastore, 1) := by decide +kernel
theorem dL_walk_41 : decode cL_walk 41 = .ok (.iinc 13 1, 3) := by decide +kernel
theorem dL_walk_44 : decode cL_walk 44 = .ok (.goto (-16), 3) := by decide +kernel
theorem dL_walk_47 : decode cL_walk 47 = .ok (.iconst 0, 1) := by decide +kernel
theorem dL_walk_48 : decode cL_walk 48 = .ok (.istore 13, 2) := by decide +kernel
theorem dL_walk_50 : decode cL_walk 50 = .ok (.iload 13, 2) := by decide +kernel
theorem dL_walk_52 : decode cL_walk 52 = .ok (.bipush 13, 2) := by decide +kernel
theorem dL_walk_54 : decode cL_walk 54 = .ok (.if_icmp .ge 15, 3) := by decide +kernel
theorem dL_walk_57 : decode cL_walk 57 = .ok (.aload 6, 2) := by decide +kernel
theorem dL_walk_59 : decode cL_walk 59 = .ok (.iload 13, 2) := by decide +kernel
theorem dL_walk_61 : decode cL_walk 61 = .ok (.iconst 0, 1) := by decide +kernel
theorem dL_walk_62 : decode cL_walk 62 = .ok (.iastore, 1) := by decide +kernel
theorem dL_walk_63 : decode cL_walk 63 = .ok (.iinc 13 1, 3) := by decide +kernel
theorem dL_walk_66 : decode cL_walk 66 = .ok (.goto (-16), 3) := by decide +kernel
theorem dL_walk_69 : decode cL_walk 69 = .ok (.iconst 0, 1) := by decide +kernel
theorem dL_walk_70 : decode cL_walk 70 = .ok (.istore 13, 2) := by decide +kernel
theorem dL_walk_72 : decode cL_walk 72 = .ok (.iload 13, 2) := by decide +kernel
theorem dL_walk_74 : decode cL_walk 74 = .ok (.aload 4, 2) := by decide +kernel
theorem dL_walk_76 : decode cL_walk 76 = .ok (.iconst 1, 1) := by decide +kernel
theorem dL_walk_77 : decode cL_walk 77 = .ok (.iaload, 1) := by decide +kernel
theorem dL_walk_78 : decode cL_walk 78 = .ok (.if_icmp .ge 77, 3) := by decide +kernel
theorem dL_walk_81 : decode cL_walk 81 = .ok (.iload 10, 2) := by decide +kernel
theorem dL_walk_83 : decode cL_walk 83 = .ok (.aload_n 1, 1) := by decide +kernel
theorem dL_walk_84 : decode cL_walk 84 = .ok (.iconst 3, 1) := by decide +kernel
theorem dL_walk_85 : decode cL_walk 85 = .ok (.iload 13, 2) := by decide +kernel
theorem dL_walk_87 : decode cL_walk 87 = .ok (.imul, 1) := by decide +kernel
theorem dL_walk_88 : decode cL_walk 88 = .ok (.iaload, 1) := by decide +kernel
theorem dL_walk_89 : decode cL_walk 89 = .ok (.iconst 1, 1) := by decide +kernel
theorem dL_walk_90 : decode cL_walk 90 = .ok (.if_icmp .ne 7, 3) := by decide +kernel
theorem dL_walk_93 : decode cL_walk 93 = .ok (.iconst 0, 1) := by decide +kernel
theorem dL_walk_94 : decode cL_walk 94 = .ok (.goto 11, 3) := by decide +kernel
theorem dL_walk_97 : decode cL_walk 97 = .ok (.aload 5, 2) := by decide +kernel
theorem dL_walk_99 : decode cL_walk 99 = .ok (.bipush 20, 2) := by decide +kernel
theorem dL_walk_101 : decode cL_walk 101 = .ok (.iload 13, 2) := by decide +kernel
theorem dL_walk_103 : decode cL_walk 103 = .ok (.iadd, 1) := by decide +kernel
theorem dL_walk_104 : decode cL_walk 104 = .ok (.iaload, 1) := by decide +kernel
theorem dL_walk_105 : decode cL_walk 105 = .ok (.iadd, 1) := by decide +kernel
theorem dL_walk_106 : decode cL_walk 106 = .ok (.istore 10, 2) := by decide +kernel
theorem dL_walk_108 : decode cL_walk 108 = .ok (.iload 11, 2) := by decide +kernel
theorem dL_walk_110 : decode cL_walk 110 = .ok (.aload_n 1, 1) := by decide +kernel
theorem dL_walk_111 : decode cL_walk 111 = .ok (.iconst 3, 1) := by decide +kernel
theorem dL_walk_112 : decode cL_walk 112 = .ok (.iload 13, 2) := by decide +kernel
theorem dL_walk_114 : decode cL_walk 114 = .ok (.imul, 1) := by decide +kernel
theorem dL_walk_115 : decode cL_walk 115 = .ok (.iaload, 1) := by decide +kernel
theorem dL_walk_116 : decode cL_walk 116 = .ok (.iconst 1, 1) := by decide +kernel
theorem dL_walk_117 : decode cL_walk 117 = .ok (.if_icmp .ne 7, 3) := by decide +kernel
theorem dL_walk_120 : decode cL_walk 120 = .ok (.iconst 1, 1) := by decide +kernel
theorem dL_walk_121 : decode cL_walk 121 = .ok (.goto 4, 3) := by decide +kernel
theorem dL_walk_124 : decode cL_walk 124 = .ok (.iconst 0, 1) := by decide +kernel
theorem dL_walk_125 : decode cL_walk 125 = .ok (.iadd, 1) := by decide +kernel
theorem dL_walk_126 : decode cL_walk 126 = .ok (.istore 11, 2) := by decide +kernel
theorem dL_walk_128 : decode cL_walk 128 = .ok (.aload_n 1, 1) := by decide +kernel
theorem dL_walk_129 : decode cL_walk 129 = .ok (.iconst 3, 1) := by decide +kernel
theorem dL_walk_130 : decode cL_walk 130 = .ok (.aload_n 2, 1) := by decide +kernel
theorem dL_walk_131 : decode cL_walk 131 = .ok (.iload 13, 2) := by decide +kernel
theorem dL_walk_133 : decode cL_walk 133 = .ok (.iaload, 1) := by decide +kernel
theorem dL_walk_134 : decode cL_walk 134 = .ok (.imul, 1) := by decide +kernel
theorem dL_walk_135 : decode cL_walk 135 = .ok (.iaload, 1) := by decide +kernel
theorem dL_walk_136 : decode cL_walk 136 = .ok (.iconst 1, 1) := by decide +kernel
theorem dL_walk_137 : decode cL_walk 137 = .ok (.if_icmp .ne 8, 3) := by decide +kernel
theorem dL_walk_140 : decode cL_walk 140 = .ok (.iload 13, 2) := by decide +kernel
theorem dL_walk_142 : decode cL_walk 142 = .ok (.goto 5, 3) := by decide +kernel
theorem dL_walk_145 : decode cL_walk 145 = .ok (.iload 12, 2) := by decide +kernel
theorem dL_walk_147 : decode cL_walk 147 = .ok (.istore 12, 2) := by decide +kernel
theorem dL_walk_149 : decode cL_walk 149 = .ok (.iinc 13 1, 3) := by decide +kernel
theorem dL_walk_152 : decode cL_walk 152 = .ok (.goto (-80), 3) := by decide +kernel
theorem dL_walk_155 : decode cL_walk 155 = .ok (.iconst 0, 1) := by decide +kernel
theorem dL_walk_156 : decode cL_walk 156 = .ok (.istore 13, 2) := by decide +kernel
theorem dL_walk_158 : decode cL_walk 158 = .ok (.aload 4, 2) := by decide +kernel
theorem dL_walk_160 : decode cL_walk 160 = .ok (.iconst 4, 1) := by decide +kernel
theorem dL_walk_161 : decode cL_walk 161 = .ok (.iaload, 1) := by decide +kernel
theorem dL_walk_162 : decode cL_walk 162 = .ok (.iload 10, 2) := by decide +kernel
theorem dL_walk_164 : decode cL_walk 164 = .ok (.isub, 1) := by decide +kernel
theorem dL_walk_165 : decode cL_walk 165 = .ok (.istore 14, 2) := by decide +kernel
theorem dL_walk_167 : decode cL_walk 167 = .ok (.iconst 1, 1) := by decide +kernel
theorem dL_walk_168 : decode cL_walk 168 = .ok (.istore 15, 2) := by decide +kernel
theorem dL_walk_170 : decode cL_walk 170 = .ok (.aload 4, 2) := by decide +kernel
theorem dL_walk_172 : decode cL_walk 172 = .ok (.iconst 5, 1) := by decide +kernel
theorem dL_walk_173 : decode cL_walk 173 = .ok (.iaload, 1) := by decide +kernel
theorem dL_walk_174 : decode cL_walk 174 = .ok (.iconst 1, 1) := by decide +kernel
theorem dL_walk_175 : decode cL_walk 175 = .ok (.if_icmp .ne 14, 3) := by decide +kernel
theorem dL_walk_178 : decode cL_walk 178 = .ok (.aload_n 0, 1) := by decide +kernel
theorem dL_walk_179 : decode cL_walk 179 = .ok (.aload_n 3, 1) := by decide +kernel
theorem dL_walk_180 : decode cL_walk 180 = .ok (.aload 4, 2) := by decide +kernel
theorem dL_walk_182 : decode cL_walk 182 = .ok (.iconst (-1), 1) := by decide +kernel
theorem dL_walk_183 : decode cL_walk 183 = .ok (.invokestatic 73, 3) := by decide +kernel
theorem dL_walk_186 : decode cL_walk 186 = .ok (.goto 4, 3) := by decide +kernel
theorem dL_walk_189 : decode cL_walk 189 = .ok (.iconst 0, 1) := by decide +kernel
theorem dL_walk_190 : decode cL_walk 190 = .ok (.istore 16, 2) := by decide +kernel
theorem dL_walk_192 : decode cL_walk 192 = .ok (.iconst 0, 1) := by decide +kernel
theorem dL_walk_193 : decode cL_walk 193 = .ok (.istore 17, 2) := by decide +kernel
theorem dL_walk_195 : decode cL_walk 195 = .ok (.iload 17, 2) := by decide +kernel
theorem dL_walk_197 : decode cL_walk 197 = .ok (.iconst 2, 1) := by decide +kernel
theorem dL_walk_198 : decode cL_walk 198 = .ok (.aload 4, 2) := by decide +kernel
theorem dL_walk_200 : decode cL_walk 200 = .ok (.iconst 1, 1) := by decide +kernel
theorem dL_walk_201 : decode cL_walk 201 = .ok (.iaload, 1) := by decide +kernel
theorem dL_walk_202 : decode cL_walk 202 = .ok (.imul, 1) := by decide +kernel
theorem dL_walk_203 : decode cL_walk 203 = .ok (.iconst 2, 1) := by decide +kernel
theorem dL_walk_204 : decode cL_walk 204 = .ok (.iadd, 1) := by decide +kernel
theorem dL_walk_205 : decode cL_walk 205 = .ok (.if_icmp .ge 626, 3) := by decide +kernel
theorem dL_walk_208 : decode cL_walk 208 = .ok (.iload 17, 2) := by decide +kernel
theorem dL_walk_210 : decode cL_walk 210 = .ok (.iconst 2, 1) := by decide +kernel
theorem dL_walk_211 : decode cL_walk 211 = .ok (.aload 4, 2) := by decide +kernel
theorem dL_walk_213 : decode cL_walk 213 = .ok (.iconst 1, 1) := by decide +kernel
theorem dL_walk_214 : decode cL_walk 214 = .ok (.iaload, 1) := by decide +kernel
theorem dL_walk_215 : decode cL_walk 215 = .ok (.imul, 1) := by decide +kernel
theorem dL_walk_216 : decode cL_walk 216 = .ok (.if_icmp .ge 12, 3) := by decide +kernel
theorem dL_walk_219 : decode cL_walk 219 = .ok (.aload_n 2, 1) := by decide +kernel
theorem dL_walk_220 : decode cL_walk 220 = .ok (.iload 17, 2) := by decide +kernel
theorem dL_walk_222 : decode cL_walk 222 = .ok (.iconst 2, 1) := by decide +kernel
theorem dL_walk_223 : decode cL_walk 223 = .ok (.idiv, 1) := by decide +kernel
theorem dL_walk_224 : decode cL_walk 224 = .ok (.iaload, 1) := by decide +kernel
theorem dL_walk_225 : decode cL_walk 225 = .ok (.goto 4, 3) := by decide +kernel
theorem dL_walk_228 : decode cL_walk 228 = .ok (.iconst (-1), 1) := by decide +kernel
theorem dL_walk_229 : decode cL_walk 229 = .ok (.istore 18, 2) := by decide +kernel
theorem dL_walk_231 : decode cL_walk 231 = .ok (.iload 18, 2) := by decide +kernel
theorem dL_walk_233 : decode cL_walk 233 = .ok (.ifCond .lt 17, 3) := by decide +kernel
theorem dL_walk_236 : decode cL_walk 236 = .ok (.aload_n 1, 1) := by decide +kernel
theorem dL_walk_237 : decode cL_walk 237 = .ok (.iconst 3, 1) := by decide +kernel
theorem dL_walk_238 : decode cL_walk 238 = .ok (.iload 18, 2) := by decide +kernel
theorem dL_walk_240 : decode cL_walk 240 = .ok (.imul, 1) := by decide +kernel
theorem dL_walk_241 : decode cL_walk 241 = .ok (.iaload, 1) := by decide +kernel
theorem dL_walk_242 : decode cL_walk 242 = .ok (.iconst 1, 1) := by decide +kernel
theorem dL_walk_243 : decode cL_walk 243 = .ok (.if_icmp .ne 7, 3) := by decide +kernel
theorem dL_walk_246 : decode cL_walk 246 = .ok (.iconst 1, 1) := by decide +kernel
theorem dL_walk_247 : decode cL_walk 247 = .ok (.goto 4, 3) := by decide +kernel
theorem dL_walk_250 : decode cL_walk 250 = .ok (.iconst 0, 1) := by decide +kernel
theorem dL_walk_251 : decode cL_walk 251 = .ok (.istore 19, 2) := by decide +kernel
theorem dL_walk_253 : decode cL_walk 253 = .ok (.iload 19, 2) := by decide +kernel
theorem dL_walk_255 : decode cL_walk 255 = .ok (.ifCond .eq 52, 3) := by decide +kernel
theorem dL_walk_258 : decode cL_walk 258 = .ok (.aload_n 1, 1) := by decide +kernel
theorem dL_walk_259 : decode cL_walk 259 = .ok (.iconst 3, 1) := by decide +kernel
theorem dL_walk_260 : decode cL_walk 260 = .ok (.iload 18, 2) := by decide +kernel
theorem dL_walk_262 : decode cL_walk 262 = .ok (.imul, 1) := by decide +kernel
theorem dL_walk_263 : decode cL_walk 263 = .ok (.iconst 1, 1) := by decide +kernel
theorem dL_walk_264 : decode cL_walk 264 = .ok (.iadd, 1) := by decide +kernel
theorem dL_walk_265 : decode cL_walk 265 = .ok (.iaload, 1) := by decide +kernel
theorem dL_walk_266 : decode cL_walk 266 = .ok (.ifCond .le 41, 3) := by decide +kernel
theorem dL_walk_269 : decode cL_walk 269 = .ok (.iload 17, 2) := by decide +kernel
theorem dL_walk_271 : decode cL_walk 271 = .ok (.iconst 2, 1) := by decide +kernel
theorem dL_walk_272 : decode cL_walk 272 = .ok (.idiv, 1) := by decide +kernel
theorem dL_walk_273 : decode cL_walk 273 = .ok (.iload 12, 2) := by decide +kernel
theorem dL_walk_275 : decode cL_walk 275 = .ok (.if_icmp .eq 28, 3) := by decide +kernel
theorem dL_walk_278 : decode cL_walk 278 = .ok (.aload_n 1, 1) := by decide +kernel
theorem dL_walk_279 : decode cL_walk 279 = .ok (.iconst 3, 1) := by decide +kernel
theorem dL_walk_280 : decode cL_walk 280 = .ok (.aload_n 2, 1) := by decide +kernel
theorem dL_walk_281 : decode cL_walk 281 = .ok (.iload 17, 2) := by decide +kernel
theorem dL_walk_283 : decode cL_walk 283 = .ok (.iconst 2, 1) := by decide +kernel
theorem dL_walk_284 : decode cL_walk 284 = .ok (.idiv, 1) := by decide +kernel
theorem dL_walk_285 : decode cL_walk 285 = .ok (.iconst 1, 1) := by decide +kernel
theorem dL_walk_286 : decode cL_walk 286 = .ok (.iadd, 1) := by decide +kernel
theorem dL_walk_287 : decode cL_walk 287 = .ok (.iaload, 1) := by decide +kernel
theorem dL_walk_288 : decode cL_walk 288 = .ok (.imul, 1) := by decide +kernel
theorem dL_walk_289 : decode cL_walk 289 = .ok (.iconst 1, 1) := by decide +kernel
theorem dL_walk_290 : decode cL_walk 290 = .ok (.iadd, 1) := by decide +kernel
theorem dL_walk_291 : decode cL_walk 291 = .ok (.iaload, 1) := by decide +kernel
theorem dL_walk_292 : decode cL_walk 292 = .ok (.aload_n 1, 1) := by decide +kernel
theorem dL_walk_293 : decode cL_walk 293 = .ok (.iconst 3, 1) := by decide +kernel
theorem dL_walk_294 : decode cL_walk 294 = .ok (.iload 18, 2) := by decide +kernel
theorem dL_walk_296 : decode cL_walk 296 = .ok (.imul, 1) := by decide +kernel
theorem dL_walk_297 : decode cL_walk 297 = .ok (.iconst 1, 1) := by decide +kernel
theorem dL_walk_298 : decode cL_walk 298 = .ok (.iadd, 1) := by decide +kernel
theorem dL_walk_299 : decode cL_walk 299 = .ok (.iaload, 1) := by decide +kernel
theorem dL_walk_300 : decode cL_walk 300 = .ok (.if_icmp .eq 7, 3) := by decide +kernel
theorem dL_walk_303 : decode cL_walk 303 = .ok (.iconst 1, 1) := by decide +kernel
theorem dL_walk_304 : decode cL_walk 304 = .ok (.goto 4, 3) := by decide +kernel
theorem dL_walk_307 : decode cL_walk 307 = .ok (.iconst 0, 1) := by decide +kernel
theorem dL_walk_308 : decode cL_walk 308 = .ok (.istore 20, 2) := by decide +kernel
theorem dL_walk_310 : decode cL_walk 310 = .ok (.iload 17, 2) := by decide +kernel
theorem dL_walk_312 : decode cL_walk 312 = .ok (.iconst 2, 1) := by decide +kernel
theorem dL_walk_313 : decode cL_walk 313 = .ok (.aload 4, 2) := by decide +kernel
theorem dL_walk_315 : decode cL_walk 315 = .ok (.iconst 1, 1) := by decide +kernel
theorem dL_walk_316 : decode cL_walk 316 = .ok (.iaload, 1) := by decide +kernel
theorem dL_walk_317 : decode cL_walk 317 = .ok (.imul, 1) := by decide +kernel
theorem dL_walk_318 : decode cL_walk 318 = .ok (.if_icmp .ge 44, 3) := by decide +kernel
theorem dL_walk_321 : decode cL_walk 321 = .ok (.iload 17, 2) := by decide +kernel
theorem dL_walk_323 : decode cL_walk 323 = .ok (.iconst 2, 1) := by decide +kernel
theorem dL_walk_324 : decode cL_walk 324 = .ok (.irem, 1) := by decide +kernel
theorem dL_walk_325 : decode cL_walk 325 = .ok (.ifCond .ne 23, 3) := by decide +kernel
theorem dL_walk_328 : decode cL_walk 328 = .ok (.iload 19, 2) := by decide +kernel
theorem dL_walk_330 : decode cL_walk 330 = .ok (.ifCond .eq 14, 3) := by decide +kernel
theorem dL_walk_333 : decode cL_walk 333 = .ok (.aload 5, 2) := by decide +kernel
theorem dL_walk_335 : decode cL_walk 335 = .ok (.bipush 20, 2) := by decide +kernel
theorem dL_walk_337 : decode cL_walk 337 = .ok (.iload 18, 2) := by decide +kernel
theorem dL_walk_339 : decode cL_walk 339 = .ok (.iadd, 1) := by decide +kernel
theorem dL_walk_340 : decode cL_walk 340 = .ok (.iaload, 1) := by decide +kernel
theorem dL_walk_341 : decode cL_walk 341 = .ok (.goto 39, 3) := by decide +kernel
theorem dL_walk_344 : decode cL_walk 344 = .ok (.iconst 0, 1) := by decide +kernel
theorem dL_walk_345 : decode cL_walk 345 = .ok (.goto 35, 3) := by decide +kernel
theorem dL_walk_348 : decode cL_walk 348 = .ok (.iload 20, 2) := by decide +kernel
theorem dL_walk_350 : decode cL_walk 350 = .ok (.ifCond .eq 8, 3) := by decide +kernel
theorem dL_walk_353 : decode cL_walk 353 = .ok (.iload 9, 2) := by decide +kernel
theorem dL_walk_355 : decode cL_walk 355 = .ok (.goto 25, 3) := by decide +kernel
theorem dL_walk_358 : decode cL_walk 358 = .ok (.iconst 0, 1) := by decide +kernel
theorem dL_walk_359 : decode cL_walk 359 = .ok (.goto 21, 3) := by decide +kernel
theorem dL_walk_362 : decode cL_walk 362 = .ok (.iload 17, 2) := by decide +kernel
theorem dL_walk_364 : decode cL_walk 364 = .ok (.iconst 2, 1) := by decide +kernel
theorem dL_walk_365 : decode cL_walk 365 = .ok (.aload 4, 2) := by decide +kernel
theorem dL_walk_367 : decode cL_walk 367 = .ok (.iconst 1, 1) := by decide +kernel
theorem dL_walk_368 : decode cL_walk 368 = .ok (.iaload, 1) := by decide +kernel
theorem dL_walk_369 : decode cL_walk 369 = .ok (.imul, 1) := by decide +kernel
theorem dL_walk_370 : decode cL_walk 370 = .ok (.if_icmp .ne 8, 3) := by decide +kernel
theorem dL_walk_373 : decode cL_walk 373 = .ok (.iload 9, 2) := by decide +kernel
theorem dL_walk_375 : decode cL_walk 375 = .ok (.goto 5, 3) := by decide +kernel
theorem dL_walk_378 : decode cL_walk 378 = .ok (.iload 16, 2) := by decide +kernel
theorem dL_walk_380 : decode cL_walk 380 = .ok (.istore 21, 2) := by decide +kernel
theorem dL_walk_382 : decode cL_walk 382 = .ok (.iload 17, 2) := by decide +kernel
theorem dL_walk_384 : decode cL_walk 384 = .ok (.iconst 2, 1) := by decide +kernel
theorem dL_walk_385 : decode cL_walk 385 = .ok (.aload 4, 2) := by decide +kernel
theorem dL_walk_387 : decode cL_walk 387 = .ok (.iconst 1, 1) := by decide +kernel
theorem dL_walk_388 : decode cL_walk 388 = .ok (.iaload, 1) := by decide +kernel
theorem dL_walk_389 : decode cL_walk 389 = .ok (.imul, 1) := by decide +kernel
theorem dL_walk_390 : decode cL_walk 390 = .ok (.if_icmp .ge 34, 3) := by decide +kernel
theorem dL_walk_393 : decode cL_walk 393 = .ok (.iload 17, 2) := by decide +kernel
theorem dL_walk_395 : decode cL_walk 395 = .ok (.iconst 2, 1) := by decide +kernel
theorem dL_walk_396 : decode cL_walk 396 = .ok (.irem, 1) := by decide +kernel
theorem dL_walk_397 : decode cL_walk 397 = .ok (.ifCond .ne 27, 3) := by decide +kernel
theorem dL_walk_400 : decode cL_walk 400 = .ok (.iload 19, 2) := by decide +kernel
theorem dL_walk_402 : decode cL_walk 402 = .ok (.ifCond .eq 22, 3) := by decide +kernel
theorem dL_walk_405 : decode cL_walk 405 = .ok (.aload 4, 2) := by decide +kernel
theorem dL_walk_407 : decode cL_walk 407 = .ok (.iconst 5, 1) := by decide +kernel
theorem dL_walk_408 : decode cL_walk 408 = .ok (.iaload, 1) := by decide +kernel
theorem dL_walk_409 : decode cL_walk 409 = .ok (.ifCond .ne 15, 3) := by decide +kernel
theorem dL_walk_412 : decode cL_walk 412 = .ok (.aload_n 0, 1) := by decide +kernel
theorem dL_walk_413 : decode cL_walk 413 = .ok (.aload_n 3, 1) := by decide +kernel
theorem dL_walk_414 : decode cL_walk 414 = .ok (.aload 4, 2) := by decide +kernel
theorem dL_walk_416 : decode cL_walk 416 = .ok (.iload 18, 2) := by decide +kernel
theorem dL_walk_418 : decode cL_walk 418 = .ok (.invokestatic 73, 3) := by decide +kernel
theorem dL_walk_421 : decode cL_walk 421 = .ok (.goto 4, 3) := by decide +kernel
theorem dL_walk_424 : decode cL_walk 424 = .ok (.iconst 0, 1) := by decide +kernel
theorem dL_walk_425 : decode cL_walk 425 = .ok (.istore 22, 2) := by decide +kernel
theorem dL_walk_427 : decode cL_walk 427 = .ok (.iload 17, 2) := by decide +kernel
theorem dL_walk_429 : decode cL_walk 429 = .ok (.iconst 2, 1) := by decide +kernel
theorem dL_walk_430 : decode cL_walk 430 = .ok (.aload 4, 2) := by decide +kernel
theorem dL_walk_432 : decode cL_walk 432 = .ok (.iconst 1, 1) := by decide +kernel
theorem dL_walk_433 : decode cL_walk 433 = .ok (.iaload, 1) := by decide +kernel
theorem dL_walk_434 : decode cL_walk 434 = .ok (.imul, 1) := by decide +kernel
theorem dL_walk_435 : decode cL_walk 435 = .ok (.if_icmp .ge 35, 3) := by decide +kernel
theorem dL_walk_438 : decode cL_walk 438 = .ok (.iload 17, 2) := by decide +kernel
theorem dL_walk_440 : decode cL_walk 440 = .ok (.iconst 2, 1) := by decide +kernel
theorem dL_walk_441 : decode cL_walk 441 = .ok (.irem, 1) := by decide +kernel
theorem dL_walk_442 : decode cL_walk 442 = .ok (.ifCond .ne 28, 3) := by decide +kernel
theorem dL_walk_445 : decode cL_walk 445 = .ok (.iload 19, 2) := by decide +kernel
theorem dL_walk_447 : decode cL_walk 447 = .ok (.ifCond .eq 19, 3) := by decide +kernel
theorem dL_walk_450 : decode cL_walk 450 = .ok (.aload_n 1, 1) := by decide +kernel
theorem dL_walk_451 : decode cL_walk 451 = .ok (.iconst 3, 1) := by decide +kernel
theorem dL_walk_452 : decode cL_walk 452 = .ok (.iload 18, 2) := by decide +kernel
theorem dL_walk_454 : decode cL_walk 454 = .ok (.imul, 1) := by decide +kernel
theorem dL_walk_455 : decode cL_walk 455 = .ok (.iconst 2, 1) := by decide +kernel
theorem dL_walk_456 : decode cL_walk 456 = .ok (.iadd, 1) := by decide +kernel
theorem dL_walk_457 : decode cL_walk 457 = .ok (.iaload, 1) := by decide +kernel
theorem dL_walk_458 : decode cL_walk 458 = .ok (.iconst 1, 1) := by decide +kernel
theorem dL_walk_459 : decode cL_walk 459 = .ok (.if_icmp .ne 7, 3) := by decide +kernel
theorem dL_walk_462 : decode cL_walk 462 = .ok (.iconst 1, 1) := by decide +kernel
theorem dL_walk_463 : decode cL_walk 463 = .ok (.goto 25, 3) := by decide +kernel
theorem dL_walk_466 : decode cL_walk 466 = .ok (.iconst 0, 1) := by decide +kernel
theorem dL_walk_467 : decode cL_walk 467 = .ok (.goto 21, 3) := by decide +kernel
theorem dL_walk_470 : decode cL_walk 470 = .ok (.iload 17, 2) := by decide +kernel
theorem dL_walk_472 : decode cL_walk 472 = .ok (.iconst 2, 1) := by decide +kernel
theorem dL_walk_473 : decode cL_walk 473 = .ok (.aload 4, 2) := by decide +kernel
theorem dL_walk_475 : decode cL_walk 475 = .ok (.iconst 1, 1) := by decide +kernel
theorem dL_walk_476 : decode cL_walk 476 = .ok (.iaload, 1) := by decide +kernel
theorem dL_walk_477 : decode cL_walk 477 = .ok (.imul, 1) := by decide +kernel
theorem dL_walk_478 : decode cL_walk 478 = .ok (.iconst 1, 1) := by decide +kernel
theorem dL_walk_479 : decode cL_walk 479 = .ok (.iadd, 1) := by decide +kernel
theorem dL_walk_480 : decode cL_walk 480 = .ok (.if_icmp .ne 7, 3) := by decide +kernel
theorem dL_walk_483 : decode cL_walk 483 = .ok (.iconst 1, 1) := by decide +kernel
theorem dL_walk_484 : decode cL_walk 484 = .ok (.goto 4, 3) := by decide +kernel
theorem dL_walk_487 : decode cL_walk 487 = .ok (.iconst 0, 1) := by decide +kernel
theorem dL_walk_488 : decode cL_walk 488 = .ok (.istore 23, 2) := by decide +kernel
theorem dL_walk_490 : decode cL_walk 490 = .ok (.iload 17, 2) := by decide +kernel
theorem dL_walk_492 : decode cL_walk 492 = .ok (.iconst 2, 1) := by decide +kernel
theorem dL_walk_493 : decode cL_walk 493 = .ok (.aload 4, 2) := by decide +kernel
theorem dL_walk_495 : decode cL_walk 495 = .ok (.iconst 1, 1) := by decide +kernel
theorem dL_walk_496 : decode cL_walk 496 = .ok (.iaload, 1) := by decide +kernel
theorem dL_walk_497 : decode cL_walk 497 = .ok (.imul, 1) := by decide +kernel
theorem dL_walk_498 : decode cL_walk 498 = .ok (.iconst 1, 1) := by decide +kernel
theorem dL_walk_499 : decode cL_walk 499 = .ok (.iadd, 1) := by decide +kernel
theorem dL_walk_500 : decode cL_walk 500 = .ok (.if_icmp .eq 38, 3) := by decide +kernel
theorem dL_walk_503 : decode cL_walk 503 = .ok (.iload 17, 2) := by decide +kernel
theorem dL_walk_505 : decode cL_walk 505 = .ok (.iconst 2, 1) := by decide +kernel
theorem dL_walk_506 : decode cL_walk 506 = .ok (.aload 4, 2) := by decide +kernel
theorem dL_walk_508 : decode cL_walk 508 = .ok (.iconst 1, 1) := by decide +kernel
theorem dL_walk_509 : decode cL_walk 509 = .ok (.iaload, 1) := by decide +kernel
theorem dL_walk_510 : decode cL_walk 510 = .ok (.imul, 1) := by decide +kernel
theorem dL_walk_511 : decode cL_walk 511 = .ok (.if_icmp .ne 8, 3) := by decide +kernel
theorem dL_walk_514 : decode cL_walk 514 = .ok (.iload 16, 2) := by decide +kernel
theorem dL_walk_516 : decode cL_walk 516 = .ok (.ifCond .eq 22, 3) := by decide +kernel
theorem dL_walk_519 : decode cL_walk 519 = .ok (.iload 9, 2) := by decide +kernel
theorem dL_walk_521 : decode cL_walk 521 = .ok (.ifCond .ne 21, 3) := by decide +kernel
theorem dL_walk_524 : decode cL_walk 524 = .ok (.iload 16, 2) := by decide +kernel
theorem dL_walk_526 : decode cL_walk 526 = .ok (.ifCond .ne 16, 3) := by decide +kernel
theorem dL_walk_529 : decode cL_walk 529 = .ok (.iload 17, 2) := by decide +kernel
theorem dL_walk_531 : decode cL_walk 531 = .ok (.iconst 2, 1) := by decide +kernel
theorem dL_walk_532 : decode cL_walk 532 = .ok (.iload 12, 2) := by decide +kernel
theorem dL_walk_534 : decode cL_walk 534 = .ok (.imul, 1) := by decide +kernel
theorem dL_walk_535 : decode cL_walk 535 = .ok (.if_icmp .ne 7, 3) := by decide +kernel
theorem dL_walk_538 : decode cL_walk 538 = .ok (.iconst 1, 1) := by decide +kernel
theorem dL_walk_539 : decode cL_walk 539 = .ok (.goto 4, 3) := by decide +kernel
theorem dL_walk_542 : decode cL_walk 542 = .ok (.iconst 0, 1) := by decide +kernel
theorem dL_walk_543 : decode cL_walk 543 = .ok (.istore 24, 2) := by decide +kernel
theorem dL_walk_545 : decode cL_walk 545 = .ok (.iload 19, 2) := by decide +kernel
theorem dL_walk_547 : decode cL_walk 547 = .ok (.ifCond .eq 16, 3) := by decide +kernel
theorem dL_walk_550 : decode cL_walk 550 = .ok (.iload 17, 2) := by decide +kernel
theorem dL_walk_552 : decode cL_walk 552 = .ok (.iconst 2, 1) := by decide +kernel
theorem dL_walk_553 : decode cL_walk 553 = .ok (.irem, 1) := by decide +kernel
theorem dL_walk_554 : decode cL_walk 554 = .ok (.ifCond .ne 9, 3) := by decide +kernel
theorem dL_walk_557 : decode cL_walk 557 = .ok (.aload 8, 2) := by decide +kernel
theorem dL_walk_559 : decode cL_walk 559 = .ok (.iload 18, 2) := by decide +kernel
theorem dL_walk_561 : decode cL_walk 561 = .ok (.iconst (-1), 1) := by decide +kernel
theorem dL_walk_562 : decode cL_walk 562 = .ok (.iastore, 1) := by decide +kernel
theorem dL_walk_563 : decode cL_walk 563 = .ok (.iload 21, 2) := by decide +kernel
theorem dL_walk_565 : decode cL_walk 565 = .ok (.ifCond .le 260, 3) := by decide +kernel
theorem dL_walk_568 : decode cL_walk 568 = .ok (.iload 21, 2) := by decide +kernel
theorem dL_walk_570 : decode cL_walk 570 = .ok (.iload 22, 2) := by decide +kernel
theorem dL_walk_572 : decode cL_walk 572 = .ok (.iadd, 1) := by decide +kernel
theorem dL_walk_573 : decode cL_walk 573 = .ok (.iload 24, 2) := by decide +kernel
theorem dL_walk_575 : decode cL_walk 575 = .ok (.ifCond .eq 7, 3) := by decide +kernel
theorem dL_walk_578 : decode cL_walk 578 = .ok (.iconst 0, 1) := by decide +kernel
theorem dL_walk_579 : decode cL_walk 579 = .ok (.goto 5, 3) := by decide +kernel
theorem dL_walk_582 : decode cL_walk 582 = .ok (.iload 9, 2) := by decide +kernel
theorem dL_walk_584 : decode cL_walk 584 = .ok (.iadd, 1) := by decide +kernel
theorem dL_walk_585 : decode cL_walk 585 = .ok (.iload 14, 2) := by decide +kernel
theorem dL_walk_587 : decode cL_walk 587 = .ok (.if_icmp .gt 7, 3) := by decide +kernel
theorem dL_walk_590 : decode cL_walk 590 = .ok (.iconst 1, 1) := by decide +kernel
theorem dL_walk_591 : decode cL_walk 591 = .ok (.goto 4, 3) := by decide +kernel
theorem dL_walk_594 : decode cL_walk 594 = .ok (.iconst 0, 1) := by decide +kernel
theorem dL_walk_595 : decode cL_walk 595 = .ok (.istore 25, 2) := by decide +kernel
theorem dL_walk_597 : decode cL_walk 597 = .ok (.iload 25, 2) := by decide +kernel
theorem dL_walk_599 : decode cL_walk 599 = .ok (.ifCond .eq 8, 3) := by decide +kernel
theorem dL_walk_602 : decode cL_walk 602 = .ok (.iload 21, 2) := by decide +kernel
theorem dL_walk_604 : decode cL_walk 604 = .ok (.goto 11, 3) := by decide +kernel
theorem dL_walk_607 : decode cL_walk 607 = .ok (.iload 14, 2) := by decide +kernel
theorem dL_walk_609 : decode cL_walk 609 = .ok (.iload 9, 2) := by decide +kernel
theorem dL_walk_611 : decode cL_walk 611 = .ok (.isub, 1) := by decide +kernel
theorem dL_walk_612 : decode cL_walk 612 = .ok (.iload 22, 2) := by decide +kernel
theorem dL_walk_614 : decode cL_walk 614 = .ok (.isub, 1) := by decide +kernel
theorem dL_walk_615 : decode cL_walk 615 = .ok (.istore 26, 2) := by decide +kernel
theorem dL_walk_617 : decode cL_walk 617 = .ok (.iload 25, 2) := by decide +kernel
theorem dL_walk_619 : decode cL_walk 619 = .ok (.ifCond .ne 18, 3) := by decide +kernel
theorem dL_walk_622 : decode cL_walk 622 = .ok (.iload 23, 2) := by decide +kernel
theorem dL_walk_624 : decode cL_walk 624 = .ok (.ifCond .ne 8, 3) := by decide +kernel
theorem dL_walk_627 : decode cL_walk 627 = .ok (.iload 15, 2) := by decide +kernel
theorem dL_walk_629 : decode cL_walk 629 = .ok (.ifCond .eq 157, 3) := by decide +kernel
theorem dL_walk_632 : decode cL_walk 632 = .ok (.iload 26, 2) := by decide +kernel
theorem dL_walk_634 : decode cL_walk 634 = .ok (.ifCond .le 152, 3) := by decide +kernel
theorem dL_walk_637 : decode cL_walk 637 = .ok (.iload 13, 2) := by decide +kernel
theorem dL_walk_639 : decode cL_walk 639 = .ok (.bipush 6, 2) := by decide +kernel
theorem dL_walk_641 : decode cL_walk 641 = .ok (.if_icmp .ge 92, 3) := by decide +kernel
theorem dL_walk_644 : decode cL_walk 644 = .ok (.aload 7, 2) := by decide +kernel
theorem dL_walk_646 : decode cL_walk 646 = .ok (.bipush 6, 2) := by decide +kernel
theorem dL_walk_648 : decode cL_walk 648 = .ok (.iload 18, 2) := by decide +kernel
theorem dL_walk_650 : decode cL_walk 650 = .ok (.ifCond .ge 7, 3) := by decide +kernel
theorem dL_walk_653 : decode cL_walk 653 = .ok (.iconst 0, 1) := by decide +kernel
theorem dL_walk_654 : decode cL_walk 654 = .ok (.goto 5, 3) := by decide +kernel
theorem dL_walk_657 : decode cL_walk 657 = .ok (.iload 18, 2) := by decide +kernel
theorem dL_walk_659 : decode cL_walk 659 = .ok (.imul, 1) := by decide +kernel
theorem dL_walk_660 : decode cL_walk 660 = .ok (.iload 13, 2) := by decide +kernel
theorem dL_walk_662 : decode cL_walk 662 = .ok (.iadd, 1) := by decide +kernel
theorem dL_walk_663 : decode cL_walk 663 = .ok (.dup2, 1) := by decide +kernel
theorem dL_walk_664 : decode cL_walk 664 = .ok (.iaload, 1) := by decide +kernel
theorem dL_walk_665 : decode cL_walk 665 = .ok (.iload 19, 2) := by decide +kernel
theorem dL_walk_667 : decode cL_walk 667 = .ok (.ifCond .eq 15, 3) := by decide +kernel
theorem dL_walk_670 : decode cL_walk 670 = .ok (.iload 17, 2) := by decide +kernel
theorem dL_walk_672 : decode cL_walk 672 = .ok (.iconst 2, 1) := by decide +kernel
theorem dL_walk_673 : decode cL_walk 673 = .ok (.irem, 1) := by decide +kernel
theorem dL_walk_674 : decode cL_walk 674 = .ok (.ifCond .ne 8, 3) := by decide +kernel
theorem dL_walk_677 : decode cL_walk 677 = .ok (.iload 26, 2) := by decide +kernel
theorem dL_walk_679 : decode cL_walk 679 = .ok (.goto 4, 3) := by decide +kernel
theorem dL_walk_682 : decode cL_walk 682 = .ok (.iconst 0, 1) := by decide +kernel
theorem dL_walk_683 : decode cL_walk 683 = .ok (.iadd, 1) := by decide +kernel
theorem dL_walk_684 : decode cL_walk 684 = .ok (.iastore, 1) := by decide +kernel
theorem dL_walk_685 : decode cL_walk 685 = .ok (.aload 6, 2) := by decide +kernel
theorem dL_walk_687 : decode cL_walk 687 = .ok (.iconst 1, 1) := by decide +kernel
theorem dL_walk_688 : decode cL_walk 688 = .ok (.iload 13, 2) := by decide +kernel
theorem dL_walk_690 : decode cL_walk 690 = .ok (.iadd, 1) := by decide +kernel
theorem dL_walk_691 : decode cL_walk 691 = .ok (.dup2, 1) := by decide +kernel
theorem dL_walk_692 : decode cL_walk 692 = .ok (.iaload, 1) := by decide +kernel
theorem dL_walk_693 : decode cL_walk 693 = .ok (.iload 26, 2) := by decide +kernel
theorem dL_walk_695 : decode cL_walk 695 = .ok (.iload 22, 2) := by decide +kernel
theorem dL_walk_697 : decode cL_walk 697 = .ok (.iadd, 1) := by decide +kernel
theorem dL_walk_698 : decode cL_walk 698 = .ok (.iadd, 1) := by decide +kernel
theorem dL_walk_699 : decode cL_walk 699 = .ok (.iastore, 1) := by decide +kernel
theorem dL_walk_700 : decode cL_walk 700 = .ok (.aload 6, 2) := by decide +kernel
theorem dL_walk_702 : decode cL_walk 702 = .ok (.bipush 7, 2) := by decide +kernel
theorem dL_walk_704 : decode cL_walk 704 = .ok (.iload 13, 2) := by decide +kernel
theorem dL_walk_706 : decode cL_walk 706 = .ok (.iadd, 1) := by decide +kernel
theorem dL_walk_707 : decode cL_walk 707 = .ok (.dup2, 1) := by decide +kernel
theorem dL_walk_708 : decode cL_walk 708 = .ok (.iaload, 1) := by decide +kernel
theorem dL_walk_709 : decode cL_walk 709 = .ok (.iload 22, 2) := by decide +kernel
theorem dL_walk_711 : decode cL_walk 711 = .ok (.iload 17, 2) := by decide +kernel
theorem dL_walk_713 : decode cL_walk 713 = .ok (.iconst 2, 1) := by decide +kernel
theorem dL_walk_714 : decode cL_walk 714 = .ok (.aload 4, 2) := by decide +kernel
theorem dL_walk_716 : decode cL_walk 716 = .ok (.iconst 1, 1) := by decide +kernel
theorem dL_walk_717 : decode cL_walk 717 = .ok (.iaload, 1) := by decide +kernel
theorem dL_walk_718 : decode cL_walk 718 = .ok (.imul, 1) := by decide +kernel
theorem dL_walk_719 : decode cL_walk 719 = .ok (.iconst 1, 1) := by decide +kernel
theorem dL_walk_720 : decode cL_walk 720 = .ok (.iadd, 1) := by decide +kernel
theorem dL_walk_721 : decode cL_walk 721 = .ok (.if_icmp .ne 8, 3) := by decide +kernel
theorem dL_walk_724 : decode cL_walk 724 = .ok (.iload 26, 2) := by decide +kernel
theorem dL_walk_726 : decode cL_walk 726 = .ok (.goto 4, 3) := by decide +kernel
theorem dL_walk_729 : decode cL_walk 729 = .ok (.iconst 0, 1) := by decide +kernel
theorem dL_walk_730 : decode cL_walk 730 = .ok (.iadd, 1) := by decide +kernel
theorem dL_walk_731 : decode cL_walk 731 = .ok (.iadd, 1) := by decide +kernel
theorem dL_walk_732 : decode cL_walk 732 = .ok (.iastore, 1) := by decide +kernel
theorem dL_walk_733 : decode cL_walk 733 = .ok (.iload 19, 2) := by decide +kernel
theorem dL_walk_735 : decode cL_walk 735 = .ok (.ifCond .eq 25, 3) := by decide +kernel
theorem dL_walk_738 : decode cL_walk 738 = .ok (.iload 17, 2) := by decide +kernel
theorem dL_walk_740 : decode cL_walk 740 = .ok (.iconst 2, 1) := by decide +kernel
theorem dL_walk_741 : decode cL_walk 741 = .ok (.irem, 1) := by decide +kernel
theorem dL_walk_742 : decode cL_walk 742 = .ok (.ifCond .ne 18, 3) := by decide +kernel
theorem dL_walk_745 : decode cL_walk 745 = .ok (.aload 8, 2) := by decide +kernel
theorem dL_walk_747 : decode cL_walk 747 = .ok (.iload 18, 2) := by decide +kernel
theorem dL_walk_749 : decode cL_walk 749 = .ok (.iaload, 1) := by decide +kernel
theorem dL_walk_750 : decode cL_walk 750 = .ok (.ifCond .ge 10, 3) := by decide +kernel
theorem dL_walk_753 : decode cL_walk 753 = .ok (.aload 8, 2) := by decide +kernel
theorem dL_walk_755 : decode cL_walk 755 = .ok (.iload 18, 2) := by decide +kernel
theorem dL_walk_757 : decode cL_walk 757 = .ok (.iload 13, 2) := by decide +kernel
theorem dL_walk_759 : decode cL_walk 759 = .ok (.iastore, 1) := by decide +kernel
theorem dL_walk_760 : decode cL_walk 760 = .ok (.iload 14, 2) := by decide +kernel
theorem dL_walk_762 : decode cL_walk 762 = .ok (.iload 26, 2) := by decide +kernel
theorem dL_walk_764 : decode cL_walk 764 = .ok (.iload 22, 2) := by decide +kernel
theorem dL_walk_766 : decode cL_walk 766 = .ok (.iadd, 1) := by decide +kernel
theorem dL_walk_767 : decode cL_walk 767 = .ok (.isub, 1) := by decide +kernel
theorem dL_walk_768 : decode cL_walk 768 = .ok (.istore 14, 2) := by decide +kernel
theorem dL_walk_770 : decode cL_walk 770 = .ok (.iload 21, 2) := by decide +kernel
theorem dL_walk_772 : decode cL_walk 772 = .ok (.iload 26, 2) := by decide +kernel
theorem dL_walk_774 : decode cL_walk 774 = .ok (.isub, 1) := by decide +kernel
theorem dL_walk_775 : decode cL_walk 775 = .ok (.istore 21, 2) := by decide +kernel
theorem dL_walk_777 : decode cL_walk 777 = .ok (.iconst 0, 1) := by decide +kernel
theorem dL_walk_778 : decode cL_walk 778 = .ok (.istore 22, 2) := by decide +kernel
theorem dL_walk_780 : decode cL_walk 780 = .ok (.iconst 0, 1) := by decide +kernel
theorem dL_walk_781 : decode cL_walk 781 = .ok (.istore 15, 2) := by decide +kernel
theorem dL_walk_783 : decode cL_walk 783 = .ok (.goto 14, 3) := by decide +kernel
theorem dL_walk_786 : decode cL_walk 786 = .ok (.iload 15, 2) := by decide +kernel
theorem dL_walk_788 : decode cL_walk 788 = .ok (.ifCond .eq 9, 3) := by decide +kernel
theorem dL_walk_791 : decode cL_walk 791 = .ok (.aload 6, 2) := by decide +kernel
theorem dL_walk_793 : decode cL_walk 793 = .ok (.iconst 0, 1) := by decide +kernel
theorem dL_walk_794 : decode cL_walk 794 = .ok (.iconst (-1), 1) := by decide +kernel
theorem dL_walk_795 : decode cL_walk 795 = .ok (.iastore, 1) := by decide +kernel
theorem dL_walk_796 : decode cL_walk 796 = .ok (.return_, 1) := by decide +kernel
theorem dL_walk_797 : decode cL_walk 797 = .ok (.iload 25, 2) := by decide +kernel
theorem dL_walk_799 : decode cL_walk 799 = .ok (.ifCond .ne 23, 3) := by decide +kernel
theorem dL_walk_802 : decode cL_walk 802 = .ok (.iinc 13 1, 3) := by decide +kernel
theorem dL_walk_805 : decode cL_walk 805 = .ok (.aload 4, 2) := by decide +kernel
theorem dL_walk_807 : decode cL_walk 807 = .ok (.iconst 4, 1) := by decide +kernel
theorem dL_walk_808 : decode cL_walk 808 = .ok (.iaload, 1) := by decide +kernel
theorem dL_walk_809 : decode cL_walk 809 = .ok (.iload 10, 2) := by decide +kernel
theorem dL_walk_811 : decode cL_walk 811 = .ok (.isub, 1) := by decide +kernel
theorem dL_walk_812 : decode cL_walk 812 = .ok (.iconst 1, 1) := by decide +kernel
theorem dL_walk_813 : decode cL_walk 813 = .ok (.isub, 1) := by decide +kernel
theorem dL_walk_814 : decode cL_walk 814 = .ok (.iload 9, 2) := by decide +kernel
theorem dL_walk_816 : decode cL_walk 816 = .ok (.isub, 1) := by decide +kernel
theorem dL_walk_817 : decode cL_walk 817 = .ok (.istore 14, 2) := by decide +kernel
theorem dL_walk_819 : decode cL_walk 819 = .ok (.iconst 1, 1) := by decide +kernel
theorem dL_walk_820 : decode cL_walk 820 = .ok (.istore 15, 2) := by decide +kernel
theorem dL_walk_822 : decode cL_walk 822 = .ok (.goto (-259), 3) := by decide +kernel
theorem dL_walk_825 : decode cL_walk 825 = .ok (.iinc 17 1, 3) := by decide +kernel
theorem dL_walk_828 : decode cL_walk 828 = .ok (.goto (-633), 3) := by decide +kernel
theorem dL_walk_831 : decode cL_walk 831 = .ok (.aload 6, 2) := by decide +kernel
theorem dL_walk_833 : decode cL_walk 833 = .ok (.iconst 0, 1) := by decide +kernel
theorem dL_walk_834 : decode cL_walk 834 = .ok (.iload 13, 2) := by decide +kernel
theorem dL_walk_836 : decode cL_walk 836 = .ok (.iconst 1, 1) := by decide +kernel
theorem dL_walk_837 : decode cL_walk 837 = .ok (.iadd, 1) := by decide +kernel
theorem dL_walk_838 : decode cL_walk 838 = .ok (.iastore, 1) := by decide +kernel
theorem dL_walk_839 : decode cL_walk 839 = .ok (.iconst 0, 1) := by decide +kernel
theorem dL_walk_840 : decode cL_walk 840 = .ok (.istore 17, 2) := by decide +kernel
theorem dL_walk_842 : decode cL_walk 842 = .ok (.iload 17, 2) := by decide +kernel
theorem dL_walk_844 : decode cL_walk 844 = .ok (.bipush 6, 2) := by decide +kernel
theorem dL_walk_846 : decode cL_walk 846 = .ok (.if_icmp .ge 56, 3) := by decide +kernel
theorem dL_walk_849 : decode cL_walk 849 = .ok (.iload 17, 2) := by decide +kernel
theorem dL_walk_851 : decode cL_walk 851 = .ok (.iload 13, 2) := by decide +kernel
theorem dL_walk_853 : decode cL_walk 853 = .ok (.if_icmp .gt 49, 3) := by decide +kernel
theorem dL_walk_856 : decode cL_walk 856 = .ok (.aload 6, 2) := by decide +kernel
theorem dL_walk_858 : decode cL_walk 858 = .ok (.iconst 1, 1) := by decide +kernel
theorem dL_walk_859 : decode cL_walk 859 = .ok (.iload 17, 2) := by decide +kernel
theorem dL_walk_861 : decode cL_walk 861 = .ok (.iadd, 1) := by decide +kernel
theorem dL_walk_862 : decode cL_walk 862 = .ok (.dup2, 1) := by decide +kernel
theorem dL_walk_863 : decode cL_walk 863 = .ok (.iaload, 1) := by decide +kernel
theorem dL_walk_864 : decode cL_walk 864 = .ok (.iload 10, 2) := by decide +kernel
theorem dL_walk_866 : decode cL_walk 866 = .ok (.iload 17, 2) := by decide +kernel
theorem dL_walk_868 : decode cL_walk 868 = .ok (.ifCond .le 10, 3) := by decide +kernel
theorem dL_walk_871 : decode cL_walk 871 = .ok (.iconst 1, 1) := by decide +kernel
theorem dL_walk_872 : decode cL_walk 872 = .ok (.iload 9, 2) := by decide +kernel
theorem dL_walk_874 : decode cL_walk 874 = .ok (.iadd, 1) := by decide +kernel
theorem dL_walk_875 : decode cL_walk 875 = .ok (.goto 4, 3) := by decide +kernel
theorem dL_walk_878 : decode cL_walk 878 = .ok (.iconst 0, 1) := by decide +kernel
theorem dL_walk_879 : decode cL_walk 879 = .ok (.iadd, 1) := by decide +kernel
theorem dL_walk_880 : decode cL_walk 880 = .ok (.iload 17, 2) := by decide +kernel
theorem dL_walk_882 : decode cL_walk 882 = .ok (.iload 13, 2) := by decide +kernel
theorem dL_walk_884 : decode cL_walk 884 = .ok (.if_icmp .ge 8, 3) := by decide +kernel
theorem dL_walk_887 : decode cL_walk 887 = .ok (.iload 9, 2) := by decide +kernel
theorem dL_walk_889 : decode cL_walk 889 = .ok (.goto 4, 3) := by decide +kernel
theorem dL_walk_892 : decode cL_walk 892 = .ok (.iconst 0, 1) := by decide +kernel
theorem dL_walk_893 : decode cL_walk 893 = .ok (.iadd, 1) := by decide +kernel
theorem dL_walk_894 : decode cL_walk 894 = .ok (.iadd, 1) := by decide +kernel
theorem dL_walk_895 : decode cL_walk 895 = .ok (.iastore, 1) := by decide +kernel
theorem dL_walk_896 : decode cL_walk 896 = .ok (.iinc 17 1, 3) := by decide +kernel
theorem dL_walk_899 : decode cL_walk 899 = .ok (.goto (-57), 3) := by decide +kernel
theorem dL_walk_902 : decode cL_walk 902 = .ok (.return_, 1) := by decide +kernel
section
variable {p : Program} {l : Launch} {e : Env} {s : State} {m : MethodId} {args : Array Value} {below : List Frame} {meth : Method} {c : Code} {G : Gx} {e0 : Nat} {α : Ax} {κ : Nat → Int} {B : Nat}
def wp_L_walk_902 (Qm : Mem → Prop) (M : Mem) : Prop := Qm M
def wp_L_walk_842 (Qm : Mem → Prop) : Nat → Int → Int → Int → Int → Mem → Prop
  | 0 => fun _ _ _ _ _ => False
  | n + 1 => fun y9 y10 y13 y17 M => ((6 ≤ y17 → wp_L_walk_902 Qm M) ∧ (y17 < 6 → ((y13 < y17 → wp_L_walk_902 Qm M) ∧ (y17 ≤ y13 → (inR (1 + y17)) ∧ (0 ≤ (1 + y17) ∧ (1 + y17) < 13) ∧ (0 < y17 → (inR (1 + y9)) ∧ True) ∧ (inR (if y17 ≤ 0 then (0 : Int) else (1 + y9))) ∧ (inR (y10 + (if y17 ≤ 0 then (0 : Int) else (1 + y9)))) ∧ (inR ((y10 + (if y17 ≤ 0 then (0 : Int) else (1 + y9))) + (if y13 ≤ y17 then (0 : Int) else y9))) ∧ (inR ((M 114 0 (1 + y17)) + ((y10 + (if y17 ≤ 0 then (0 : Int) else (1 + y9))) + (if y13 ≤ y17 then (0 : Int) else y9)))) ∧ (0 ≤ (1 + y17) ∧ (1 + y17) < 13) ∧ ∀ M32 : Mem, M32 = up M 114 0 (1 + y17) ((M 114 0 (1 + y17)) + ((y10 + (if y17 ≤ 0 then (0 : Int) else (1 + y9))) + (if y13 ≤ y17 then (0 : Int) else y9))) → (inR (y17 + 1)) ∧ wp_L_walk_842 Qm n y9 y10 y13 (y17 + 1) M32))))
def wp_L_walk_822 (Qm : Mem → Prop) (K195 : Int → Int → Int → Int → Int → Int → Int → Int → Mem → Prop) (K563 : Int → Int → Int → Int → Int → Int → Int → Int → Int → Int → Int → Int → Int → Int → Mem → Prop) (y9 : Int) (y10 : Int) (y12 : Int) (y13 : Int) (y14 : Int) (y15 : Int) (y16 : Int) (y17 : Int) (y18 : Int) (y19 : Int) (y21 : Int) (y22 : Int) (y23 : Int) (y24 : Int) (M : Mem) : Prop := K563 y9 y10 y12 y13 y14 y15 y16 y17 y18 y19 y21 y22 y23 y24 M
def wp_L_walk_797 (Qm : Mem → Prop) (K195 : Int → Int → Int → Int → Int → Int → Int → Int → Mem → Prop) (K563 : Int → Int → Int → Int → Int → Int → Int → Int → Int → Int → Int → Int → Int → Int → Mem → Prop) (y9 : Int) (y10 : Int) (y12 : Int) (y13 : Int) (y14 : Int) (y15 : Int) (y16 : Int) (y17 : Int) (y18 : Int) (y19 : Int) (y21 : Int) (y22 : Int) (y23 : Int) (y24 : Int) (y25 : Int) (M : Mem) : Prop := ((¬ y25 = 0 → wp_L_walk_822 Qm K195 K563 y9 y10 y12 y13 y14 y15 y16 y17 y18 y19 y21 y22 y23 y24 M) ∧ (y25 = 0 → (inR (y13 + 1)) ∧ (inR ((M 112 0 4) - y10)) ∧ (inR (((M 112 0 4) - y10) - 1)) ∧ (inR ((((M 112 0 4) - y10) - 1) - y9)) ∧ wp_L_walk_822 Qm K195 K563 y9 y10 y12 (y13 + 1) ((((M 112 0 4) - y10) - 1) - y9) 1 y16 y17 y18 y19 y21 y22 y23 y24 M))
def wp_L_walk_760 (Qm : Mem → Prop) (K195 : Int → Int → Int → Int → Int → Int → Int → Int → Mem → Prop) (K563 : Int → Int → Int → Int → Int → Int → Int → Int → Int → Int → Int → Int → Int → Int → Mem → Prop) (y9 : Int) (y10 : Int) (y12 : Int) (y13 : Int) (y14 : Int) (y16 : Int) (y17 : Int) (y18 : Int) (y19 : Int) (y21 : Int) (y22 : Int) (y23 : Int) (y24 : Int) (y25 : Int) (y26 : Int) (M : Mem) : Prop := (inR (y26 + y22)) ∧ (inR (y14 - (y26 + y22))) ∧ (inR (y21 - y26)) ∧ wp_L_walk_797 Qm K195 K563 y9 y10 y12 y13 (y14 - (y26 + y22)) 0 y16 y17 y18 y19 (y21 - y26) 0 y23 y24 y25 M
def wp_L_walk_733 (Qm : Mem → Prop) (K195 : Int → Int → Int → Int → Int → Int → Int → Int → Mem → Prop) (K563 : Int → Int → Int → Int → Int → Int → Int → Int → Int → Int → Int → Int → Int → Int → Mem → Prop) (y9 : Int) (y10 : Int) (y12 : Int) (y13 : Int) (y14 : Int) (y16 : Int) (y17 : Int) (y18 : Int) (y19 : Int) (y21 : Int) (y22 : Int) (y23 : Int) (y24 : Int) (y25 : Int) (y26 : Int) (M : Mem) : Prop := ((y19 = 0 → wp_L_walk_760 Qm K195 K563 y9 y10 y12 y13 y14 y16 y17 y18 y19 y21 y22 y23 y24 y25 y26 M) ∧ (¬ y19 = 0 → ((¬ (Int.tmod y17 2) = 0 → wp_L_walk_760 Qm K195 K563 y9 y10 y12 y13 y14 y16 y17 y18 y19 y21 y22 y23 y24 y25 y26 M) ∧ ((Int.tmod y17 2) = 0 → (0 ≤ y18 ∧ y18 < 10) ∧ ((0 ≤ (M 116 0 y18) → wp_L_walk_760 Qm K195 K563 y9 y10 y12 y13 y14 y16 y17 y18 y19 y21 y22 y23 y24 y25 y26 M) ∧ ((M 116 0 y18) < 0 → (0 ≤ y18 ∧ y18 < 10) ∧ ∀ M183 : Mem, M183 = up M 116 0 y18 y13 → wp_L_walk_760 Qm K195 K563 y9 y10 y12 y13 y14 y16 y17 y18 y19 y21 y22 y23 y24 y25 y26 M183))))))
def wp_L_walk_637 (Qm : Mem → Prop) (K195 : Int → Int → Int → Int → Int → Int → Int → Int → Mem → Prop) (K563 : Int → Int → Int → Int → Int → Int → Int → Int → Int → Int → Int → Int → Int → Int → Mem → Prop) (y9 : Int) (y10 : Int) (y12 : Int) (y13 : Int) (y14 : Int) (y16 : Int) (y17 : Int) (y18 : Int) (y19 : Int) (y21 : Int) (y22 : Int) (y23 : Int) (y24 : Int) (y25 : Int) (y26 : Int) (M : Mem) : Prop := ((6 ≤ y13 → wp_L_walk_733 Qm K195 K563 y9 y10 y12 y13 y14 y16 y17 y18 y19 y21 y22 y23 y24 y25 y26 M) ∧ (y13 < 6 → (inR (6 * (if 0 ≤ y18 then y18 else 0))) ∧ (inR ((6 * (if 0 ≤ y18 then y18 else 0)) + y13)) ∧ (0 ≤ ((6 * (if 0 ≤ y18 then y18 else 0)) + y13) ∧ ((6 * (if 0 ≤ y18 then y18 else 0)) + y13) < 60) ∧ (inR ((M 115 0 ((6 * (if 0 ≤ y18 then y18 else 0)) + y13)) + (if y19 = 0 then (0 : Int) else (if ¬ (Int.tmod y17 2) = 0 then (0 : Int) else y26)))) ∧ (0 ≤ ((6 * (if 0 ≤ y18 then y18 else 0)) + y13) ∧ ((6 * (if 0 ≤ y18 then y18 else 0)) + y13) < 60) ∧ ∀ M199 : Mem, M199 = up M 115 0 ((6 * (if 0 ≤ y18 then y18 else 0)) + y13) ((M 115 0 ((6 * (if 0 ≤ y18 then y18 else 0)) + y13)) + (if y19 = 0 then (0 : Int) else (if ¬ (Int.tmod y17 2) = 0 then (0 : Int) else y26))) → (inR (1 + y13)) ∧ (0 ≤ (1 + y13) ∧ (1 + y13) < 13) ∧ (inR (y26 + y22)) ∧ (inR ((M199 114 0 (1 + y13)) + (y26 + y22))) ∧ (0 ≤ (1 + y13) ∧ (1 + y13) < 13) ∧ ∀ M207 : Mem, M207 = up M199 114 0 (1 + y13) ((M199 114 0 (1 + y13)) + (y26 + y22)) → (inR (7 + y13)) ∧ (0 ≤ (7 + y13) ∧ (7 + y13) < 13) ∧ (inR (2 * (M207 112 0 1))) ∧ (inR ((2 * (M207 112 0 1)) + 1)) ∧ (inR (y22 + (if ¬ y17 = ((2 * (M207 112 0 1)) + 1) then (0 : Int) else y26))) ∧ (inR ((M207 114 0 (7 + y13)) + (y22 + (if ¬ y17 = ((2 * (M207 112 0 1)) + 1) then (0 : Int) else y26)))) ∧ (0 ≤ (7 + y13) ∧ (7 + y13) < 13) ∧ ∀ M221 : Mem, M221 = up M207 114 0 (7 + y13) ((M207 114 0 (7 + y13)) + (y22 + (if ¬ y17 = ((2 * (M207 112 0 1)) + 1) then (0 : Int) else y26))) → wp_L_walk_733 Qm K195 K563 y9 y10 y12 y13 y14 y16 y17 y18 y19 y21 y22 y23 y24 y25 y26 M221))
def wp_L_walk_786 (Qm : Mem → Prop) (K195 : Int → Int → Int → Int → Int → Int → Int → Int → Mem → Prop) (K563 : Int → Int → Int → Int → Int → Int → Int → Int → Int → Int → Int → Int → Int → Int → Mem → Prop) (y9 : Int) (y10 : Int) (y12 : Int) (y13 : Int) (y14 : Int) (y15 : Int) (y16 : Int) (y17 : Int) (y18 : Int) (y19 : Int) (y21 : Int) (y22 : Int) (y23 : Int) (y24 : Int) (y25 : Int) (M : Mem) : Prop := ((y15 = 0 → wp_L_walk_797 Qm K195 K563 y9 y10 y12 y13 y14 y15 y16 y17 y18 y19 y21 y22 y23 y24 y25 M) ∧ (¬ y15 = 0 → ∀ M223 : Mem, M223 = up M 114 0 0 (-1) → Qm M223))
def wp_L_walk_632 (Qm : Mem → Prop) (K195 : Int → Int → Int → Int → Int → Int → Int → Int → Mem → Prop) (K563 : Int → Int → Int → Int → Int → Int → Int → Int → Int → Int → Int → Int → Int → Int → Mem → Prop) (y9 : Int) (y10 : Int) (y12 : Int) (y13 : Int) (y14 : Int) (y15 : Int) (y16 : Int) (y17 : Int) (y18 : Int) (y19 : Int) (y21 : Int) (y22 : Int) (y23 : Int) (y24 : Int) (y25 : Int) (y26 : Int) (M : Mem) : Prop := ((y26 ≤ 0 → wp_L_walk_786 Qm K195 K563 y9 y10 y12 y13 y14 y15 y16 y17 y18 y19 y21 y22 y23 y24 y25 M) ∧ (0 < y26 → wp_L_walk_637 Qm K195 K563 y9 y10 y12 y13 y14 y16 y17 y18 y19 y21 y22 y23 y24 y25 y26 M))
def wp_L_walk_563 (Qm : Mem → Prop) (K195 : Int → Int → Int → Int → Int → Int → Int → Int → Mem → Prop) : Nat → Int → Int → Int → Int → Int → Int → Int → Int → Int → Int → Int → Int → Int → Int → Mem → Prop
  | 0 => fun _ _ _ _ _ _ _ _ _ _ _ _ _ _ _ => False
  | n + 1 => fun y9 y10 y12 y13 y14 y15 y16 y17 y18 y19 y21 y22 y23 y24 M => ((y21 ≤ 0 → (inR (y17 + 1)) ∧ K195 y9 y10 y12 y13 y14 y15 y16 (y17 + 1) M) ∧ (0 < y21 → (inR (y21 + y22)) ∧ (inR ((y21 + y22) + (if y24 = 0 then y9 else 0))) ∧ ((if y14 < ((y21 + y22) + (if y24 = 0 then y9 else 0)) then (0 : Int) else 1) = 0 → (inR (y14 - y9)) ∧ (inR ((y14 - y9) - y22)) ∧ True) ∧ (inR (if (if y14 < ((y21 + y22) + (if y24 = 0 then y9 else 0)) then (0 : Int) else 1) = 0 then ((y14 - y9) - y22) else y21)) ∧ ((¬ (if y14 < ((y21 + y22) + (if y24 = 0 then y9 else 0)) then (0 : Int) else 1) = 0 → wp_L_walk_637 Qm K195 (wp_L_walk_563 Qm K195 n) y9 y10 y12 y13 y14 y16 y17 y18 y19 y21 y22 y23 y24 (if y14 < ((y21 + y22) + (if y24 = 0 then y9 else 0)) then (0 : Int) else 1) (if (if y14 < ((y21 + y22) + (if y24 = 0 then y9 else 0)) then (0 : Int) else 1) = 0 then ((y14 - y9) - y22) else y21) M) ∧ ((if y14 < ((y21 + y22) + (if y24 = 0 then y9 else 0)) then (0 : Int) else 1) = 0 → ((¬ y23 = 0 → wp_L_walk_632 Qm K195 (wp_L_walk_563 Qm K195 n) y9 y10 y12 y13 y14 y15 y16 y17 y18 y19 y21 y22 y23 y24 (if y14 < ((y21 + y22) + (if y24 = 0 then y9 else 0)) then (0 : Int) else 1) (if (if y14 < ((y21 + y22) + (if y24 = 0 then y9 else 0)) then (0 : Int) else 1) = 0 then ((y14 - y9) - y22) else y21) M) ∧ (y23 = 0 → ((y15 = 0 → wp_L_walk_786 Qm K195 (wp_L_walk_563 Qm K195 n) y9 y10 y12 y13 y14 y15 y16 y17 y18 y19 y21 y22 y23 y24 (if y14 < ((y21 + y22) + (if y24 = 0 then y9 else 0)) then (0 : Int) else 1) M) ∧ (¬ y15 = 0 → wp_L_walk_632 Qm K195 (wp_L_walk_563 Qm K195 n) y9 y10 y12 y13 y14 y15 y16 y17 y18 y19 y21 y22 y23 y24 (if y14 < ((y21 + y22) + (if y24 = 0 then y9 else 0)) then (0 : Int) else 1) (if (if y14 < ((y21 + y22) + (if y24 = 0 then y9 else 0)) then (0 : Int) else 1) = 0 then ((y14 - y9) - y22) else y21) M))))))))
def wp_L_walk_425 (Qm : Mem → Prop) (K195 : Int → Int → Int → Int → Int → Int → Int → Int → Mem → Prop) (y9 : Int) (y10 : Int) (y12 : Int) (y13 : Int) (y14 : Int) (y15 : Int) (y16 : Int) (y17 : Int) (y18 : Int) (y19 : Int) (y21 : Int) (z0 : Int) (M : Mem) : Prop := (inR (2 * (M 112 0 1))) ∧ ((2 * (M 112 0 1)) ≤ y17 → (inR (2 * (M 112 0 1))) ∧ (inR ((2 * (M 112 0 1)) + 1)) ∧ True) ∧ (y17 < (2 * (M 112 0 1)) → (¬ (Int.tmod y17 2) = 0 → (inR (2 * (M 112 0 1))) ∧ (inR ((2 * (M 112 0 1)) + 1)) ∧ True) ∧ ((Int.tmod y17 2) = 0 → (¬ y19 = 0 → (inR (3 * y18)) ∧ (inR ((3 * y18) + 2)) ∧ (0 ≤ ((3 * y18) + 2) ∧ ((3 * y18) + 2) < 30) ∧ True) ∧ True) ∧ True) ∧ (inR (2 * (M 112 0 1))) ∧ (inR ((2 * (M 112 0 1)) + 1)) ∧ (¬ y17 = ((2 * (M 112 0 1)) + 1) → (inR (2 * (M 112 0 1))) ∧ (¬ y17 = (2 * (M 112 0 1)) → (y9 = 0 → (y16 = 0 → (inR (2 * y12)) ∧ True) ∧ True) ∧ True) ∧ (y17 = (2 * (M 112 0 1)) → (¬ y16 = 0 → (y9 = 0 → (y16 = 0 → (inR (2 * y12)) ∧ True) ∧ True) ∧ True) ∧ True) ∧ True) ∧ ((y19 = 0 → (∃ n225 : Nat, wp_L_walk_563 Qm K195 n225 y9 y10 y12 y13 y14 y15 y16 y17 y18 y19 y21 z0 (if (2 * (M 112 0 1)) ≤ y17 then (if ¬ y17 = ((2 * (M 112 0 1)) + 1) then (0 : Int) else 1) else (if ¬ (Int.tmod y17 2) = 0 then (if ¬ y17 = ((2 * (M 112 0 1)) + 1) then (0 : Int) else 1) else (if y19 = 0 then (0 : Int) else (if ¬ (M 105 0 ((3 * y18) + 2)) = 1 then (0 : Int) else 1)))) (if y17 = ((2 * (M 112 0 1)) + 1) then (1 : Int) else (if ¬ y17 = (2 * (M 112 0 1)) then (if ¬ y9 = 0 then (0 : Int) else (if ¬ y16 = 0 then (0 : Int) else (if ¬ y17 = (2 * y12) then (0 : Int) else 1))) else (if y16 = 0 then (1 : Int) else (if ¬ y9 = 0 then (0 : Int) else (if ¬ y16 = 0 then (0 : Int) else (if ¬ y17 = (2 * y12) then (0 : Int) else 1)))))) M)) ∧ (¬ y19 = 0 → ((¬ (Int.tmod y17 2) = 0 → (∃ n227 : Nat, wp_L_walk_563 Qm K195 n227 y9 y10 y12 y13 y14 y15 y16 y17 y18 y19 y21 z0 (if (2 * (M 112 0 1)) ≤ y17 then (if ¬ y17 = ((2 * (M 112 0 1)) + 1) then (0 : Int) else 1) else (if ¬ (Int.tmod y17 2) = 0 then (if ¬ y17 = ((2 * (M 112 0 1)) + 1) then (0 : Int) else 1) else (if y19 = 0 then (0 : Int) else (if ¬ (M 105 0 ((3 * y18) + 2)) = 1 then (0 : Int) else 1)))) (if y17 = ((2 * (M 112 0 1)) + 1) then (1 : Int) else (if ¬ y17 = (2 * (M 112 0 1)) then (if ¬ y9 = 0 then (0 : Int) else (if ¬ y16 = 0 then (0 : Int) else (if ¬ y17 = (2 * y12) then (0 : Int) else 1))) else (if y16 = 0 then (1 : Int) else (if ¬ y9 = 0 then (0 : Int) else (if ¬ y16 = 0 then (0 : Int) else (if ¬ y17 = (2 * y12) then (0 : Int) else 1)))))) M)) ∧ ((Int.tmod y17 2) = 0 → (0 ≤ y18 ∧ y18 < 10) ∧ ∀ M229 : Mem, M229 = up M 116 0 y18 (-1) → (∃ n231 : Nat, wp_L_walk_563 Qm K195 n231 y9 y10 y12 y13 y14 y15 y16 y17 y18 y19 y21 z0 (if (2 * (M 112 0 1)) ≤ y17 then (if ¬ y17 = ((2 * (M 112 0 1)) + 1) then (0 : Int) else 1) else (if ¬ (Int.tmod y17 2) = 0 then (if ¬ y17 = ((2 * (M 112 0 1)) + 1) then (0 : Int) else 1) else (if y19 = 0 then (0 : Int) else (if ¬ (M 105 0 ((3 * y18) + 2)) = 1 then (0 : Int) else 1)))) (if y17 = ((2 * (M 112 0 1)) + 1) then (1 : Int) else (if ¬ y17 = (2 * (M 112 0 1)) then (if ¬ y9 = 0 then (0 : Int) else (if ¬ y16 = 0 then (0 : Int) else (if ¬ y17 = (2 * y12) then (0 : Int) else 1))) else (if y16 = 0 then (1 : Int) else (if ¬ y9 = 0 then (0 : Int) else (if ¬ y16 = 0 then (0 : Int) else (if ¬ y17 = (2 * y12) then (0 : Int) else 1)))))) M229)))))
def wp_L_walk_424 (Qm : Mem → Prop) (K195 : Int → Int → Int → Int → Int → Int → Int → Int → Mem → Prop) (y9 : Int) (y10 : Int) (y12 : Int) (y13 : Int) (y14 : Int) (y15 : Int) (y16 : Int) (y17 : Int) (y18 : Int) (y19 : Int) (y21 : Int) (M : Mem) : Prop := wp_L_walk_425 Qm K195 y9 y10 y12 y13 y14 y15 y16 y17 y18 y19 y21 0 M
def wp_L_walk_195 (Qm : Mem → Prop) : Nat → Int → Int → Int → Int → Int → Int → Int → Int → Mem → Prop
  | 0 => fun _ _ _ _ _ _ _ _ _ => False
  | n + 1 => fun y9 y10 y12 y13 y14 y15 y16 y17 M => (inR (2 * (M 112 0 1))) ∧ (inR ((2 * (M 112 0 1)) + 2)) ∧ ((((2 * (M 112 0 1)) + 2) ≤ y17 → (inR (y13 + 1)) ∧ ∀ M15 : Mem, M15 = up M 114 0 0 (y13 + 1) → (∃ n35 : Nat, wp_L_walk_842 Qm n35 y9 y10 y13 0 M15)) ∧ (y17 < ((2 * (M 112 0 1)) + 2) → (inR (2 * (M 112 0 1))) ∧ (y17 < (2 * (M 112 0 1)) → (0 ≤ (Int.tdiv y17 2) ∧ (Int.tdiv y17 2) < 10) ∧ True) ∧ (0 ≤ (if (2 * (M 112 0 1)) ≤ y17 then ((-1) : Int) else (M 106 0 (Int.tdiv y17 2))) → (inR (3 * (if (2 * (M 112 0 1)) ≤ y17 then ((-1) : Int) else (M 106 0 (Int.tdiv y17 2))))) ∧ (0 ≤ (3 * (if (2 * (M 112 0 1)) ≤ y17 then ((-1) : Int) else (M 106 0 (Int.tdiv y17 2)))) ∧ (3 * (if (2 * (M 112 0 1)) ≤ y17 then ((-1) : Int) else (M 106 0 (Int.tdiv y17 2)))) < 30) ∧ True) ∧ (¬ (if (if (2 * (M 112 0 1)) ≤ y17 then ((-1) : Int) else (M 106 0 (Int.tdiv y17 2))) < 0 then (0 : Int) else (if ¬ (M 105 0 (3 * (if (2 * (M 112 0 1)) ≤ y17 then ((-1) : Int) else (M 106 0 (Int.tdiv y17 2))))) = 1 then (0 : Int) else 1)) = 0 → (inR (3 * (if (2 * (M 112 0 1)) ≤ y17 then ((-1) : Int) else (M 106 0 (Int.tdiv y17 2))))) ∧ (inR ((3 * (if (2 * (M 112 0 1)) ≤ y17 then ((-1) : Int) else (M 106 0 (Int.tdiv y17 2)))) + 1)) ∧ (0 ≤ ((3 * (if (2 * (M 112 0 1)) ≤ y17 then ((-1) : Int) else (M 106 0 (Int.tdiv y17 2)))) + 1) ∧ ((3 * (if (2 * (M 112 0 1)) ≤ y17 then ((-1) : Int) else (M 106 0 (Int.tdiv y17 2)))) + 1) < 30) ∧ (0 < (M 105 0 ((3 * (if (2 * (M 112 0 1)) ≤ y17 then ((-1) : Int) else (M 106 0 (Int.tdiv y17 2)))) + 1)) → (¬ (Int.tdiv y17 2) = y12 → (inR ((Int.tdiv y17 2) + 1)) ∧ (0 ≤ ((Int.tdiv y17 2) + 1) ∧ ((Int.tdiv y17 2) + 1) < 10) ∧ (inR (3 * (M 106 0 ((Int.tdiv y17 2) + 1)))) ∧ (inR ((3 * (M 106 0 ((Int.tdiv y17 2) + 1))) + 1)) ∧ (0 ≤ ((3 * (M 106 0 ((Int.tdiv y17 2) + 1))) + 1) ∧ ((3 * (M 106 0 ((Int.tdiv y17 2) + 1))) + 1) < 30) ∧ (inR (3 * (if (2 * (M 112 0 1)) ≤ y17 then ((-1) : Int) else (M 106 0 (Int.tdiv y17 2))))) ∧ (inR ((3 * (if (2 * (M 112 0 1)) ≤ y17 then ((-1) : Int) else (M 106 0 (Int.tdiv y17 2)))) + 1)) ∧ (0 ≤ ((3 * (if (2 * (M 112 0 1)) ≤ y17 then ((-1) : Int) else (M 106 0 (Int.tdiv y17 2)))) + 1) ∧ ((3 * (if (2 * (M 112 0 1)) ≤ y17 then ((-1) : Int) else (M 106 0 (Int.tdiv y17 2)))) + 1) < 30) ∧ True) ∧ True) ∧ True) ∧ (inR (2 * (M 112 0 1))) ∧ ((2 * (M 112 0 1)) ≤ y17 → (inR (2 * (M 112 0 1))) ∧ True) ∧ (y17 < (2 * (M 112 0 1)) → ((Int.tmod y17 2) = 0 → (¬ (if (if (2 * (M 112 0 1)) ≤ y17 then ((-1) : Int) else (M 106 0 (Int.tdiv y17 2))) < 0 then (0 : Int) else (if ¬ (M 105 0 (3 * (if (2 * (M 112 0 1)) ≤ y17 then ((-1) : Int) else (M 106 0 (Int.tdiv y17 2))))) = 1 then (0 : Int) else 1)) = 0 → (inR (20 + (if (2 * (M 112 0 1)) ≤ y17 then ((-1) : Int) else (M 106 0 (Int.tdiv y17 2))))) ∧ (0 ≤ (20 + (if (2 * (M 112 0 1)) ≤ y17 then ((-1) : Int) else (M 106 0 (Int.tdiv y17 2)))) ∧ (20 + (if (2 * (M 112 0 1)) ≤ y17 then ((-1) : Int) else (M 106 0 (Int.tdiv y17 2)))) < 30) ∧ True) ∧ True) ∧ True) ∧ (inR (2 * (M 112 0 1))) ∧ (((2 * (M 112 0 1)) ≤ y17 → wp_L_walk_424 Qm (wp_L_walk_195 Qm n) y9 y10 y12 y13 y14 y15 y16 y17 (if (2 * (M 112 0 1)) ≤ y17 then ((-1) : Int) else (M 106 0 (Int.tdiv y17 2))) (if (if (2 * (M 112 0 1)) ≤ y17 then ((-1) : Int) else (M 106 0 (Int.tdiv y17 2))) < 0 then (0 : Int) else (if ¬ (M 105 0 (3 * (if (2 * (M 112 0 1)) ≤ y17 then ((-1) : Int) else (M 106 0 (Int.tdiv y17 2))))) = 1 then (0 : Int) else 1)) (if (2 * (M 112 0 1)) ≤ y17 then (if ¬ y17 = (2 * (M 112 0 1)) then y16 else y9) else (if ¬ (Int.tmod y17 2) = 0 then (if (if (if (if (2 * (M 112 0 1)) ≤ y17 then ((-1) : Int) else (M 106 0 (Int.tdiv y17 2))) < 0 then (0 : Int) else (if ¬ (M 105 0 (3 * (if (2 * (M 112 0 1)) ≤ y17 then ((-1) : Int) else (M 106 0 (Int.tdiv y17 2))))) = 1 then (0 : Int) else 1)) = 0 then (0 : Int) else (if (M 105 0 ((3 * (if (2 * (M 112 0 1)) ≤ y17 then ((-1) : Int) else (M 106 0 (Int.tdiv y17 2)))) + 1)) ≤ 0 then (0 : Int) else (if (Int.tdiv y17 2) = y12 then (1 : Int) else (if (M 105 0 ((3 * (M 106 0 ((Int.tdiv y17 2) + 1))) + 1)) = (M 105 0 ((3 * (if (2 * (M 112 0 1)) ≤ y17 then ((-1) : Int) else (M 106 0 (Int.tdiv y17 2)))) + 1)) then (0 : Int) else 1)))) = 0 then (0 : Int) else y9) else (if (if (if (2 * (M 112 0 1)) ≤ y17 then ((-1) : Int) else (M 106 0 (Int.tdiv y17 2))) < 0 then (0 : Int) else (if ¬ (M 105 0 (3 * (if (2 * (M 112 0 1)) ≤ y17 then ((-1) : Int) else (M 106 0 (Int.tdiv y17 2))))) = 1 then (0 : Int) else 1)) = 0 then (0 : Int) else (M 113 0 (20 + (if (2 * (M 112 0 1)) ≤ y17 then ((-1) : Int) else (M 106 0 (Int.tdiv y17 2)))))))) M) ∧ (y17 < (2 * (M 112 0 1)) → ((¬ (Int.tmod y17 2) = 0 → wp_L_walk_424 Qm (wp_L_walk_195 Qm n) y9 y10 y12 y13 y14 y15 y16 y17 (if (2 * (M 112 0 1)) ≤ y17 then ((-1) : Int) else (M 106 0 (Int.tdiv y17 2))) (if (if (2 * (M 112 0 1)) ≤ y17 then ((-1) : Int) else (M 106 0 (Int.tdiv y17 2))) < 0 then (0 : Int) else (if ¬ (M 105 0 (3 * (if (2 * (M 112 0 1)) ≤ y17 then ((-1) : Int) else (M 106 0 (Int.tdiv y17 2))))) = 1 then (0 : Int) else 1)) (if (2 * (M 112 0 1)) ≤ y17 then (if ¬ y17 = (2 * (M 112 0 1)) then y16 else y9) else (if ¬ (Int.tmod y17 2) = 0 then (if (if (if (if (2 * (M 112 0 1)) ≤ y17 then ((-1) : Int) else (M 106 0 (Int.tdiv y17 2))) < 0 then (0 : Int) else (if ¬ (M 105 0 (3 * (if (2 * (M 112 0 1)) ≤ y17 then ((-1) : Int) else (M 106 0 (Int.tdiv y17 2))))) = 1 then (0 : Int) else 1)) = 0 then (0 : Int) else (if (M 105 0 ((3 * (if (2 * (M 112 0 1)) ≤ y17 then ((-1) : Int) else (M 106 0 (Int.tdiv y17 2)))) + 1)) ≤ 0 then (0 : Int) else (if (Int.tdiv y17 2) = y12 then (1 : Int) else (if (M 105 0 ((3 * (M 106 0 ((Int.tdiv y17 2) + 1))) + 1)) = (M 105 0 ((3 * (if (2 * (M 112 0 1)) ≤ y17 then ((-1) : Int) else (M 106 0 (Int.tdiv y17 2)))) + 1)) then (0 : Int) else 1)))) = 0 then (0 : Int) else y9) else (if (if (if (2 * (M 112 0 1)) ≤ y17 then ((-1) : Int) else (M 106 0 (Int.tdiv y17 2))) < 0 then (0 : Int) else (if ¬ (M 105 0 (3 * (if (2 * (M 112 0 1)) ≤ y17 then ((-1) : Int) else (M 106 0 (Int.tdiv y17 2))))) = 1 then (0 : Int) else 1)) = 0 then (0 : Int) else (M 113 0 (20 + (if (2 * (M 112 0 1)) ≤ y17 then ((-1) : Int) else (M 106 0 (Int.tdiv y17 2)))))))) M) ∧ ((Int.tmod y17 2) = 0 → (((if (if (2 * (M 112 0 1)) ≤ y17 then ((-1) : Int) else (M 106 0 (Int.tdiv y17 2))) < 0 then (0 : Int) else (if ¬ (M 105 0 (3 * (if (2 * (M 112 0 1)) ≤ y17 then ((-1) : Int) else (M 106 0 (Int.tdiv y17 2))))) = 1 then (0 : Int) else 1)) = 0 → wp_L_walk_424 Qm (wp_L_walk_195 Qm n) y9 y10 y12 y13 y14 y15 y16 y17 (if (2 * (M 112 0 1)) ≤ y17 then ((-1) : Int) else (M 106 0 (Int.tdiv y17 2))) (if (if (2 * (M 112 0 1)) ≤ y17 then ((-1) : Int) else (M 106 0 (Int.tdiv y17 2))) < 0 then (0 : Int) else (if ¬ (M 105 0 (3 * (if (2 * (M 112 0 1)) ≤ y17 then ((-1) : Int) else (M 106 0 (Int.tdiv y17 2))))) = 1 then (0 : Int) else 1)) (if (2 * (M 112 0 1)) ≤ y17 then (if ¬ y17 = (2 * (M 112 0 1)) then y16 else y9) else (if ¬ (Int.tmod y17 2) = 0 then (if (if (if (if (2 * (M 112 0 1)) ≤ y17 then ((-1) : Int) else (M 106 0 (Int.tdiv y17 2))) < 0 then (0 : Int) else (if ¬ (M 105 0 (3 * (if (2 * (M 112 0 1)) ≤ y17 then ((-1) : Int) else (M 106 0 (Int.tdiv y17 2))))) = 1 then (0 : Int) else 1)) = 0 then (0 : Int) else (if (M 105 0 ((3 * (if (2 * (M 112 0 1)) ≤ y17 then ((-1) : Int) else (M 106 0 (Int.tdiv y17 2)))) + 1)) ≤ 0 then (0 : Int) else (if (Int.tdiv y17 2) = y12 then (1 : Int) else (if (M 105 0 ((3 * (M 106 0 ((Int.tdiv y17 2) + 1))) + 1)) = (M 105 0 ((3 * (if (2 * (M 112 0 1)) ≤ y17 then ((-1) : Int) else (M 106 0 (Int.tdiv y17 2)))) + 1)) then (0 : Int) else 1)))) = 0 then (0 : Int) else y9) else (if (if (if (2 * (M 112 0 1)) ≤ y17 then ((-1) : Int) else (M 106 0 (Int.tdiv y17 2))) < 0 then (0 : Int) else (if ¬ (M 105 0 (3 * (if (2 * (M 112 0 1)) ≤ y17 then ((-1) : Int) else (M 106 0 (Int.tdiv y17 2))))) = 1 then (0 : Int) else 1)) = 0 then (0 : Int) else (M 113 0 (20 + (if (2 * (M 112 0 1)) ≤ y17 then ((-1) : Int) else (M 106 0 (Int.tdiv y17 2)))))))) M) ∧ (¬ (if (if (2 * (M 112 0 1)) ≤ y17 then ((-1) : Int) else (M 106 0 (Int.tdiv y17 2))) < 0 then (0 : Int) else (if ¬ (M 105 0 (3 * (if (2 * (M 112 0 1)) ≤ y17 then ((-1) : Int) else (M 106 0 (Int.tdiv y17 2))))) = 1 then (0 : Int) else 1)) = 0 → ((¬ (M 112 0 5) = 0 → wp_L_walk_424 Qm (wp_L_walk_195 Qm n) y9 y10 y12 y13 y14 y15 y16 y17 (if (2 * (M 112 0 1)) ≤ y17 then ((-1) : Int) else (M 106 0 (Int.tdiv y17 2))) (if (if (2 * (M 112 0 1)) ≤ y17 then ((-1) : Int) else (M 106 0 (Int.tdiv y17 2))) < 0 then (0 : Int) else (if ¬ (M 105 0 (3 * (if (2 * (M 112 0 1)) ≤ y17 then ((-1) : Int) else (M 106 0 (Int.tdiv y17 2))))) = 1 then (0 : Int) else 1)) (if (2 * (M 112 0 1)) ≤ y17 then (if ¬ y17 = (2 * (M 112 0 1)) then y16 else y9) else (if ¬ (Int.tmod y17 2) = 0 then (if (if (if (if (2 * (M 112 0 1)) ≤ y17 then ((-1) : Int) else (M 106 0 (Int.tdiv y17 2))) < 0 then (0 : Int) else (if ¬ (M 105 0 (3 * (if (2 * (M 112 0 1)) ≤ y17 then ((-1) : Int) else (M 106 0 (Int.tdiv y17 2))))) = 1 then (0 : Int) else 1)) = 0 then (0 : Int) else (if (M 105 0 ((3 * (if (2 * (M 112 0 1)) ≤ y17 then ((-1) : Int) else (M 106 0 (Int.tdiv y17 2)))) + 1)) ≤ 0 then (0 : Int) else (if (Int.tdiv y17 2) = y12 then (1 : Int) else (if (M 105 0 ((3 * (M 106 0 ((Int.tdiv y17 2) + 1))) + 1)) = (M 105 0 ((3 * (if (2 * (M 112 0 1)) ≤ y17 then ((-1) : Int) else (M 106 0 (Int.tdiv y17 2)))) + 1)) then (0 : Int) else 1)))) = 0 then (0 : Int) else y9) else (if (if (if (2 * (M 112 0 1)) ≤ y17 then ((-1) : Int) else (M 106 0 (Int.tdiv y17 2))) < 0 then (0 : Int) else (if ¬ (M 105 0 (3 * (if (2 * (M 112 0 1)) ≤ y17 then ((-1) : Int) else (M 106 0 (Int.tdiv y17 2))))) = 1 then (0 : Int) else 1)) = 0 then (0 : Int) else (M 113 0 (20 + (if (2 * (M 112 0 1)) ≤ y17 then ((-1) : Int) else (M 106 0 (Int.tdiv y17 2)))))))) M) ∧ ((M 112 0 5) = 0 → wp_L_noteLines (if (2 * (M 112 0 1)) ≤ y17 then ((-1) : Int) else (M 106 0 (Int.tdiv y17 2))) M fun (x235 : Int) (M234 : Mem) => wp_L_walk_425 Qm (wp_L_walk_195 Qm n) y9 y10 y12 y13 y14 y15 y16 y17 (if (2 * (M 112 0 1)) ≤ y17 then ((-1) : Int) else (M 106 0 (Int.tdiv y17 2))) (if (if (2 * (M 112 0 1)) ≤ y17 then ((-1) : Int) else (M 106 0 (Int.tdiv y17 2))) < 0 then (0 : Int) else (if ¬ (M 105 0 (3 * (if (2 * (M 112 0 1)) ≤ y17 then ((-1) : Int) else (M 106 0 (Int.tdiv y17 2))))) = 1 then (0 : Int) else 1)) (if (2 * (M 112 0 1)) ≤ y17 then (if ¬ y17 = (2 * (M 112 0 1)) then y16 else y9) else (if ¬ (Int.tmod y17 2) = 0 then (if (if (if (if (2 * (M 112 0 1)) ≤ y17 then ((-1) : Int) else (M 106 0 (Int.tdiv y17 2))) < 0 then (0 : Int) else (if ¬ (M 105 0 (3 * (if (2 * (M 112 0 1)) ≤ y17 then ((-1) : Int) else (M 106 0 (Int.tdiv y17 2))))) = 1 then (0 : Int) else 1)) = 0 then (0 : Int) else (if (M 105 0 ((3 * (if (2 * (M 112 0 1)) ≤ y17 then ((-1) : Int) else (M 106 0 (Int.tdiv y17 2)))) + 1)) ≤ 0 then (0 : Int) else (if (Int.tdiv y17 2) = y12 then (1 : Int) else (if (M 105 0 ((3 * (M 106 0 ((Int.tdiv y17 2) + 1))) + 1)) = (M 105 0 ((3 * (if (2 * (M 112 0 1)) ≤ y17 then ((-1) : Int) else (M 106 0 (Int.tdiv y17 2)))) + 1)) then (0 : Int) else 1)))) = 0 then (0 : Int) else y9) else (if (if (if (2 * (M 112 0 1)) ≤ y17 then ((-1) : Int) else (M 106 0 (Int.tdiv y17 2))) < 0 then (0 : Int) else (if ¬ (M 105 0 (3 * (if (2 * (M 112 0 1)) ≤ y17 then ((-1) : Int) else (M 106 0 (Int.tdiv y17 2))))) = 1 then (0 : Int) else 1)) = 0 then (0 : Int) else (M 113 0 (20 + (if (2 * (M 112 0 1)) ≤ y17 then ((-1) : Int) else (M 106 0 (Int.tdiv y17 2)))))))) x235 M234))))))))))
def wp_L_walk_190 (Qm : Mem → Prop) (y9 : Int) (y10 : Int) (y12 : Int) (y13 : Int) (y14 : Int) (y15 : Int) (z0 : Int) (M : Mem) : Prop := (∃ n237 : Nat, wp_L_walk_195 Qm n237 y9 y10 y12 y13 y14 y15 z0 0 M)
def wp_L_walk_72 (Qm : Mem → Prop) : Nat → Int → Int → Int → Int → Int → Mem → Prop
  | 0 => fun _ _ _ _ _ _ => False
  | n + 1 => fun y9 y10 y11 y12 y13 M => (((M 112 0 1) ≤ y13 → (inR ((M 112 0 4) - y10)) ∧ ((¬ (M 112 0 5) = 1 → wp_L_walk_190 Qm y9 y10 y12 0 ((M 112 0 4) - y10) 1 0 M) ∧ ((M 112 0 5) = 1 → wp_L_noteLines (-1) M fun (x239 : Int) (M238 : Mem) => wp_L_walk_190 Qm y9 y10 y12 0 ((M 112 0 4) - y10) 1 x239 M238))) ∧ (y13 < (M 112 0 1) → (inR (3 * y13)) ∧ (0 ≤ (3 * y13) ∧ (3 * y13) < 30) ∧ (¬ (M 105 0 (3 * y13)) = 1 → (inR (20 + y13)) ∧ (0 ≤ (20 + y13) ∧ (20 + y13) < 30) ∧ True) ∧ (inR (y10 + (if ¬ (M 105 0 (3 * y13)) = 1 then (M 113 0 (20 + y13)) else 0))) ∧ (inR (3 * y13)) ∧ (0 ≤ (3 * y13) ∧ (3 * y13) < 30) ∧ (inR (y11 + (if ¬ (M 105 0 (3 * y13)) = 1 then (0 : Int) else 1))) ∧ (0 ≤ y13 ∧ y13 < 10) ∧ (inR (3 * (M 106 0 y13))) ∧ (0 ≤ (3 * (M 106 0 y13)) ∧ (3 * (M 106 0 y13)) < 30) ∧ (inR (y13 + 1)) ∧ wp_L_walk_72 Qm n y9 (y10 + (if ¬ (M 105 0 (3 * y13)) = 1 then (M 113 0 (20 + y13)) else 0)) (y11 + (if ¬ (M 105 0 (3 * y13)) = 1 then (0 : Int) else 1)) (if ¬ (M 105 0 (3 * (M 106 0 y13))) = 1 then y12 else y13) (y13 + 1) M))
def wp_L_walk_50 (Qm : Mem → Prop) : Nat → Int → Int → Int → Int → Int → Mem → Prop
  | 0 => fun _ _ _ _ _ _ => False
  | n + 1 => fun y9 y10 y11 y12 y13 M => ((13 ≤ y13 → (∃ n267 : Nat, wp_L_walk_72 Qm n267 y9 y10 y11 y12 0 M)) ∧ (y13 < 13 → (0 ≤ y13 ∧ y13 < 13) ∧ ∀ M269 : Mem, M269 = up M 114 0 y13 0 → (inR (y13 + 1)) ∧ wp_L_walk_50 Qm n y9 y10 y11 y12 (y13 + 1) M269))
def wp_L_walk_28 (Qm : Mem → Prop) : Nat → Int → Int → Int → Int → Int → Mem → Prop
  | 0 => fun _ _ _ _ _ _ => False
  | n + 1 => fun y9 y10 y11 y12 y13 M => ((60 ≤ y13 → (∃ n272 : Nat, wp_L_walk_50 Qm n272 y9 y10 y11 y12 0 M)) ∧ (y13 < 60 → (0 ≤ y13 ∧ y13 < 60) ∧ ∀ M274 : Mem, M274 = up M 115 0 y13 0 → (inR (y13 + 1)) ∧ wp_L_walk_28 Qm n y9 y10 y11 y12 (y13 + 1) M274))
def wp_L_walk (M : Mem) (Qm : Mem → Prop) : Prop := wp_L_sums M fun (x2 : Int) (M1 : Mem) => (∃ n277 : Nat, wp_L_walk_28 Qm n277 (if x2 = 0 then (0 : Int) else 1) 0 0 (-1) 0 M1)
set_option maxHeartbeats 4000000 in
set_option maxRecDepth 100000 in
theorem t_L_walk_902 (X : CX p m c cL_walk 27 s args RL G B κ meth none) (ho114 : okk κ 114 0) (ho115 : okk κ 115 0) (ho116 : okk κ 116 0) {Qm : Mem → Prop} : ∀ M : Mem, wp_L_walk_902 Qm M → ∀ (H : Heap) (locs : List Loc), Rp G e0 α κ B M H → va_S (fun q => B ≤ q) s.heap H locs → ∀ (ls : Array Slot), lv_has ls 27 [] → WV p l e 2 s m args below meth c G e0 α κ B Qm H locs 902 ls [] := by
  intro M hw H locs hR hS ls hl
  have hw : Qm M := hw
  exact sa_vret X.1 X.2.2.2.1 X.2.2.2.2 hR hS hw dL_walk_902
set_option maxHeartbeats 4000000 in
set_option maxRecDepth 100000 in
theorem t_L_walk_842 (X : CX p m c cL_walk 27 s args RL G B κ meth none) (ho114 : okk κ 114 0) (ho115 : okk κ 115 0) (ho116 : okk κ 116 0) {Qm : Mem → Prop} : ∀ n : Nat, ∀ y9 : Int, ∀ y10 : Int, ∀ y13 : Int, ∀ y17 : Int, ∀ M : Mem, wp_L_walk_842 Qm n y9 y10 y13 y17 M → inR y9 → inR y10 → inR y13 → inR y17 → ∀ (H : Heap) (locs : List Loc), Rp G e0 α κ B M H → va_S (fun q => B ≤ q) s.heap H locs → ∀ (ls : Array Slot), lv_has ls 27 [(6, .ref (α 114 0)), (9, .int (Int32.ofInt y9)), (10, .int (Int32.ofInt y10)), (13, .int (Int32.ofInt y13)), (17, .int (Int32.ofInt y17))] → WV p l e 2 s m args below meth c G e0 α κ B Qm H locs 842 ls [] := by
  intro n
  induction n with
  | zero =>
    intro y9 y10 y13 y17 M hw hy9 hy10 hy13 hy17 H locs hR hS ls hl
    exact hw.elim
  | succ n ih =>
    intro y9 y10 y13 y17 M hw hy9 hy10 hy13 hy17 H locs hR hS ls hl
    have hw : ((6 ≤ y17 → wp_L_walk_902 Qm M) ∧ (y17 < 6 → ((y13 < y17 → wp_L_walk_902 Qm M) ∧ (y17 ≤ y13 → (inR (1 + y17)) ∧ (0 ≤ (1 + y17) ∧ (1 + y17) < 13) ∧ (0 < y17 → (inR (1 + y9)) ∧ True) ∧ (inR (if y17 ≤ 0 then (0 : Int) else (1 + y9))) ∧ (inR (y10 + (if y17 ≤ 0 then (0 : Int) else (1 + y9)))) ∧ (inR ((y10 + (if y17 ≤ 0 then (0 : Int) else (1 + y9))) + (if y13 ≤ y17 then (0 : Int) else y9))) ∧ (inR ((M 114 0 (1 + y17)) + ((y10 + (if y17 ≤ 0 then (0 : Int) else (1 + y9))) + (if y13 ≤ y17 then (0 : Int) else y9)))) ∧ (0 ≤ (1 + y17) ∧ (1 + y17) < 13) ∧ ∀ M32 : Mem, M32 = up M 114 0 (1 + y17) ((M 114 0 (1 + y17)) + ((y10 + (if y17 ≤ 0 then (0 : Int) else (1 + y9))) + (if y13 ≤ y17 then (0 : Int) else y9))) → (inR (y17 + 1)) ∧ wp_L_walk_842 Qm n y9 y10 y13 (y17 + 1) M32)))) := hw
    refine lv_iload X.1.1 X.1.2.1 dL_walk_842 (lv_at hl 4 rfl) ?_
    refine sa_bipush X.1 dL_walk_844 (by decide) ?_
    refine sa_icmp_ge (tgt := 902) X.1 hy17 (inR_c (a := 6) rfl) dL_walk_846 (by decide) (fun hc => ?_) (fun hc => ?_)
    · have hw := hw.1 hc
      exact t_L_walk_902 X ho114 ho115 ho116 _ hw _ _ hR hS _ (lv_sub hl [] rfl)
    · have hw := hw.2 hc
      refine lv_iload X.1.1 X.1.2.1 dL_walk_849 (lv_at hl 4 rfl) ?_
      refine lv_iload X.1.1 X.1.2.1 dL_walk_851 (lv_at hl 3 rfl) ?_
      refine sa_icmp_gt (tgt := 902) X.1 hy17 hy13 dL_walk_853 (by decide) (fun hc => ?_) (fun hc => ?_)
      · have hw := hw.1 hc
        exact t_L_walk_902 X ho114 ho115 ho116 _ hw _ _ hR hS _ (lv_sub hl [] rfl)
      · have hw := hw.2 hc
        refine lv_aload X.1.1 X.1.2.1 dL_walk_856 (lv_at hl 0 rfl) ?_
        refine sa_const X.1 dL_walk_858 ?_
        refine lv_iload X.1.1 X.1.2.1 dL_walk_859 (lv_at hl 4 rfl) ?_
        have c17 := hw.1
        have hw := hw.2
        refine sa_iadd X.1 dL_walk_861 ?_
        refine lv_dup2_11 X.1.1 X.1.2.1 dL_walk_862 rfl rfl ?_
        have c18 := hw.1
        have hw := hw.2
        refine ra_114 X hR ho114 c18 dL_walk_863 ?_
        have r19 := hR.r 114 0 (1 + y17)
        refine lv_iload X.1.1 X.1.2.1 dL_walk_864 (lv_at hl 2 rfl) ?_
        refine lv_iload X.1.1 X.1.2.1 dL_walk_866 (lv_at hl 4 rfl) ?_
        have s21 := hw.1
        have hw := hw.2
        have c22 := hw.1
        have hw := hw.2
        refine cut_j (A := ∀ v23 : Int, v23 = (if y17 ≤ 0 then (0 : Int) else (1 + y9)) → WV p l e 2 s m args below meth c G e0 α κ B Qm H locs 879 ls [.int (Int32.ofInt v23), .int (Int32.ofInt y10), .int (Int32.ofInt (M 114 0 (1 + y17))), .int (Int32.ofInt (1 + y17)), .ref (α 114 0)]) (fun J24 => ?_) ?_
        · refine sa_if_le (tgt := 878) X.1 hy17 dL_walk_868 (by decide) (fun hc => ?_) (fun hc => ?_)
          · skip
            refine sa_const X.1 dL_walk_878 ?_
            exact J24 (0) (if_pos (c := y17 ≤ 0) hc).symm
          · have hw := s21 hc
            refine sa_const X.1 dL_walk_871 ?_
            refine lv_iload X.1.1 X.1.2.1 dL_walk_872 (lv_at hl 1 rfl) ?_
            have c20 := hw.1
            have hw := hw.2
            refine sa_iadd X.1 dL_walk_874 ?_
            refine lv_goto (tgt := 879) X.1.1 X.1.2.1 dL_walk_875 (by decide) ?_
            exact J24 ((1 + y9)) (if_neg (c := y17 ≤ 0) (Int.not_le.mpr hc)).symm
        intro v23 hv23
        subst hv23
        have c25 := hw.1
        have hw := hw.2
        refine sa_iadd X.1 dL_walk_879 ?_
        refine lv_iload X.1.1 X.1.2.1 dL_walk_880 (lv_at hl 4 rfl) ?_
        refine lv_iload X.1.1 X.1.2.1 dL_walk_882 (lv_at hl 3 rfl) ?_
        have r26 := inR_ite (c := y13 ≤ y17) (inR_c (a := 0) rfl) hy9
        refine cut_j (A := ∀ v27 : Int, v27 = (if y13 ≤ y17 then (0 : Int) else y9) → WV p l e 2 s m args below meth c G e0 α κ B Qm H locs 893 ls [.int (Int32.ofInt v27), .int (Int32.ofInt (y10 + (if y17 ≤ 0 then (0 : Int) else (1 + y9)))), .int (Int32.ofInt (M 114 0 (1 + y17))), .int (Int32.ofInt (1 + y17)), .ref (α 114 0)]) (fun J28 => ?_) ?_
        · refine sa_icmp_ge (tgt := 892) X.1 hy17 hy13 dL_walk_884 (by decide) (fun hc => ?_) (fun hc => ?_)
          · skip
            refine sa_const X.1 dL_walk_892 ?_
            exact J28 (0) (if_pos (c := y13 ≤ y17) hc).symm
          · skip
            refine lv_iload X.1.1 X.1.2.1 dL_walk_887 (lv_at hl 1 rfl) ?_
            refine lv_goto (tgt := 893) X.1.1 X.1.2.1 dL_walk_889 (by decide) ?_
            exact J28 (y9) (if_neg (c := y13 ≤ y17) (Int.not_le.mpr hc)).symm
        intro v27 hv27
        subst hv27
        have c29 := hw.1
        have hw := hw.2
        refine sa_iadd X.1 dL_walk_893 ?_
        have c30 := hw.1
        have hw := hw.2
        refine sa_iadd X.1 dL_walk_894 ?_
        have c31 := hw.1
        have hw := hw.2
        refine wa_114 X hR hS ho114 c31 c30 dL_walk_895 (fun H locs hR hS => ?_)
        obtain ⟨M32, e33⟩ : ∃ z : Mem, z = up M 114 0 (1 + y17) ((M 114 0 (1 + y17)) + ((y10 + (if y17 ≤ 0 then (0 : Int) else (1 + y9))) + (if y13 ≤ y17 then (0 : Int) else y9))) := ⟨_, rfl⟩
        rw [← e33] at hR
        have hw := hw M32 e33
        have c34 := hw.1
        have hw := hw.2
        refine lv_iinc (v := Int32.ofInt (y17 + 1)) (lv' := [(17, .int (Int32.ofInt (y17 + 1))), (6, .ref (α 114 0)), (9, .int (Int32.ofInt y9)), (10, .int (Int32.ofInt y10)), (13, .int (Int32.ofInt y13))]) X.1.1 X.1.2.1 dL_walk_896 hl (k := 4) rfl (Int32.ofInt_add _ _).symm (by decide) rfl (fun ls hl => ?_)
        refine lv_goto (tgt := 842) X.1.1 X.1.2.1 dL_walk_899 (by decide) ?_
        exact ih _ _ _ _ _ hw hy9 hy10 hy13 c34 _ _ hR hS _ (lv_sub hl [1, 2, 3, 4, 0] rfl)
set_option maxHeartbeats 4000000 in
set_option maxRecDepth 100000 in
theorem t_L_walk_822 (X : CX p m c cL_walk 27 s args RL G B κ meth none) (ho114 : okk κ 114 0) (ho115 : okk κ 115 0) (ho116 : okk κ 116 0) {Qm : Mem → Prop} {K195 : Int → Int → Int → Int → Int → Int → Int → Int → Mem → Prop} {K563 : Int → Int → Int → Int → Int → Int → Int → Int → Int → Int → Int → Int → Int → Int → Mem → Prop} (hK195 : ∀ y9 : Int, ∀ y10 : Int, ∀ y12 : Int, ∀ y13 : Int, ∀ y14 : Int, ∀ y15 : Int, ∀ y16 : Int, ∀ y17 : Int, ∀ M : Mem, K195 y9 y10 y12 y13 y14 y15 y16 y17 M → inR y9 → inR y10 → inR y12 → inR y13 → inR y14 → inR y15 → inR y16 → inR y17 → ∀ (H : Heap) (locs : List Loc), Rp G e0 α κ B M H → va_S (fun q => B ≤ q) s.heap H locs → ∀ (ls : Array Slot), lv_has ls 27 [(0, .ref (α 104 0)), (1, .ref (α 105 0)), (2, .ref (α 106 0)), (3, .ref (α 107 0)), (4, .ref (α 112 0)), (5, .ref (α 113 0)), (6, .ref (α 114 0)), (7, .ref (α 115 0)), (8, .ref (α 116 0)), (9, .int (Int32.ofInt y9)), (10, .int (Int32.ofInt y10)), (12, .int (Int32.ofInt y12)), (13, .int (Int32.ofInt y13)), (14, .int (Int32.ofInt y14)), (15, .int (Int32.ofInt y15)), (16, .int (Int32.ofInt y16)), (17, .int (Int32.ofInt y17))] → WV p l e 2 s m args below meth c G e0 α κ B Qm H locs 195 ls []) (hK563 : ∀ y9 : Int, ∀ y10 : Int, ∀ y12 : Int, ∀ y13 : Int, ∀ y14 : Int, ∀ y15 : Int, ∀ y16 : Int, ∀ y17 : Int, ∀ y18 : Int, ∀ y19 : Int, ∀ y21 : Int, ∀ y22 : Int, ∀ y23 : Int, ∀ y24 : Int, ∀ M : Mem, K563 y9 y10 y12 y13 y14 y15 y16 y17 y18 y19 y21 y22 y23 y24 M → inR y9 → inR y10 → inR y12 → inR y13 → inR y14 → inR y15 → inR y16 → inR y17 → inR y18 → inR y19 → inR y21 → inR y22 → inR y23 → inR y24 → ∀ (H : Heap) (locs : List Loc), Rp G e0 α κ B M H → va_S (fun q => B ≤ q) s.heap H locs → ∀ (ls : Array Slot), lv_has ls 27 [(0, .ref (α 104 0)), (1, .ref (α 105 0)), (2, .ref (α 106 0)), (3, .ref (α 107 0)), (4, .ref (α 112 0)), (5, .ref (α 113 0)), (6, .ref (α 114 0)), (7, .ref (α 115 0)), (8, .ref (α 116 0)), (9, .int (Int32.ofInt y9)), (10, .int (Int32.ofInt y10)), (12, .int (Int32.ofInt y12)), (13, .int (Int32.ofInt y13)), (14, .int (Int32.ofInt y14)), (15, .int (Int32.ofInt y15)), (16, .int (Int32.ofInt y16)), (17, .int (Int32.ofInt y17)), (18, .int (Int32.ofInt y18)), (19, .int (Int32.ofInt y19)), (21, .int (Int32.ofInt y21)), (22, .int (Int32.ofInt y22)), (23, .int (Int32.ofInt y23)), (24, .int (Int32.ofInt y24))] → WV p l e 2 s m args below meth c G e0 α κ B Qm H locs 563 ls []) : ∀ y9 : Int, ∀ y10 : Int, ∀ y12 : Int, ∀ y13 : Int, ∀ y14 : Int, ∀ y15 : Int, ∀ y16 : Int, ∀ y17 : Int, ∀ y18 : Int, ∀ y19 : Int, ∀ y21 : Int, ∀ y22 : Int, ∀ y23 : Int, ∀ y24 : Int, ∀ M : Mem, wp_L_walk_822 Qm K195 K563 y9 y10 y12 y13 y14 y15 y16 y17 y18 y19 y21 y22 y23 y24 M → inR y9 → inR y10 → inR y12 → inR y13 → inR y14 → inR y15 → inR y16 → inR y17 → inR y18 → inR y19 → inR y21 → inR y22 → inR y23 → inR y24 → ∀ (H : Heap) (locs : List Loc), Rp G e0 α κ B M H → va_S (fun q => B ≤ q) s.heap H locs → ∀ (ls : Array Slot), lv_has ls 27 [(0, .ref (α 104 0)), (1, .ref (α 105 0)), (2, .ref (α 106 0)), (3, .ref (α 107 0)), (4, .ref (α 112 0)), (5, .ref (α 113 0)), (6, .ref (α 114 0)), (7, .ref (α 115 0)), (8, .ref (α 116 0)), (9, .int (Int32.ofInt y9)), (10, .int (Int32.ofInt y10)), (12, .int (Int32.ofInt y12)), (13, .int (Int32.ofInt y13)), (14, .int (Int32.ofInt y14)), (15, .int (Int32.ofInt y15)), (16, .int (Int32.ofInt y16)), (17, .int (Int32.ofInt y17)), (18, .int (Int32.ofInt y18)), (19, .int (Int32.ofInt y19)), (21, .int (Int32.ofInt y21)), (22, .int (Int32.ofInt y22)), (23, .int (Int32.ofInt y23)), (24, .int (Int32.ofInt y24))] → WV p l e 2 s m args below meth c G e0 α κ B Qm H locs 822 ls [] := by
  intro y9 y10 y12 y13 y14 y15 y16 y17 y18 y19 y21 y22 y23 y24 M hw hy9 hy10 hy12 hy13 hy14 hy15 hy16 hy17 hy18 hy19 hy21 hy22 hy23 hy24 H locs hR hS ls hl
  have hw : K563 y9 y10 y12 y13 y14 y15 y16 y17 y18 y19 y21 y22 y23 y24 M := hw
  refine lv_goto (tgt := 563) X.1.1 X.1.2.1 dL_walk_822 (by decide) ?_
  exact hK563 _ _ _ _ _ _ _ _ _ _ _ _ _ _ _ hw hy9 hy10 hy12 hy13 hy14 hy15 hy16 hy17 hy18 hy19 hy21 hy22 hy23 hy24 _ _ hR hS _ (lv_sub hl [0, 1, 2, 3, 4, 5, 6, 7, 8, 9, 10, 11, 12, 13, 14, 15, 16, 17, 18, 19, 20, 21, 22] rfl)
set_option maxHeartbeats 4000000 in
set_option maxRecDepth 100000 in
theorem t_L_walk_797 (X : CX p m c cL_walk 27 s args RL G B κ meth none) (ho114 : okk κ 114 0) (ho115 : okk κ 115 0) (ho116 : okk κ 116 0) {Qm : Mem → Prop} {K195 : Int → Int → Int → Int → Int → Int → Int → Int → Mem → Prop} {K563 : Int → Int → Int → Int → Int → Int → Int → Int → Int → Int → Int → Int → Int → Int → Mem → Prop} (hK195 : ∀ y9 : Int, ∀ y10 : Int, ∀ y12 : Int, ∀ y13 : Int, ∀ y14 : Int, ∀ y15 : Int, ∀ y16 : Int, ∀ y17 : Int, ∀ M : Mem, K195 y9 y10 y12 y13 y14 y15 y16 y17 M → inR y9 → inR y10 → inR y12 → inR y13 → inR y14 → inR y15 → inR y16 → inR y17 → ∀ (H : Heap) (locs : List Loc), Rp G e0 α κ B M H → va_S (fun q => B ≤ q) s.heap H locs → ∀ (ls : Array Slot), lv_has ls 27 [(0, .ref (α 104 0)), (1, .ref (α 105 0)), (2, .ref (α 106 0)), (3, .ref (α 107 0)), (4, .ref (α 112 0)), (5, .ref (α 113 0)), (6, .ref (α 114 0)), (7, .ref (α 115 0)), (8, .ref (α 116 0)), (9, .int (Int32.ofInt y9)), (10, .int (Int32.ofInt y10)), (12, .int (Int32.ofInt y12)), (13, .int (Int32.ofInt y13)), (14, .int (Int32.ofInt y14)), (15, .int (Int32.ofInt y15)), (16, .int (Int32.ofInt y16)), (17, .int (Int32.ofInt y17))] → WV p l e 2 s m args below meth c G e0 α κ B Qm H locs 195 ls []) (hK563 : ∀ y9 : Int, ∀ y10 : Int, ∀ y12 : Int, ∀ y13 : Int, ∀ y14 : Int, ∀ y15 : Int, ∀ y16 : Int, ∀ y17 : Int, ∀ y18 : Int, ∀ y19 : Int, ∀ y21 : Int, ∀ y22 : Int, ∀ y23 : Int, ∀ y24 : Int, ∀ M : Mem, K563 y9 y10 y12 y13 y14 y15 y16 y17 y18 y19 y21 y22 y23 y24 M → inR y9 → inR y10 → inR y12 → inR y13 → inR y14 → inR y15 → inR y16 → inR y17 → inR y18 → inR y19 → inR y21 → inR y22 → inR y23 → inR y24 → ∀ (H : Heap) (locs : List Loc), Rp G e0 α κ B M H → va_S (fun q => B ≤ q) s.heap H locs → ∀ (ls : Array Slot), lv_has ls 27 [(0, .ref (α 104 0)), (1, .ref (α 105 0)), (2, .ref (α 106 0)), (3, .ref (α 107 0)), (4, .ref (α 112 0)), (5, .ref (α 113 0)), (6, .ref (α 114 0)), (7, .ref (α 115 0)), (8, .ref (α 116 0)), (9, .int (Int32.ofInt y9)), (10, .int (Int32.ofInt y10)), (12, .int (Int32.ofInt y12)), (13, .int (Int32.ofInt y13)), (14, .int (Int32.ofInt y14)), (15, .int (Int32.ofInt y15)), (16, .int (Int32.ofInt y16)), (17, .int (Int32.ofInt y17)), (18, .int (Int32.ofInt y18)), (19, .int (Int32.ofInt y19)), (21, .int (Int32.ofInt y21)), (22, .int (Int32.ofInt y22)), (23, .int (Int32.ofInt y23)), (24, .int (Int32.ofInt y24))] → WV p l e 2 s m args below meth c G e0 α κ B Qm H locs 563 ls []) : ∀ y9 : Int, ∀ y10 : Int, ∀ y12 : Int, ∀ y13 : Int, ∀ y14 : Int, ∀ y15 : Int, ∀ y16 : Int, ∀ y17 : Int, ∀ y18 : Int, ∀ y19 : Int, ∀ y21 : Int, ∀ y22 : Int, ∀ y23 : Int, ∀ y24 : Int, ∀ y25 : Int, ∀ M : Mem, wp_L_walk_797 Qm K195 K563 y9 y10 y12 y13 y14 y15 y16 y17 y18 y19 y21 y22 y23 y24 y25 M → inR y9 → inR y10 → inR y12 → inR y13 → inR y14 → inR y15 → inR y16 → inR y17 → inR y18 → inR y19 → inR y21 → inR y22 → inR y23 → inR y24 → inR y25 → ∀ (H : Heap) (locs : List Loc), Rp G e0 α κ B M H → va_S (fun q => B ≤ q) s.heap H locs → ∀ (ls : Array Slot), lv_has ls 27 [(0, .ref (α 104 0)), (1, .ref (α 105 0)), (2, .ref (α 106 0)), (3, .ref (α 107 0)), (4, .ref (α 112 0)), (5, .ref (α 113 0)), (6, .ref (α 114 0)), (7, .ref (α 115 0)), (8, .ref (α 116 0)), (9, .int (Int32.ofInt y9)), (10, .int (Int32.ofInt y10)), (12, .int (Int32.ofInt y12)), (13, .int (Int32.ofInt y13)), (14, .int (Int32.ofInt y14)), (15, .int (Int32.ofInt y15)), (16, .int (Int32.ofInt y16)), (17, .int (Int32.ofInt y17)), (18, .int (Int32.ofInt y18)), (19, .int (Int32.ofInt y19)), (21, .int (Int32.ofInt y21)), (22, .int (Int32.ofInt y22)), (23, .int (Int32.ofInt y23)), (24, .int (Int32.ofInt y24)), (25, .int (Int32.ofInt y25))] → WV p l e 2 s m args below meth c G e0 α κ B Qm H locs 797 ls [] := by
  intro y9 y10 y12 y13 y14 y15 y16 y17 y18 y19 y21 y22 y23 y24 y25 M hw hy9 hy10 hy12 hy13 hy14 hy15 hy16 hy17 hy18 hy19 hy21 hy22 hy23 hy24 hy25 H locs hR hS ls hl
  have hw : ((¬ y25 = 0 → wp_L_walk_822 Qm K195 K563 y9 y10 y12 y13 y14 y15 y16 y17 y18 y19 y21 y22 y23 y24 M) ∧ (y25 = 0 → (inR (y13 + 1)) ∧ (inR ((M 112 0 4) - y10)) ∧ (inR (((M 112 0 4) - y10) - 1)) ∧ (inR ((((M 112 0 4) - y10) - 1) - y9)) ∧ wp_L_walk_822 Qm K195 K563 y9 y10 y12 (y13 + 1) ((((M 112 0 4) - y10) - 1) - y9) 1 y16 y17 y18 y19 y21 y22 y23 y24 M)) := hw
  refine lv_iload X.1.1 X.1.2.1 dL_walk_797 (lv_at hl 23 rfl) ?_
  refine sa_if_ne (tgt := 822) X.1 hy25 dL_walk_799 (by decide) (fun hc => ?_) (fun hc => ?_)
  · have hw := hw.1 hc
    exact t_L_walk_822 X ho114 ho115 ho116 hK195 hK563 _ _ _ _ _ _ _ _ _ _ _ _ _ _ _ hw hy9 hy10 hy12 hy13 hy14 hy15 hy16 hy17 hy18 hy19 hy21 hy22 hy23 hy24 _ _ hR hS _ (lv_sub hl [0, 1, 2, 3, 4, 5, 6, 7, 8, 9, 10, 11, 12, 13, 14, 15, 16, 17, 18, 19, 20, 21, 22] rfl)
  · have hw := hw.2 hc
    have c174 := hw.1
    have hw := hw.2
    refine lv_iinc (v := Int32.ofInt (y13 + 1)) (lv' := [(13, .int (Int32.ofInt (y13 + 1))), (0, .ref (α 104 0)), (1, .ref (α 105 0)), (2, .ref (α 106 0)), (3, .ref (α 107 0)), (4, .ref (α 112 0)), (5, .ref (α 113 0)), (6, .ref (α 114 0)), (7, .ref (α 115 0)), (8, .ref (α 116 0)), (9, .int (Int32.ofInt y9)), (10, .int (Int32.ofInt y10)), (12, .int (Int32.ofInt y12)), (14, .int (Int32.ofInt y14)), (15, .int (Int32.ofInt y15)), (16, .int (Int32.ofInt y16)), (17, .int (Int32.ofInt y17)), (18, .int (Int32.ofInt y18)), (19, .int (Int32.ofInt y19)), (21, .int (Int32.ofInt y21)), (22, .int (Int32.ofInt y22)), (23, .int (Int32.ofInt y23)), (24, .int (Int32.ofInt y24)), (25, .int (Int32.ofInt y25))]) X.1.1 X.1.2.1 dL_walk_802 hl (k := 12) rfl (Int32.ofInt_add _ _).symm (by decide) rfl (fun ls hl => ?_)
    refine lv_aload X.1.1 X.1.2.1 dL_walk_805 (lv_at hl 5 rfl) ?_
    refine sa_const X.1 dL_walk_807 ?_
    refine ra_112 X hR (okf X.2.2.1 rfl) ⟨by decide, by decide⟩ dL_walk_808 ?_
    have r175 := hR.r 112 0 4
    refine lv_iload X.1.1 X.1.2.1 dL_walk_809 (lv_at hl 11 rfl) ?_
    have c176 := hw.1
    have hw := hw.2
    refine sa_isub X.1 dL_walk_811 ?_
    refine sa_const X.1 dL_walk_812 ?_
    have c177 := hw.1
    have hw := hw.2
    refine sa_isub X.1 dL_walk_813 ?_
    refine lv_iload X.1.1 X.1.2.1 dL_walk_814 (lv_at hl 10 rfl) ?_
    have c178 := hw.1
    have hw := hw.2
    refine sa_isub X.1 dL_walk_816 ?_
    refine lv_istore (lv' := [(14, .int (Int32.ofInt ((((M 112 0 4) - y10) - 1) - y9))), (13, .int (Int32.ofInt (y13 + 1))), (0, .ref (α 104 0)), (1, .ref (α 105 0)), (2, .ref (α 106 0)), (3, .ref (α 107 0)), (4, .ref (α 112 0)), (5, .ref (α 113 0)), (6, .ref (α 114 0)), (7, .ref (α 115 0)), (8, .ref (α 116 0)), (9, .int (Int32.ofInt y9)), (10, .int (Int32.ofInt y10)), (12, .int (Int32.ofInt y12)), (15, .int (Int32.ofInt y15)), (16, .int (Int32.ofInt y16)), (17, .int (Int32.ofInt y17)), (18, .int (Int32.ofInt y18)), (19, .int (Int32.ofInt y19)), (21, .int (Int32.ofInt y21)), (22, .int (Int32.ofInt y22)), (23, .int (Int32.ofInt y23)), (24, .int (Int32.ofInt y24)), (25, .int (Int32.ofInt y25))]) X.1.1 X.1.2.1 dL_walk_817 hl (by decide) rfl (fun ls hl => ?_)
    refine sa_const X.1 dL_walk_819 ?_
    refine lv_istore (lv' := [(15, .int (Int32.ofInt 1)), (14, .int (Int32.ofInt ((((M 112 0 4) - y10) - 1) - y9))), (13, .int (Int32.ofInt (y13 + 1))), (0, .ref (α 104 0)), (1, .ref (α 105 0)), (2, .ref (α 106 0)), (3, .ref (α 107 0)), (4, .ref (α 112 0)), (5, .ref (α 113 0)), (6, .ref (α 114 0)), (7, .ref (α 115 0)), (8, .ref (α 116 0)), (9, .int (Int32.ofInt y9)), (10, .int (Int32.ofInt y10)), (12, .int (Int32.ofInt y12)), (16, .int (Int32.ofInt y16)), (17, .int (Int32.ofInt y17)), (18, .int (Int32.ofInt y18)), (19, .int (Int32.ofInt y19)), (21, .int (Int32.ofInt y21)), (22, .int (Int32.ofInt y22)), (23, .int (Int32.ofInt y23)), (24, .int (Int32.ofInt y24)), (25, .int (Int32.ofInt y25))]) X.1.1 X.1.2.1 dL_walk_820 hl (by decide) rfl (fun ls hl => ?_)
    exact t_L_walk_822 X ho114 ho115 ho116 hK195 hK563 _ _ _ _ _ _ _ _ _ _ _ _ _ _ _ hw hy9 hy10 hy12 c174 c178 (inR_c (a := 1) rfl) hy16 hy17 hy18 hy19 hy21 hy22 hy23 hy24 _ _ hR hS _ (lv_sub hl [3, 4, 5, 6, 7, 8, 9, 10, 11, 12, 13, 14, 2, 1, 0, 15, 16, 17, 18, 19, 20, 21, 22] rfl)
set_option maxHeartbeats 4000000 in
set_option maxRecDepth 100000 in
theorem t_L_walk_760 (X : CX p m c cL_walk 27 s args RL G B κ meth none) (ho114 : okk κ 114 0) (ho115 : okk κ 115 0) (ho116 : okk κ 116 0) {Qm : Mem → Prop} {K195 : Int → Int → Int → Int → Int → Int → Int → Int → Mem → Prop} {K563 : Int → Int → Int → Int → Int → Int → Int → Int → Int → Int → Int → Int → Int → Int → Mem → Prop} (hK195 : ∀ y9 : Int, ∀ y10 : Int, ∀ y12 : Int, ∀ y13 : Int, ∀ y14 : Int, ∀ y15 : Int, ∀ y16 : Int, ∀ y17 : Int, ∀ M : Mem, K195 y9 y10 y12 y13 y14 y15 y16 y17 M → inR y9 → inR y10 → inR y12 → inR y13 → inR y14 → inR y15 → inR y16 → inR y17 → ∀ (H : Heap) (locs : List Loc), Rp G e0 α κ B M H → va_S (fun q => B ≤ q) s.heap H locs → ∀ (ls : Array Slot), lv_has ls 27 [(0, .ref (α 104 0)), (1, .ref (α 105 0)), (2, .ref (α 106 0)), (3, .ref (α 107 0)), (4, .ref (α 112 0)), (5, .ref (α 113 0)), (6, .ref (α 114 0)), (7, .ref (α 115 0)), (8, .ref (α 116 0)), (9, .int (Int32.ofInt y9)), (10, .int (Int32.ofInt y10)), (12, .int (Int32.ofInt y12)), (13, .int (Int32.ofInt y13)), (14, .int (Int32.ofInt y14)), (15, .int (Int32.ofInt y15)), (16, .int (Int32.ofInt y16)), (17, .int (Int32.ofInt y17))] → WV p l e 2 s m args below meth c G e0 α κ B Qm H locs 195 ls []) (hK563 : ∀ y9 : Int, ∀ y10 : Int, ∀ y12 : Int, ∀ y13 : Int, ∀ y14 : Int, ∀ y15 : Int, ∀ y16 : Int, ∀ y17 : Int, ∀ y18 : Int, ∀ y19 : Int, ∀ y21 : Int, ∀ y22 : Int, ∀ y23 : Int, ∀ y24 : Int, ∀ M : Mem, K563 y9 y10 y12 y13 y14 y15 y16 y17 y18 y19 y21 y22 y23 y24 M → inR y9 → inR y10 → inR y12 → inR y13 → inR y14 → inR y15 → inR y16 → inR y17 → inR y18 → inR y19 → inR y21 → inR y22 → inR y23 → inR y24 → ∀ (H : Heap) (locs : List Loc), Rp G e0 α κ B M H → va_S (fun q => B ≤ q) s.heap H locs → ∀ (ls : Array Slot), lv_has ls 27 [(0, .ref (α 104 0)), (1, .ref (α 105 0)), (2, .ref (α 106 0)), (3, .ref (α 107 0)), (4, .ref (α 112 0)), (5, .ref (α 113 0)), (6, .ref (α 114 0)), (7, .ref (α 115 0)), (8, .ref (α 116 0)), (9, .int (Int32.ofInt y9)), (10, .int (Int32.ofInt y10)), (12, .int (Int32.ofInt y12)), (13, .int (Int32.ofInt y13)), (14, .int (Int32.ofInt y14)), (15, .int (Int32.ofInt y15)), (16, .int (Int32.ofInt y16)), (17, .int (Int32.ofInt y17)), (18, .int (Int32.ofInt y18)), (19, .int (Int32.ofInt y19)), (21, .int (Int32.ofInt y21)), (22, .int (Int32.ofInt y22)), (23, .int (Int32.ofInt y23)), (24, .int (Int32.ofInt y24))] → WV p l e 2 s m args below meth c G e0 α κ B Qm H locs 563 ls []) : ∀ y9 : Int, ∀ y10 : Int, ∀ y12 : Int, ∀ y13 : Int, ∀ y14 : Int, ∀ y16 : Int, ∀ y17 : Int, ∀ y18 : Int, ∀ y19 : Int, ∀ y21 : Int, ∀ y22 : Int, ∀ y23 : Int, ∀ y24 : Int, ∀ y25 : Int, ∀ y26 : Int, ∀ M : Mem, wp_L_walk_760 Qm K195 K563 y9 y10 y12 y13 y14 y16 y17 y18 y19 y21 y22 y23 y24 y25 y26 M → inR y9 → inR y10 → inR y12 → inR y13 → inR y14 → inR y16 → inR y17 → inR y18 → inR y19 → inR y21 → inR y22 → inR y23 → inR y24 → inR y25 → inR y26 → ∀ (H : Heap) (locs : List Loc), Rp G e0 α κ B M H → va_S (fun q => B ≤ q) s.heap H locs → ∀ (ls : Array Slot), lv_has ls 27 [(0, .ref (α 104 0)), (1, .ref (α 105 0)), (2, .ref (α 106 0)), (3, .ref (α 107 0)), (4, .ref (α 112 0)), (5, .ref (α 113 0)), (6, .ref (α 114 0)), (7, .ref (α 115 0)), (8, .ref (α 116 0)), (9, .int (Int32.ofInt y9)), (10, .int (Int32.ofInt y10)), (12, .int (Int32.ofInt y12)), (13, .int (Int32.ofInt y13)), (14, .int (Int32.ofInt y14)), (16, .int (Int32.ofInt y16)), (17, .int (Int32.ofInt y17)), (18, .int (Int32.ofInt y18)), (19, .int (Int32.ofInt y19)), (21, .int (Int32.ofInt y21)), (22, .int (Int32.ofInt y22)), (23, .int (Int32.ofInt y23)), (24, .int (Int32.ofInt y24)), (25, .int (Int32.ofInt y25)), (26, .int (Int32.ofInt y26))] → WV p l e 2 s m args below meth c G e0 α κ B Qm H locs 760 ls [] := by
  intro y9 y10 y12 y13 y14 y16 y17 y18 y19 y21 y22 y23 y24 y25 y26 M hw hy9 hy10 hy12 hy13 hy14 hy16 hy17 hy18 hy19 hy21 hy22 hy23 hy24 hy25 hy26 H locs hR hS ls hl
  have hw : (inR (y26 + y22)) ∧ (inR (y14 - (y26 + y22))) ∧ (inR (y21 - y26)) ∧ wp_L_walk_797 Qm K195 K563 y9 y10 y12 y13 (y14 - (y26 + y22)) 0 y16 y17 y18 y19 (y21 - y26) 0 y23 y24 y25 M := hw
  refine lv_iload X.1.1 X.1.2.1 dL_walk_760 (lv_at hl 13 rfl) ?_
  refine lv_iload X.1.1 X.1.2.1 dL_walk_762 (lv_at hl 23 rfl) ?_
  refine lv_iload X.1.1 X.1.2.1 dL_walk_764 (lv_at hl 19 rfl) ?_
  have c171 := hw.1
  have hw := hw.2
  refine sa_iadd X.1 dL_walk_766 ?_
  have c172 := hw.1
  have hw := hw.2
  refine sa_isub X.1 dL_walk_767 ?_
  refine lv_istore (lv' := [(14, .int (Int32.ofInt (y14 - (y26 + y22)))), (0, .ref (α 104 0)), (1, .ref (α 105 0)), (2, .ref (α 106 0)), (3, .ref (α 107 0)), (4, .ref (α 112 0)), (5, .ref (α 113 0)), (6, .ref (α 114 0)), (7, .ref (α 115 0)), (8, .ref (α 116 0)), (9, .int (Int32.ofInt y9)), (10, .int (Int32.ofInt y10)), (12, .int (Int32.ofInt y12)), (13, .int (Int32.ofInt y13)), (16, .int (Int32.ofInt y16)), (17, .int (Int32.ofInt y17)), (18, .int (Int32.ofInt y18)), (19, .int (Int32.ofInt y19)), (21, .int (Int32.ofInt y21)), (22, .int (Int32.ofInt y22)), (23, .int (Int32.ofInt y23)), (24, .int (Int32.ofInt y24)), (25, .int (Int32.ofInt y25)), (26, .int (Int32.ofInt y26))]) X.1.1 X.1.2.1 dL_walk_768 hl (by decide) rfl (fun ls hl => ?_)
  refine lv_iload X.1.1 X.1.2.1 dL_walk_770 (lv_at hl 18 rfl) ?_
  refine lv_iload X.1.1 X.1.2.1 dL_walk_772 (lv_at hl 23 rfl) ?_
  have c173 := hw.1
  have hw := hw.2
  refine sa_isub X.1 dL_walk_774 ?_
  refine lv_istore (lv' := [(21, .int (Int32.ofInt (y21 - y26))), (14, .int (Int32.ofInt (y14 - (y26 + y22)))), (0, .ref (α 104 0)), (1, .ref (α 105 0)), (2, .ref (α 106 0)), (3, .ref (α 107 0)), (4, .ref (α 112 0)), (5, .ref (α 113 0)), (6, .ref (α 114 0)), (7, .ref (α 115 0)), (8, .ref (α 116 0)), (9, .int (Int32.ofInt y9)), (10, .int (Int32.ofInt y10)), (12, .int (Int32.ofInt y12)), (13, .int (Int32.ofInt y13)), (16, .int (Int32.ofInt y16)), (17, .int (Int32.ofInt y17)), (18, .int (Int32.ofInt y18)), (19, .int (Int32.ofInt y19)), (22, .int (Int32.ofInt y22)), (23, .int (Int32.ofInt y23)), (24, .int (Int32.ofInt y24)), (25, .int (Int32.ofInt y25)), (26, .int (Int32.ofInt y26))]) X.1.1 X.1.2.1 dL_walk_775 hl (by decide) rfl (fun ls hl => ?_)
  refine sa_const X.1 dL_walk_777 ?_
  refine lv_istore (lv' := [(22, .int (Int32.ofInt 0)), (21, .int (Int32.ofInt (y21 - y26))), (14, .int (Int32.ofInt (y14 - (y26 + y22)))), (0, .ref (α 104 0)), (1, .ref (α 105 0)), (2, .ref (α 106 0)), (3, .ref (α 107 0)), (4, .ref (α 112 0)), (5, .ref (α 113 0)), (6, .ref (α 114 0)), (7, .ref (α 115 0)), (8, .ref (α 116 0)), (9, .int (Int32.ofInt y9)), (10, .int (Int32.ofInt y10)), (12, .int (Int32.ofInt y12)), (13, .int (Int32.ofInt y13)), (16, .int (Int32.ofInt y16)), (17, .int (Int32.ofInt y17)), (18, .int (Int32.ofInt y18)), (19, .int (Int32.ofInt y19)), (23, .int (Int32.ofInt y23)), (24, .int (Int32.ofInt y24)), (25, .int (Int32.ofInt y25)), (26, .int (Int32.ofInt y26))]) X.1.1 X.1.2.1 dL_walk_778 hl (by decide) rfl (fun ls hl => ?_)
  refine sa_const X.1 dL_walk_780 ?_
  refine lv_istore (lv' := [(15, .int (Int32.ofInt 0)), (22, .int (Int32.ofInt 0)), (21, .int (Int32.ofInt (y21 - y26))), (14, .int (Int32.ofInt (y14 - (y26 + y22)))), (0, .ref (α 104 0)), (1, .ref (α 105 0)), (2, .ref (α 106 0)), (3, .ref (α 107 0)), (4, .ref (α 112 0)), (5, .ref (α 113 0)), (6, .ref (α 114 0)), (7, .ref (α 115 0)), (8, .ref (α 116 0)), (9, .int (Int32.ofInt y9)), (10, .int (Int32.ofInt y10)), (12, .int (Int32.ofInt y12)), (13, .int (Int32.ofInt y13)), (16, .int (Int32.ofInt y16)), (17, .int (Int32.ofInt y17)), (18, .int (Int32.ofInt y18)), (19, .int (Int32.ofInt y19)), (23, .int (Int32.ofInt y23)), (24, .int (Int32.ofInt y24)), (25, .int (Int32.ofInt y25)), (26, .int (Int32.ofInt y26))]) X.1.1 X.1.2.1 dL_walk_781 hl (by decide) rfl (fun ls hl => ?_)
  refine lv_goto (tgt := 797) X.1.1 X.1.2.1 dL_walk_783 (by decide) ?_
  exact t_L_walk_797 X ho114 ho115 ho116 hK195 hK563 _ _ _ _ _ _ _ _ _ _ _ _ _ _ _ _ hw hy9 hy10 hy12 hy13 c172 (inR_c (a := 0) rfl) hy16 hy17 hy18 hy19 c173 (inR_c (a := 0) rfl) hy23 hy24 hy25 _ _ hR hS _ (lv_sub hl [4, 5, 6, 7, 8, 9, 10, 11, 12, 13, 14, 15, 16, 3, 0, 17, 18, 19, 20, 2, 1, 21, 22, 23] rfl)
set_option maxHeartbeats 4000000 in
set_option maxRecDepth 100000 in
theorem t_L_walk_733 (X : CX p m c cL_walk 27 s args RL G B κ meth none) (ho114 : okk κ 114 0) (ho115 : okk κ 115 0) (ho116 : okk κ 116 0) {Qm : Mem → Prop} {K195 : Int → Int → Int → Int → Int → Int → Int → Int → Mem → Prop} {K563 : Int → Int → Int → Int → Int → Int → Int → Int → Int → Int → Int → Int → Int → Int → Mem → Prop} (hK195 : ∀ y9 : Int, ∀ y10 : Int, ∀ y12 : Int, ∀ y13 : Int, ∀ y14 : Int, ∀ y15 : Int, ∀ y16 : Int, ∀ y17 : Int, ∀ M : Mem, K195 y9 y10 y12 y13 y14 y15 y16 y17 M → inR y9 → inR y10 → inR y12 → inR y13 → inR y14 → inR y15 → inR y16 → inR y17 → ∀ (H : Heap) (locs : List Loc), Rp G e0 α κ B M H → va_S (fun q => B ≤ q) s.heap H locs → ∀ (ls : Array Slot), lv_has ls 27 [(0, .ref (α 104 0)), (1, .ref (α 105 0)), (2, .ref (α 106 0)), (3, .ref (α 107 0)), (4, .ref (α 112 0)), (5, .ref (α 113 0)), (6, .ref (α 114 0)), (7, .ref (α 115 0)), (8, .ref (α 116 0)), (9, .int (Int32.ofInt y9)), (10, .int (Int32.ofInt y10)), (12, .int (Int32.ofInt y12)), (13, .int (Int32.ofInt y13)), (14, .int (Int32.ofInt y14)), (15, .int (Int32.ofInt y15)), (16, .int (Int32.ofInt y16)), (17, .int (Int32.ofInt y17))] → WV p l e 2 s m args below meth c G e0 α κ B Qm H locs 195 ls []) (hK563 : ∀ y9 : Int, ∀ y10 : Int, ∀ y12 : Int, ∀ y13 : Int, ∀ y14 : Int, ∀ y15 : Int, ∀ y16 : Int, ∀ y17 : Int, ∀ y18 : Int, ∀ y19 : Int, ∀ y21 : Int, ∀ y22 : Int, ∀ y23 : Int, ∀ y24 : Int, ∀ M : Mem, K563 y9 y10 y12 y13 y14 y15 y16 y17 y18 y19 y21 y22 y23 y24 M → inR y9 → inR y10 → inR y12 → inR y13 → inR y14 → inR y15 → inR y16 → inR y17 → inR y18 → inR y19 → inR y21 → inR y22 → inR y23 → inR y24 → ∀ (H : Heap) (locs : List Loc), Rp G e0 α κ B M H → va_S (fun q => B ≤ q) s.heap H locs → ∀ (ls : Array Slot), lv_has ls 27 [(0, .ref (α 104 0)), (1, .ref (α 105 0)), (2, .ref (α 106 0)), (3, .ref (α 107 0)), (4, .ref (α 112 0)), (5, .ref (α 113 0)), (6, .ref (α 114 0)), (7, .ref (α 115 0)), (8, .ref (α 116 0)), (9, .int (Int32.ofInt y9)), (10, .int (Int32.ofInt y10)), (12, .int (Int32.ofInt y12)), (13, .int (Int32.ofInt y13)), (14, .int (Int32.ofInt y14)), (15, .int (Int32.ofInt y15)), (16, .int (Int32.ofInt y16)), (17, .int (Int32.ofInt y17)), (18, .int (Int32.ofInt y18)), (19, .int (Int32.ofInt y19)), (21, .int (Int32.ofInt y21)), (22, .int (Int32.ofInt y22)), (23, .int (Int32.ofInt y23)), (24, .int (Int32.ofInt y24))] → WV p l e 2 s m args below meth c G e0 α κ B Qm H locs 563 ls []) : ∀ y9 : Int, ∀ y10 : Int, ∀ y12 : Int, ∀ y13 : Int, ∀ y14 : Int, ∀ y16 : Int, ∀ y17 : Int, ∀ y18 : Int, ∀ y19 : Int, ∀ y21 : Int, ∀ y22 : Int, ∀ y23 : Int, ∀ y24 : Int, ∀ y25 : Int, ∀ y26 : Int, ∀ M : Mem, wp_L_walk_733 Qm K195 K563 y9 y10 y12 y13 y14 y16 y17 y18 y19 y21 y22 y23 y24 y25 y26 M → inR y9 → inR y10 → inR y12 → inR y13 → inR y14 → inR y16 → inR y17 → inR y18 → inR y19 → inR y21 → inR y22 → inR y23 → inR y24 → inR y25 → inR y26 → ∀ (H : Heap) (locs : List Loc), Rp G e0 α κ B M H → va_S (fun q => B ≤ q) s.heap H locs → ∀ (ls : Array Slot), lv_has ls 27 [(0, .ref (α 104 0)), (1, .ref (α 105 0)), (2, .ref (α 106 0)), (3, .ref (α 107 0)), (4, .ref (α 112 0)), (5, .ref (α 113 0)), (6, .ref (α 114 0)), (7, .ref (α 115 0)), (8, .ref (α 116 0)), (9, .int (Int32.ofInt y9)), (10, .int (Int32.ofInt y10)), (12, .int (Int32.ofInt y12)), (13, .int (Int32.ofInt y13)), (14, .int (Int32.ofInt y14)), (16, .int (Int32.ofInt y16)), (17, .int (Int32.ofInt y17)), (18, .int (Int32.ofInt y18)), (19, .int (Int32.ofInt y19)), (21, .int (Int32.ofInt y21)), (22, .int (Int32.ofInt y22)), (23, .int (Int32.ofInt y23)), (24, .int (Int32.ofInt y24)), (25, .int (Int32.ofInt y25)), (26, .int (Int32.ofInt y26))] → WV p l e 2 s m args below meth c G e0 α κ B Qm H locs 733 ls [] := by
  intro y9 y10 y12 y13 y14 y16 y17 y18 y19 y21 y22 y23 y24 y25 y26 M hw hy9 hy10 hy12 hy13 hy14 hy16 hy17 hy18 hy19 hy21 hy22 hy23 hy24 hy25 hy26 H locs hR hS ls hl
  have hw : ((y19 = 0 → wp_L_walk_760 Qm K195 K563 y9 y10 y12 y13 y14 y16 y17 y18 y19 y21 y22 y23 y24 y25 y26 M) ∧ (¬ y19 = 0 → ((¬ (Int.tmod y17 2) = 0 → wp_L_walk_760 Qm K195 K563 y9 y10 y12 y13 y14 y16 y17 y18 y19 y21 y22 y23 y24 y25 y26 M) ∧ ((Int.tmod y17 2) = 0 → (0 ≤ y18 ∧ y18 < 10) ∧ ((0 ≤ (M 116 0 y18) → wp_L_walk_760 Qm K195 K563 y9 y10 y12 y13 y14 y16 y17 y18 y19 y21 y22 y23 y24 y25 y26 M) ∧ ((M 116 0 y18) < 0 → (0 ≤ y18 ∧ y18 < 10) ∧ ∀ M183 : Mem, M183 = up M 116 0 y18 y13 → wp_L_walk_760 Qm K195 K563 y9 y10 y12 y13 y14 y16 y17 y18 y19 y21 y22 y23 y24 y25 y26 M183)))))) := hw
  refine lv_iload X.1.1 X.1.2.1 dL_walk_733 (lv_at hl 17 rfl) ?_
  refine sa_if_eq (tgt := 760) X.1 hy19 dL_walk_735 (by decide) (fun hc => ?_) (fun hc => ?_)
  · have hw := hw.1 hc
    exact t_L_walk_760 X ho114 ho115 ho116 hK195 hK563 _ _ _ _ _ _ _ _ _ _ _ _ _ _ _ _ hw hy9 hy10 hy12 hy13 hy14 hy16 hy17 hy18 hy19 hy21 hy22 hy23 hy24 hy25 hy26 _ _ hR hS _ (lv_sub hl [0, 1, 2, 3, 4, 5, 6, 7, 8, 9, 10, 11, 12, 13, 14, 15, 16, 17, 18, 19, 20, 21, 22, 23] rfl)
  · have hw := hw.2 hc
    refine lv_iload X.1.1 X.1.2.1 dL_walk_738 (lv_at hl 15 rfl) ?_
    refine sa_const X.1 dL_walk_740 ?_
    have r179 := inR_tmod hy17 (inR_c (a := 2) rfl) (by decide)
    refine sa_irem X.1 hy17 (inR_c (a := 2) rfl) (Int.ne_of_gt (by decide)) dL_walk_741 ?_
    refine sa_if_ne (tgt := 760) X.1 r179 dL_walk_742 (by decide) (fun hc => ?_) (fun hc => ?_)
    · have hw := hw.1 hc
      exact t_L_walk_760 X ho114 ho115 ho116 hK195 hK563 _ _ _ _ _ _ _ _ _ _ _ _ _ _ _ _ hw hy9 hy10 hy12 hy13 hy14 hy16 hy17 hy18 hy19 hy21 hy22 hy23 hy24 hy25 hy26 _ _ hR hS _ (lv_sub hl [0, 1, 2, 3, 4, 5, 6, 7, 8, 9, 10, 11, 12, 13, 14, 15, 16, 17, 18, 19, 20, 21, 22, 23] rfl)
    · have hw := hw.2 hc
      refine lv_aload X.1.1 X.1.2.1 dL_walk_745 (lv_at hl 8 rfl) ?_
      refine lv_iload X.1.1 X.1.2.1 dL_walk_747 (lv_at hl 16 rfl) ?_
      have c180 := hw.1
      have hw := hw.2
      refine ra_116 X hR ho116 c180 dL_walk_749 ?_
      have r181 := hR.r 116 0 y18
      refine sa_if_ge (tgt := 760) X.1 r181 dL_walk_750 (by decide) (fun hc => ?_) (fun hc => ?_)
      · have hw := hw.1 hc
        exact t_L_walk_760 X ho114 ho115 ho116 hK195 hK563 _ _ _ _ _ _ _ _ _ _ _ _ _ _ _ _ hw hy9 hy10 hy12 hy13 hy14 hy16 hy17 hy18 hy19 hy21 hy22 hy23 hy24 hy25 hy26 _ _ hR hS _ (lv_sub hl [0, 1, 2, 3, 4, 5, 6, 7, 8, 9, 10, 11, 12, 13, 14, 15, 16, 17, 18, 19, 20, 21, 22, 23] rfl)
      · have hw := hw.2 hc
        refine lv_aload X.1.1 X.1.2.1 dL_walk_753 (lv_at hl 8 rfl) ?_
        refine lv_iload X.1.1 X.1.2.1 dL_walk_755 (lv_at hl 16 rfl) ?_
        refine lv_iload X.1.1 X.1.2.1 dL_walk_757 (lv_at hl 12 rfl) ?_
        have c182 := hw.1
        have hw := hw.2
        refine wa_116 X hR hS ho116 c182 hy13 dL_walk_759 (fun H locs hR hS => ?_)
        obtain ⟨M183, e184⟩ : ∃ z : Mem, z = up M 116 0 y18 y13 := ⟨_, rfl⟩
        rw [← e184] at hR
        have hw := hw M183 e184
        exact t_L_walk_760 X ho114 ho115 ho116 hK195 hK563 _ _ _ _ _ _ _ _ _ _ _ _ _ _ _ _ hw hy9 hy10 hy12 hy13 hy14 hy16 hy17 hy18 hy19 hy21 hy22 hy23 hy24 hy25 hy26 _ _ hR hS _ (lv_sub hl [0, 1, 2, 3, 4, 5, 6, 7, 8, 9, 10, 11, 12, 13, 14, 15, 16, 17, 18, 19, 20, 21, 22, 23] rfl)
set_option maxHeartbeats 4000000 in
set_option maxRecDepth 100000 in
theorem t_L_walk_637 (X : CX p m c cL_walk 27 s args RL G B κ meth none) (ho114 : okk κ 114 0) (ho115 : okk κ 115 0) (ho116 : okk κ 116 0) {Qm : Mem → Prop} {K195 : Int → Int → Int → Int → Int → Int → Int → Int → Mem → Prop} {K563 : Int → Int → Int → Int → Int → Int → Int → Int → Int → Int → Int → Int → Int → Int → Mem → Prop} (hK195 : ∀ y9 : Int, ∀ y10 : Int, ∀ y12 : Int, ∀ y13 : Int, ∀ y14 : Int, ∀ y15 : Int, ∀ y16 : Int, ∀ y17 : Int, ∀ M : Mem, K195 y9 y10 y12 y13 y14 y15 y16 y17 M → inR y9 → inR y10 → inR y12 → inR y13 → inR y14 → inR y15 → inR y16 → inR y17 → ∀ (H : Heap) (locs : List Loc), Rp G e0 α κ B M H → va_S (fun q => B ≤ q) s.heap H locs → ∀ (ls : Array Slot), lv_has ls 27 [(0, .ref (α 104 0)), (1, .ref (α 105 0)), (2, .ref (α 106 0)), (3, .ref (α 107 0)), (4, .ref (α 112 0)), (5, .ref (α 113 0)), (6, .ref (α 114 0)), (7, .ref (α 115 0)), (8, .ref (α 116 0)), (9, .int (Int32.ofInt y9)), (10, .int (Int32.ofInt y10)), (12, .int (Int32.ofInt y12)), (13, .int (Int32.ofInt y13)), (14, .int (Int32.ofInt y14)), (15, .int (Int32.ofInt y15)), (16, .int (Int32.ofInt y16)), (17, .int (Int32.ofInt y17))] → WV p l e 2 s m args below meth c G e0 α κ B Qm H locs 195 ls []) (hK563 : ∀ y9 : Int, ∀ y10 : Int, ∀ y12 : Int, ∀ y13 : Int, ∀ y14 : Int, ∀ y15 : Int, ∀ y16 : Int, ∀ y17 : Int, ∀ y18 : Int, ∀ y19 : Int, ∀ y21 : Int, ∀ y22 : Int, ∀ y23 : Int, ∀ y24 : Int, ∀ M : Mem, K563 y9 y10 y12 y13 y14 y15 y16 y17 y18 y19 y21 y22 y23 y24 M → inR y9 → inR y10 → inR y12 → inR y13 → inR y14 → inR y15 → inR y16 → inR y17 → inR y18 → inR y19 → inR y21 → inR y22 → inR y23 → inR y24 → ∀ (H : Heap) (locs : List Loc), Rp G e0 α κ B M H → va_S (fun q => B ≤ q) s.heap H locs → ∀ (ls : Array Slot), lv_has ls 27 [(0, .ref (α 104 0)), (1, .ref (α 105 0)), (2, .ref (α 106 0)), (3, .ref (α 107 0)), (4, .ref (α 112 0)), (5, .ref (α 113 0)), (6, .ref (α 114 0)), (7, .ref (α 115 0)), (8, .ref (α 116 0)), (9, .int (Int32.ofInt y9)), (10, .int (Int32.ofInt y10)), (12, .int (Int32.ofInt y12)), (13, .int (Int32.ofInt y13)), (14, .int (Int32.ofInt y14)), (15, .int (Int32.ofInt y15)), (16, .int (Int32.ofInt y16)), (17, .int (Int32.ofInt y17)), (18, .int (Int32.ofInt y18)), (19, .int (Int32.ofInt y19)), (21, .int (Int32.ofInt y21)), (22, .int (Int32.ofInt y22)), (23, .int (Int32.ofInt y23)), (24, .int (Int32.ofInt y24))] → WV p l e 2 s m args below meth c G e0 α κ B Qm H locs 563 ls []) : ∀ y9 : Int, ∀ y10 : Int, ∀ y12 : Int, ∀ y13 : Int, ∀ y14 : Int, ∀ y16 : Int, ∀ y17 : Int, ∀ y18 : Int, ∀ y19 : Int, ∀ y21 : Int, ∀ y22 : Int, ∀ y23 : Int, ∀ y24 : Int, ∀ y25 : Int, ∀ y26 : Int, ∀ M : Mem, wp_L_walk_637 Qm K195 K563 y9 y10 y12 y13 y14 y16 y17 y18 y19 y21 y22 y23 y24 y25 y26 M → inR y9 → inR y10 → inR y12 → inR y13 → inR y14 → inR y16 → inR y17 → inR y18 → inR y19 → inR y21 → inR y22 → inR y23 → inR y24 → inR y25 → inR y26 → ∀ (H : Heap) (locs : List Loc), Rp G e0 α κ B M H → va_S (fun q => B ≤ q) s.heap H locs → ∀ (ls : Array Slot), lv_has ls 27 [(0, .ref (α 104 0)), (1, .ref (α 105 0)), (2, .ref (α 106 0)), (3, .ref (α 107 0)), (4, .ref (α 112 0)), (5, .ref (α 113 0)), (6, .ref (α 114 0)), (7, .ref (α 115 0)), (8, .ref (α 116 0)), (9, .int (Int32.ofInt y9)), (10, .int (Int32.ofInt y10)), (12, .int (Int32.ofInt y12)), (13, .int (Int32.ofInt y13)), (14, .int (Int32.ofInt y14)), (16, .int (Int32.ofInt y16)), (17, .int (Int32.ofInt y17)), (18, .int (Int32.ofInt y18)), (19, .int (Int32.ofInt y19)), (21, .int (Int32.ofInt y21)), (22, .int (Int32.ofInt y22)), (23, .int (Int32.ofInt y23)), (24, .int (Int32.ofInt y24)), (25, .int (Int32.ofInt y25)), (26, .int (Int32.ofInt y26))] → WV p l e 2 s m args below meth c G e0 α κ B Qm H locs 637 ls [] := by
  intro y9 y10 y12 y13 y14 y16 y17 y18 y19 y21 y22 y23 y24 y25 y26 M hw hy9 hy10 hy12 hy13 hy14 hy16 hy17 hy18 hy19 hy21 hy22 hy23 hy24 hy25 hy26 H locs hR hS ls hl
  have hw : ((6 ≤ y13 → wp_L_walk_733 Qm K195 K563 y9 y10 y12 y13 y14 y16 y17 y18 y19 y21 y22 y23 y24 y25 y26 M) ∧ (y13 < 6 → (inR (6 * (if 0 ≤ y18 then y18 else 0))) ∧ (inR ((6 * (if 0 ≤ y18 then y18 else 0)) + y13)) ∧ (0 ≤ ((6 * (if 0 ≤ y18 then y18 else 0)) + y13) ∧ ((6 * (if 0 ≤ y18 then y18 else 0)) + y13) < 60) ∧ (inR ((M 115 0 ((6 * (if 0 ≤ y18 then y18 else 0)) + y13)) + (if y19 = 0 then (0 : Int) else (if ¬ (Int.tmod y17 2) = 0 then (0 : Int) else y26)))) ∧ (0 ≤ ((6 * (if 0 ≤ y18 then y18 else 0)) + y13) ∧ ((6 * (if 0 ≤ y18 then y18 else 0)) + y13) < 60) ∧ ∀ M199 : Mem, M199 = up M 115 0 ((6 * (if 0 ≤ y18 then y18 else 0)) + y13) ((M 115 0 ((6 * (if 0 ≤ y18 then y18 else 0)) + y13)) + (if y19 = 0 then (0 : Int) else (if ¬ (Int.tmod y17 2) = 0 then (0 : Int) else y26))) → (inR (1 + y13)) ∧ (0 ≤ (1 + y13) ∧ (1 + y13) < 13) ∧ (inR (y26 + y22)) ∧ (inR ((M199 114 0 (1 + y13)) + (y26 + y22))) ∧ (0 ≤ (1 + y13) ∧ (1 + y13) < 13) ∧ ∀ M207 : Mem, M207 = up M199 114 0 (1 + y13) ((M199 114 0 (1 + y13)) + (y26 + y22)) → (inR (7 + y13)) ∧ (0 ≤ (7 + y13) ∧ (7 + y13) < 13) ∧ (inR (2 * (M207 112 0 1))) ∧ (inR ((2 * (M207 112 0 1)) + 1)) ∧ (inR (y22 + (if ¬ y17 = ((2 * (M207 112 0 1)) + 1) then (0 : Int) else y26))) ∧ (inR ((M207 114 0 (7 + y13)) + (y22 + (if ¬ y17 = ((2 * (M207 112 0 1)) + 1) then (0 : Int) else y26)))) ∧ (0 ≤ (7 + y13) ∧ (7 + y13) < 13) ∧ ∀ M221 : Mem, M221 = up M207 114 0 (7 + y13) ((M207 114 0 (7 + y13)) + (y22 + (if ¬ y17 = ((2 * (M207 112 0 1)) + 1) then (0 : Int) else y26))) → wp_L_walk_733 Qm K195 K563 y9 y10 y12 y13 y14 y16 y17 y18 y19 y21 y22 y23 y24 y25 y26 M221)) := hw
  refine lv_iload X.1.1 X.1.2.1 dL_walk_637 (lv_at hl 12 rfl) ?_
  refine sa_bipush X.1 dL_walk_639 (by decide) ?_
  refine sa_icmp_ge (tgt := 733) X.1 hy13 (inR_c (a := 6) rfl) dL_walk_641 (by decide) (fun hc => ?_) (fun hc => ?_)
  · have hw := hw.1 hc
    exact t_L_walk_733 X ho114 ho115 ho116 hK195 hK563 _ _ _ _ _ _ _ _ _ _ _ _ _ _ _ _ hw hy9 hy10 hy12 hy13 hy14 hy16 hy17 hy18 hy19 hy21 hy22 hy23 hy24 hy25 hy26 _ _ hR hS _ (lv_sub hl [0, 1, 2, 3, 4, 5, 6, 7, 8, 9, 10, 11, 12, 13, 14, 15, 16, 17, 18, 19, 20, 21, 22, 23] rfl)
  · have hw := hw.2 hc
    refine lv_aload X.1.1 X.1.2.1 dL_walk_644 (lv_at hl 7 rfl) ?_
    refine sa_bipush X.1 dL_walk_646 (by decide) ?_
    refine lv_iload X.1.1 X.1.2.1 dL_walk_648 (lv_at hl 16 rfl) ?_
    have r185 := inR_ite (c := 0 ≤ y18) hy18 (inR_c (a := 0) rfl)
    refine cut_j (A := ∀ v186 : Int, v186 = (if 0 ≤ y18 then y18 else 0) → WV p l e 2 s m args below meth c G e0 α κ B Qm H locs 659 ls [.int (Int32.ofInt v186), .int (Int32.ofInt 6), .ref (α 115 0)]) (fun J187 => ?_) ?_
    · refine sa_if_ge (tgt := 657) X.1 hy18 dL_walk_650 (by decide) (fun hc => ?_) (fun hc => ?_)
      · skip
        refine lv_iload X.1.1 X.1.2.1 dL_walk_657 (lv_at hl 16 rfl) ?_
        exact J187 (y18) (if_pos (c := 0 ≤ y18) hc).symm
      · skip
        refine sa_const X.1 dL_walk_653 ?_
        refine lv_goto (tgt := 659) X.1.1 X.1.2.1 dL_walk_654 (by decide) ?_
        exact J187 (0) (if_neg (c := 0 ≤ y18) (Int.not_le.mpr hc)).symm
    intro v186 hv186
    subst hv186
    have c188 := hw.1
    have hw := hw.2
    refine sa_imul X.1 dL_walk_659 ?_
    refine lv_iload X.1.1 X.1.2.1 dL_walk_660 (lv_at hl 12 rfl) ?_
    have c189 := hw.1
    have hw := hw.2
    refine sa_iadd X.1 dL_walk_662 ?_
    refine lv_dup2_11 X.1.1 X.1.2.1 dL_walk_663 rfl rfl ?_
    have c190 := hw.1
    have hw := hw.2
    refine ra_115 X hR ho115 c190 dL_walk_664 ?_
    have r191 := hR.r 115 0 ((6 * (if 0 ≤ y18 then y18 else 0)) + y13)
    refine lv_iload X.1.1 X.1.2.1 dL_walk_665 (lv_at hl 17 rfl) ?_
    have r194 := inR_ite (c := y19 = 0) (inR_c (a := 0) rfl) (inR_ite (c := ¬ (Int.tmod y17 2) = 0) (inR_c (a := 0) rfl) hy26)
    refine cut_j (A := ∀ v195 : Int, v195 = (if y19 = 0 then (0 : Int) else (if ¬ (Int.tmod y17 2) = 0 then (0 : Int) else y26)) → WV p l e 2 s m args below meth c G e0 α κ B Qm H locs 683 ls [.int (Int32.ofInt v195), .int (Int32.ofInt (M 115 0 ((6 * (if 0 ≤ y18 then y18 else 0)) + y13))), .int (Int32.ofInt ((6 * (if 0 ≤ y18 then y18 else 0)) + y13)), .ref (α 115 0)]) (fun J196 => ?_) ?_
    · refine sa_if_eq (tgt := 682) X.1 hy19 dL_walk_667 (by decide) (fun hc => ?_) (fun hc => ?_)
      · skip
        refine sa_const X.1 dL_walk_682 ?_
        exact J196 (0) (if_pos (c := y19 = 0) hc).symm
      · skip
        refine lv_iload X.1.1 X.1.2.1 dL_walk_670 (lv_at hl 15 rfl) ?_
        refine sa_const X.1 dL_walk_672 ?_
        refine sa_irem X.1 hy17 (inR_c (a := 2) rfl) (Int.ne_of_gt (by decide)) dL_walk_673 ?_
        refine cut_j (A := ∀ v192 : Int, v192 = (if ¬ (Int.tmod y17 2) = 0 then (0 : Int) else y26) → WV p l e 2 s m args below meth c G e0 α κ B Qm H locs 683 ls [.int (Int32.ofInt v192), .int (Int32.ofInt (M 115 0 ((6 * (if 0 ≤ y18 then y18 else 0)) + y13))), .int (Int32.ofInt ((6 * (if 0 ≤ y18 then y18 else 0)) + y13)), .ref (α 115 0)]) (fun J193 => ?_) ?_
        · refine sa_if_ne (tgt := 682) X.1 (inR_tmod hy17 (inR_c (a := 2) rfl) (by decide)) dL_walk_674 (by decide) (fun hc => ?_) (fun hc => ?_)
          · skip
            refine sa_const X.1 dL_walk_682 ?_
            exact J193 (0) (if_pos (c := ¬ (Int.tmod y17 2) = 0) hc).symm
          · skip
            refine lv_iload X.1.1 X.1.2.1 dL_walk_677 (lv_at hl 23 rfl) ?_
            refine lv_goto (tgt := 683) X.1.1 X.1.2.1 dL_walk_679 (by decide) ?_
            exact J193 (y26) (if_neg (c := ¬ (Int.tmod y17 2) = 0) (fun z => z hc)).symm
        intro v192 hv192
        subst hv192
        exact J196 ((if ¬ (Int.tmod y17 2) = 0 then (0 : Int) else y26)) (if_neg (c := y19 = 0) hc).symm
    intro v195 hv195
    subst hv195
    have c197 := hw.1
    have hw := hw.2
    refine sa_iadd X.1 dL_walk_683 ?_
    have c198 := hw.1
    have hw := hw.2
    refine wa_115 X hR hS ho115 c198 c197 dL_walk_684 (fun H locs hR hS => ?_)
    obtain ⟨M199, e200⟩ : ∃ z : Mem, z = up M 115 0 ((6 * (if 0 ≤ y18 then y18 else 0)) + y13) ((M 115 0 ((6 * (if 0 ≤ y18 then y18 else 0)) + y13)) + (if y19 = 0 then (0 : Int) else (if ¬ (Int.tmod y17 2) = 0 then (0 : Int) else y26))) := ⟨_, rfl⟩
    rw [← e200] at hR
    have hw := hw M199 e200
    refine lv_aload X.1.1 X.1.2.1 dL_walk_685 (lv_at hl 6 rfl) ?_
    refine sa_const X.1 dL_walk_687 ?_
    refine lv_iload X.1.1 X.1.2.1 dL_walk_688 (lv_at hl 12 rfl) ?_
    have c201 := hw.1
    have hw := hw.2
    refine sa_iadd X.1 dL_walk_690 ?_
    refine lv_dup2_11 X.1.1 X.1.2.1 dL_walk_691 rfl rfl ?_
    have c202 := hw.1
    have hw := hw.2
    refine ra_114 X hR ho114 c202 dL_walk_692 ?_
    have r203 := hR.r 114 0 (1 + y13)
    refine lv_iload X.1.1 X.1.2.1 dL_walk_693 (lv_at hl 23 rfl) ?_
    refine lv_iload X.1.1 X.1.2.1 dL_walk_695 (lv_at hl 19 rfl) ?_
    have c204 := hw.1
    have hw := hw.2
    refine sa_iadd X.1 dL_walk_697 ?_
    have c205 := hw.1
    have hw := hw.2
    refine sa_iadd X.1 dL_walk_698 ?_
    have c206 := hw.1
    have hw := hw.2
    refine wa_114 X hR hS ho114 c206 c205 dL_walk_699 (fun H locs hR hS => ?_)
    obtain ⟨M207, e208⟩ : ∃ z : Mem, z = up M199 114 0 (1 + y13) ((M199 114 0 (1 + y13)) + (y26 + y22)) := ⟨_, rfl⟩
    rw [← e208] at hR
    have hw := hw M207 e208
    refine lv_aload X.1.1 X.1.2.1 dL_walk_700 (lv_at hl 6 rfl) ?_
    refine sa_bipush X.1 dL_walk_702 (by decide) ?_
    refine lv_iload X.1.1 X.1.2.1 dL_walk_704 (lv_at hl 12 rfl) ?_
    have c209 := hw.1
    have hw := hw.2
    refine sa_iadd X.1 dL_walk_706 ?_
    refine lv_dup2_11 X.1.1 X.1.2.1 dL_walk_707 rfl rfl ?_
    have c210 := hw.1
    have hw := hw.2
    refine ra_114 X hR ho114 c210 dL_walk_708 ?_
    have r211 := hR.r 114 0 (7 + y13)
    refine lv_iload X.1.1 X.1.2.1 dL_walk_709 (lv_at hl 19 rfl) ?_
    refine lv_iload X.1.1 X.1.2.1 dL_walk_711 (lv_at hl 15 rfl) ?_
    refine sa_const X.1 dL_walk_713 ?_
    refine lv_aload X.1.1 X.1.2.1 dL_walk_714 (lv_at hl 4 rfl) ?_
    refine sa_const X.1 dL_walk_716 ?_
    refine ra_112 X hR (okf X.2.2.1 rfl) ⟨by decide, by decide⟩ dL_walk_717 ?_
    have r212 := hR.r 112 0 1
    have c213 := hw.1
    have hw := hw.2
    refine sa_imul X.1 dL_walk_718 ?_
    refine sa_const X.1 dL_walk_719 ?_
    have c214 := hw.1
    have hw := hw.2
    refine sa_iadd X.1 dL_walk_720 ?_
    have r215 := inR_ite (c := ¬ y17 = ((2 * (M207 112 0 1)) + 1)) (inR_c (a := 0) rfl) hy26
    refine cut_j (A := ∀ v216 : Int, v216 = (if ¬ y17 = ((2 * (M207 112 0 1)) + 1) then (0 : Int) else y26) → WV p l e 2 s m args below meth c G e0 α κ B Qm H locs 730 ls [.int (Int32.ofInt v216), .int (Int32.ofInt y22), .int (Int32.ofInt (M207 114 0 (7 + y13))), .int (Int32.ofInt (7 + y13)), .ref (α 114 0)]) (fun J217 => ?_) ?_
    · refine sa_icmp_ne (tgt := 729) X.1 hy17 c214 dL_walk_721 (by decide) (fun hc => ?_) (fun hc => ?_)
      · skip
        refine sa_const X.1 dL_walk_729 ?_
        exact J217 (0) (if_pos (c := ¬ y17 = ((2 * (M207 112 0 1)) + 1)) hc).symm
      · skip
        refine lv_iload X.1.1 X.1.2.1 dL_walk_724 (lv_at hl 23 rfl) ?_
        refine lv_goto (tgt := 730) X.1.1 X.1.2.1 dL_walk_726 (by decide) ?_
        exact J217 (y26) (if_neg (c := ¬ y17 = ((2 * (M207 112 0 1)) + 1)) (fun z => z hc)).symm
    intro v216 hv216
    subst hv216
    have c218 := hw.1
    have hw := hw.2
    refine sa_iadd X.1 dL_walk_730 ?_
    have c219 := hw.1
    have hw := hw.2
    refine sa_iadd X.1 dL_walk_731 ?_
    have c220 := hw.1
    have hw := hw.2
    refine wa_114 X hR hS ho114 c220 c219 dL_walk_732 (fun H locs hR hS => ?_)
    obtain ⟨M221, e222⟩ : ∃ z : Mem, z = up M207 114 0 (7 + y13) ((M207 114 0 (7 + y13)) + (y22 + (if ¬ y17 = ((2 * (M207 112 0 1)) + 1) then (0 : Int) else y26))) := ⟨_, rfl⟩
    rw [← e222] at hR
    have hw := hw M221 e222
    exact t_L_walk_733 X ho114 ho115 ho116 hK195 hK563 _ _ _ _ _ _ _ _ _ _ _ _ _ _ _ _ hw hy9 hy10 hy12 hy13 hy14 hy16 hy17 hy18 hy19 hy21 hy22 hy23 hy24 hy25 hy26 _ _ hR hS _ (lv_sub hl [0, 1, 2, 3, 4, 5, 6, 7, 8, 9, 10, 11, 12, 13, 14, 15, 16, 17, 18, 19, 20, 21, 22, 23] rfl)
set_option maxHeartbeats 4000000 in
set_option maxRecDepth 100000 in
theorem t_L_walk_786 (X : CX p m c cL_walk 27 s args RL G B κ meth none) (ho114 : okk κ 114 0) (ho115 : okk κ 115 0) (ho116 : okk κ 116 0) {Qm : Mem → Prop} {K195 : Int → Int → Int → Int → Int → Int → Int → Int → Mem → Prop} {K563 : Int → Int → Int → Int → Int → Int → Int → Int → Int → Int → Int → Int → Int → Int → Mem → Prop} (hK195 : ∀ y9 : Int, ∀ y10 : Int, ∀ y12 : Int, ∀ y13 : Int, ∀ y14 : Int, ∀ y15 : Int, ∀ y16 : Int, ∀ y17 : Int, ∀ M : Mem, K195 y9 y10 y12 y13 y14 y15 y16 y17 M → inR y9 → inR y10 → inR y12 → inR y13 → inR y14 → inR y15 → inR y16 → inR y17 → ∀ (H : Heap) (locs : List Loc), Rp G e0 α κ B M H → va_S (fun q => B ≤ q) s.heap H locs → ∀ (ls : Array Slot), lv_has ls 27 [(0, .ref (α 104 0)), (1, .ref (α 105 0)), (2, .ref (α 106 0)), (3, .ref (α 107 0)), (4, .ref (α 112 0)), (5, .ref (α 113 0)), (6, .ref (α 114 0)), (7, .ref (α 115 0)), (8, .ref (α 116 0)), (9, .int (Int32.ofInt y9)), (10, .int (Int32.ofInt y10)), (12, .int (Int32.ofInt y12)), (13, .int (Int32.ofInt y13)), (14, .int (Int32.ofInt y14)), (15, .int (Int32.ofInt y15)), (16, .int (Int32.ofInt y16)), (17, .int (Int32.ofInt y17))] → WV p l e 2 s m args below meth c G e0 α κ B Qm H locs 195 ls []) (hK563 : ∀ y9 : Int, ∀ y10 : Int, ∀ y12 : Int, ∀ y13 : Int, ∀ y14 : Int, ∀ y15 : Int, ∀ y16 : Int, ∀ y17 : Int, ∀ y18 : Int, ∀ y19 : Int, ∀ y21 : Int, ∀ y22 : Int, ∀ y23 : Int, ∀ y24 : Int, ∀ M : Mem, K563 y9 y10 y12 y13 y14 y15 y16 y17 y18 y19 y21 y22 y23 y24 M → inR y9 → inR y10 → inR y12 → inR y13 → inR y14 → inR y15 → inR y16 → inR y17 → inR y18 → inR y19 → inR y21 → inR y22 → inR y23 → inR y24 → ∀ (H : Heap) (locs : List Loc), Rp G e0 α κ B M H → va_S (fun q => B ≤ q) s.heap H locs → ∀ (ls : Array Slot), lv_has ls 27 [(0, .ref (α 104 0)), (1, .ref (α 105 0)), (2, .ref (α 106 0)), (3, .ref (α 107 0)), (4, .ref (α 112 0)), (5, .ref (α 113 0)), (6, .ref (α 114 0)), (7, .ref (α 115 0)), (8, .ref (α 116 0)), (9, .int (Int32.ofInt y9)), (10, .int (Int32.ofInt y10)), (12, .int (Int32.ofInt y12)), (13, .int (Int32.ofInt y13)), (14, .int (Int32.ofInt y14)), (15, .int (Int32.ofInt y15)), (16, .int (Int32.ofInt y16)), (17, .int (Int32.ofInt y17)), (18, .int (Int32.ofInt y18)), (19, .int (Int32.ofInt y19)), (21, .int (Int32.ofInt y21)), (22, .int (Int32.ofInt y22)), (23, .int (Int32.ofInt y23)), (24, .int (Int32.ofInt y24))] → WV p l e 2 s m args below meth c G e0 α κ B Qm H locs 563 ls []) : ∀ y9 : Int, ∀ y10 : Int, ∀ y12 : Int, ∀ y13 : Int, ∀ y14 : Int, ∀ y15 : Int, ∀ y16 : Int, ∀ y17 : Int, ∀ y18 : Int, ∀ y19 : Int, ∀ y21 : Int, ∀ y22 : Int, ∀ y23 : Int, ∀ y24 : Int, ∀ y25 : Int, ∀ M : Mem, wp_L_walk_786 Qm K195 K563 y9 y10 y12 y13 y14 y15 y16 y17 y18 y19 y21 y22 y23 y24 y25 M → inR y9 → inR y10 → inR y12 → inR y13 → inR y14 → inR y15 → inR y16 → inR y17 → inR y18 → inR y19 → inR y21 → inR y22 → inR y23 → inR y24 → inR y25 → ∀ (H : Heap) (locs : List Loc), Rp G e0 α κ B M H → va_S (fun q => B ≤ q) s.heap H locs → ∀ (ls : Array Slot), lv_has ls 27 [(0, .ref (α 104 0)), (1, .ref (α 105 0)), (2, .ref (α 106 0)), (3, .ref (α 107 0)), (4, .ref (α 112 0)), (5, .ref (α 113 0)), (6, .ref (α 114 0)), (7, .ref (α 115 0)), (8, .ref (α 116 0)), (9, .int (Int32.ofInt y9)), (10, .int (Int32.ofInt y10)), (12, .int (Int32.ofInt y12)), (13, .int (Int32.ofInt y13)), (14, .int (Int32.ofInt y14)), (15, .int (Int32.ofInt y15)), (16, .int (Int32.ofInt y16)), (17, .int (Int32.ofInt y17)), (18, .int (Int32.ofInt y18)), (19, .int (Int32.ofInt y19)), (21, .int (Int32.ofInt y21)), (22, .int (Int32.ofInt y22)), (23, .int (Int32.ofInt y23)), (24, .int (Int32.ofInt y24)), (25, .int (Int32.ofInt y25))] → WV p l e 2 s m args below meth c G e0 α κ B Qm H locs 786 ls [] := by
  intro y9 y10 y12 y13 y14 y15 y16 y17 y18 y19 y21 y22 y23 y24 y25 M hw hy9 hy10 hy12 hy13 hy14 hy15 hy16 hy17 hy18 hy19 hy21 hy22 hy23 hy24 hy25 H locs hR hS ls hl
  have hw : ((y15 = 0 → wp_L_walk_797 Qm K195 K563 y9 y10 y12 y13 y14 y15 y16 y17 y18 y19 y21 y22 y23 y24 y25 M) ∧ (¬ y15 = 0 → ∀ M223 : Mem, M223 = up M 114 0 0 (-1) → Qm M223)) := hw
  refine lv_iload X.1.1 X.1.2.1 dL_walk_786 (lv_at hl 14 rfl) ?_
  refine sa_if_eq (tgt := 797) X.1 hy15 dL_walk_788 (by decide) (fun hc => ?_) (fun hc => ?_)
  · have hw := hw.1 hc
    exact t_L_walk_797 X ho114 ho115 ho116 hK195 hK563 _ _ _ _ _ _ _ _ _ _ _ _ _ _ _ _ hw hy9 hy10 hy12 hy13 hy14 hy15 hy16 hy17 hy18 hy19 hy21 hy22 hy23 hy24 hy25 _ _ hR hS _ (lv_sub hl [0, 1, 2, 3, 4, 5, 6, 7, 8, 9, 10, 11, 12, 13, 14, 15, 16, 17, 18, 19, 20, 21, 22, 23] rfl)
  · have hw := hw.2 hc
    refine lv_aload X.1.1 X.1.2.1 dL_walk_791 (lv_at hl 6 rfl) ?_
    refine sa_const X.1 dL_walk_793 ?_
    refine sa_const X.1 dL_walk_794 ?_
    refine wa_114 X hR hS ho114 ⟨by decide, by decide⟩ (inR_c (a := -1) rfl) dL_walk_795 (fun H locs hR hS => ?_)
    obtain ⟨M223, e224⟩ : ∃ z : Mem, z = up M 114 0 0 (-1) := ⟨_, rfl⟩
    rw [← e224] at hR
    have hw := hw M223 e224
    exact sa_vret X.1 X.2.2.2.1 X.2.2.2.2 hR hS hw dL_walk_796
set_option maxHeartbeats 4000000 in
set_option maxRecDepth 100000 in
theorem t_L_walk_632 (X : CX p m c cL_walk 27 s args RL G B κ meth none) (ho114 : okk κ 114 0) (ho115 : okk κ 115 0) (ho116 : okk κ 116 0) {Qm : Mem → Prop} {K195 : Int → Int → Int → Int → Int → Int → Int → Int → Mem → Prop} {K563 : Int → Int → Int → Int → Int → Int → Int → Int → Int → Int → Int → Int → Int → Int → Mem → Prop} (hK195 : ∀ y9 : Int, ∀ y10 : Int, ∀ y12 : Int, ∀ y13 : Int, ∀ y14 : Int, ∀ y15 : Int, ∀ y16 : Int, ∀ y17 : Int, ∀ M : Mem, K195 y9 y10 y12 y13 y14 y15 y16 y17 M → inR y9 → inR y10 → inR y12 → inR y13 → inR y14 → inR y15 → inR y16 → inR y17 → ∀ (H : Heap) (locs : List Loc), Rp G e0 α κ B M H → va_S (fun q => B ≤ q) s.heap H locs → ∀ (ls : Array Slot), lv_has ls 27 [(0, .ref (α 104 0)), (1, .ref (α 105 0)), (2, .ref (α 106 0)), (3, .ref (α 107 0)), (4, .ref (α 112 0)), (5, .ref (α 113 0)), (6, .ref (α 114 0)), (7, .ref (α 115 0)), (8, .ref (α 116 0)), (9, .int (Int32.ofInt y9)), (10, .int (Int32.ofInt y10)), (12, .int (Int32.ofInt y12)), (13, .int (Int32.ofInt y13)), (14, .int (Int32.ofInt y14)), (15, .int (Int32.ofInt y15)), (16, .int (Int32.ofInt y16)), (17, .int (Int32.ofInt y17))] → WV p l e 2 s m args below meth c G e0 α κ B Qm H locs 195 ls []) (hK563 : ∀ y9 : Int, ∀ y10 : Int, ∀ y12 : Int, ∀ y13 : Int, ∀ y14 : Int, ∀ y15 : Int, ∀ y16 : Int, ∀ y17 : Int, ∀ y18 : Int, ∀ y19 : Int, ∀ y21 : Int, ∀ y22 : Int, ∀ y23 : Int, ∀ y24 : Int, ∀ M : Mem, K563 y9 y10 y12 y13 y14 y15 y16 y17 y18 y19 y21 y22 y23 y24 M → inR y9 → inR y10 → inR y12 → inR y13 → inR y14 → inR y15 → inR y16 → inR y17 → inR y18 → inR y19 → inR y21 → inR y22 → inR y23 → inR y24 → ∀ (H : Heap) (locs : List Loc), Rp G e0 α κ B M H → va_S (fun q => B ≤ q) s.heap H locs → ∀ (ls : Array Slot), lv_has ls 27 [(0, .ref (α 104 0)), (1, .ref (α 105 0)), (2, .ref (α 106 0)), (3, .ref (α 107 0)), (4, .ref (α 112 0)), (5, .ref (α 113 0)), (6, .ref (α 114 0)), (7, .ref (α 115 0)), (8, .ref (α 116 0)), (9, .int (Int32.ofInt y9)), (10, .int (Int32.ofInt y10)), (12, .int (Int32.ofInt y12)), (13, .int (Int32.ofInt y13)), (14, .int (Int32.ofInt y14)), (15, .int (Int32.ofInt y15)), (16, .int (Int32.ofInt y16)), (17, .int (Int32.ofInt y17)), (18, .int (Int32.ofInt y18)), (19, .int (Int32.ofInt y19)), (21, .int (Int32.ofInt y21)), (22, .int (Int32.ofInt y22)), (23, .int (Int32.ofInt y23)), (24, .int (Int32.ofInt y24))] → WV p l e 2 s m args below meth c G e0 α κ B Qm H locs 563 ls []) : ∀ y9 : Int, ∀ y10 : Int, ∀ y12 : Int, ∀ y13 : Int, ∀ y14 : Int, ∀ y15 : Int, ∀ y16 : Int, ∀ y17 : Int, ∀ y18 : Int, ∀ y19 : Int, ∀ y21 : Int, ∀ y22 : Int, ∀ y23 : Int, ∀ y24 : Int, ∀ y25 : Int, ∀ y26 : Int, ∀ M : Mem, wp_L_walk_632 Qm K195 K563 y9 y10 y12 y13 y14 y15 y16 y17 y18 y19 y21 y22 y23 y24 y25 y26 M → inR y9 → inR y10 → inR y12 → inR y13 → inR y14 → inR y15 → inR y16 → inR y17 → inR y18 → inR y19 → inR y21 → inR y22 → inR y23 → inR y24 → inR y25 → inR y26 → ∀ (H : Heap) (locs : List Loc), Rp G e0 α κ B M H → va_S (fun q => B ≤ q) s.heap H locs → ∀ (ls : Array Slot), lv_has ls 27 [(0, .ref (α 104 0)), (1, .ref (α 105 0)), (2, .ref (α 106 0)), (3, .ref (α 107 0)), (4, .ref (α 112 0)), (5, .ref (α 113 0)), (6, .ref (α 114 0)), (7, .ref (α 115 0)), (8, .ref (α 116 0)), (9, .int (Int32.ofInt y9)), (10, .int (Int32.ofInt y10)), (12, .int (Int32.ofInt y12)), (13, .int (Int32.ofInt y13)), (14, .int (Int32.ofInt y14)), (15, .int (Int32.ofInt y15)), (16, .int (Int32.ofInt y16)), (17, .int (Int32.ofInt y17)), (18, .int (Int32.ofInt y18)), (19, .int (Int32.ofInt y19)), (21, .int (Int32.ofInt y21)), (22, .int (Int32.ofInt y22)), (23, .int (Int32.ofInt y23)), (24, .int (Int32.ofInt y24)), (25, .int (Int32.ofInt y25)), (26, .int (Int32.ofInt y26))] → WV p l e 2 s m args below meth c G e0 α κ B Qm H locs 632 ls [] := by
  intro y9 y10 y12 y13 y14 y15 y16 y17 y18 y19 y21 y22 y23 y24 y25 y26 M hw hy9 hy10 hy12 hy13 hy14 hy15 hy16 hy17 hy18 hy19 hy21 hy22 hy23 hy24 hy25 hy26 H locs hR hS ls hl
  have hw : ((y26 ≤ 0 → wp_L_walk_786 Qm K195 K563 y9 y10 y12 y13 y14 y15 y16 y17 y18 y19 y21 y22 y23 y24 y25 M) ∧ (0 < y26 → wp_L_walk_637 Qm K195 K563 y9 y10 y12 y13 y14 y16 y17 y18 y19 y21 y22 y23 y24 y25 y26 M)) := hw
  refine lv_iload X.1.1 X.1.2.1 dL_walk_632 (lv_at hl 24 rfl) ?_
  refine sa_if_le (tgt := 786) X.1 hy26 dL_walk_634 (by decide) (fun hc => ?_) (fun hc => ?_)
  · have hw := hw.1 hc
    exact t_L_walk_786 X ho114 ho115 ho116 hK195 hK563 _ _ _ _ _ _ _ _ _ _ _ _ _ _ _ _ hw hy9 hy10 hy12 hy13 hy14 hy15 hy16 hy17 hy18 hy19 hy21 hy22 hy23 hy24 hy25 _ _ hR hS _ (lv_sub hl [0, 1, 2, 3, 4, 5, 6, 7, 8, 9, 10, 11, 12, 13, 14, 15, 16, 17, 18, 19, 20, 21, 22, 23] rfl)
  · have hw := hw.2 hc
    exact t_L_walk_637 X ho114 ho115 ho116 hK195 hK563 _ _ _ _ _ _ _ _ _ _ _ _ _ _ _ _ hw hy9 hy10 hy12 hy13 hy14 hy16 hy17 hy18 hy19 hy21 hy22 hy23 hy24 hy25 hy26 _ _ hR hS _ (lv_sub hl [0, 1, 2, 3, 4, 5, 6, 7, 8, 9, 10, 11, 12, 13, 15, 16, 17, 18, 19, 20, 21, 22, 23, 24] rfl)
set_option maxHeartbeats 4000000 in
set_option maxRecDepth 100000 in
theorem t_L_walk_563 (X : CX p m c cL_walk 27 s args RL G B κ meth none) (ho114 : okk κ 114 0) (ho115 : okk κ 115 0) (ho116 : okk κ 116 0) {Qm : Mem → Prop} {K195 : Int → Int → Int → Int → Int → Int → Int → Int → Mem → Prop} (hK195 : ∀ y9 : Int, ∀ y10 : Int, ∀ y12 : Int, ∀ y13 : Int, ∀ y14 : Int, ∀ y15 : Int, ∀ y16 : Int, ∀ y17 : Int, ∀ M : Mem, K195 y9 y10 y12 y13 y14 y15 y16 y17 M → inR y9 → inR y10 → inR y12 → inR y13 → inR y14 → inR y15 → inR y16 → inR y17 → ∀ (H : Heap) (locs : List Loc), Rp G e0 α κ B M H → va_S (fun q => B ≤ q) s.heap H locs → ∀ (ls : Array Slot), lv_has ls 27 [(0, .ref (α 104 0)), (1, .ref (α 105 0)), (2, .ref (α 106 0)), (3, .ref (α 107 0)), (4, .ref (α 112 0)), (5, .ref (α 113 0)), (6, .ref (α 114 0)), (7, .ref (α 115 0)), (8, .ref (α 116 0)), (9, .int (Int32.ofInt y9)), (10, .int (Int32.ofInt y10)), (12, .int (Int32.ofInt y12)), (13, .int (Int32.ofInt y13)), (14, .int (Int32.ofInt y14)), (15, .int (Int32.ofInt y15)), (16, .int (Int32.ofInt y16)), (17, .int (Int32.ofInt y17))] → WV p l e 2 s m args below meth c G e0 α κ B Qm H locs 195 ls []) : ∀ n : Nat, ∀ y9 : Int, ∀ y10 : Int, ∀ y12 : Int, ∀ y13 : Int, ∀ y14 : Int, ∀ y15 : Int, ∀ y16 : Int, ∀ y17 : Int, ∀ y18 : Int, ∀ y19 : Int, ∀ y21 : Int, ∀ y22 : Int, ∀ y23 : Int, ∀ y24 : Int, ∀ M : Mem, wp_L_walk_563 Qm K195 n y9 y10 y12 y13 y14 y15 y16 y17 y18 y19 y21 y22 y23 y24 M → inR y9 → inR y10 → inR y12 → inR y13 → inR y14 → inR y15 → inR y16 → inR y17 → inR y18 → inR y19 → inR y21 → inR y22 → inR y23 → inR y24 → ∀ (H : Heap) (locs : List Loc), Rp G e0 α κ B M H → va_S (fun q => B ≤ q) s.heap H locs → ∀ (ls : Array Slot), lv_has ls 27 [(0, .ref (α 104 0)), (1, .ref (α 105 0)), (2, .ref (α 106 0)), (3, .ref (α 107 0)), (4, .ref (α 112 0)), (5, .ref (α 113 0)), (6, .ref (α 114 0)), (7, .ref (α 115 0)), (8, .ref (α 116 0)), (9, .int (Int32.ofInt y9)), (10, .int (Int32.ofInt y10)), (12, .int (Int32.ofInt y12)), (13, .int (Int32.ofInt y13)), (14, .int (Int32.ofInt y14)), (15, .int (Int32.ofInt y15)), (16, .int (Int32.ofInt y16)), (17, .int (Int32.ofInt y17)), (18, .int (Int32.ofInt y18)), (19, .int (Int32.ofInt y19)), (21, .int (Int32.ofInt y21)), (22, .int (Int32.ofInt y22)), (23, .int (Int32.ofInt y23)), (24, .int (Int32.ofInt y24))] → WV p l e 2 s m args below meth c G e0 α κ B Qm H locs 563 ls [] := by
  intro n
  induction n with
  | zero =>
    intro y9 y10 y12 y13 y14 y15 y16 y17 y18 y19 y21 y22 y23 y24 M hw hy9 hy10 hy12 hy13 hy14 hy15 hy16 hy17 hy18 hy19 hy21 hy22 hy23 hy24 H locs hR hS ls hl
    exact hw.elim
  | succ n ih =>
    intro y9 y10 y12 y13 y14 y15 y16 y17 y18 y19 y21 y22 y23 y24 M hw hy9 hy10 hy12 hy13 hy14 hy15 hy16 hy17 hy18 hy19 hy21 hy22 hy23 hy24 H locs hR hS ls hl
    have hw : ((y21 ≤ 0 → (inR (y17 + 1)) ∧ K195 y9 y10 y12 y13 y14 y15 y16 (y17 + 1) M) ∧ (0 < y21 → (inR (y21 + y22)) ∧ (inR ((y21 + y22) + (if y24 = 0 then y9 else 0))) ∧ ((if y14 < ((y21 + y22) + (if y24 = 0 then y9 else 0)) then (0 : Int) else 1) = 0 → (inR (y14 - y9)) ∧ (inR ((y14 - y9) - y22)) ∧ True) ∧ (inR (if (if y14 < ((y21 + y22) + (if y24 = 0 then y9 else 0)) then (0 : Int) else 1) = 0 then ((y14 - y9) - y22) else y21)) ∧ ((¬ (if y14 < ((y21 + y22) + (if y24 = 0 then y9 else 0)) then (0 : Int) else 1) = 0 → wp_L_walk_637 Qm K195 (wp_L_walk_563 Qm K195 n) y9 y10 y12 y13 y14 y16 y17 y18 y19 y21 y22 y23 y24 (if y14 < ((y21 + y22) + (if y24 = 0 then y9 else 0)) then (0 : Int) else 1) (if (if y14 < ((y21 + y22) + (if y24 = 0 then y9 else 0)) then (0 : Int) else 1) = 0 then ((y14 - y9) - y22) else y21) M) ∧ ((if y14 < ((y21 + y22) + (if y24 = 0 then y9 else 0)) then (0 : Int) else 1) = 0 → ((¬ y23 = 0 → wp_L_walk_632 Qm K195 (wp_L_walk_563 Qm K195 n) y9 y10 y12 y13 y14 y15 y16 y17 y18 y19 y21 y22 y23 y24 (if y14 < ((y21 + y22) + (if y24 = 0 then y9 else 0)) then (0 : Int) else 1) (if (if y14 < ((y21 + y22) + (if y24 = 0 then y9 else 0)) then (0 : Int) else 1) = 0 then ((y14 - y9) - y22) else y21) M) ∧ (y23 = 0 → ((y15 = 0 → wp_L_walk_786 Qm K195 (wp_L_walk_563 Qm K195 n) y9 y10 y12 y13 y14 y15 y16 y17 y18 y19 y21 y22 y23 y24 (if y14 < ((y21 + y22) + (if y24 = 0 then y9 else 0)) then (0 : Int) else 1) M) ∧ (¬ y15 = 0 → wp_L_walk_632 Qm K195 (wp_L_walk_563 Qm K195 n) y9 y10 y12 y13 y14 y15 y16 y17 y18 y19 y21 y22 y23 y24 (if y14 < ((y21 + y22) + (if y24 = 0 then y9 else 0)) then (0 : Int) else 1) (if (if y14 < ((y21 + y22) + (if y24 = 0 then y9 else 0)) then (0 : Int) else 1) = 0 then ((y14 - y9) - y22) else y21) M)))))))) := hw
    refine lv_iload X.1.1 X.1.2.1 dL_walk_563 (lv_at hl 19 rfl) ?_
    refine sa_if_le (tgt := 825) X.1 hy21 dL_walk_565 (by decide) (fun hc => ?_) (fun hc => ?_)
    · have hw := hw.1 hc
      have c156 := hw.1
      have hw := hw.2
      refine lv_iinc (v := Int32.ofInt (y17 + 1)) (lv' := [(17, .int (Int32.ofInt (y17 + 1))), (0, .ref (α 104 0)), (1, .ref (α 105 0)), (2, .ref (α 106 0)), (3, .ref (α 107 0)), (4, .ref (α 112 0)), (5, .ref (α 113 0)), (6, .ref (α 114 0)), (7, .ref (α 115 0)), (8, .ref (α 116 0)), (9, .int (Int32.ofInt y9)), (10, .int (Int32.ofInt y10)), (12, .int (Int32.ofInt y12)), (13, .int (Int32.ofInt y13)), (14, .int (Int32.ofInt y14)), (15, .int (Int32.ofInt y15)), (16, .int (Int32.ofInt y16)), (18, .int (Int32.ofInt y18)), (19, .int (Int32.ofInt y19)), (21, .int (Int32.ofInt y21)), (22, .int (Int32.ofInt y22)), (23, .int (Int32.ofInt y23)), (24, .int (Int32.ofInt y24))]) X.1.1 X.1.2.1 dL_walk_825 hl (k := 16) rfl (Int32.ofInt_add _ _).symm (by decide) rfl (fun ls hl => ?_)
      refine lv_goto (tgt := 195) X.1.1 X.1.2.1 dL_walk_828 (by decide) ?_
      exact hK195 _ _ _ _ _ _ _ _ _ hw hy9 hy10 hy12 hy13 hy14 hy15 hy16 c156 _ _ hR hS _ (lv_sub hl [1, 2, 3, 4, 5, 6, 7, 8, 9, 10, 11, 12, 13, 14, 15, 16, 0] rfl)
    · have hw := hw.2 hc
      refine lv_iload X.1.1 X.1.2.1 dL_walk_568 (lv_at hl 19 rfl) ?_
      refine lv_iload X.1.1 X.1.2.1 dL_walk_570 (lv_at hl 20 rfl) ?_
      have c157 := hw.1
      have hw := hw.2
      refine sa_iadd X.1 dL_walk_572 ?_
      refine lv_iload X.1.1 X.1.2.1 dL_walk_573 (lv_at hl 22 rfl) ?_
      have r158 := inR_ite (c := y24 = 0) hy9 (inR_c (a := 0) rfl)
      refine cut_j (A := ∀ v159 : Int, v159 = (if y24 = 0 then y9 else 0) → WV p l e 2 s m args below meth c G e0 α κ B Qm H locs 584 ls [.int (Int32.ofInt v159), .int (Int32.ofInt (y21 + y22))]) (fun J160 => ?_) ?_
      · refine sa_if_eq (tgt := 582) X.1 hy24 dL_walk_575 (by decide) (fun hc => ?_) (fun hc => ?_)
        · skip
          refine lv_iload X.1.1 X.1.2.1 dL_walk_582 (lv_at hl 9 rfl) ?_
          exact J160 (y9) (if_pos (c := y24 = 0) hc).symm
        · skip
          refine sa_const X.1 dL_walk_578 ?_
          refine lv_goto (tgt := 584) X.1.1 X.1.2.1 dL_walk_579 (by decide) ?_
          exact J160 (0) (if_neg (c := y24 = 0) hc).symm
      intro v159 hv159
      subst hv159
      have c161 := hw.1
      have hw := hw.2
      refine sa_iadd X.1 dL_walk_584 ?_
      refine lv_iload X.1.1 X.1.2.1 dL_walk_585 (lv_at hl 13 rfl) ?_
      have r162 := inR_ite (c := y14 < ((y21 + y22) + (if y24 = 0 then y9 else 0))) (inR_c (a := 0) rfl) (inR_c (a := 1) rfl)
      refine cut_j (A := ∀ v163 : Int, v163 = (if y14 < ((y21 + y22) + (if y24 = 0 then y9 else 0)) then (0 : Int) else 1) → WV p l e 2 s m args below meth c G e0 α κ B Qm H locs 595 ls [.int (Int32.ofInt v163)]) (fun J164 => ?_) ?_
      · refine sa_icmp_gt (tgt := 594) X.1 c161 hy14 dL_walk_587 (by decide) (fun hc => ?_) (fun hc => ?_)
        · skip
          refine sa_const X.1 dL_walk_594 ?_
          exact J164 (0) (if_pos (c := y14 < ((y21 + y22) + (if y24 = 0 then y9 else 0))) hc).symm
        · skip
          refine sa_const X.1 dL_walk_590 ?_
          refine lv_goto (tgt := 595) X.1.1 X.1.2.1 dL_walk_591 (by decide) ?_
          exact J164 (1) (if_neg (c := y14 < ((y21 + y22) + (if y24 = 0 then y9 else 0))) (Int.not_lt.mpr hc)).symm
      intro v163 hv163
      subst hv163
      refine lv_istore (lv' := [(25, .int (Int32.ofInt (if y14 < ((y21 + y22) + (if y24 = 0 then y9 else 0)) then (0 : Int) else 1))), (0, .ref (α 104 0)), (1, .ref (α 105 0)), (2, .ref (α 106 0)), (3, .ref (α 107 0)), (4, .ref (α 112 0)), (5, .ref (α 113 0)), (6, .ref (α 114 0)), (7, .ref (α 115 0)), (8, .ref (α 116 0)), (9, .int (Int32.ofInt y9)), (10, .int (Int32.ofInt y10)), (12, .int (Int32.ofInt y12)), (13, .int (Int32.ofInt y13)), (14, .int (Int32.ofInt y14)), (15, .int (Int32.ofInt y15)), (16, .int (Int32.ofInt y16)), (17, .int (Int32.ofInt y17)), (18, .int (Int32.ofInt y18)), (19, .int (Int32.ofInt y19)), (21, .int (Int32.ofInt y21)), (22, .int (Int32.ofInt y22)), (23, .int (Int32.ofInt y23)), (24, .int (Int32.ofInt y24))]) X.1.1 X.1.2.1 dL_walk_595 hl (by decide) rfl (fun ls hl => ?_)
      refine lv_iload X.1.1 X.1.2.1 dL_walk_597 (lv_at hl 0 rfl) ?_
      have s167 := hw.1
      have hw := hw.2
      have c168 := hw.1
      have hw := hw.2
      refine cut_j (A := ∀ v169 : Int, v169 = (if (if y14 < ((y21 + y22) + (if y24 = 0 then y9 else 0)) then (0 : Int) else 1) = 0 then ((y14 - y9) - y22) else y21) → WV p l e 2 s m args below meth c G e0 α κ B Qm H locs 615 ls [.int (Int32.ofInt v169)]) (fun J170 => ?_) ?_
      · refine sa_if_eq (tgt := 607) X.1 r162 dL_walk_599 (by decide) (fun hc => ?_) (fun hc => ?_)
        · have hw := s167 hc
          refine lv_iload X.1.1 X.1.2.1 dL_walk_607 (lv_at hl 14 rfl) ?_
          refine lv_iload X.1.1 X.1.2.1 dL_walk_609 (lv_at hl 10 rfl) ?_
          have c165 := hw.1
          have hw := hw.2
          refine sa_isub X.1 dL_walk_611 ?_
          refine lv_iload X.1.1 X.1.2.1 dL_walk_612 (lv_at hl 21 rfl) ?_
          have c166 := hw.1
          have hw := hw.2
          refine sa_isub X.1 dL_walk_614 ?_
          exact J170 (((y14 - y9) - y22)) (if_pos (c := (if y14 < ((y21 + y22) + (if y24 = 0 then y9 else 0)) then (0 : Int) else 1) = 0) hc).symm
        · skip
          refine lv_iload X.1.1 X.1.2.1 dL_walk_602 (lv_at hl 20 rfl) ?_
          refine lv_goto (tgt := 615) X.1.1 X.1.2.1 dL_walk_604 (by decide) ?_
          exact J170 (y21) (if_neg (c := (if y14 < ((y21 + y22) + (if y24 = 0 then y9 else 0)) then (0 : Int) else 1) = 0) hc).symm
      intro v169 hv169
      subst hv169
      refine lv_istore (lv' := [(26, .int (Int32.ofInt (if (if y14 < ((y21 + y22) + (if y24 = 0 then y9 else 0)) then (0 : Int) else 1) = 0 then ((y14 - y9) - y22) else y21))), (25, .int (Int32.ofInt (if y14 < ((y21 + y22) + (if y24 = 0 then y9 else 0)) then (0 : Int) else 1))), (0, .ref (α 104 0)), (1, .ref (α 105 0)), (2, .ref (α 106 0)), (3, .ref (α 107 0)), (4, .ref (α 112 0)), (5, .ref (α 113 0)), (6, .ref (α 114 0)), (7, .ref (α 115 0)), (8, .ref (α 116 0)), (9, .int (Int32.ofInt y9)), (10, .int (Int32.ofInt y10)), (12, .int (Int32.ofInt y12)), (13, .int (Int32.ofInt y13)), (14, .int (Int32.ofInt y14)), (15, .int (Int32.ofInt y15)), (16, .int (Int32.ofInt y16)), (17, .int (Int32.ofInt y17)), (18, .int (Int32.ofInt y18)), (19, .int (Int32.ofInt y19)), (21, .int (Int32.ofInt y21)), (22, .int (Int32.ofInt y22)), (23, .int (Int32.ofInt y23)), (24, .int (Int32.ofInt y24))]) X.1.1 X.1.2.1 dL_walk_615 hl (by decide) rfl (fun ls hl => ?_)
      refine lv_iload X.1.1 X.1.2.1 dL_walk_617 (lv_at hl 1 rfl) ?_
      refine sa_if_ne (tgt := 637) X.1 r162 dL_walk_619 (by decide) (fun hc => ?_) (fun hc => ?_)
      · have hw := hw.1 hc
        exact t_L_walk_637 X ho114 ho115 ho116 hK195 ih _ _ _ _ _ _ _ _ _ _ _ _ _ _ _ _ hw hy9 hy10 hy12 hy13 hy14 hy16 hy17 hy18 hy19 hy21 hy22 hy23 hy24 r162 c168 _ _ hR hS _ (lv_sub hl [2, 3, 4, 5, 6, 7, 8, 9, 10, 11, 12, 13, 14, 15, 17, 18, 19, 20, 21, 22, 23, 24, 1, 0] rfl)
      · have hw := hw.2 hc
        refine lv_iload X.1.1 X.1.2.1 dL_walk_622 (lv_at hl 23 rfl) ?_
        refine sa_if_ne (tgt := 632) X.1 hy23 dL_walk_624 (by decide) (fun hc => ?_) (fun hc => ?_)
        · have hw := hw.1 hc
          exact t_L_walk_632 X ho114 ho115 ho116 hK195 ih _ _ _ _ _ _ _ _ _ _ _ _ _ _ _ _ _ hw hy9 hy10 hy12 hy13 hy14 hy15 hy16 hy17 hy18 hy19 hy21 hy22 hy23 hy24 r162 c168 _ _ hR hS _ (lv_sub hl [2, 3, 4, 5, 6, 7, 8, 9, 10, 11, 12, 13, 14, 15, 16, 17, 18, 19, 20, 21, 22, 23, 24, 1, 0] rfl)
        · have hw := hw.2 hc
          refine lv_iload X.1.1 X.1.2.1 dL_walk_627 (lv_at hl 16 rfl) ?_
          refine sa_if_eq (tgt := 786) X.1 hy15 dL_walk_629 (by decide) (fun hc => ?_) (fun hc => ?_)
          · have hw := hw.1 hc
            exact t_L_walk_786 X ho114 ho115 ho116 hK195 ih _ _ _ _ _ _ _ _ _ _ _ _ _ _ _ _ hw hy9 hy10 hy12 hy13 hy14 hy15 hy16 hy17 hy18 hy19 hy21 hy22 hy23 hy24 r162 _ _ hR hS _ (lv_sub hl [2, 3, 4, 5, 6, 7, 8, 9, 10, 11, 12, 13, 14, 15, 16, 17, 18, 19, 20, 21, 22, 23, 24, 1] rfl)
          · have hw := hw.2 hc
            exact t_L_walk_632 X ho114 ho115 ho116 hK195 ih _ _ _ _ _ _ _ _ _ _ _ _ _ _ _ _ _ hw hy9 hy10 hy12 hy13 hy14 hy15 hy16 hy17 hy18 hy19 hy21 hy22 hy23 hy24 r162 c168 _ _ hR hS _ (lv_sub hl [2, 3, 4, 5, 6, 7, 8, 9, 10, 11, 12, 13, 14, 15, 16, 17, 18, 19, 20, 21, 22, 23, 24, 1, 0] rfl)
set_option maxHeartbeats 4000000 in
set_option maxRecDepth 100000 in
theorem t_L_walk_425 (X : CX p m c cL_walk 27 s args RL G B κ meth none) (ho114 : okk κ 114 0) (ho115 : okk κ 115 0) (ho116 : okk κ 116 0) {Qm : Mem → Prop} {K195 : Int → Int → Int → Int → Int → Int → Int → Int → Mem → Prop} (hK195 : ∀ y9 : Int, ∀ y10 : Int, ∀ y12 : Int, ∀ y13 : Int, ∀ y14 : Int, ∀ y15 : Int, ∀ y16 : Int, ∀ y17 : Int, ∀ M : Mem, K195 y9 y10 y12 y13 y14 y15 y16 y17 M → inR y9 → inR y10 → inR y12 → inR y13 → inR y14 → inR y15 → inR y16 → inR y17 → ∀ (H : Heap) (locs : List Loc), Rp G e0 α κ B M H → va_S (fun q => B ≤ q) s.heap H locs → ∀ (ls : Array Slot), lv_has ls 27 [(0, .ref (α 104 0)), (1, .ref (α 105 0)), (2, .ref (α 106 0)), (3, .ref (α 107 0)), (4, .ref (α 112 0)), (5, .ref (α 113 0)), (6, .ref (α 114 0)), (7, .ref (α 115 0)), (8, .ref (α 116 0)), (9, .int (Int32.ofInt y9)), (10, .int (Int32.ofInt y10)), (12, .int (Int32.ofInt y12)), (13, .int (Int32.ofInt y13)), (14, .int (Int32.ofInt y14)), (15, .int (Int32.ofInt y15)), (16, .int (Int32.ofInt y16)), (17, .int (Int32.ofInt y17))] → WV p l e 2 s m args below meth c G e0 α κ B Qm H locs 195 ls []) : ∀ y9 : Int, ∀ y10 : Int, ∀ y12 : Int, ∀ y13 : Int, ∀ y14 : Int, ∀ y15 : Int, ∀ y16 : Int, ∀ y17 : Int, ∀ y18 : Int, ∀ y19 : Int, ∀ y21 : Int, ∀ z0 : Int, ∀ M : Mem, wp_L_walk_425 Qm K195 y9 y10 y12 y13 y14 y15 y16 y17 y18 y19 y21 z0 M → inR y9 → inR y10 → inR y12 → inR y13 → inR y14 → inR y15 → inR y16 → inR y17 → inR y18 → inR y19 → inR y21 → inR z0 → ∀ (H : Heap) (locs : List Loc), Rp G e0 α κ B M H → va_S (fun q => B ≤ q) s.heap H locs → ∀ (ls : Array Slot), lv_has ls 27 [(0, .ref (α 104 0)), (1, .ref (α 105 0)), (2, .ref (α 106 0)), (3, .ref (α 107 0)), (4, .ref (α 112 0)), (5, .ref (α 113 0)), (6, .ref (α 114 0)), (7, .ref (α 115 0)), (8, .ref (α 116 0)), (9, .int (Int32.ofInt y9)), (10, .int (Int32.ofInt y10)), (12, .int (Int32.ofInt y12)), (13, .int (Int32.ofInt y13)), (14, .int (Int32.ofInt y14)), (15, .int (Int32.ofInt y15)), (16, .int (Int32.ofInt y16)), (17, .int (Int32.ofInt y17)), (18, .int (Int32.ofInt y18)), (19, .int (Int32.ofInt y19)), (21, .int (Int32.ofInt y21))] → WV p l e 2 s m args below meth c G e0 α κ B Qm H locs 425 ls [.int (Int32.ofInt z0)] := by
  intro y9 y10 y12 y13 y14 y15 y16 y17 y18 y19 y21 z0 M hw hy9 hy10 hy12 hy13 hy14 hy15 hy16 hy17 hy18 hy19 hy21 hz0 H locs hR hS ls hl
  have hw : (inR (2 * (M 112 0 1))) ∧ ((2 * (M 112 0 1)) ≤ y17 → (inR (2 * (M 112 0 1))) ∧ (inR ((2 * (M 112 0 1)) + 1)) ∧ True) ∧ (y17 < (2 * (M 112 0 1)) → (¬ (Int.tmod y17 2) = 0 → (inR (2 * (M 112 0 1))) ∧ (inR ((2 * (M 112 0 1)) + 1)) ∧ True) ∧ ((Int.tmod y17 2) = 0 → (¬ y19 = 0 → (inR (3 * y18)) ∧ (inR ((3 * y18) + 2)) ∧ (0 ≤ ((3 * y18) + 2) ∧ ((3 * y18) + 2) < 30) ∧ True) ∧ True) ∧ True) ∧ (inR (2 * (M 112 0 1))) ∧ (inR ((2 * (M 112 0 1)) + 1)) ∧ (¬ y17 = ((2 * (M 112 0 1)) + 1) → (inR (2 * (M 112 0 1))) ∧ (¬ y17 = (2 * (M 112 0 1)) → (y9 = 0 → (y16 = 0 → (inR (2 * y12)) ∧ True) ∧ True) ∧ True) ∧ (y17 = (2 * (M 112 0 1)) → (¬ y16 = 0 → (y9 = 0 → (y16 = 0 → (inR (2 * y12)) ∧ True) ∧ True) ∧ True) ∧ True) ∧ True) ∧ ((y19 = 0 → (∃ n225 : Nat, wp_L_walk_563 Qm K195 n225 y9 y10 y12 y13 y14 y15 y16 y17 y18 y19 y21 z0 (if (2 * (M 112 0 1)) ≤ y17 then (if ¬ y17 = ((2 * (M 112 0 1)) + 1) then (0 : Int) else 1) else (if ¬ (Int.tmod y17 2) = 0 then (if ¬ y17 = ((2 * (M 112 0 1)) + 1) then (0 : Int) else 1) else (if y19 = 0 then (0 : Int) else (if ¬ (M 105 0 ((3 * y18) + 2)) = 1 then (0 : Int) else 1)))) (if y17 = ((2 * (M 112 0 1)) + 1) then (1 : Int) else (if ¬ y17 = (2 * (M 112 0 1)) then (if ¬ y9 = 0 then (0 : Int) else (if ¬ y16 = 0 then (0 : Int) else (if ¬ y17 = (2 * y12) then (0 : Int) else 1))) else (if y16 = 0 then (1 : Int) else (if ¬ y9 = 0 then (0 : Int) else (if ¬ y16 = 0 then (0 : Int) else (if ¬ y17 = (2 * y12) then (0 : Int) else 1)))))) M)) ∧ (¬ y19 = 0 → ((¬ (Int.tmod y17 2) = 0 → (∃ n227 : Nat, wp_L_walk_563 Qm K195 n227 y9 y10 y12 y13 y14 y15 y16 y17 y18 y19 y21 z0 (if (2 * (M 112 0 1)) ≤ y17 then (if ¬ y17 = ((2 * (M 112 0 1)) + 1) then (0 : Int) else 1) else (if ¬ (Int.tmod y17 2) = 0 then (if ¬ y17 = ((2 * (M 112 0 1)) + 1) then (0 : Int) else 1) else (if y19 = 0 then (0 : Int) else (if ¬ (M 105 0 ((3 * y18) + 2)) = 1 then (0 : Int) else 1)))) (if y17 = ((2 * (M 112 0 1)) + 1) then (1 : Int) else (if ¬ y17 = (2 * (M 112 0 1)) then (if ¬ y9 = 0 then (0 : Int) else (if ¬ y16 = 0 then (0 : Int) else (if ¬ y17 = (2 * y12) then (0 : Int) else 1))) else (if y16 = 0 then (1 : Int) else (if ¬ y9 = 0 then (0 : Int) else (if ¬ y16 = 0 then (0 : Int) else (if ¬ y17 = (2 * y12) then (0 : Int) else 1)))))) M)) ∧ ((Int.tmod y17 2) = 0 → (0 ≤ y18 ∧ y18 < 10) ∧ ∀ M229 : Mem, M229 = up M 116 0 y18 (-1) → (∃ n231 : Nat, wp_L_walk_563 Qm K195 n231 y9 y10 y12 y13 y14 y15 y16 y17 y18 y19 y21 z0 (if (2 * (M 112 0 1)) ≤ y17 then (if ¬ y17 = ((2 * (M 112 0 1)) + 1) then (0 : Int) else 1) else (if ¬ (Int.tmod y17 2) = 0 then (if ¬ y17 = ((2 * (M 112 0 1)) + 1) then (0 : Int) else 1) else (if y19 = 0 then (0 : Int) else (if ¬ (M 105 0 ((3 * y18) + 2)) = 1 then (0 : Int) else 1)))) (if y17 = ((2 * (M 112 0 1)) + 1) then (1 : Int) else (if ¬ y17 = (2 * (M 112 0 1)) then (if ¬ y9 = 0 then (0 : Int) else (if ¬ y16 = 0 then (0 : Int) else (if ¬ y17 = (2 * y12) then (0 : Int) else 1))) else (if y16 = 0 then (1 : Int) else (if ¬ y9 = 0 then (0 : Int) else (if ¬ y16 = 0 then (0 : Int) else (if ¬ y17 = (2 * y12) then (0 : Int) else 1)))))) M229))))) := hw
  refine lv_istore (lv' := [(22, .int (Int32.ofInt z0)), (0, .ref (α 104 0)), (1, .ref (α 105 0)), (2, .ref (α 106 0)), (3, .ref (α 107 0)), (4, .ref (α 112 0)), (5, .ref (α 113 0)), (6, .ref (α 114 0)), (7, .ref (α 115 0)), (8, .ref (α 116 0)), (9, .int (Int32.ofInt y9)), (10, .int (Int32.ofInt y10)), (12, .int (Int32.ofInt y12)), (13, .int (Int32.ofInt y13)), (14, .int (Int32.ofInt y14)), (15, .int (Int32.ofInt y15)), (16, .int (Int32.ofInt y16)), (17, .int (Int32.ofInt y17)), (18, .int (Int32.ofInt y18)), (19, .int (Int32.ofInt y19)), (21, .int (Int32.ofInt y21))]) X.1.1 X.1.2.1 dL_walk_425 hl (by decide) rfl (fun ls hl => ?_)
  refine lv_iload X.1.1 X.1.2.1 dL_walk_427 (lv_at hl 17 rfl) ?_
  refine sa_const X.1 dL_walk_429 ?_
  refine lv_aload X.1.1 X.1.2.1 dL_walk_430 (lv_at hl 5 rfl) ?_
  refine sa_const X.1 dL_walk_432 ?_
  refine ra_112 X hR (okf X.2.2.1 rfl) ⟨by decide, by decide⟩ dL_walk_433 ?_
  have r96 := hR.r 112 0 1
  have c97 := hw.1
  have hw := hw.2
  refine sa_imul X.1 dL_walk_434 ?_
  have s118 := hw.1
  have hw := hw.2
  have s119 := hw.1
  have hw := hw.2
  have r120 := inR_ite (c := (2 * (M 112 0 1)) ≤ y17) (inR_ite (c := ¬ y17 = ((2 * (M 112 0 1)) + 1)) (inR_c (a := 0) rfl) (inR_c (a := 1) rfl)) (inR_ite (c := ¬ (Int.tmod y17 2) = 0) (inR_ite (c := ¬ y17 = ((2 * (M 112 0 1)) + 1)) (inR_c (a := 0) rfl) (inR_c (a := 1) rfl)) (inR_ite (c := y19 = 0) (inR_c (a := 0) rfl) (inR_ite (c := ¬ (M 105 0 ((3 * y18) + 2)) = 1) (inR_c (a := 0) rfl) (inR_c (a := 1) rfl))))
  refine cut_j (A := ∀ v121 : Int, v121 = (if (2 * (M 112 0 1)) ≤ y17 then (if ¬ y17 = ((2 * (M 112 0 1)) + 1) then (0 : Int) else 1) else (if ¬ (Int.tmod y17 2) = 0 then (if ¬ y17 = ((2 * (M 112 0 1)) + 1) then (0 : Int) else 1) else (if y19 = 0 then (0 : Int) else (if ¬ (M 105 0 ((3 * y18) + 2)) = 1 then (0 : Int) else 1)))) → WV p l e 2 s m args below meth c G e0 α κ B Qm H locs 488 ls [.int (Int32.ofInt v121)]) (fun J122 => ?_) ?_
  · refine sa_icmp_ge (tgt := 470) X.1 hy17 c97 dL_walk_435 (by decide) (fun hc => ?_) (fun hc => ?_)
    · have hw := s118 hc
      refine lv_iload X.1.1 X.1.2.1 dL_walk_470 (lv_at hl 17 rfl) ?_
      refine sa_const X.1 dL_walk_472 ?_
      refine lv_aload X.1.1 X.1.2.1 dL_walk_473 (lv_at hl 5 rfl) ?_
      refine sa_const X.1 dL_walk_475 ?_
      refine ra_112 X hR (okf X.2.2.1 rfl) ⟨by decide, by decide⟩ dL_walk_476 ?_
      have c98 := hw.1
      have hw := hw.2
      refine sa_imul X.1 dL_walk_477 ?_
      refine sa_const X.1 dL_walk_478 ?_
      have c99 := hw.1
      have hw := hw.2
      refine sa_iadd X.1 dL_walk_479 ?_
      refine cut_j (A := ∀ v100 : Int, v100 = (if ¬ y17 = ((2 * (M 112 0 1)) + 1) then (0 : Int) else 1) → WV p l e 2 s m args below meth c G e0 α κ B Qm H locs 488 ls [.int (Int32.ofInt v100)]) (fun J101 => ?_) ?_
      · refine sa_icmp_ne (tgt := 487) X.1 hy17 c99 dL_walk_480 (by decide) (fun hc => ?_) (fun hc => ?_)
        · skip
          refine sa_const X.1 dL_walk_487 ?_
          exact J101 (0) (if_pos (c := ¬ y17 = ((2 * (M 112 0 1)) + 1)) hc).symm
        · skip
          refine sa_const X.1 dL_walk_483 ?_
          refine lv_goto (tgt := 488) X.1.1 X.1.2.1 dL_walk_484 (by decide) ?_
          exact J101 (1) (if_neg (c := ¬ y17 = ((2 * (M 112 0 1)) + 1)) (fun z => z hc)).symm
      intro v100 hv100
      subst hv100
      exact J122 ((if ¬ y17 = ((2 * (M 112 0 1)) + 1) then (0 : Int) else 1)) (if_pos (c := (2 * (M 112 0 1)) ≤ y17) hc).symm
    · have hw := s119 hc
      refine lv_iload X.1.1 X.1.2.1 dL_walk_438 (lv_at hl 17 rfl) ?_
      refine sa_const X.1 dL_walk_440 ?_
      refine sa_irem X.1 hy17 (inR_c (a := 2) rfl) (Int.ne_of_gt (by decide)) dL_walk_441 ?_
      have s114 := hw.1
      have hw := hw.2
      have s115 := hw.1
      have hw := hw.2
      refine cut_j (A := ∀ v116 : Int, v116 = (if ¬ (Int.tmod y17 2) = 0 then (if ¬ y17 = ((2 * (M 112 0 1)) + 1) then (0 : Int) else 1) else (if y19 = 0 then (0 : Int) else (if ¬ (M 105 0 ((3 * y18) + 2)) = 1 then (0 : Int) else 1))) → WV p l e 2 s m args below meth c G e0 α κ B Qm H locs 488 ls [.int (Int32.ofInt v116)]) (fun J117 => ?_) ?_
      · refine sa_if_ne (tgt := 470) X.1 (inR_tmod hy17 (inR_c (a := 2) rfl) (by decide)) dL_walk_442 (by decide) (fun hc => ?_) (fun hc => ?_)
        · have hw := s114 hc
          refine lv_iload X.1.1 X.1.2.1 dL_walk_470 (lv_at hl 17 rfl) ?_
          refine sa_const X.1 dL_walk_472 ?_
          refine lv_aload X.1.1 X.1.2.1 dL_walk_473 (lv_at hl 5 rfl) ?_
          refine sa_const X.1 dL_walk_475 ?_
          refine ra_112 X hR (okf X.2.2.1 rfl) ⟨by decide, by decide⟩ dL_walk_476 ?_
          have c102 := hw.1
          have hw := hw.2
          refine sa_imul X.1 dL_walk_477 ?_
          refine sa_const X.1 dL_walk_478 ?_
          have c103 := hw.1
          have hw := hw.2
          refine sa_iadd X.1 dL_walk_479 ?_
          refine cut_j (A := ∀ v104 : Int, v104 = (if ¬ y17 = ((2 * (M 112 0 1)) + 1) then (0 : Int) else 1) → WV p l e 2 s m args below meth c G e0 α κ B Qm H locs 488 ls [.int (Int32.ofInt v104)]) (fun J105 => ?_) ?_
          · refine sa_icmp_ne (tgt := 487) X.1 hy17 c103 dL_walk_480 (by decide) (fun hc => ?_) (fun hc => ?_)
            · skip
              refine sa_const X.1 dL_walk_487 ?_
              exact J105 (0) (if_pos (c := ¬ y17 = ((2 * (M 112 0 1)) + 1)) hc).symm
            · skip
              refine sa_const X.1 dL_walk_483 ?_
              refine lv_goto (tgt := 488) X.1.1 X.1.2.1 dL_walk_484 (by decide) ?_
              exact J105 (1) (if_neg (c := ¬ y17 = ((2 * (M 112 0 1)) + 1)) (fun z => z hc)).symm
          intro v104 hv104
          subst hv104
          exact J117 ((if ¬ y17 = ((2 * (M 112 0 1)) + 1) then (0 : Int) else 1)) (if_pos (c := ¬ (Int.tmod y17 2) = 0) hc).symm
        · have hw := s115 hc
          refine lv_iload X.1.1 X.1.2.1 dL_walk_445 (lv_at hl 19 rfl) ?_
          have s111 := hw.1
          have hw := hw.2
          refine cut_j (A := ∀ v112 : Int, v112 = (if y19 = 0 then (0 : Int) else (if ¬ (M 105 0 ((3 * y18) + 2)) = 1 then (0 : Int) else 1)) → WV p l e 2 s m args below meth c G e0 α κ B Qm H locs 488 ls [.int (Int32.ofInt v112)]) (fun J113 => ?_) ?_
          · refine sa_if_eq (tgt := 466) X.1 hy19 dL_walk_447 (by decide) (fun hc => ?_) (fun hc => ?_)
            · skip
              refine sa_const X.1 dL_walk_466 ?_
              refine lv_goto (tgt := 488) X.1.1 X.1.2.1 dL_walk_467 (by decide) ?_
              exact J113 (0) (if_pos (c := y19 = 0) hc).symm
            · have hw := s111 hc
              refine lv_aload_n X.1.1 X.1.2.1 dL_walk_450 rfl (lv_at hl 2 rfl) ?_
              refine sa_const X.1 dL_walk_451 ?_
              refine lv_iload X.1.1 X.1.2.1 dL_walk_452 (lv_at hl 18 rfl) ?_
              have c106 := hw.1
              have hw := hw.2
              refine sa_imul X.1 dL_walk_454 ?_
              refine sa_const X.1 dL_walk_455 ?_
              have c107 := hw.1
              have hw := hw.2
              refine sa_iadd X.1 dL_walk_456 ?_
              have c108 := hw.1
              have hw := hw.2
              refine ra_105 X hR (okf X.2.2.1 rfl) c108 dL_walk_457 ?_
              refine sa_const X.1 dL_walk_458 ?_
              refine cut_j (A := ∀ v109 : Int, v109 = (if ¬ (M 105 0 ((3 * y18) + 2)) = 1 then (0 : Int) else 1) → WV p l e 2 s m args below meth c G e0 α κ B Qm H locs 488 ls [.int (Int32.ofInt v109)]) (fun J110 => ?_) ?_
              · refine sa_icmp_ne (tgt := 466) X.1 (hR.r 105 0 ((3 * y18) + 2)) (inR_c (a := 1) rfl) dL_walk_459 (by decide) (fun hc => ?_) (fun hc => ?_)
                · skip
                  refine sa_const X.1 dL_walk_466 ?_
                  refine lv_goto (tgt := 488) X.1.1 X.1.2.1 dL_walk_467 (by decide) ?_
                  exact J110 (0) (if_pos (c := ¬ (M 105 0 ((3 * y18) + 2)) = 1) hc).symm
                · skip
                  refine sa_const X.1 dL_walk_462 ?_
                  refine lv_goto (tgt := 488) X.1.1 X.1.2.1 dL_walk_463 (by decide) ?_
                  exact J110 (1) (if_neg (c := ¬ (M 105 0 ((3 * y18) + 2)) = 1) (fun z => z hc)).symm
              intro v109 hv109
              subst hv109
              exact J113 ((if ¬ (M 105 0 ((3 * y18) + 2)) = 1 then (0 : Int) else 1)) (if_neg (c := y19 = 0) hc).symm
          intro v112 hv112
          subst hv112
          exact J117 ((if y19 = 0 then (0 : Int) else (if ¬ (M 105 0 ((3 * y18) + 2)) = 1 then (0 : Int) else 1))) (if_neg (c := ¬ (Int.tmod y17 2) = 0) (fun z => z hc)).symm
      intro v116 hv116
      subst hv116
      exact J122 ((if ¬ (Int.tmod y17 2) = 0 then (if ¬ y17 = ((2 * (M 112 0 1)) + 1) then (0 : Int) else 1) else (if y19 = 0 then (0 : Int) else (if ¬ (M 105 0 ((3 * y18) + 2)) = 1 then (0 : Int) else 1)))) (if_neg (c := (2 * (M 112 0 1)) ≤ y17) (Int.not_le.mpr hc)).symm
  intro v121 hv121
  subst hv121
  refine lv_istore (lv' := [(23, .int (Int32.ofInt (if (2 * (M 112 0 1)) ≤ y17 then (if ¬ y17 = ((2 * (M 112 0 1)) + 1) then (0 : Int) else 1) else (if ¬ (Int.tmod y17 2) = 0 then (if ¬ y17 = ((2 * (M 112 0 1)) + 1) then (0 : Int) else 1) else (if y19 = 0 then (0 : Int) else (if ¬ (M 105 0 ((3 * y18) + 2)) = 1 then (0 : Int) else 1)))))), (22, .int (Int32.ofInt z0)), (0, .ref (α 104 0)), (1, .ref (α 105 0)), (2, .ref (α 106 0)), (3, .ref (α 107 0)), (4, .ref (α 112 0)), (5, .ref (α 113 0)), (6, .ref (α 114 0)), (7, .ref (α 115 0)), (8, .ref (α 116 0)), (9, .int (Int32.ofInt y9)), (10, .int (Int32.ofInt y10)), (12, .int (Int32.ofInt y12)), (13, .int (Int32.ofInt y13)), (14, .int (Int32.ofInt y14)), (15, .int (Int32.ofInt y15)), (16, .int (Int32.ofInt y16)), (17, .int (Int32.ofInt y17)), (18, .int (Int32.ofInt y18)), (19, .int (Int32.ofInt y19)), (21, .int (Int32.ofInt y21))]) X.1.1 X.1.2.1 dL_walk_488 hl (by decide) rfl (fun ls hl => ?_)
  refine lv_iload X.1.1 X.1.2.1 dL_walk_490 (lv_at hl 18 rfl) ?_
  refine sa_const X.1 dL_walk_492 ?_
  refine lv_aload X.1.1 X.1.2.1 dL_walk_493 (lv_at hl 6 rfl) ?_
  refine sa_const X.1 dL_walk_495 ?_
  refine ra_112 X hR (okf X.2.2.1 rfl) ⟨by decide, by decide⟩ dL_walk_496 ?_
  have r123 := hR.r 112 0 1
  have c124 := hw.1
  have hw := hw.2
  refine sa_imul X.1 dL_walk_497 ?_
  refine sa_const X.1 dL_walk_498 ?_
  have c125 := hw.1
  have hw := hw.2
  refine sa_iadd X.1 dL_walk_499 ?_
  have s152 := hw.1
  have hw := hw.2
  have r153 := inR_ite (c := y17 = ((2 * (M 112 0 1)) + 1)) (inR_c (a := 1) rfl) (inR_ite (c := ¬ y17 = (2 * (M 112 0 1))) (inR_ite (c := ¬ y9 = 0) (inR_c (a := 0) rfl) (inR_ite (c := ¬ y16 = 0) (inR_c (a := 0) rfl) (inR_ite (c := ¬ y17 = (2 * y12)) (inR_c (a := 0) rfl) (inR_c (a := 1) rfl)))) (inR_ite (c := y16 = 0) (inR_c (a := 1) rfl) (inR_ite (c := ¬ y9 = 0) (inR_c (a := 0) rfl) (inR_ite (c := ¬ y16 = 0) (inR_c (a := 0) rfl) (inR_ite (c := ¬ y17 = (2 * y12)) (inR_c (a := 0) rfl) (inR_c (a := 1) rfl))))))
  refine cut_j (A := ∀ v154 : Int, v154 = (if y17 = ((2 * (M 112 0 1)) + 1) then (1 : Int) else (if ¬ y17 = (2 * (M 112 0 1)) then (if ¬ y9 = 0 then (0 : Int) else (if ¬ y16 = 0 then (0 : Int) else (if ¬ y17 = (2 * y12) then (0 : Int) else 1))) else (if y16 = 0 then (1 : Int) else (if ¬ y9 = 0 then (0 : Int) else (if ¬ y16 = 0 then (0 : Int) else (if ¬ y17 = (2 * y12) then (0 : Int) else 1)))))) → WV p l e 2 s m args below meth c G e0 α κ B Qm H locs 543 ls [.int (Int32.ofInt v154)]) (fun J155 => ?_) ?_
  · refine sa_icmp_eq (tgt := 538) X.1 hy17 c125 dL_walk_500 (by decide) (fun hc => ?_) (fun hc => ?_)
    · skip
      refine sa_const X.1 dL_walk_538 ?_
      refine lv_goto (tgt := 543) X.1.1 X.1.2.1 dL_walk_539 (by decide) ?_
      exact J155 (1) (if_pos (c := y17 = ((2 * (M 112 0 1)) + 1)) hc).symm
    · have hw := s152 hc
      refine lv_iload X.1.1 X.1.2.1 dL_walk_503 (lv_at hl 18 rfl) ?_
      refine sa_const X.1 dL_walk_505 ?_
      refine lv_aload X.1.1 X.1.2.1 dL_walk_506 (lv_at hl 6 rfl) ?_
      refine sa_const X.1 dL_walk_508 ?_
      refine ra_112 X hR (okf X.2.2.1 rfl) ⟨by decide, by decide⟩ dL_walk_509 ?_
      have c126 := hw.1
      have hw := hw.2
      refine sa_imul X.1 dL_walk_510 ?_
      have s148 := hw.1
      have hw := hw.2
      have s149 := hw.1
      have hw := hw.2
      refine cut_j (A := ∀ v150 : Int, v150 = (if ¬ y17 = (2 * (M 112 0 1)) then (if ¬ y9 = 0 then (0 : Int) else (if ¬ y16 = 0 then (0 : Int) else (if ¬ y17 = (2 * y12) then (0 : Int) else 1))) else (if y16 = 0 then (1 : Int) else (if ¬ y9 = 0 then (0 : Int) else (if ¬ y16 = 0 then (0 : Int) else (if ¬ y17 = (2 * y12) then (0 : Int) else 1))))) → WV p l e 2 s m args below meth c G e0 α κ B Qm H locs 543 ls [.int (Int32.ofInt v150)]) (fun J151 => ?_) ?_
      · refine sa_icmp_ne (tgt := 519) X.1 hy17 c126 dL_walk_511 (by decide) (fun hc => ?_) (fun hc => ?_)
        · have hw := s148 hc
          refine lv_iload X.1.1 X.1.2.1 dL_walk_519 (lv_at hl 11 rfl) ?_
          have s133 := hw.1
          have hw := hw.2
          refine cut_j (A := ∀ v134 : Int, v134 = (if ¬ y9 = 0 then (0 : Int) else (if ¬ y16 = 0 then (0 : Int) else (if ¬ y17 = (2 * y12) then (0 : Int) else 1))) → WV p l e 2 s m args below meth c G e0 α κ B Qm H locs 543 ls [.int (Int32.ofInt v134)]) (fun J135 => ?_) ?_
          · refine sa_if_ne (tgt := 542) X.1 hy9 dL_walk_521 (by decide) (fun hc => ?_) (fun hc => ?_)
            · skip
              refine sa_const X.1 dL_walk_542 ?_
              exact J135 (0) (if_pos (c := ¬ y9 = 0) hc).symm
            · have hw := s133 hc
              refine lv_iload X.1.1 X.1.2.1 dL_walk_524 (lv_at hl 17 rfl) ?_
              have s130 := hw.1
              have hw := hw.2
              refine cut_j (A := ∀ v131 : Int, v131 = (if ¬ y16 = 0 then (0 : Int) else (if ¬ y17 = (2 * y12) then (0 : Int) else 1)) → WV p l e 2 s m args below meth c G e0 α κ B Qm H locs 543 ls [.int (Int32.ofInt v131)]) (fun J132 => ?_) ?_
              · refine sa_if_ne (tgt := 542) X.1 hy16 dL_walk_526 (by decide) (fun hc => ?_) (fun hc => ?_)
                · skip
                  refine sa_const X.1 dL_walk_542 ?_
                  exact J132 (0) (if_pos (c := ¬ y16 = 0) hc).symm
                · have hw := s130 hc
                  refine lv_iload X.1.1 X.1.2.1 dL_walk_529 (lv_at hl 18 rfl) ?_
                  refine sa_const X.1 dL_walk_531 ?_
                  refine lv_iload X.1.1 X.1.2.1 dL_walk_532 (lv_at hl 13 rfl) ?_
                  have c127 := hw.1
                  have hw := hw.2
                  refine sa_imul X.1 dL_walk_534 ?_
                  refine cut_j (A := ∀ v128 : Int, v128 = (if ¬ y17 = (2 * y12) then (0 : Int) else 1) → WV p l e 2 s m args below meth c G e0 α κ B Qm H locs 543 ls [.int (Int32.ofInt v128)]) (fun J129 => ?_) ?_
                  · refine sa_icmp_ne (tgt := 542) X.1 hy17 c127 dL_walk_535 (by decide) (fun hc => ?_) (fun hc => ?_)
                    · skip
                      refine sa_const X.1 dL_walk_542 ?_
                      exact J129 (0) (if_pos (c := ¬ y17 = (2 * y12)) hc).symm
                    · skip
                      refine sa_const X.1 dL_walk_538 ?_
                      refine lv_goto (tgt := 543) X.1.1 X.1.2.1 dL_walk_539 (by decide) ?_
                      exact J129 (1) (if_neg (c := ¬ y17 = (2 * y12)) (fun z => z hc)).symm
                  intro v128 hv128
                  subst hv128
                  exact J132 ((if ¬ y17 = (2 * y12) then (0 : Int) else 1)) (if_neg (c := ¬ y16 = 0) (fun z => z hc)).symm
              intro v131 hv131
              subst hv131
              exact J135 ((if ¬ y16 = 0 then (0 : Int) else (if ¬ y17 = (2 * y12) then (0 : Int) else 1))) (if_neg (c := ¬ y9 = 0) (fun z => z hc)).symm
          intro v134 hv134
          subst hv134
          exact J151 ((if ¬ y9 = 0 then (0 : Int) else (if ¬ y16 = 0 then (0 : Int) else (if ¬ y17 = (2 * y12) then (0 : Int) else 1)))) (if_pos (c := ¬ y17 = (2 * (M 112 0 1))) hc).symm
        · have hw := s149 hc
          refine lv_iload X.1.1 X.1.2.1 dL_walk_514 (lv_at hl 17 rfl) ?_
          have s145 := hw.1
          have hw := hw.2
          refine cut_j (A := ∀ v146 : Int, v146 = (if y16 = 0 then (1 : Int) else (if ¬ y9 = 0 then (0 : Int) else (if ¬ y16 = 0 then (0 : Int) else (if ¬ y17 = (2 * y12) then (0 : Int) else 1)))) → WV p l e 2 s m args below meth c G e0 α κ B Qm H locs 543 ls [.int (Int32.ofInt v146)]) (fun J147 => ?_) ?_
          · refine sa_if_eq (tgt := 538) X.1 hy16 dL_walk_516 (by decide) (fun hc => ?_) (fun hc => ?_)
            · skip
              refine sa_const X.1 dL_walk_538 ?_
              refine lv_goto (tgt := 543) X.1.1 X.1.2.1 dL_walk_539 (by decide) ?_
              exact J147 (1) (if_pos (c := y16 = 0) hc).symm
            · have hw := s145 hc
              refine lv_iload X.1.1 X.1.2.1 dL_walk_519 (lv_at hl 11 rfl) ?_
              have s142 := hw.1
              have hw := hw.2
              refine cut_j (A := ∀ v143 : Int, v143 = (if ¬ y9 = 0 then (0 : Int) else (if ¬ y16 = 0 then (0 : Int) else (if ¬ y17 = (2 * y12) then (0 : Int) else 1))) → WV p l e 2 s m args below meth c G e0 α κ B Qm H locs 543 ls [.int (Int32.ofInt v143)]) (fun J144 => ?_) ?_
              · refine sa_if_ne (tgt := 542) X.1 hy9 dL_walk_521 (by decide) (fun hc => ?_) (fun hc => ?_)
                · skip
                  refine sa_const X.1 dL_walk_542 ?_
                  exact J144 (0) (if_pos (c := ¬ y9 = 0) hc).symm
                · have hw := s142 hc
                  refine lv_iload X.1.1 X.1.2.1 dL_walk_524 (lv_at hl 17 rfl) ?_
                  have s139 := hw.1
                  have hw := hw.2
                  refine cut_j (A := ∀ v140 : Int, v140 = (if ¬ y16 = 0 then (0 : Int) else (if ¬ y17 = (2 * y12) then (0 : Int) else 1)) → WV p l e 2 s m args below meth c G e0 α κ B Qm H locs 543 ls [.int (Int32.ofInt v140)]) (fun J141 => ?_) ?_
                  · refine sa_if_ne (tgt := 542) X.1 hy16 dL_walk_526 (by decide) (fun hc => ?_) (fun hc => ?_)
                    · skip
                      refine sa_const X.1 dL_walk_542 ?_
                      exact J141 (0) (if_pos (c := ¬ y16 = 0) hc).symm
                    · have hw := s139 hc
                      refine lv_iload X.1.1 X.1.2.1 dL_walk_529 (lv_at hl 18 rfl) ?_
                      refine sa_const X.1 dL_walk_531 ?_
                      refine lv_iload X.1.1 X.1.2.1 dL_walk_532 (lv_at hl 13 rfl) ?_
                      have c136 := hw.1
                      have hw := hw.2
                      refine sa_imul X.1 dL_walk_534 ?_
                      refine cut_j (A := ∀ v137 : Int, v137 = (if ¬ y17 = (2 * y12) then (0 : Int) else 1) → WV p l e 2 s m args below meth c G e0 α κ B Qm H locs 543 ls [.int (Int32.ofInt v137)]) (fun J138 => ?_) ?_
                      · refine sa_icmp_ne (tgt := 542) X.1 hy17 c136 dL_walk_535 (by decide) (fun hc => ?_) (fun hc => ?_)
                        · skip
                          refine sa_const X.1 dL_walk_542 ?_
                          exact J138 (0) (if_pos (c := ¬ y17 = (2 * y12)) hc).symm
                        · skip
                          refine sa_const X.1 dL_walk_538 ?_
                          refine lv_goto (tgt := 543) X.1.1 X.1.2.1 dL_walk_539 (by decide) ?_
                          exact J138 (1) (if_neg (c := ¬ y17 = (2 * y12)) (fun z => z hc)).symm
                      intro v137 hv137
                      subst hv137
                      exact J141 ((if ¬ y17 = (2 * y12) then (0 : Int) else 1)) (if_neg (c := ¬ y16 = 0) (fun z => z hc)).symm
                  intro v140 hv140
                  subst hv140
                  exact J144 ((if ¬ y16 = 0 then (0 : Int) else (if ¬ y17 = (2 * y12) then (0 : Int) else 1))) (if_neg (c := ¬ y9 = 0) (fun z => z hc)).symm
              intro v143 hv143
              subst hv143
              exact J147 ((if ¬ y9 = 0 then (0 : Int) else (if ¬ y16 = 0 then (0 : Int) else (if ¬ y17 = (2 * y12) then (0 : Int) else 1)))) (if_neg (c := y16 = 0) hc).symm
          intro v146 hv146
          subst hv146
          exact J151 ((if y16 = 0 then (1 : Int) else (if ¬ y9 = 0 then (0 : Int) else (if ¬ y16 = 0 then (0 : Int) else (if ¬ y17 = (2 * y12) then (0 : Int) else 1))))) (if_neg (c := ¬ y17 = (2 * (M 112 0 1))) (fun z => z hc)).symm
      intro v150 hv150
      subst hv150
      exact J155 ((if ¬ y17 = (2 * (M 112 0 1)) then (if ¬ y9 = 0 then (0 : Int) else (if ¬ y16 = 0 then (0 : Int) else (if ¬ y17 = (2 * y12) then (0 : Int) else 1))) else (if y16 = 0 then (1 : Int) else (if ¬ y9 = 0 then (0 : Int) else (if ¬ y16 = 0 then (0 : Int) else (if ¬ y17 = (2 * y12) then (0 : Int) else 1)))))) (if_neg (c := y17 = ((2 * (M 112 0 1)) + 1)) hc).symm
  intro v154 hv154
  subst hv154
  refine lv_istore (lv' := [(24, .int (Int32.ofInt (if y17 = ((2 * (M 112 0 1)) + 1) then (1 : Int) else (if ¬ y17 = (2 * (M 112 0 1)) then (if ¬ y9 = 0 then (0 : Int) else (if ¬ y16 = 0 then (0 : Int) else (if ¬ y17 = (2 * y12) then (0 : Int) else 1))) else (if y16 = 0 then (1 : Int) else (if ¬ y9 = 0 then (0 : Int) else (if ¬ y16 = 0 then (0 : Int) else (if ¬ y17 = (2 * y12) then (0 : Int) else 1)))))))), (23, .int (Int32.ofInt (if (2 * (M 112 0 1)) ≤ y17 then (if ¬ y17 = ((2 * (M 112 0 1)) + 1) then (0 : Int) else 1) else (if ¬ (Int.tmod y17 2) = 0 then (if ¬ y17 = ((2 * (M 112 0 1)) + 1) then (0 : Int) else 1) else (if y19 = 0 then (0 : Int) else (if ¬ (M 105 0 ((3 * y18) + 2)) = 1 then (0 : Int) else 1)))))), (22, .int (Int32.ofInt z0)), (0, .ref (α 104 0)), (1, .ref (α 105 0)), (2, .ref (α 106 0)), (3, .ref (α 107 0)), (4, .ref (α 112 0)), (5, .ref (α 113 0)), (6, .ref (α 114 0)), (7, .ref (α 115 0)), (8, .ref (α 116 0)), (9, .int (Int32.ofInt y9)), (10, .int (Int32.ofInt y10)), (12, .int (Int32.ofInt y12)), (13, .int (Int32.ofInt y13)), (14, .int (Int32.ofInt y14)), (15, .int (Int32.ofInt y15)), (16, .int (Int32.ofInt y16)), (17, .int (Int32.ofInt y17)), (18, .int (Int32.ofInt y18)), (19, .int (Int32.ofInt y19)), (21, .int (Int32.ofInt y21))]) X.1.1 X.1.2.1 dL_walk_543 hl (by decide) rfl (fun ls hl => ?_)
  refine lv_iload X.1.1 X.1.2.1 dL_walk_545 (lv_at hl 21 rfl) ?_
  refine sa_if_eq (tgt := 563) X.1 hy19 dL_walk_547 (by decide) (fun hc => ?_) (fun hc => ?_)
  · have hw := hw.1 hc
    obtain ⟨n225, hw⟩ := hw
    exact t_L_walk_563 X ho114 ho115 ho116 hK195 n225 _ _ _ _ _ _ _ _ _ _ _ _ _ _ _ hw hy9 hy10 hy12 hy13 hy14 hy15 hy16 hy17 hy18 hy19 hy21 hz0 r120 r153 _ _ hR hS _ (lv_sub hl [3, 4, 5, 6, 7, 8, 9, 10, 11, 12, 13, 14, 15, 16, 17, 18, 19, 20, 21, 22, 2, 1, 0] rfl)
  · have hw := hw.2 hc
    refine lv_iload X.1.1 X.1.2.1 dL_walk_550 (lv_at hl 19 rfl) ?_
    refine sa_const X.1 dL_walk_552 ?_
    have r226 := inR_tmod hy17 (inR_c (a := 2) rfl) (by decide)
    refine sa_irem X.1 hy17 (inR_c (a := 2) rfl) (Int.ne_of_gt (by decide)) dL_walk_553 ?_
    refine sa_if_ne (tgt := 563) X.1 r226 dL_walk_554 (by decide) (fun hc => ?_) (fun hc => ?_)
    · have hw := hw.1 hc
      obtain ⟨n227, hw⟩ := hw
      exact t_L_walk_563 X ho114 ho115 ho116 hK195 n227 _ _ _ _ _ _ _ _ _ _ _ _ _ _ _ hw hy9 hy10 hy12 hy13 hy14 hy15 hy16 hy17 hy18 hy19 hy21 hz0 r120 r153 _ _ hR hS _ (lv_sub hl [3, 4, 5, 6, 7, 8, 9, 10, 11, 12, 13, 14, 15, 16, 17, 18, 19, 20, 21, 22, 2, 1, 0] rfl)
    · have hw := hw.2 hc
      refine lv_aload X.1.1 X.1.2.1 dL_walk_557 (lv_at hl 11 rfl) ?_
      refine lv_iload X.1.1 X.1.2.1 dL_walk_559 (lv_at hl 20 rfl) ?_
      refine sa_const X.1 dL_walk_561 ?_
      have c228 := hw.1
      have hw := hw.2
      refine wa_116 X hR hS ho116 c228 (inR_c (a := -1) rfl) dL_walk_562 (fun H locs hR hS => ?_)
      obtain ⟨M229, e230⟩ : ∃ z : Mem, z = up M 116 0 y18 (-1) := ⟨_, rfl⟩
      rw [← e230] at hR
      have hw := hw M229 e230
      obtain ⟨n231, hw⟩ := hw
      exact t_L_walk_563 X ho114 ho115 ho116 hK195 n231 _ _ _ _ _ _ _ _ _ _ _ _ _ _ _ hw hy9 hy10 hy12 hy13 hy14 hy15 hy16 hy17 hy18 hy19 hy21 hz0 r120 r153 _ _ hR hS _ (lv_sub hl [3, 4, 5, 6, 7, 8, 9, 10, 11, 12, 13, 14, 15, 16, 17, 18, 19, 20, 21, 22, 2, 1, 0] rfl)
set_option maxHeartbeats 4000000 in
set_option maxRecDepth 100000 in
theorem t_L_walk_424 (X : CX p m c cL_walk 27 s args RL G B κ meth none) (ho114 : okk κ 114 0) (ho115 : okk κ 115 0) (ho116 : okk κ 116 0) {Qm : Mem → Prop} {K195 : Int → Int → Int → Int → Int → Int → Int → Int → Mem → Prop} (hK195 : ∀ y9 : Int, ∀ y10 : Int, ∀ y12 : Int, ∀ y13 : Int, ∀ y14 : Int, ∀ y15 : Int, ∀ y16 : Int, ∀ y17 : Int, ∀ M : Mem, K195 y9 y10 y12 y13 y14 y15 y16 y17 M → inR y9 → inR y10 → inR y12 → inR y13 → inR y14 → inR y15 → inR y16 → inR y17 → ∀ (H : Heap) (locs : List Loc), Rp G e0 α κ B M H → va_S (fun q => B ≤ q) s.heap H locs → ∀ (ls : Array Slot), lv_has ls 27 [(0, .ref (α 104 0)), (1, .ref (α 105 0)), (2, .ref (α 106 0)), (3, .ref (α 107 0)), (4, .ref (α 112 0)), (5, .ref (α 113 0)), (6, .ref (α 114 0)), (7, .ref (α 115 0)), (8, .ref (α 116 0)), (9, .int (Int32.ofInt y9)), (10, .int (Int32.ofInt y10)), (12, .int (Int32.ofInt y12)), (13, .int (Int32.ofInt y13)), (14, .int (Int32.ofInt y14)), (15, .int (Int32.ofInt y15)), (16, .int (Int32.ofInt y16)), (17, .int (Int32.ofInt y17))] → WV p l e 2 s m args below meth c G e0 α κ B Qm H locs 195 ls []) : ∀ y9 : Int, ∀ y10 : Int, ∀ y12 : Int, ∀ y13 : Int, ∀ y14 : Int, ∀ y15 : Int, ∀ y16 : Int, ∀ y17 : Int, ∀ y18 : Int, ∀ y19 : Int, ∀ y21 : Int, ∀ M : Mem, wp_L_walk_424 Qm K195 y9 y10 y12 y13 y14 y15 y16 y17 y18 y19 y21 M → inR y9 → inR y10 → inR y12 → inR y13 → inR y14 → inR y15 → inR y16 → inR y17 → inR y18 → inR y19 → inR y21 → ∀ (H : Heap) (locs : List Loc), Rp G e0 α κ B M H → va_S (fun q => B ≤ q) s.heap H locs → ∀ (ls : Array Slot), lv_has ls 27 [(0, .ref (α 104 0)), (1, .ref (α 105 0)), (2, .ref (α 106 0)), (3, .ref (α 107 0)), (4, .ref (α 112 0)), (5, .ref (α 113 0)), (6, .ref (α 114 0)), (7, .ref (α 115 0)), (8, .ref (α 116 0)), (9, .int (Int32.ofInt y9)), (10, .int (Int32.ofInt y10)), (12, .int (Int32.ofInt y12)), (13, .int (Int32.ofInt y13)), (14, .int (Int32.ofInt y14)), (15, .int (Int32.ofInt y15)), (16, .int (Int32.ofInt y16)), (17, .int (Int32.ofInt y17)), (18, .int (Int32.ofInt y18)), (19, .int (Int32.ofInt y19)), (21, .int (Int32.ofInt y21))] → WV p l e 2 s m args below meth c G e0 α κ B Qm H locs 424 ls [] := by
  intro y9 y10 y12 y13 y14 y15 y16 y17 y18 y19 y21 M hw hy9 hy10 hy12 hy13 hy14 hy15 hy16 hy17 hy18 hy19 hy21 H locs hR hS ls hl
  have hw : wp_L_walk_425 Qm K195 y9 y10 y12 y13 y14 y15 y16 y17 y18 y19 y21 0 M := hw
  refine sa_const X.1 dL_walk_424 ?_
  exact t_L_walk_425 X ho114 ho115 ho116 hK195 _ _ _ _ _ _ _ _ _ _ _ _ _ hw hy9 hy10 hy12 hy13 hy14 hy15 hy16 hy17 hy18 hy19 hy21 (inR_c (a := 0) rfl) _ _ hR hS _ (lv_sub hl [0, 1, 2, 3, 4, 5, 6, 7, 8, 9, 10, 11, 12, 13, 14, 15, 16, 17, 18, 19] rfl)
set_option maxHeartbeats 4000000 in
set_option maxRecDepth 100000 in
theorem t_L_walk_195 (X : CX p m c cL_walk 27 s args RL G B κ meth none) (ho114 : okk κ 114 0) (ho115 : okk κ 115 0) (ho116 : okk κ 116 0) {Qm : Mem → Prop} : ∀ n : Nat, ∀ y9 : Int, ∀ y10 : Int, ∀ y12 : Int, ∀ y13 : Int, ∀ y14 : Int, ∀ y15 : Int, ∀ y16 : Int, ∀ y17 : Int, ∀ M : Mem, wp_L_walk_195 Qm n y9 y10 y12 y13 y14 y15 y16 y17 M → inR y9 → inR y10 → inR y12 → inR y13 → inR y14 → inR y15 → inR y16 → inR y17 → ∀ (H : Heap) (locs : List Loc), Rp G e0 α κ B M H → va_S (fun q => B ≤ q) s.heap H locs → ∀ (ls : Array Slot), lv_has ls 27 [(0, .ref (α 104 0)), (1, .ref (α 105 0)), (2, .ref (α 106 0)), (3, .ref (α 107 0)), (4, .ref (α 112 0)), (5, .ref (α 113 0)), (6, .ref (α 114 0)), (7, .ref (α 115 0)), (8, .ref (α 116 0)), (9, .int (Int32.ofInt y9)), (10, .int (Int32.ofInt y10)), (12, .int (Int32.ofInt y12)), (13, .int (Int32.ofInt y13)), (14, .int (Int32.ofInt y14)), (15, .int (Int32.ofInt y15)), (16, .int (Int32.ofInt y16)), (17, .int (Int32.ofInt y17))] → WV p l e 2 s m args below meth c G e0 α κ B Qm H locs 195 ls [] := by
  intro n
  induction n with
  | zero =>
    intro y9 y10 y12 y13 y14 y15 y16 y17 M hw hy9 hy10 hy12 hy13 hy14 hy15 hy16 hy17 H locs hR hS ls hl
    exact hw.elim
  | succ n ih =>
    intro y9 y10 y12 y13 y14 y15 y16 y17 M hw hy9 hy10 hy12 hy13 hy14 hy15 hy16 hy17 H locs hR hS ls hl
    have hw : (inR (2 * (M 112 0 1))) ∧ (inR ((2 * (M 112 0 1)) + 2)) ∧ ((((2 * (M 112 0 1)) + 2) ≤ y17 → (inR (y13 + 1)) ∧ ∀ M15 : Mem, M15 = up M 114 0 0 (y13 + 1) → (∃ n35 : Nat, wp_L_walk_842 Qm n35 y9 y10 y13 0 M15)) ∧ (y17 < ((2 * (M 112 0 1)) + 2) → (inR (2 * (M 112 0 1))) ∧ (y17 < (2 * (M 112 0 1)) → (0 ≤ (Int.tdiv y17 2) ∧ (Int.tdiv y17 2) < 10) ∧ True) ∧ (0 ≤ (if (2 * (M 112 0 1)) ≤ y17 then ((-1) : Int) else (M 106 0 (Int.tdiv y17 2))) → (inR (3 * (if (2 * (M 112 0 1)) ≤ y17 then ((-1) : Int) else (M 106 0 (Int.tdiv y17 2))))) ∧ (0 ≤ (3 * (if (2 * (M 112 0 1)) ≤ y17 then ((-1) : Int) else (M 106 0 (Int.tdiv y17 2)))) ∧ (3 * (if (2 * (M 112 0 1)) ≤ y17 then ((-1) : Int) else (M 106 0 (Int.tdiv y17 2)))) < 30) ∧ True) ∧ (¬ (if (if (2 * (M 112 0 1)) ≤ y17 then ((-1) : Int) else (M 106 0 (Int.tdiv y17 2))) < 0 then (0 : Int) else (if ¬ (M 105 0 (3 * (if (2 * (M 112 0 1)) ≤ y17 then ((-1) : Int) else (M 106 0 (Int.tdiv y17 2))))) = 1 then (0 : Int) else 1)) = 0 → (inR (3 * (if (2 * (M 112 0 1)) ≤ y17 then ((-1) : Int) else (M 106 0 (Int.tdiv y17 2))))) ∧ (inR ((3 * (if (2 * (M 112 0 1)) ≤ y17 then ((-1) : Int) else (M 106 0 (Int.tdiv y17 2)))) + 1)) ∧ (0 ≤ ((3 * (if (2 * (M 112 0 1)) ≤ y17 then ((-1) : Int) else (M 106 0 (Int.tdiv y17 2)))) + 1) ∧ ((3 * (if (2 * (M 112 0 1)) ≤ y17 then ((-1) : Int) else (M 106 0 (Int.tdiv y17 2)))) + 1) < 30) ∧ (0 < (M 105 0 ((3 * (if (2 * (M 112 0 1)) ≤ y17 then ((-1) : Int) else (M 106 0 (Int.tdiv y17 2)))) + 1)) → (¬ (Int.tdiv y17 2) = y12 → (inR ((Int.tdiv y17 2) + 1)) ∧ (0 ≤ ((Int.tdiv y17 2) + 1) ∧ ((Int.tdiv y17 2) + 1) < 10) ∧ (inR (3 * (M 106 0 ((Int.tdiv y17 2) + 1)))) ∧ (inR ((3 * (M 106 0 ((Int.tdiv y17 2) + 1))) + 1)) ∧ (0 ≤ ((3 * (M 106 0 ((Int.tdiv y17 2) + 1))) + 1) ∧ ((3 * (M 106 0 ((Int.tdiv y17 2) + 1))) + 1) < 30) ∧ (inR (3 * (if (2 * (M 112 0 1)) ≤ y17 then ((-1) : Int) else (M 106 0 (Int.tdiv y17 2))))) ∧ (inR ((3 * (if (2 * (M 112 0 1)) ≤ y17 then ((-1) : Int) else (M 106 0 (Int.tdiv y17 2)))) + 1)) ∧ (0 ≤ ((3 * (if (2 * (M 112 0 1)) ≤ y17 then ((-1) : Int) else (M 106 0 (Int.tdiv y17 2)))) + 1) ∧ ((3 * (if (2 * (M 112 0 1)) ≤ y17 then ((-1) : Int) else (M 106 0 (Int.tdiv y17 2)))) + 1) < 30) ∧ True) ∧ True) ∧ True) ∧ (inR (2 * (M 112 0 1))) ∧ ((2 * (M 112 0 1)) ≤ y17 → (inR (2 * (M 112 0 1))) ∧ True) ∧ (y17 < (2 * (M 112 0 1)) → ((Int.tmod y17 2) = 0 → (¬ (if (if (2 * (M 112 0 1)) ≤ y17 then ((-1) : Int) else (M 106 0 (Int.tdiv y17 2))) < 0 then (0 : Int) else (if ¬ (M 105 0 (3 * (if (2 * (M 112 0 1)) ≤ y17 then ((-1) : Int) else (M 106 0 (Int.tdiv y17 2))))) = 1 then (0 : Int) else 1)) = 0 → (inR (20 + (if (2 * (M 112 0 1)) ≤ y17 then ((-1) : Int) else (M 106 0 (Int.tdiv y17 2))))) ∧ (0 ≤ (20 + (if (2 * (M 112 0 1)) ≤ y17 then ((-1) : Int) else (M 106 0 (Int.tdiv y17 2)))) ∧ (20 + (if (2 * (M 112 0 1)) ≤ y17 then ((-1) : Int) else (M 106 0 (Int.tdiv y17 2)))) < 30) ∧ True) ∧ True) ∧ True) ∧ (inR (2 * (M 112 0 1))) ∧ (((2 * (M 112 0 1)) ≤ y17 → wp_L_walk_424 Qm (wp_L_walk_195 Qm n) y9 y10 y12 y13 y14 y15 y16 y17 (if (2 * (M 112 0 1)) ≤ y17 then ((-1) : Int) else (M 106 0 (Int.tdiv y17 2))) (if (if (2 * (M 112 0 1)) ≤ y17 then ((-1) : Int) else (M 106 0 (Int.tdiv y17 2))) < 0 then (0 : Int) else (if ¬ (M 105 0 (3 * (if (2 * (M 112 0 1)) ≤ y17 then ((-1) : Int) else (M 106 0 (Int.tdiv y17 2))))) = 1 then (0 : Int) else 1)) (if (2 * (M 112 0 1)) ≤ y17 then (if ¬ y17 = (2 * (M 112 0 1)) then y16 else y9) else (if ¬ (Int.tmod y17 2) = 0 then (if (if (if (if (2 * (M 112 0 1)) ≤ y17 then ((-1) : Int) else (M 106 0 (Int.tdiv y17 2))) < 0 then (0 : Int) else (if ¬ (M 105 0 (3 * (if (2 * (M 112 0 1)) ≤ y17 then ((-1) : Int) else (M 106 0 (Int.tdiv y17 2))))) = 1 then (0 : Int) else 1)) = 0 then (0 : Int) else (if (M 105 0 ((3 * (if (2 * (M 112 0 1)) ≤ y17 then ((-1) : Int) else (M 106 0 (Int.tdiv y17 2)))) + 1)) ≤ 0 then (0 : Int) else (if (Int.tdiv y17 2) = y12 then (1 : Int) else (if (M 105 0 ((3 * (M 106 0 ((Int.tdiv y17 2) + 1))) + 1)) = (M 105 0 ((3 * (if (2 * (M 112 0 1)) ≤ y17 then ((-1) : Int) else (M 106 0 (Int.tdiv y17 2)))) + 1)) then (0 : Int) else 1)))) = 0 then (0 : Int) else y9) else (if (if (if (2 * (M 112 0 1)) ≤ y17 then ((-1) : Int) else (M 106 0 (Int.tdiv y17 2))) < 0 then (0 : Int) else (if ¬ (M 105 0 (3 * (if (2 * (M 112 0 1)) ≤ y17 then ((-1) : Int) else (M 106 0 (Int.tdiv y17 2))))) = 1 then (0 : Int) else 1)) = 0 then (0 : Int) else (M 113 0 (20 + (if (2 * (M 112 0 1)) ≤ y17 then ((-1) : Int) else (M 106 0 (Int.tdiv y17 2)))))))) M) ∧ (y17 < (2 * (M 112 0 1)) → ((¬ (Int.tmod y17 2) = 0 → wp_L_walk_424 Qm (wp_L_walk_195 Qm n) y9 y10 y12 y13 y14 y15 y16 y17 (if (2 * (M 112 0 1)) ≤ y17 then ((-1) : Int) else (M 106 0 (Int.tdiv y17 2))) (if (if (2 * (M 112 0 1)) ≤ y17 then ((-1) : Int) else (M 106 0 (Int.tdiv y17 2))) < 0 then (0 : Int) else (if ¬ (M 105 0 (3 * (if (2 * (M 112 0 1)) ≤ y17 then ((-1) : Int) else (M 106 0 (Int.tdiv y17 2))))) = 1 then (0 : Int) else 1)) (if (2 * (M 112 0 1)) ≤ y17 then (if ¬ y17 = (2 * (M 112 0 1)) then y16 else y9) else (if ¬ (Int.tmod y17 2) = 0 then (if (if (if (if (2 * (M 112 0 1)) ≤ y17 then ((-1) : Int) else (M 106 0 (Int.tdiv y17 2))) < 0 then (0 : Int) else (if ¬ (M 105 0 (3 * (if (2 * (M 112 0 1)) ≤ y17 then ((-1) : Int) else (M 106 0 (Int.tdiv y17 2))))) = 1 then (0 : Int) else 1)) = 0 then (0 : Int) else (if (M 105 0 ((3 * (if (2 * (M 112 0 1)) ≤ y17 then ((-1) : Int) else (M 106 0 (Int.tdiv y17 2)))) + 1)) ≤ 0 then (0 : Int) else (if (Int.tdiv y17 2) = y12 then (1 : Int) else (if (M 105 0 ((3 * (M 106 0 ((Int.tdiv y17 2) + 1))) + 1)) = (M 105 0 ((3 * (if (2 * (M 112 0 1)) ≤ y17 then ((-1) : Int) else (M 106 0 (Int.tdiv y17 2)))) + 1)) then (0 : Int) else 1)))) = 0 then (0 : Int) else y9) else (if (if (if (2 * (M 112 0 1)) ≤ y17 then ((-1) : Int) else (M 106 0 (Int.tdiv y17 2))) < 0 then (0 : Int) else (if ¬ (M 105 0 (3 * (if (2 * (M 112 0 1)) ≤ y17 then ((-1) : Int) else (M 106 0 (Int.tdiv y17 2))))) = 1 then (0 : Int) else 1)) = 0 then (0 : Int) else (M 113 0 (20 + (if (2 * (M 112 0 1)) ≤ y17 then ((-1) : Int) else (M 106 0 (Int.tdiv y17 2)))))))) M) ∧ ((Int.tmod y17 2) = 0 → (((if (if (2 * (M 112 0 1)) ≤ y17 then ((-1) : Int) else (M 106 0 (Int.tdiv y17 2))) < 0 then (0 : Int) else (if ¬ (M 105 0 (3 * (if (2 * (M 112 0 1)) ≤ y17 then ((-1) : Int) else (M 106 0 (Int.tdiv y17 2))))) = 1 then (0 : Int) else 1)) = 0 → wp_L_walk_424 Qm (wp_L_walk_195 Qm n) y9 y10 y12 y13 y14 y15 y16 y17 (if (2 * (M 112 0 1)) ≤ y17 then ((-1) : Int) else (M 106 0 (Int.tdiv y17 2))) (if (if (2 * (M 112 0 1)) ≤ y17 then ((-1) : Int) else (M 106 0 (Int.tdiv y17 2))) < 0 then (0 : Int) else (if ¬ (M 105 0 (3 * (if (2 * (M 112 0 1)) ≤ y17 then ((-1) : Int) else (M 106 0 (Int.tdiv y17 2))))) = 1 then (0 : Int) else 1)) (if (2 * (M 112 0 1)) ≤ y17 then (if ¬ y17 = (2 * (M 112 0 1)) then y16 else y9) else (if ¬ (Int.tmod y17 2) = 0 then (if (if (if (if (2 * (M 112 0 1)) ≤ y17 then ((-1) : Int) else (M 106 0 (Int.tdiv y17 2))) < 0 then (0 : Int) else (if ¬ (M 105 0 (3 * (if (2 * (M 112 0 1)) ≤ y17 then ((-1) : Int) else (M 106 0 (Int.tdiv y17 2))))) = 1 then (0 : Int) else 1)) = 0 then (0 : Int) else (if (M 105 0 ((3 * (if (2 * (M 112 0 1)) ≤ y17 then ((-1) : Int) else (M 106 0 (Int.tdiv y17 2)))) + 1)) ≤ 0 then (0 : Int) else (if (Int.tdiv y17 2) = y12 then (1 : Int) else (if (M 105 0 ((3 * (M 106 0 ((Int.tdiv y17 2) + 1))) + 1)) = (M 105 0 ((3 * (if (2 * (M 112 0 1)) ≤ y17 then ((-1) : Int) else (M 106 0 (Int.tdiv y17 2)))) + 1)) then (0 : Int) else 1)))) = 0 then (0 : Int) else y9) else (if (if (if (2 * (M 112 0 1)) ≤ y17 then ((-1) : Int) else (M 106 0 (Int.tdiv y17 2))) < 0 then (0 : Int) else (if ¬ (M 105 0 (3 * (if (2 * (M 112 0 1)) ≤ y17 then ((-1) : Int) else (M 106 0 (Int.tdiv y17 2))))) = 1 then (0 : Int) else 1)) = 0 then (0 : Int) else (M 113 0 (20 + (if (2 * (M 112 0 1)) ≤ y17 then ((-1) : Int) else (M 106 0 (Int.tdiv y17 2)))))))) M) ∧ (¬ (if (if (2 * (M 112 0 1)) ≤ y17 then ((-1) : Int) else (M 106 0 (Int.tdiv y17 2))) < 0 then (0 : Int) else (if ¬ (M 105 0 (3 * (if (2 * (M 112 0 1)) ≤ y17 then ((-1) : Int) else (M 106 0 (Int.tdiv y17 2))))) = 1 then (0 : Int) else 1)) = 0 → ((¬ (M 112 0 5) = 0 → wp_L_walk_424 Qm (wp_L_walk_195 Qm n) y9 y10 y12 y13 y14 y15 y16 y17 (if (2 * (M 112 0 1)) ≤ y17 then ((-1) : Int) else (M 106 0 (Int.tdiv y17 2))) (if (if (2 * (M 112 0 1)) ≤ y17 then ((-1) : Int) else (M 106 0 (Int.tdiv y17 2))) < 0 then (0 : Int) else (if ¬ (M 105 0 (3 * (if (2 * (M 112 0 1)) ≤ y17 then ((-1) : Int) else (M 106 0 (Int.tdiv y17 2))))) = 1 then (0 : Int) else 1)) (if (2 * (M 112 0 1)) ≤ y17 then (if ¬ y17 = (2 * (M 112 0 1)) then y16 else y9) else (if ¬ (Int.tmod y17 2) = 0 then (if (if (if (if (2 * (M 112 0 1)) ≤ y17 then ((-1) : Int) else (M 106 0 (Int.tdiv y17 2))) < 0 then (0 : Int) else (if ¬ (M 105 0 (3 * (if (2 * (M 112 0 1)) ≤ y17 then ((-1) : Int) else (M 106 0 (Int.tdiv y17 2))))) = 1 then (0 : Int) else 1)) = 0 then (0 : Int) else (if (M 105 0 ((3 * (if (2 * (M 112 0 1)) ≤ y17 then ((-1) : Int) else (M 106 0 (Int.tdiv y17 2)))) + 1)) ≤ 0 then (0 : Int) else (if (Int.tdiv y17 2) = y12 then (1 : Int) else (if (M 105 0 ((3 * (M 106 0 ((Int.tdiv y17 2) + 1))) + 1)) = (M 105 0 ((3 * (if (2 * (M 112 0 1)) ≤ y17 then ((-1) : Int) else (M 106 0 (Int.tdiv y17 2)))) + 1)) then (0 : Int) else 1)))) = 0 then (0 : Int) else y9) else (if (if (if (2 * (M 112 0 1)) ≤ y17 then ((-1) : Int) else (M 106 0 (Int.tdiv y17 2))) < 0 then (0 : Int) else (if ¬ (M 105 0 (3 * (if (2 * (M 112 0 1)) ≤ y17 then ((-1) : Int) else (M 106 0 (Int.tdiv y17 2))))) = 1 then (0 : Int) else 1)) = 0 then (0 : Int) else (M 113 0 (20 + (if (2 * (M 112 0 1)) ≤ y17 then ((-1) : Int) else (M 106 0 (Int.tdiv y17 2)))))))) M) ∧ ((M 112 0 5) = 0 → wp_L_noteLines (if (2 * (M 112 0 1)) ≤ y17 then ((-1) : Int) else (M 106 0 (Int.tdiv y17 2))) M fun (x235 : Int) (M234 : Mem) => wp_L_walk_425 Qm (wp_L_walk_195 Qm n) y9 y10 y12 y13 y14 y15 y16 y17 (if (2 * (M 112 0 1)) ≤ y17 then ((-1) : Int) else (M 106 0 (Int.tdiv y17 2))) (if (if (2 * (M 112 0 1)) ≤ y17 then ((-1) : Int) else (M 106 0 (Int.tdiv y17 2))) < 0 then (0 : Int) else (if ¬ (M 105 0 (3 * (if (2 * (M 112 0 1)) ≤ y17 then ((-1) : Int) else (M 106 0 (Int.tdiv y17 2))))) = 1 then (0 : Int) else 1)) (if (2 * (M 112 0 1)) ≤ y17 then (if ¬ y17 = (2 * (M 112 0 1)) then y16 else y9) else (if ¬ (Int.tmod y17 2) = 0 then (if (if (if (if (2 * (M 112 0 1)) ≤ y17 then ((-1) : Int) else (M 106 0 (Int.tdiv y17 2))) < 0 then (0 : Int) else (if ¬ (M 105 0 (3 * (if (2 * (M 112 0 1)) ≤ y17 then ((-1) : Int) else (M 106 0 (Int.tdiv y17 2))))) = 1 then (0 : Int) else 1)) = 0 then (0 : Int) else (if (M 105 0 ((3 * (if (2 * (M 112 0 1)) ≤ y17 then ((-1) : Int) else (M 106 0 (Int.tdiv y17 2)))) + 1)) ≤ 0 then (0 : Int) else (if (Int.tdiv y17 2) = y12 then (1 : Int) else (if (M 105 0 ((3 * (M 106 0 ((Int.tdiv y17 2) + 1))) + 1)) = (M 105 0 ((3 * (if (2 * (M 112 0 1)) ≤ y17 then ((-1) : Int) else (M 106 0 (Int.tdiv y17 2)))) + 1)) then (0 : Int) else 1)))) = 0 then (0 : Int) else y9) else (if (if (if (2 * (M 112 0 1)) ≤ y17 then ((-1) : Int) else (M 106 0 (Int.tdiv y17 2))) < 0 then (0 : Int) else (if ¬ (M 105 0 (3 * (if (2 * (M 112 0 1)) ≤ y17 then ((-1) : Int) else (M 106 0 (Int.tdiv y17 2))))) = 1 then (0 : Int) else 1)) = 0 then (0 : Int) else (M 113 0 (20 + (if (2 * (M 112 0 1)) ≤ y17 then ((-1) : Int) else (M 106 0 (Int.tdiv y17 2)))))))) x235 M234)))))))))) := hw
    refine lv_iload X.1.1 X.1.2.1 dL_walk_195 (lv_at hl 16 rfl) ?_
    refine sa_const X.1 dL_walk_197 ?_
    refine lv_aload X.1.1 X.1.2.1 dL_walk_198 (lv_at hl 4 rfl) ?_
    refine sa_const X.1 dL_walk_200 ?_
    refine ra_112 X hR (okf X.2.2.1 rfl) ⟨by decide, by decide⟩ dL_walk_201 ?_
    have r11 := hR.r 112 0 1
    have c12 := hw.1
    have hw := hw.2
    refine sa_imul X.1 dL_walk_202 ?_
    refine sa_const X.1 dL_walk_203 ?_
    have c13 := hw.1
    have hw := hw.2
    refine sa_iadd X.1 dL_walk_204 ?_
    refine sa_icmp_ge (tgt := 831) X.1 hy17 c13 dL_walk_205 (by decide) (fun hc => ?_) (fun hc => ?_)
    · have hw := hw.1 hc
      refine lv_aload X.1.1 X.1.2.1 dL_walk_831 (lv_at hl 6 rfl) ?_
      refine sa_const X.1 dL_walk_833 ?_
      refine lv_iload X.1.1 X.1.2.1 dL_walk_834 (lv_at hl 12 rfl) ?_
      refine sa_const X.1 dL_walk_836 ?_
      have c14 := hw.1
      have hw := hw.2
      refine sa_iadd X.1 dL_walk_837 ?_
      refine wa_114 X hR hS ho114 ⟨by decide, by decide⟩ c14 dL_walk_838 (fun H locs hR hS => ?_)
      obtain ⟨M15, e16⟩ : ∃ z : Mem, z = up M 114 0 0 (y13 + 1) := ⟨_, rfl⟩
      rw [← e16] at hR
      have hw := hw M15 e16
      refine sa_const X.1 dL_walk_839 ?_
      refine lv_istore (lv' := [(17, .int (Int32.ofInt 0)), (0, .ref (α 104 0)), (1, .ref (α 105 0)), (2, .ref (α 106 0)), (3, .ref (α 107 0)), (4, .ref (α 112 0)), (5, .ref (α 113 0)), (6, .ref (α 114 0)), (7, .ref (α 115 0)), (8, .ref (α 116 0)), (9, .int (Int32.ofInt y9)), (10, .int (Int32.ofInt y10)), (12, .int (Int32.ofInt y12)), (13, .int (Int32.ofInt y13)), (14, .int (Int32.ofInt y14)), (15, .int (Int32.ofInt y15)), (16, .int (Int32.ofInt y16))]) X.1.1 X.1.2.1 dL_walk_840 hl (by decide) rfl (fun ls hl => ?_)
      obtain ⟨n35, hw⟩ := hw
      exact t_L_walk_842 X ho114 ho115 ho116 n35 _ _ _ _ _ hw hy9 hy10 hy13 (inR_c (a := 0) rfl) _ _ hR hS _ (lv_sub hl [7, 10, 11, 13, 0] rfl)
    · have hw := hw.2 hc
      refine lv_iload X.1.1 X.1.2.1 dL_walk_208 (lv_at hl 16 rfl) ?_
      refine sa_const X.1 dL_walk_210 ?_
      refine lv_aload X.1.1 X.1.2.1 dL_walk_211 (lv_at hl 4 rfl) ?_
      refine sa_const X.1 dL_walk_213 ?_
      refine ra_112 X hR (okf X.2.2.1 rfl) ⟨by decide, by decide⟩ dL_walk_214 ?_
      have r36 := hR.r 112 0 1
      have c37 := hw.1
      have hw := hw.2
      refine sa_imul X.1 dL_walk_215 ?_
      have s39 := hw.1
      have hw := hw.2
      have r40 := inR_ite (c := (2 * (M 112 0 1)) ≤ y17) (inR_c (a := -1) rfl) (hR.r 106 0 (Int.tdiv y17 2))
      refine cut_j (A := ∀ v41 : Int, v41 = (if (2 * (M 112 0 1)) ≤ y17 then ((-1) : Int) else (M 106 0 (Int.tdiv y17 2))) → WV p l e 2 s m args below meth c G e0 α κ B Qm H locs 229 ls [.int (Int32.ofInt v41)]) (fun J42 => ?_) ?_
      · refine sa_icmp_ge (tgt := 228) X.1 hy17 c37 dL_walk_216 (by decide) (fun hc => ?_) (fun hc => ?_)
        · skip
          refine sa_const X.1 dL_walk_228 ?_
          exact J42 ((-1)) (if_pos (c := (2 * (M 112 0 1)) ≤ y17) hc).symm
        · have hw := s39 hc
          refine lv_aload_n X.1.1 X.1.2.1 dL_walk_219 rfl (lv_at hl 2 rfl) ?_
          refine lv_iload X.1.1 X.1.2.1 dL_walk_220 (lv_at hl 16 rfl) ?_
          refine sa_const X.1 dL_walk_222 ?_
          refine sa_idiv X.1 hy17 (inR_c (a := 2) rfl) (Int.ne_of_gt (by decide)) dL_walk_223 ?_
          have c38 := hw.1
          have hw := hw.2
          refine ra_106 X hR (okf X.2.2.1 rfl) c38 dL_walk_224 ?_
          refine lv_goto (tgt := 229) X.1.1 X.1.2.1 dL_walk_225 (by decide) ?_
          exact J42 ((M 106 0 (Int.tdiv y17 2))) (if_neg (c := (2 * (M 112 0 1)) ≤ y17) (Int.not_le.mpr hc)).symm
      intro v41 hv41
      subst hv41
      refine lv_istore (lv' := [(18, .int (Int32.ofInt (if (2 * (M 112 0 1)) ≤ y17 then ((-1) : Int) else (M 106 0 (Int.tdiv y17 2))))), (0, .ref (α 104 0)), (1, .ref (α 105 0)), (2, .ref (α 106 0)), (3, .ref (α 107 0)), (4, .ref (α 112 0)), (5, .ref (α 113 0)), (6, .ref (α 114 0)), (7, .ref (α 115 0)), (8, .ref (α 116 0)), (9, .int (Int32.ofInt y9)), (10, .int (Int32.ofInt y10)), (12, .int (Int32.ofInt y12)), (13, .int (Int32.ofInt y13)), (14, .int (Int32.ofInt y14)), (15, .int (Int32.ofInt y15)), (16, .int (Int32.ofInt y16)), (17, .int (Int32.ofInt y17))]) X.1.1 X.1.2.1 dL_walk_229 hl (by decide) rfl (fun ls hl => ?_)
      refine lv_iload X.1.1 X.1.2.1 dL_walk_231 (lv_at hl 0 rfl) ?_
      have s47 := hw.1
      have hw := hw.2
      have r48 := inR_ite (c := (if (2 * (M 112 0 1)) ≤ y17 then ((-1) : Int) else (M 106 0 (Int.tdiv y17 2))) < 0) (inR_c (a := 0) rfl) (inR_ite (c := ¬ (M 105 0 (3 * (if (2 * (M 112 0 1)) ≤ y17 then ((-1) : Int) else (M 106 0 (Int.tdiv y17 2))))) = 1) (inR_c (a := 0) rfl) (inR_c (a := 1) rfl))
      refine cut_j (A := ∀ v49 : Int, v49 = (if (if (2 * (M 112 0 1)) ≤ y17 then ((-1) : Int) else (M 106 0 (Int.tdiv y17 2))) < 0 then (0 : Int) else (if ¬ (M 105 0 (3 * (if (2 * (M 112 0 1)) ≤ y17 then ((-1) : Int) else (M 106 0 (Int.tdiv y17 2))))) = 1 then (0 : Int) else 1)) → WV p l e 2 s m args below meth c G e0 α κ B Qm H locs 251 ls [.int (Int32.ofInt v49)]) (fun J50 => ?_) ?_
      · refine sa_if_lt (tgt := 250) X.1 r40 dL_walk_233 (by decide) (fun hc => ?_) (fun hc => ?_)
        · skip
          refine sa_const X.1 dL_walk_250 ?_
          exact J50 (0) (if_pos (c := (if (2 * (M 112 0 1)) ≤ y17 then ((-1) : Int) else (M 106 0 (Int.tdiv y17 2))) < 0) hc).symm
        · have hw := s47 hc
          refine lv_aload_n X.1.1 X.1.2.1 dL_walk_236 rfl (lv_at hl 2 rfl) ?_
          refine sa_const X.1 dL_walk_237 ?_
          refine lv_iload X.1.1 X.1.2.1 dL_walk_238 (lv_at hl 0 rfl) ?_
          have c43 := hw.1
          have hw := hw.2
          refine sa_imul X.1 dL_walk_240 ?_
          have c44 := hw.1
          have hw := hw.2
          refine ra_105 X hR (okf X.2.2.1 rfl) c44 dL_walk_241 ?_
          refine sa_const X.1 dL_walk_242 ?_
          refine cut_j (A := ∀ v45 : Int, v45 = (if ¬ (M 105 0 (3 * (if (2 * (M 112 0 1)) ≤ y17 then ((-1) : Int) else (M 106 0 (Int.tdiv y17 2))))) = 1 then (0 : Int) else 1) → WV p l e 2 s m args below meth c G e0 α κ B Qm H locs 251 ls [.int (Int32.ofInt v45)]) (fun J46 => ?_) ?_
          · refine sa_icmp_ne (tgt := 250) X.1 (hR.r 105 0 (3 * (if (2 * (M 112 0 1)) ≤ y17 then ((-1) : Int) else (M 106 0 (Int.tdiv y17 2))))) (inR_c (a := 1) rfl) dL_walk_243 (by decide) (fun hc => ?_) (fun hc => ?_)
            · skip
              refine sa_const X.1 dL_walk_250 ?_
              exact J46 (0) (if_pos (c := ¬ (M 105 0 (3 * (if (2 * (M 112 0 1)) ≤ y17 then ((-1) : Int) else (M 106 0 (Int.tdiv y17 2))))) = 1) hc).symm
            · skip
              refine sa_const X.1 dL_walk_246 ?_
              refine lv_goto (tgt := 251) X.1.1 X.1.2.1 dL_walk_247 (by decide) ?_
              exact J46 (1) (if_neg (c := ¬ (M 105 0 (3 * (if (2 * (M 112 0 1)) ≤ y17 then ((-1) : Int) else (M 106 0 (Int.tdiv y17 2))))) = 1) (fun z => z hc)).symm
          intro v45 hv45
          subst hv45
          exact J50 ((if ¬ (M 105 0 (3 * (if (2 * (M 112 0 1)) ≤ y17 then ((-1) : Int) else (M 106 0 (Int.tdiv y17 2))))) = 1 then (0 : Int) else 1)) (if_neg (c := (if (2 * (M 112 0 1)) ≤ y17 then ((-1) : Int) else (M 106 0 (Int.tdiv y17 2))) < 0) (Int.not_lt.mpr hc)).symm
      intro v49 hv49
      subst hv49
      refine lv_istore (lv' := [(19, .int (Int32.ofInt (if (if (2 * (M 112 0 1)) ≤ y17 then ((-1) : Int) else (M 106 0 (Int.tdiv y17 2))) < 0 then (0 : Int) else (if ¬ (M 105 0 (3 * (if (2 * (M 112 0 1)) ≤ y17 then ((-1) : Int) else (M 106 0 (Int.tdiv y17 2))))) = 1 then (0 : Int) else 1)))), (18, .int (Int32.ofInt (if (2 * (M 112 0 1)) ≤ y17 then ((-1) : Int) else (M 106 0 (Int.tdiv y17 2))))), (0, .ref (α 104 0)), (1, .ref (α 105 0)), (2, .ref (α 106 0)), (3, .ref (α 107 0)), (4, .ref (α 112 0)), (5, .ref (α 113 0)), (6, .ref (α 114 0)), (7, .ref (α 115 0)), (8, .ref (α 116 0)), (9, .int (Int32.ofInt y9)), (10, .int (Int32.ofInt y10)), (12, .int (Int32.ofInt y12)), (13, .int (Int32.ofInt y13)), (14, .int (Int32.ofInt y14)), (15, .int (Int32.ofInt y15)), (16, .int (Int32.ofInt y16)), (17, .int (Int32.ofInt y17))]) X.1.1 X.1.2.1 dL_walk_251 hl (by decide) rfl (fun ls hl => ?_)
      refine lv_iload X.1.1 X.1.2.1 dL_walk_253 (lv_at hl 0 rfl) ?_
      have s70 := hw.1
      have hw := hw.2
      have r71 := inR_ite (c := (if (if (2 * (M 112 0 1)) ≤ y17 then ((-1) : Int) else (M 106 0 (Int.tdiv y17 2))) < 0 then (0 : Int) else (if ¬ (M 105 0 (3 * (if (2 * (M 112 0 1)) ≤ y17 then ((-1) : Int) else (M 106 0 (Int.tdiv y17 2))))) = 1 then (0 : Int) else 1)) = 0) (inR_c (a := 0) rfl) (inR_ite (c := (M 105 0 ((3 * (if (2 * (M 112 0 1)) ≤ y17 then ((-1) : Int) else (M 106 0 (Int.tdiv y17 2)))) + 1)) ≤ 0) (inR_c (a := 0) rfl) (inR_ite (c := (Int.tdiv y17 2) = y12) (inR_c (a := 1) rfl) (inR_ite (c := (M 105 0 ((3 * (M 106 0 ((Int.tdiv y17 2) + 1))) + 1)) = (M 105 0 ((3 * (if (2 * (M 112 0 1)) ≤ y17 then ((-1) : Int) else (M 106 0 (Int.tdiv y17 2)))) + 1))) (inR_c (a := 0) rfl) (inR_c (a := 1) rfl))))
      refine cut_j (A := ∀ v72 : Int, v72 = (if (if (if (2 * (M 112 0 1)) ≤ y17 then ((-1) : Int) else (M 106 0 (Int.tdiv y17 2))) < 0 then (0 : Int) else (if ¬ (M 105 0 (3 * (if (2 * (M 112 0 1)) ≤ y17 then ((-1) : Int) else (M 106 0 (Int.tdiv y17 2))))) = 1 then (0 : Int) else 1)) = 0 then (0 : Int) else (if (M 105 0 ((3 * (if (2 * (M 112 0 1)) ≤ y17 then ((-1) : Int) else (M 106 0 (Int.tdiv y17 2)))) + 1)) ≤ 0 then (0 : Int) else (if (Int.tdiv y17 2) = y12 then (1 : Int) else (if (M 105 0 ((3 * (M 106 0 ((Int.tdiv y17 2) + 1))) + 1)) = (M 105 0 ((3 * (if (2 * (M 112 0 1)) ≤ y17 then ((-1) : Int) else (M 106 0 (Int.tdiv y17 2)))) + 1)) then (0 : Int) else 1)))) → WV p l e 2 s m args below meth c G e0 α κ B Qm H locs 308 ls [.int (Int32.ofInt v72)]) (fun J73 => ?_) ?_
      · refine sa_if_eq (tgt := 307) X.1 r48 dL_walk_255 (by decide) (fun hc => ?_) (fun hc => ?_)
        · skip
          refine sa_const X.1 dL_walk_307 ?_
          exact J73 (0) (if_pos (c := (if (if (2 * (M 112 0 1)) ≤ y17 then ((-1) : Int) else (M 106 0 (Int.tdiv y17 2))) < 0 then (0 : Int) else (if ¬ (M 105 0 (3 * (if (2 * (M 112 0 1)) ≤ y17 then ((-1) : Int) else (M 106 0 (Int.tdiv y17 2))))) = 1 then (0 : Int) else 1)) = 0) hc).symm
        · have hw := s70 hc
          refine lv_aload_n X.1.1 X.1.2.1 dL_walk_258 rfl (lv_at hl 3 rfl) ?_
          refine sa_const X.1 dL_walk_259 ?_
          refine lv_iload X.1.1 X.1.2.1 dL_walk_260 (lv_at hl 1 rfl) ?_
          have c51 := hw.1
          have hw := hw.2
          refine sa_imul X.1 dL_walk_262 ?_
          refine sa_const X.1 dL_walk_263 ?_
          have c52 := hw.1
          have hw := hw.2
          refine sa_iadd X.1 dL_walk_264 ?_
          have c53 := hw.1
          have hw := hw.2
          refine ra_105 X hR (okf X.2.2.1 rfl) c53 dL_walk_265 ?_
          have s67 := hw.1
          have hw := hw.2
          refine cut_j (A := ∀ v68 : Int, v68 = (if (M 105 0 ((3 * (if (2 * (M 112 0 1)) ≤ y17 then ((-1) : Int) else (M 106 0 (Int.tdiv y17 2)))) + 1)) ≤ 0 then (0 : Int) else (if (Int.tdiv y17 2) = y12 then (1 : Int) else (if (M 105 0 ((3 * (M 106 0 ((Int.tdiv y17 2) + 1))) + 1)) = (M 105 0 ((3 * (if (2 * (M 112 0 1)) ≤ y17 then ((-1) : Int) else (M 106 0 (Int.tdiv y17 2)))) + 1)) then (0 : Int) else 1))) → WV p l e 2 s m args below meth c G e0 α κ B Qm H locs 308 ls [.int (Int32.ofInt v68)]) (fun J69 => ?_) ?_
          · refine sa_if_le (tgt := 307) X.1 (hR.r 105 0 ((3 * (if (2 * (M 112 0 1)) ≤ y17 then ((-1) : Int) else (M 106 0 (Int.tdiv y17 2)))) + 1)) dL_walk_266 (by decide) (fun hc => ?_) (fun hc => ?_)
            · skip
              refine sa_const X.1 dL_walk_307 ?_
              exact J69 (0) (if_pos (c := (M 105 0 ((3 * (if (2 * (M 112 0 1)) ≤ y17 then ((-1) : Int) else (M 106 0 (Int.tdiv y17 2)))) + 1)) ≤ 0) hc).symm
            · have hw := s67 hc
              refine lv_iload X.1.1 X.1.2.1 dL_walk_269 (lv_at hl 18 rfl) ?_
              refine sa_const X.1 dL_walk_271 ?_
              refine sa_idiv X.1 hy17 (inR_c (a := 2) rfl) (Int.ne_of_gt (by decide)) dL_walk_272 ?_
              refine lv_iload X.1.1 X.1.2.1 dL_walk_273 (lv_at hl 13 rfl) ?_
              have s64 := hw.1
              have hw := hw.2
              refine cut_j (A := ∀ v65 : Int, v65 = (if (Int.tdiv y17 2) = y12 then (1 : Int) else (if (M 105 0 ((3 * (M 106 0 ((Int.tdiv y17 2) + 1))) + 1)) = (M 105 0 ((3 * (if (2 * (M 112 0 1)) ≤ y17 then ((-1) : Int) else (M 106 0 (Int.tdiv y17 2)))) + 1)) then (0 : Int) else 1)) → WV p l e 2 s m args below meth c G e0 α κ B Qm H locs 308 ls [.int (Int32.ofInt v65)]) (fun J66 => ?_) ?_
              · refine sa_icmp_eq (tgt := 303) X.1 (inR_tdiv hy17 (inR_c (a := 2) rfl) (by decide)) hy12 dL_walk_275 (by decide) (fun hc => ?_) (fun hc => ?_)
                · skip
                  refine sa_const X.1 dL_walk_303 ?_
                  refine lv_goto (tgt := 308) X.1.1 X.1.2.1 dL_walk_304 (by decide) ?_
                  exact J66 (1) (if_pos (c := (Int.tdiv y17 2) = y12) hc).symm
                · have hw := s64 hc
                  refine lv_aload_n X.1.1 X.1.2.1 dL_walk_278 rfl (lv_at hl 3 rfl) ?_
                  refine sa_const X.1 dL_walk_279 ?_
                  refine lv_aload_n X.1.1 X.1.2.1 dL_walk_280 rfl (lv_at hl 4 rfl) ?_
                  refine lv_iload X.1.1 X.1.2.1 dL_walk_281 (lv_at hl 18 rfl) ?_
                  refine sa_const X.1 dL_walk_283 ?_
                  refine sa_idiv X.1 hy17 (inR_c (a := 2) rfl) (Int.ne_of_gt (by decide)) dL_walk_284 ?_
                  refine sa_const X.1 dL_walk_285 ?_
                  have c54 := hw.1
                  have hw := hw.2
                  refine sa_iadd X.1 dL_walk_286 ?_
                  have c55 := hw.1
                  have hw := hw.2
                  refine ra_106 X hR (okf X.2.2.1 rfl) c55 dL_walk_287 ?_
                  have c56 := hw.1
                  have hw := hw.2
                  refine sa_imul X.1 dL_walk_288 ?_
                  refine sa_const X.1 dL_walk_289 ?_
                  have c57 := hw.1
                  have hw := hw.2
                  refine sa_iadd X.1 dL_walk_290 ?_
                  have c58 := hw.1
                  have hw := hw.2
                  refine ra_105 X hR (okf X.2.2.1 rfl) c58 dL_walk_291 ?_
                  refine lv_aload_n X.1.1 X.1.2.1 dL_walk_292 rfl (lv_at hl 3 rfl) ?_
                  refine sa_const X.1 dL_walk_293 ?_
                  refine lv_iload X.1.1 X.1.2.1 dL_walk_294 (lv_at hl 1 rfl) ?_
                  have c59 := hw.1
                  have hw := hw.2
                  refine sa_imul X.1 dL_walk_296 ?_
                  refine sa_const X.1 dL_walk_297 ?_
                  have c60 := hw.1
                  have hw := hw.2
                  refine sa_iadd X.1 dL_walk_298 ?_
                  have c61 := hw.1
                  have hw := hw.2
                  refine ra_105 X hR (okf X.2.2.1 rfl) c61 dL_walk_299 ?_
                  refine cut_j (A := ∀ v62 : Int, v62 = (if (M 105 0 ((3 * (M 106 0 ((Int.tdiv y17 2) + 1))) + 1)) = (M 105 0 ((3 * (if (2 * (M 112 0 1)) ≤ y17 then ((-1) : Int) else (M 106 0 (Int.tdiv y17 2)))) + 1)) then (0 : Int) else 1) → WV p l e 2 s m args below meth c G e0 α κ B Qm H locs 308 ls [.int (Int32.ofInt v62)]) (fun J63 => ?_) ?_
                  · refine sa_icmp_eq (tgt := 307) X.1 (hR.r 105 0 ((3 * (M 106 0 ((Int.tdiv y17 2) + 1))) + 1)) (hR.r 105 0 ((3 * (if (2 * (M 112 0 1)) ≤ y17 then ((-1) : Int) else (M 106 0 (Int.tdiv y17 2)))) + 1)) dL_walk_300 (by decide) (fun hc => ?_) (fun hc => ?_)
                    · skip
                      refine sa_const X.1 dL_walk_307 ?_
                      exact J63 (0) (if_pos (c := (M 105 0 ((3 * (M 106 0 ((Int.tdiv y17 2) + 1))) + 1)) = (M 105 0 ((3 * (if (2 * (M 112 0 1)) ≤ y17 then ((-1) : Int) else (M 106 0 (Int.tdiv y17 2)))) + 1))) hc).symm
                    · skip
                      refine sa_const X.1 dL_walk_303 ?_
                      refine lv_goto (tgt := 308) X.1.1 X.1.2.1 dL_walk_304 (by decide) ?_
                      exact J63 (1) (if_neg (c := (M 105 0 ((3 * (M 106 0 ((Int.tdiv y17 2) + 1))) + 1)) = (M 105 0 ((3 * (if (2 * (M 112 0 1)) ≤ y17 then ((-1) : Int) else (M 106 0 (Int.tdiv y17 2)))) + 1))) hc).symm
                  intro v62 hv62
                  subst hv62
                  exact J66 ((if (M 105 0 ((3 * (M 106 0 ((Int.tdiv y17 2) + 1))) + 1)) = (M 105 0 ((3 * (if (2 * (M 112 0 1)) ≤ y17 then ((-1) : Int) else (M 106 0 (Int.tdiv y17 2)))) + 1)) then (0 : Int) else 1)) (if_neg (c := (Int.tdiv y17 2) = y12) hc).symm
              intro v65 hv65
              subst hv65
              exact J69 ((if (Int.tdiv y17 2) = y12 then (1 : Int) else (if (M 105 0 ((3 * (M 106 0 ((Int.tdiv y17 2) + 1))) + 1)) = (M 105 0 ((3 * (if (2 * (M 112 0 1)) ≤ y17 then ((-1) : Int) else (M 106 0 (Int.tdiv y17 2)))) + 1)) then (0 : Int) else 1))) (if_neg (c := (M 105 0 ((3 * (if (2 * (M 112 0 1)) ≤ y17 then ((-1) : Int) else (M 106 0 (Int.tdiv y17 2)))) + 1)) ≤ 0) (Int.not_le.mpr hc)).symm
          intro v68 hv68
          subst hv68
          exact J73 ((if (M 105 0 ((3 * (if (2 * (M 112 0 1)) ≤ y17 then ((-1) : Int) else (M 106 0 (Int.tdiv y17 2)))) + 1)) ≤ 0 then (0 : Int) else (if (Int.tdiv y17 2) = y12 then (1 : Int) else (if (M 105 0 ((3 * (M 106 0 ((Int.tdiv y17 2) + 1))) + 1)) = (M 105 0 ((3 * (if (2 * (M 112 0 1)) ≤ y17 then ((-1) : Int) else (M 106 0 (Int.tdiv y17 2)))) + 1)) then (0 : Int) else 1)))) (if_neg (c := (if (if (2 * (M 112 0 1)) ≤ y17 then ((-1) : Int) else (M 106 0 (Int.tdiv y17 2))) < 0 then (0 : Int) else (if ¬ (M 105 0 (3 * (if (2 * (M 112 0 1)) ≤ y17 then ((-1) : Int) else (M 106 0 (Int.tdiv y17 2))))) = 1 then (0 : Int) else 1)) = 0) hc).symm
      intro v72 hv72
      subst hv72
      refine lv_istore (lv' := [(20, .int (Int32.ofInt (if (if (if (2 * (M 112 0 1)) ≤ y17 then ((-1) : Int) else (M 106 0 (Int.tdiv y17 2))) < 0 then (0 : Int) else (if ¬ (M 105 0 (3 * (if (2 * (M 112 0 1)) ≤ y17 then ((-1) : Int) else (M 106 0 (Int.tdiv y17 2))))) = 1 then (0 : Int) else 1)) = 0 then (0 : Int) else (if (M 105 0 ((3 * (if (2 * (M 112 0 1)) ≤ y17 then ((-1) : Int) else (M 106 0 (Int.tdiv y17 2)))) + 1)) ≤ 0 then (0 : Int) else (if (Int.tdiv y17 2) = y12 then (1 : Int) else (if (M 105 0 ((3 * (M 106 0 ((Int.tdiv y17 2) + 1))) + 1)) = (M 105 0 ((3 * (if (2 * (M 112 0 1)) ≤ y17 then ((-1) : Int) else (M 106 0 (Int.tdiv y17 2)))) + 1)) then (0 : Int) else 1)))))), (19, .int (Int32.ofInt (if (if (2 * (M 112 0 1)) ≤ y17 then ((-1) : Int) else (M 106 0 (Int.tdiv y17 2))) < 0 then (0 : Int) else (if ¬ (M 105 0 (3 * (if (2 * (M 112 0 1)) ≤ y17 then ((-1) : Int) else (M 106 0 (Int.tdiv y17 2))))) = 1 then (0 : Int) else 1)))), (18, .int (Int32.ofInt (if (2 * (M 112 0 1)) ≤ y17 then ((-1) : Int) else (M 106 0 (Int.tdiv y17 2))))), (0, .ref (α 104 0)), (1, .ref (α 105 0)), (2, .ref (α 106 0)), (3, .ref (α 107 0)), (4, .ref (α 112 0)), (5, .ref (α 113 0)), (6, .ref (α 114 0)), (7, .ref (α 115 0)), (8, .ref (α 116 0)), (9, .int (Int32.ofInt y9)), (10, .int (Int32.ofInt y10)), (12, .int (Int32.ofInt y12)), (13, .int (Int32.ofInt y13)), (14, .int (Int32.ofInt y14)), (15, .int (Int32.ofInt y15)), (16, .int (Int32.ofInt y16)), (17, .int (Int32.ofInt y17))]) X.1.1 X.1.2.1 dL_walk_308 hl (by decide) rfl (fun ls hl => ?_)
      refine lv_iload X.1.1 X.1.2.1 dL_walk_310 (lv_at hl 19 rfl) ?_
      refine sa_const X.1 dL_walk_312 ?_
      refine lv_aload X.1.1 X.1.2.1 dL_walk_313 (lv_at hl 7 rfl) ?_
      refine sa_const X.1 dL_walk_315 ?_
      refine ra_112 X hR (okf X.2.2.1 rfl) ⟨by decide, by decide⟩ dL_walk_316 ?_
      have r74 := hR.r 112 0 1
      have c75 := hw.1
      have hw := hw.2
      refine sa_imul X.1 dL_walk_317 ?_
      have s89 := hw.1
      have hw := hw.2
      have s90 := hw.1
      have hw := hw.2
      have r91 := inR_ite (c := (2 * (M 112 0 1)) ≤ y17) (inR_ite (c := ¬ y17 = (2 * (M 112 0 1))) hy16 hy9) (inR_ite (c := ¬ (Int.tmod y17 2) = 0) (inR_ite (c := (if (if (if (2 * (M 112 0 1)) ≤ y17 then ((-1) : Int) else (M 106 0 (Int.tdiv y17 2))) < 0 then (0 : Int) else (if ¬ (M 105 0 (3 * (if (2 * (M 112 0 1)) ≤ y17 then ((-1) : Int) else (M 106 0 (Int.tdiv y17 2))))) = 1 then (0 : Int) else 1)) = 0 then (0 : Int) else (if (M 105 0 ((3 * (if (2 * (M 112 0 1)) ≤ y17 then ((-1) : Int) else (M 106 0 (Int.tdiv y17 2)))) + 1)) ≤ 0 then (0 : Int) else (if (Int.tdiv y17 2) = y12 then (1 : Int) else (if (M 105 0 ((3 * (M 106 0 ((Int.tdiv y17 2) + 1))) + 1)) = (M 105 0 ((3 * (if (2 * (M 112 0 1)) ≤ y17 then ((-1) : Int) else (M 106 0 (Int.tdiv y17 2)))) + 1)) then (0 : Int) else 1)))) = 0) (inR_c (a := 0) rfl) hy9) (inR_ite (c := (if (if (2 * (M 112 0 1)) ≤ y17 then ((-1) : Int) else (M 106 0 (Int.tdiv y17 2))) < 0 then (0 : Int) else (if ¬ (M 105 0 (3 * (if (2 * (M 112 0 1)) ≤ y17 then ((-1) : Int) else (M 106 0 (Int.tdiv y17 2))))) = 1 then (0 : Int) else 1)) = 0) (inR_c (a := 0) rfl) (hR.r 113 0 (20 + (if (2 * (M 112 0 1)) ≤ y17 then ((-1) : Int) else (M 106 0 (Int.tdiv y17 2)))))))
      refine cut_j (A := ∀ v92 : Int, v92 = (if (2 * (M 112 0 1)) ≤ y17 then (if ¬ y17 = (2 * (M 112 0 1)) then y16 else y9) else (if ¬ (Int.tmod y17 2) = 0 then (if (if (if (if (2 * (M 112 0 1)) ≤ y17 then ((-1) : Int) else (M 106 0 (Int.tdiv y17 2))) < 0 then (0 : Int) else (if ¬ (M 105 0 (3 * (if (2 * (M 112 0 1)) ≤ y17 then ((-1) : Int) else (M 106 0 (Int.tdiv y17 2))))) = 1 then (0 : Int) else 1)) = 0 then (0 : Int) else (if (M 105 0 ((3 * (if (2 * (M 112 0 1)) ≤ y17 then ((-1) : Int) else (M 106 0 (Int.tdiv y17 2)))) + 1)) ≤ 0 then (0 : Int) else (if (Int.tdiv y17 2) = y12 then (1 : Int) else (if (M 105 0 ((3 * (M 106 0 ((Int.tdiv y17 2) + 1))) + 1)) = (M 105 0 ((3 * (if (2 * (M 112 0 1)) ≤ y17 then ((-1) : Int) else (M 106 0 (Int.tdiv y17 2)))) + 1)) then (0 : Int) else 1)))) = 0 then (0 : Int) else y9) else (if (if (if (2 * (M 112 0 1)) ≤ y17 then ((-1) : Int) else (M 106 0 (Int.tdiv y17 2))) < 0 then (0 : Int) else (if ¬ (M 105 0 (3 * (if (2 * (M 112 0 1)) ≤ y17 then ((-1) : Int) else (M 106 0 (Int.tdiv y17 2))))) = 1 then (0 : Int) else 1)) = 0 then (0 : Int) else (M 113 0 (20 + (if (2 * (M 112 0 1)) ≤ y17 then ((-1) : Int) else (M 106 0 (Int.tdiv y17 2)))))))) → WV p l e 2 s m args below meth c G e0 α κ B Qm H locs 380 ls [.int (Int32.ofInt v92)]) (fun J93 => ?_) ?_
      · refine sa_icmp_ge (tgt := 362) X.1 hy17 c75 dL_walk_318 (by decide) (fun hc => ?_) (fun hc => ?_)
        · have hw := s89 hc
          refine lv_iload X.1.1 X.1.2.1 dL_walk_362 (lv_at hl 19 rfl) ?_
          refine sa_const X.1 dL_walk_364 ?_
          refine lv_aload X.1.1 X.1.2.1 dL_walk_365 (lv_at hl 7 rfl) ?_
          refine sa_const X.1 dL_walk_367 ?_
          refine ra_112 X hR (okf X.2.2.1 rfl) ⟨by decide, by decide⟩ dL_walk_368 ?_
          have c76 := hw.1
          have hw := hw.2
          refine sa_imul X.1 dL_walk_369 ?_
          refine cut_j (A := ∀ v77 : Int, v77 = (if ¬ y17 = (2 * (M 112 0 1)) then y16 else y9) → WV p l e 2 s m args below meth c G e0 α κ B Qm H locs 380 ls [.int (Int32.ofInt v77)]) (fun J78 => ?_) ?_
          · refine sa_icmp_ne (tgt := 378) X.1 hy17 c76 dL_walk_370 (by decide) (fun hc => ?_) (fun hc => ?_)
            · skip
              refine lv_iload X.1.1 X.1.2.1 dL_walk_378 (lv_at hl 18 rfl) ?_
              exact J78 (y16) (if_pos (c := ¬ y17 = (2 * (M 112 0 1))) hc).symm
            · skip
              refine lv_iload X.1.1 X.1.2.1 dL_walk_373 (lv_at hl 12 rfl) ?_
              refine lv_goto (tgt := 380) X.1.1 X.1.2.1 dL_walk_375 (by decide) ?_
              exact J78 (y9) (if_neg (c := ¬ y17 = (2 * (M 112 0 1))) (fun z => z hc)).symm
          intro v77 hv77
          subst hv77
          exact J93 ((if ¬ y17 = (2 * (M 112 0 1)) then y16 else y9)) (if_pos (c := (2 * (M 112 0 1)) ≤ y17) hc).symm
        · have hw := s90 hc
          refine lv_iload X.1.1 X.1.2.1 dL_walk_321 (lv_at hl 19 rfl) ?_
          refine sa_const X.1 dL_walk_323 ?_
          refine sa_irem X.1 hy17 (inR_c (a := 2) rfl) (Int.ne_of_gt (by decide)) dL_walk_324 ?_
          have s86 := hw.1
          have hw := hw.2
          refine cut_j (A := ∀ v87 : Int, v87 = (if ¬ (Int.tmod y17 2) = 0 then (if (if (if (if (2 * (M 112 0 1)) ≤ y17 then ((-1) : Int) else (M 106 0 (Int.tdiv y17 2))) < 0 then (0 : Int) else (if ¬ (M 105 0 (3 * (if (2 * (M 112 0 1)) ≤ y17 then ((-1) : Int) else (M 106 0 (Int.tdiv y17 2))))) = 1 then (0 : Int) else 1)) = 0 then (0 : Int) else (if (M 105 0 ((3 * (if (2 * (M 112 0 1)) ≤ y17 then ((-1) : Int) else (M 106 0 (Int.tdiv y17 2)))) + 1)) ≤ 0 then (0 : Int) else (if (Int.tdiv y17 2) = y12 then (1 : Int) else (if (M 105 0 ((3 * (M 106 0 ((Int.tdiv y17 2) + 1))) + 1)) = (M 105 0 ((3 * (if (2 * (M 112 0 1)) ≤ y17 then ((-1) : Int) else (M 106 0 (Int.tdiv y17 2)))) + 1)) then (0 : Int) else 1)))) = 0 then (0 : Int) else y9) else (if (if (if (2 * (M 112 0 1)) ≤ y17 then ((-1) : Int) else (M 106 0 (Int.tdiv y17 2))) < 0 then (0 : Int) else (if ¬ (M 105 0 (3 * (if (2 * (M 112 0 1)) ≤ y17 then ((-1) : Int) else (M 106 0 (Int.tdiv y17 2))))) = 1 then (0 : Int) else 1)) = 0 then (0 : Int) else (M 113 0 (20 + (if (2 * (M 112 0 1)) ≤ y17 then ((-1) : Int) else (M 106 0 (Int.tdiv y17 2))))))) → WV p l e 2 s m args below meth c G e0 α κ B Qm H locs 380 ls [.int (Int32.ofInt v87)]) (fun J88 => ?_) ?_
          · refine sa_if_ne (tgt := 348) X.1 (inR_tmod hy17 (inR_c (a := 2) rfl) (by decide)) dL_walk_325 (by decide) (fun hc => ?_) (fun hc => ?_)
            · skip
              refine lv_iload X.1.1 X.1.2.1 dL_walk_348 (lv_at hl 0 rfl) ?_
              refine cut_j (A := ∀ v79 : Int, v79 = (if (if (if (if (2 * (M 112 0 1)) ≤ y17 then ((-1) : Int) else (M 106 0 (Int.tdiv y17 2))) < 0 then (0 : Int) else (if ¬ (M 105 0 (3 * (if (2 * (M 112 0 1)) ≤ y17 then ((-1) : Int) else (M 106 0 (Int.tdiv y17 2))))) = 1 then (0 : Int) else 1)) = 0 then (0 : Int) else (if (M 105 0 ((3 * (if (2 * (M 112 0 1)) ≤ y17 then ((-1) : Int) else (M 106 0 (Int.tdiv y17 2)))) + 1)) ≤ 0 then (0 : Int) else (if (Int.tdiv y17 2) = y12 then (1 : Int) else (if (M 105 0 ((3 * (M 106 0 ((Int.tdiv y17 2) + 1))) + 1)) = (M 105 0 ((3 * (if (2 * (M 112 0 1)) ≤ y17 then ((-1) : Int) else (M 106 0 (Int.tdiv y17 2)))) + 1)) then (0 : Int) else 1)))) = 0 then (0 : Int) else y9) → WV p l e 2 s m args below meth c G e0 α κ B Qm H locs 380 ls [.int (Int32.ofInt v79)]) (fun J80 => ?_) ?_
              · refine sa_if_eq (tgt := 358) X.1 r71 dL_walk_350 (by decide) (fun hc => ?_) (fun hc => ?_)
                · skip
                  refine sa_const X.1 dL_walk_358 ?_
                  refine lv_goto (tgt := 380) X.1.1 X.1.2.1 dL_walk_359 (by decide) ?_
                  exact J80 (0) (if_pos (c := (if (if (if (2 * (M 112 0 1)) ≤ y17 then ((-1) : Int) else (M 106 0 (Int.tdiv y17 2))) < 0 then (0 : Int) else (if ¬ (M 105 0 (3 * (if (2 * (M 112 0 1)) ≤ y17 then ((-1) : Int) else (M 106 0 (Int.tdiv y17 2))))) = 1 then (0 : Int) else 1)) = 0 then (0 : Int) else (if (M 105 0 ((3 * (if (2 * (M 112 0 1)) ≤ y17 then ((-1) : Int) else (M 106 0 (Int.tdiv y17 2)))) + 1)) ≤ 0 then (0 : Int) else (if (Int.tdiv y17 2) = y12 then (1 : Int) else (if (M 105 0 ((3 * (M 106 0 ((Int.tdiv y17 2) + 1))) + 1)) = (M 105 0 ((3 * (if (2 * (M 112 0 1)) ≤ y17 then ((-1) : Int) else (M 106 0 (Int.tdiv y17 2)))) + 1)) then (0 : Int) else 1)))) = 0) hc).symm
                · skip
                  refine lv_iload X.1.1 X.1.2.1 dL_walk_353 (lv_at hl 12 rfl) ?_
                  refine lv_goto (tgt := 380) X.1.1 X.1.2.1 dL_walk_355 (by decide) ?_
                  exact J80 (y9) (if_neg (c := (if (if (if (2 * (M 112 0 1)) ≤ y17 then ((-1) : Int) else (M 106 0 (Int.tdiv y17 2))) < 0 then (0 : Int) else (if ¬ (M 105 0 (3 * (if (2 * (M 112 0 1)) ≤ y17 then ((-1) : Int) else (M 106 0 (Int.tdiv y17 2))))) = 1 then (0 : Int) else 1)) = 0 then (0 : Int) else (if (M 105 0 ((3 * (if (2 * (M 112 0 1)) ≤ y17 then ((-1) : Int) else (M 106 0 (Int.tdiv y17 2)))) + 1)) ≤ 0 then (0 : Int) else (if (Int.tdiv y17 2) = y12 then (1 : Int) else (if (M 105 0 ((3 * (M 106 0 ((Int.tdiv y17 2) + 1))) + 1)) = (M 105 0 ((3 * (if (2 * (M 112 0 1)) ≤ y17 then ((-1) : Int) else (M 106 0 (Int.tdiv y17 2)))) + 1)) then (0 : Int) else 1)))) = 0) hc).symm
              intro v79 hv79
              subst hv79
              exact J88 ((if (if (if (if (2 * (M 112 0 1)) ≤ y17 then ((-1) : Int) else (M 106 0 (Int.tdiv y17 2))) < 0 then (0 : Int) else (if ¬ (M 105 0 (3 * (if (2 * (M 112 0 1)) ≤ y17 then ((-1) : Int) else (M 106 0 (Int.tdiv y17 2))))) = 1 then (0 : Int) else 1)) = 0 then (0 : Int) else (if (M 105 0 ((3 * (if (2 * (M 112 0 1)) ≤ y17 then ((-1) : Int) else (M 106 0 (Int.tdiv y17 2)))) + 1)) ≤ 0 then (0 : Int) else (if (Int.tdiv y17 2) = y12 then (1 : Int) else (if (M 105 0 ((3 * (M 106 0 ((Int.tdiv y17 2) + 1))) + 1)) = (M 105 0 ((3 * (if (2 * (M 112 0 1)) ≤ y17 then ((-1) : Int) else (M 106 0 (Int.tdiv y17 2)))) + 1)) then (0 : Int) else 1)))) = 0 then (0 : Int) else y9)) (if_pos (c := ¬ (Int.tmod y17 2) = 0) hc).symm
            · have hw := s86 hc
              refine lv_iload X.1.1 X.1.2.1 dL_walk_328 (lv_at hl 1 rfl) ?_
              have s83 := hw.1
              have hw := hw.2
              refine cut_j (A := ∀ v84 : Int, v84 = (if (if (if (2 * (M 112 0 1)) ≤ y17 then ((-1) : Int) else (M 106 0 (Int.tdiv y17 2))) < 0 then (0 : Int) else (if ¬ (M 105 0 (3 * (if (2 * (M 112 0 1)) ≤ y17 then ((-1) : Int) else (M 106 0 (Int.tdiv y17 2))))) = 1 then (0 : Int) else 1)) = 0 then (0 : Int) else (M 113 0 (20 + (if (2 * (M 112 0 1)) ≤ y17 then ((-1) : Int) else (M 106 0 (Int.tdiv y17 2)))))) → WV p l e 2 s m args below meth c G e0 α κ B Qm H locs 380 ls [.int (Int32.ofInt v84)]) (fun J85 => ?_) ?_
              · refine sa_if_eq (tgt := 344) X.1 r48 dL_walk_330 (by decide) (fun hc => ?_) (fun hc => ?_)
                · skip
                  refine sa_const X.1 dL_walk_344 ?_
                  refine lv_goto (tgt := 380) X.1.1 X.1.2.1 dL_walk_345 (by decide) ?_
                  exact J85 (0) (if_pos (c := (if (if (2 * (M 112 0 1)) ≤ y17 then ((-1) : Int) else (M 106 0 (Int.tdiv y17 2))) < 0 then (0 : Int) else (if ¬ (M 105 0 (3 * (if (2 * (M 112 0 1)) ≤ y17 then ((-1) : Int) else (M 106 0 (Int.tdiv y17 2))))) = 1 then (0 : Int) else 1)) = 0) hc).symm
                · have hw := s83 hc
                  refine lv_aload X.1.1 X.1.2.1 dL_walk_333 (lv_at hl 8 rfl) ?_
                  refine sa_bipush X.1 dL_walk_335 (by decide) ?_
                  refine lv_iload X.1.1 X.1.2.1 dL_walk_337 (lv_at hl 2 rfl) ?_
                  have c81 := hw.1
                  have hw := hw.2
                  refine sa_iadd X.1 dL_walk_339 ?_
                  have c82 := hw.1
                  have hw := hw.2
                  refine ra_113 X hR (okf X.2.2.1 rfl) c82 dL_walk_340 ?_
                  refine lv_goto (tgt := 380) X.1.1 X.1.2.1 dL_walk_341 (by decide) ?_
                  exact J85 ((M 113 0 (20 + (if (2 * (M 112 0 1)) ≤ y17 then ((-1) : Int) else (M 106 0 (Int.tdiv y17 2)))))) (if_neg (c := (if (if (2 * (M 112 0 1)) ≤ y17 then ((-1) : Int) else (M 106 0 (Int.tdiv y17 2))) < 0 then (0 : Int) else (if ¬ (M 105 0 (3 * (if (2 * (M 112 0 1)) ≤ y17 then ((-1) : Int) else (M 106 0 (Int.tdiv y17 2))))) = 1 then (0 : Int) else 1)) = 0) hc).symm
              intro v84 hv84
              subst hv84
              exact J88 ((if (if (if (2 * (M 112 0 1)) ≤ y17 then ((-1) : Int) else (M 106 0 (Int.tdiv y17 2))) < 0 then (0 : Int) else (if ¬ (M 105 0 (3 * (if (2 * (M 112 0 1)) ≤ y17 then ((-1) : Int) else (M 106 0 (Int.tdiv y17 2))))) = 1 then (0 : Int) else 1)) = 0 then (0 : Int) else (M 113 0 (20 + (if (2 * (M 112 0 1)) ≤ y17 then ((-1) : Int) else (M 106 0 (Int.tdiv y17 2))))))) (if_neg (c := ¬ (Int.tmod y17 2) = 0) (fun z => z hc)).symm
          intro v87 hv87
          subst hv87
          exact J93 ((if ¬ (Int.tmod y17 2) = 0 then (if (if (if (if (2 * (M 112 0 1)) ≤ y17 then ((-1) : Int) else (M 106 0 (Int.tdiv y17 2))) < 0 then (0 : Int) else (if ¬ (M 105 0 (3 * (if (2 * (M 112 0 1)) ≤ y17 then ((-1) : Int) else (M 106 0 (Int.tdiv y17 2))))) = 1 then (0 : Int) else 1)) = 0 then (0 : Int) else (if (M 105 0 ((3 * (if (2 * (M 112 0 1)) ≤ y17 then ((-1) : Int) else (M 106 0 (Int.tdiv y17 2)))) + 1)) ≤ 0 then (0 : Int) else (if (Int.tdiv y17 2) = y12 then (1 : Int) else (if (M 105 0 ((3 * (M 106 0 ((Int.tdiv y17 2) + 1))) + 1)) = (M 105 0 ((3 * (if (2 * (M 112 0 1)) ≤ y17 then ((-1) : Int) else (M 106 0 (Int.tdiv y17 2)))) + 1)) then (0 : Int) else 1)))) = 0 then (0 : Int) else y9) else (if (if (if (2 * (M 112 0 1)) ≤ y17 then ((-1) : Int) else (M 106 0 (Int.tdiv y17 2))) < 0 then (0 : Int) else (if ¬ (M 105 0 (3 * (if (2 * (M 112 0 1)) ≤ y17 then ((-1) : Int) else (M 106 0 (Int.tdiv y17 2))))) = 1 then (0 : Int) else 1)) = 0 then (0 : Int) else (M 113 0 (20 + (if (2 * (M 112 0 1)) ≤ y17 then ((-1) : Int) else (M 106 0 (Int.tdiv y17 2)))))))) (if_neg (c := (2 * (M 112 0 1)) ≤ y17) (Int.not_le.mpr hc)).symm
      intro v92 hv92
      subst hv92
      refine lv_istore (lv' := [(21, .int (Int32.ofInt (if (2 * (M 112 0 1)) ≤ y17 then (if ¬ y17 = (2 * (M 112 0 1)) then y16 else y9) else (if ¬ (Int.tmod y17 2) = 0 then (if (if (if (if (2 * (M 112 0 1)) ≤ y17 then ((-1) : Int) else (M 106 0 (Int.tdiv y17 2))) < 0 then (0 : Int) else (if ¬ (M 105 0 (3 * (if (2 * (M 112 0 1)) ≤ y17 then ((-1) : Int) else (M 106 0 (Int.tdiv y17 2))))) = 1 then (0 : Int) else 1)) = 0 then (0 : Int) else (if (M 105 0 ((3 * (if (2 * (M 112 0 1)) ≤ y17 then ((-1) : Int) else (M 106 0 (Int.tdiv y17 2)))) + 1)) ≤ 0 then (0 : Int) else (if (Int.tdiv y17 2) = y12 then (1 : Int) else (if (M 105 0 ((3 * (M 106 0 ((Int.tdiv y17 2) + 1))) + 1)) = (M 105 0 ((3 * (if (2 * (M 112 0 1)) ≤ y17 then ((-1) : Int) else (M 106 0 (Int.tdiv y17 2)))) + 1)) then (0 : Int) else 1)))) = 0 then (0 : Int) else y9) else (if (if (if (2 * (M 112 0 1)) ≤ y17 then ((-1) : Int) else (M 106 0 (Int.tdiv y17 2))) < 0 then (0 : Int) else (if ¬ (M 105 0 (3 * (if (2 * (M 112 0 1)) ≤ y17 then ((-1) : Int) else (M 106 0 (Int.tdiv y17 2))))) = 1 then (0 : Int) else 1)) = 0 then (0 : Int) else (M 113 0 (20 + (if (2 * (M 112 0 1)) ≤ y17 then ((-1) : Int) else (M 106 0 (Int.tdiv y17 2)))))))))), (20, .int (Int32.ofInt (if (if (if (2 * (M 112 0 1)) ≤ y17 then ((-1) : Int) else (M 106 0 (Int.tdiv y17 2))) < 0 then (0 : Int) else (if ¬ (M 105 0 (3 * (if (2 * (M 112 0 1)) ≤ y17 then ((-1) : Int) else (M 106 0 (Int.tdiv y17 2))))) = 1 then (0 : Int) else 1)) = 0 then (0 : Int) else (if (M 105 0 ((3 * (if (2 * (M 112 0 1)) ≤ y17 then ((-1) : Int) else (M 106 0 (Int.tdiv y17 2)))) + 1)) ≤ 0 then (0 : Int) else (if (Int.tdiv y17 2) = y12 then (1 : Int) else (if (M 105 0 ((3 * (M 106 0 ((Int.tdiv y17 2) + 1))) + 1)) = (M 105 0 ((3 * (if (2 * (M 112 0 1)) ≤ y17 then ((-1) : Int) else (M 106 0 (Int.tdiv y17 2)))) + 1)) then (0 : Int) else 1)))))), (19, .int (Int32.ofInt (if (if (2 * (M 112 0 1)) ≤ y17 then ((-1) : Int) else (M 106 0 (Int.tdiv y17 2))) < 0 then (0 : Int) else (if ¬ (M 105 0 (3 * (if (2 * (M 112 0 1)) ≤ y17 then ((-1) : Int) else (M 106 0 (Int.tdiv y17 2))))) = 1 then (0 : Int) else 1)))), (18, .int (Int32.ofInt (if (2 * (M 112 0 1)) ≤ y17 then ((-1) : Int) else (M 106 0 (Int.tdiv y17 2))))), (0, .ref (α 104 0)), (1, .ref (α 105 0)), (2, .ref (α 106 0)), (3, .ref (α 107 0)), (4, .ref (α 112 0)), (5, .ref (α 113 0)), (6, .ref (α 114 0)), (7, .ref (α 115 0)), (8, .ref (α 116 0)), (9, .int (Int32.ofInt y9)), (10, .int (Int32.ofInt y10)), (12, .int (Int32.ofInt y12)), (13, .int (Int32.ofInt y13)), (14, .int (Int32.ofInt y14)), (15, .int (Int32.ofInt y15)), (16, .int (Int32.ofInt y16)), (17, .int (Int32.ofInt y17))]) X.1.1 X.1.2.1 dL_walk_380 hl (by decide) rfl (fun ls hl => ?_)
      refine lv_iload X.1.1 X.1.2.1 dL_walk_382 (lv_at hl 20 rfl) ?_
      refine sa_const X.1 dL_walk_384 ?_
      refine lv_aload X.1.1 X.1.2.1 dL_walk_385 (lv_at hl 8 rfl) ?_
      refine sa_const X.1 dL_walk_387 ?_
      refine ra_112 X hR (okf X.2.2.1 rfl) ⟨by decide, by decide⟩ dL_walk_388 ?_
      have r94 := hR.r 112 0 1
      have c95 := hw.1
      have hw := hw.2
      refine sa_imul X.1 dL_walk_389 ?_
      refine sa_icmp_ge (tgt := 424) X.1 hy17 c95 dL_walk_390 (by decide) (fun hc => ?_) (fun hc => ?_)
      · have hw := hw.1 hc
        exact t_L_walk_424 X ho114 ho115 ho116 ih _ _ _ _ _ _ _ _ _ _ _ _ hw hy9 hy10 hy12 hy13 hy14 hy15 hy16 hy17 r40 r48 r91 _ _ hR hS _ (lv_sub hl [4, 5, 6, 7, 8, 9, 10, 11, 12, 13, 14, 15, 16, 17, 18, 19, 20, 3, 2, 0] rfl)
      · have hw := hw.2 hc
        refine lv_iload X.1.1 X.1.2.1 dL_walk_393 (lv_at hl 20 rfl) ?_
        refine sa_const X.1 dL_walk_395 ?_
        have r232 := inR_tmod hy17 (inR_c (a := 2) rfl) (by decide)
        refine sa_irem X.1 hy17 (inR_c (a := 2) rfl) (Int.ne_of_gt (by decide)) dL_walk_396 ?_
        refine sa_if_ne (tgt := 424) X.1 r232 dL_walk_397 (by decide) (fun hc => ?_) (fun hc => ?_)
        · have hw := hw.1 hc
          exact t_L_walk_424 X ho114 ho115 ho116 ih _ _ _ _ _ _ _ _ _ _ _ _ hw hy9 hy10 hy12 hy13 hy14 hy15 hy16 hy17 r40 r48 r91 _ _ hR hS _ (lv_sub hl [4, 5, 6, 7, 8, 9, 10, 11, 12, 13, 14, 15, 16, 17, 18, 19, 20, 3, 2, 0] rfl)
        · have hw := hw.2 hc
          refine lv_iload X.1.1 X.1.2.1 dL_walk_400 (lv_at hl 2 rfl) ?_
          refine sa_if_eq (tgt := 424) X.1 r48 dL_walk_402 (by decide) (fun hc => ?_) (fun hc => ?_)
          · have hw := hw.1 hc
            exact t_L_walk_424 X ho114 ho115 ho116 ih _ _ _ _ _ _ _ _ _ _ _ _ hw hy9 hy10 hy12 hy13 hy14 hy15 hy16 hy17 r40 r48 r91 _ _ hR hS _ (lv_sub hl [4, 5, 6, 7, 8, 9, 10, 11, 12, 13, 14, 15, 16, 17, 18, 19, 20, 3, 2, 0] rfl)
          · have hw := hw.2 hc
            refine lv_aload X.1.1 X.1.2.1 dL_walk_405 (lv_at hl 8 rfl) ?_
            refine sa_const X.1 dL_walk_407 ?_
            refine ra_112 X hR (okf X.2.2.1 rfl) ⟨by decide, by decide⟩ dL_walk_408 ?_
            have r233 := hR.r 112 0 5
            refine sa_if_ne (tgt := 424) X.1 r233 dL_walk_409 (by decide) (fun hc => ?_) (fun hc => ?_)
            · have hw := hw.1 hc
              exact t_L_walk_424 X ho114 ho115 ho116 ih _ _ _ _ _ _ _ _ _ _ _ _ hw hy9 hy10 hy12 hy13 hy14 hy15 hy16 hy17 r40 r48 r91 _ _ hR hS _ (lv_sub hl [4, 5, 6, 7, 8, 9, 10, 11, 12, 13, 14, 15, 16, 17, 18, 19, 20, 3, 2, 0] rfl)
            · have hw := hw.2 hc
              refine lv_aload_n X.1.1 X.1.2.1 dL_walk_412 rfl (lv_at hl 4 rfl) ?_
              refine lv_aload_n X.1.1 X.1.2.1 dL_walk_413 rfl (lv_at hl 7 rfl) ?_
              refine lv_aload X.1.1 X.1.2.1 dL_walk_414 (lv_at hl 8 rfl) ?_
              refine lv_iload X.1.1 X.1.2.1 dL_walk_416 (lv_at hl 3 rfl) ?_
              refine cs_L_noteLines X r40 (kc := 2) rmL_ok rm_c (by decide) hR hS kw_1333 hl.1 dL_walk_418 (Nat.le_of_ble_eq_true rfl) hw (fun x235 M234 H locs hw r236 hR hS => ?_)
              refine lv_goto (tgt := 425) X.1.1 X.1.2.1 dL_walk_421 (by decide) ?_
              exact t_L_walk_425 X ho114 ho115 ho116 ih _ _ _ _ _ _ _ _ _ _ _ _ _ hw hy9 hy10 hy12 hy13 hy14 hy15 hy16 hy17 r40 r48 r91 r236 _ _ hR hS _ (lv_sub hl [4, 5, 6, 7, 8, 9, 10, 11, 12, 13, 14, 15, 16, 17, 18, 19, 20, 3, 2, 0] rfl)
set_option maxHeartbeats 4000000 in
set_option maxRecDepth 100000 in
theorem t_L_walk_190 (X : CX p m c cL_walk 27 s args RL G B κ meth none) (ho114 : okk κ 114 0) (ho115 : okk κ 115 0) (ho116 : okk κ 116 0) {Qm : Mem → Prop} : ∀ y9 : Int, ∀ y10 : Int, ∀ y12 : Int, ∀ y13 : Int, ∀ y14 : Int, ∀ y15 : Int, ∀ z0 : Int, ∀ M : Mem, wp_L_walk_190 Qm y9 y10 y12 y13 y14 y15 z0 M → inR y9 → inR y10 → inR y12 → inR y13 → inR y14 → inR y15 → inR z0 → ∀ (H : Heap) (locs : List Loc), Rp G e0 α κ B M H → va_S (fun q => B ≤ q) s.heap H locs → ∀ (ls : Array Slot), lv_has ls 27 [(0, .ref (α 104 0)), (1, .ref (α 105 0)), (2, .ref (α 106 0)), (3, .ref (α 107 0)), (4, .ref (α 112 0)), (5, .ref (α 113 0)), (6, .ref (α 114 0)), (7, .ref (α 115 0)), (8, .ref (α 116 0)), (9, .int (Int32.ofInt y9)), (10, .int (Int32.ofInt y10)), (12, .int (Int32.ofInt y12)), (13, .int (Int32.ofInt y13)), (14, .int (Int32.ofInt y14)), (15, .int (Int32.ofInt y15))] → WV p l e 2 s m args below meth c G e0 α κ B Qm H locs 190 ls [.int (Int32.ofInt z0)] := by
  intro y9 y10 y12 y13 y14 y15 z0 M hw hy9 hy10 hy12 hy13 hy14 hy15 hz0 H locs hR hS ls hl
  have hw : (∃ n237 : Nat, wp_L_walk_195 Qm n237 y9 y10 y12 y13 y14 y15 z0 0 M) := hw
  refine lv_istore (lv' := [(16, .int (Int32.ofInt z0)), (0, .ref (α 104 0)), (1, .ref (α 105 0)), (2, .ref (α 106 0)), (3, .ref (α 107 0)), (4, .ref (α 112 0)), (5, .ref (α 113 0)), (6, .ref (α 114 0)), (7, .ref (α 115 0)), (8, .ref (α 116 0)), (9, .int (Int32.ofInt y9)), (10, .int (Int32.ofInt y10)), (12, .int (Int32.ofInt y12)), (13, .int (Int32.ofInt y13)), (14, .int (Int32.ofInt y14)), (15, .int (Int32.ofInt y15))]) X.1.1 X.1.2.1 dL_walk_190 hl (by decide) rfl (fun ls hl => ?_)
  refine sa_const X.1 dL_walk_192 ?_
  refine lv_istore (lv' := [(17, .int (Int32.ofInt 0)), (16, .int (Int32.ofInt z0)), (0, .ref (α 104 0)), (1, .ref (α 105 0)), (2, .ref (α 106 0)), (3, .ref (α 107 0)), (4, .ref (α 112 0)), (5, .ref (α 113 0)), (6, .ref (α 114 0)), (7, .ref (α 115 0)), (8, .ref (α 116 0)), (9, .int (Int32.ofInt y9)), (10, .int (Int32.ofInt y10)), (12, .int (Int32.ofInt y12)), (13, .int (Int32.ofInt y13)), (14, .int (Int32.ofInt y14)), (15, .int (Int32.ofInt y15))]) X.1.1 X.1.2.1 dL_walk_193 hl (by decide) rfl (fun ls hl => ?_)
  obtain ⟨n237, hw⟩ := hw
  exact t_L_walk_195 X ho114 ho115 ho116 n237 _ _ _ _ _ _ _ _ _ hw hy9 hy10 hy12 hy13 hy14 hy15 hz0 (inR_c (a := 0) rfl) _ _ hR hS _ (lv_sub hl [2, 3, 4, 5, 6, 7, 8, 9, 10, 11, 12, 13, 14, 15, 16, 1, 0] rfl)
set_option maxHeartbeats 4000000 in
set_option maxRecDepth 100000 in
theorem t_L_walk_72 (X : CX p m c cL_walk 27 s args RL G B κ meth none) (ho114 : okk κ 114 0) (ho115 : okk κ 115 0) (ho116 : okk κ 116 0) {Qm : Mem → Prop} : ∀ n : Nat, ∀ y9 : Int, ∀ y10 : Int, ∀ y11 : Int, ∀ y12 : Int, ∀ y13 : Int, ∀ M : Mem, wp_L_walk_72 Qm n y9 y10 y11 y12 y13 M → inR y9 → inR y10 → inR y11 → inR y12 → inR y13 → ∀ (H : Heap) (locs : List Loc), Rp G e0 α κ B M H → va_S (fun q => B ≤ q) s.heap H locs → ∀ (ls : Array Slot), lv_has ls 27 [(0, .ref (α 104 0)), (1, .ref (α 105 0)), (2, .ref (α 106 0)), (3, .ref (α 107 0)), (4, .ref (α 112 0)), (5, .ref (α 113 0)), (6, .ref (α 114 0)), (7, .ref (α 115 0)), (8, .ref (α 116 0)), (9, .int (Int32.ofInt y9)), (10, .int (Int32.ofInt y10)), (11, .int (Int32.ofInt y11)), (12, .int (Int32.ofInt y12)), (13, .int (Int32.ofInt y13))] → WV p l e 2 s m args below meth c G e0 α κ B Qm H locs 72 ls [] := by
  intro n
  induction n with
  | zero =>
    intro y9 y10 y11 y12 y13 M hw hy9 hy10 hy11 hy12 hy13 H locs hR hS ls hl
    exact hw.elim
  | succ n ih =>
    intro y9 y10 y11 y12 y13 M hw hy9 hy10 hy11 hy12 hy13 H locs hR hS ls hl
    have hw : (((M 112 0 1) ≤ y13 → (inR ((M 112 0 4) - y10)) ∧ ((¬ (M 112 0 5) = 1 → wp_L_walk_190 Qm y9 y10 y12 0 ((M 112 0 4) - y10) 1 0 M) ∧ ((M 112 0 5) = 1 → wp_L_noteLines (-1) M fun (x239 : Int) (M238 : Mem) => wp_L_walk_190 Qm y9 y10 y12 0 ((M 112 0 4) - y10) 1 x239 M238))) ∧ (y13 < (M 112 0 1) → (inR (3 * y13)) ∧ (0 ≤ (3 * y13) ∧ (3 * y13) < 30) ∧ (¬ (M 105 0 (3 * y13)) = 1 → (inR (20 + y13)) ∧ (0 ≤ (20 + y13) ∧ (20 + y13) < 30) ∧ True) ∧ (inR (y10 + (if ¬ (M 105 0 (3 * y13)) = 1 then (M 113 0 (20 + y13)) else 0))) ∧ (inR (3 * y13)) ∧ (0 ≤ (3 * y13) ∧ (3 * y13) < 30) ∧ (inR (y11 + (if ¬ (M 105 0 (3 * y13)) = 1 then (0 : Int) else 1))) ∧ (0 ≤ y13 ∧ y13 < 10) ∧ (inR (3 * (M 106 0 y13))) ∧ (0 ≤ (3 * (M 106 0 y13)) ∧ (3 * (M 106 0 y13)) < 30) ∧ (inR (y13 + 1)) ∧ wp_L_walk_72 Qm n y9 (y10 + (if ¬ (M 105 0 (3 * y13)) = 1 then (M 113 0 (20 + y13)) else 0)) (y11 + (if ¬ (M 105 0 (3 * y13)) = 1 then (0 : Int) else 1)) (if ¬ (M 105 0 (3 * (M 106 0 y13))) = 1 then y12 else y13) (y13 + 1) M)) := hw
    refine lv_iload X.1.1 X.1.2.1 dL_walk_72 (lv_at hl 13 rfl) ?_
    refine lv_aload X.1.1 X.1.2.1 dL_walk_74 (lv_at hl 4 rfl) ?_
    refine sa_const X.1 dL_walk_76 ?_
    refine ra_112 X hR (okf X.2.2.1 rfl) ⟨by decide, by decide⟩ dL_walk_77 ?_
    have r7 := hR.r 112 0 1
    refine sa_icmp_ge (tgt := 155) X.1 hy13 r7 dL_walk_78 (by decide) (fun hc => ?_) (fun hc => ?_)
    · have hw := hw.1 hc
      refine sa_const X.1 dL_walk_155 ?_
      refine lv_istore (lv' := [(13, .int (Int32.ofInt 0)), (0, .ref (α 104 0)), (1, .ref (α 105 0)), (2, .ref (α 106 0)), (3, .ref (α 107 0)), (4, .ref (α 112 0)), (5, .ref (α 113 0)), (6, .ref (α 114 0)), (7, .ref (α 115 0)), (8, .ref (α 116 0)), (9, .int (Int32.ofInt y9)), (10, .int (Int32.ofInt y10)), (11, .int (Int32.ofInt y11)), (12, .int (Int32.ofInt y12))]) X.1.1 X.1.2.1 dL_walk_156 hl (by decide) rfl (fun ls hl => ?_)
      refine lv_aload X.1.1 X.1.2.1 dL_walk_158 (lv_at hl 5 rfl) ?_
      refine sa_const X.1 dL_walk_160 ?_
      refine ra_112 X hR (okf X.2.2.1 rfl) ⟨by decide, by decide⟩ dL_walk_161 ?_
      have r8 := hR.r 112 0 4
      refine lv_iload X.1.1 X.1.2.1 dL_walk_162 (lv_at hl 11 rfl) ?_
      have c9 := hw.1
      have hw := hw.2
      refine sa_isub X.1 dL_walk_164 ?_
      refine lv_istore (lv' := [(14, .int (Int32.ofInt ((M 112 0 4) - y10))), (13, .int (Int32.ofInt 0)), (0, .ref (α 104 0)), (1, .ref (α 105 0)), (2, .ref (α 106 0)), (3, .ref (α 107 0)), (4, .ref (α 112 0)), (5, .ref (α 113 0)), (6, .ref (α 114 0)), (7, .ref (α 115 0)), (8, .ref (α 116 0)), (9, .int (Int32.ofInt y9)), (10, .int (Int32.ofInt y10)), (11, .int (Int32.ofInt y11)), (12, .int (Int32.ofInt y12))]) X.1.1 X.1.2.1 dL_walk_165 hl (by decide) rfl (fun ls hl => ?_)
      refine sa_const X.1 dL_walk_167 ?_
      refine lv_istore (lv' := [(15, .int (Int32.ofInt 1)), (14, .int (Int32.ofInt ((M 112 0 4) - y10))), (13, .int (Int32.ofInt 0)), (0, .ref (α 104 0)), (1, .ref (α 105 0)), (2, .ref (α 106 0)), (3, .ref (α 107 0)), (4, .ref (α 112 0)), (5, .ref (α 113 0)), (6, .ref (α 114 0)), (7, .ref (α 115 0)), (8, .ref (α 116 0)), (9, .int (Int32.ofInt y9)), (10, .int (Int32.ofInt y10)), (11, .int (Int32.ofInt y11)), (12, .int (Int32.ofInt y12))]) X.1.1 X.1.2.1 dL_walk_168 hl (by decide) rfl (fun ls hl => ?_)
      refine lv_aload X.1.1 X.1.2.1 dL_walk_170 (lv_at hl 7 rfl) ?_
      refine sa_const X.1 dL_walk_172 ?_
      refine ra_112 X hR (okf X.2.2.1 rfl) ⟨by decide, by decide⟩ dL_walk_173 ?_
      have r10 := hR.r 112 0 5
      refine sa_const X.1 dL_walk_174 ?_
      refine sa_icmp_ne (tgt := 189) X.1 r10 (inR_c (a := 1) rfl) dL_walk_175 (by decide) (fun hc => ?_) (fun hc => ?_)
      · have hw := hw.1 hc
        refine sa_const X.1 dL_walk_189 ?_
        exact t_L_walk_190 X ho114 ho115 ho116 _ _ _ _ _ _ _ _ hw hy9 hy10 hy12 (inR_c (a := 0) rfl) c9 (inR_c (a := 1) rfl) (inR_c (a := 0) rfl) _ _ hR hS _ (lv_sub hl [3, 4, 5, 6, 7, 8, 9, 10, 11, 12, 13, 15, 2, 1, 0] rfl)
      · have hw := hw.2 hc
        refine lv_aload_n X.1.1 X.1.2.1 dL_walk_178 rfl (lv_at hl 3 rfl) ?_
        refine lv_aload_n X.1.1 X.1.2.1 dL_walk_179 rfl (lv_at hl 6 rfl) ?_
        refine lv_aload X.1.1 X.1.2.1 dL_walk_180 (lv_at hl 7 rfl) ?_
        refine sa_const X.1 dL_walk_182 ?_
        refine cs_L_noteLines X (inR_c (a := -1) rfl) (kc := 2) rmL_ok rm_c (by decide) hR hS kw_1333 hl.1 dL_walk_183 (Nat.le_of_ble_eq_true rfl) hw (fun x239 M238 H locs hw r240 hR hS => ?_)
        refine lv_goto (tgt := 190) X.1.1 X.1.2.1 dL_walk_186 (by decide) ?_
        exact t_L_walk_190 X ho114 ho115 ho116 _ _ _ _ _ _ _ _ hw hy9 hy10 hy12 (inR_c (a := 0) rfl) c9 (inR_c (a := 1) rfl) r240 _ _ hR hS _ (lv_sub hl [3, 4, 5, 6, 7, 8, 9, 10, 11, 12, 13, 15, 2, 1, 0] rfl)
    · have hw := hw.2 hc
      refine lv_iload X.1.1 X.1.2.1 dL_walk_81 (lv_at hl 10 rfl) ?_
      refine lv_aload_n X.1.1 X.1.2.1 dL_walk_83 rfl (lv_at hl 1 rfl) ?_
      refine sa_const X.1 dL_walk_84 ?_
      refine lv_iload X.1.1 X.1.2.1 dL_walk_85 (lv_at hl 13 rfl) ?_
      have c241 := hw.1
      have hw := hw.2
      refine sa_imul X.1 dL_walk_87 ?_
      have c242 := hw.1
      have hw := hw.2
      refine ra_105 X hR (okf X.2.2.1 rfl) c242 dL_walk_88 ?_
      have r243 := hR.r 105 0 (3 * y13)
      refine sa_const X.1 dL_walk_89 ?_
      have s246 := hw.1
      have hw := hw.2
      have r247 := inR_ite (c := ¬ (M 105 0 (3 * y13)) = 1) (hR.r 113 0 (20 + y13)) (inR_c (a := 0) rfl)
      refine cut_j (A := ∀ v248 : Int, v248 = (if ¬ (M 105 0 (3 * y13)) = 1 then (M 113 0 (20 + y13)) else 0) → WV p l e 2 s m args below meth c G e0 α κ B Qm H locs 105 ls [.int (Int32.ofInt v248), .int (Int32.ofInt y10)]) (fun J249 => ?_) ?_
      · refine sa_icmp_ne (tgt := 97) X.1 r243 (inR_c (a := 1) rfl) dL_walk_90 (by decide) (fun hc => ?_) (fun hc => ?_)
        · have hw := s246 hc
          refine lv_aload X.1.1 X.1.2.1 dL_walk_97 (lv_at hl 5 rfl) ?_
          refine sa_bipush X.1 dL_walk_99 (by decide) ?_
          refine lv_iload X.1.1 X.1.2.1 dL_walk_101 (lv_at hl 13 rfl) ?_
          have c244 := hw.1
          have hw := hw.2
          refine sa_iadd X.1 dL_walk_103 ?_
          have c245 := hw.1
          have hw := hw.2
          refine ra_113 X hR (okf X.2.2.1 rfl) c245 dL_walk_104 ?_
          exact J249 ((M 113 0 (20 + y13))) (if_pos (c := ¬ (M 105 0 (3 * y13)) = 1) hc).symm
        · skip
          refine sa_const X.1 dL_walk_93 ?_
          refine lv_goto (tgt := 105) X.1.1 X.1.2.1 dL_walk_94 (by decide) ?_
          exact J249 (0) (if_neg (c := ¬ (M 105 0 (3 * y13)) = 1) (fun z => z hc)).symm
      intro v248 hv248
      subst hv248
      have c250 := hw.1
      have hw := hw.2
      refine sa_iadd X.1 dL_walk_105 ?_
      refine lv_istore (lv' := [(10, .int (Int32.ofInt (y10 + (if ¬ (M 105 0 (3 * y13)) = 1 then (M 113 0 (20 + y13)) else 0)))), (0, .ref (α 104 0)), (1, .ref (α 105 0)), (2, .ref (α 106 0)), (3, .ref (α 107 0)), (4, .ref (α 112 0)), (5, .ref (α 113 0)), (6, .ref (α 114 0)), (7, .ref (α 115 0)), (8, .ref (α 116 0)), (9, .int (Int32.ofInt y9)), (11, .int (Int32.ofInt y11)), (12, .int (Int32.ofInt y12)), (13, .int (Int32.ofInt y13))]) X.1.1 X.1.2.1 dL_walk_106 hl (by decide) rfl (fun ls hl => ?_)
      refine lv_iload X.1.1 X.1.2.1 dL_walk_108 (lv_at hl 11 rfl) ?_
      refine lv_aload_n X.1.1 X.1.2.1 dL_walk_110 rfl (lv_at hl 2 rfl) ?_
      refine sa_const X.1 dL_walk_111 ?_
      refine lv_iload X.1.1 X.1.2.1 dL_walk_112 (lv_at hl 13 rfl) ?_
      have c251 := hw.1
      have hw := hw.2
      refine sa_imul X.1 dL_walk_114 ?_
      have c252 := hw.1
      have hw := hw.2
      refine ra_105 X hR (okf X.2.2.1 rfl) c252 dL_walk_115 ?_
      have r253 := hR.r 105 0 (3 * y13)
      refine sa_const X.1 dL_walk_116 ?_
      have r254 := inR_ite (c := ¬ (M 105 0 (3 * y13)) = 1) (inR_c (a := 0) rfl) (inR_c (a := 1) rfl)
      refine cut_j (A := ∀ v255 : Int, v255 = (if ¬ (M 105 0 (3 * y13)) = 1 then (0 : Int) else 1) → WV p l e 2 s m args below meth c G e0 α κ B Qm H locs 125 ls [.int (Int32.ofInt v255), .int (Int32.ofInt y11)]) (fun J256 => ?_) ?_
      · refine sa_icmp_ne (tgt := 124) X.1 r253 (inR_c (a := 1) rfl) dL_walk_117 (by decide) (fun hc => ?_) (fun hc => ?_)
        · skip
          refine sa_const X.1 dL_walk_124 ?_
          exact J256 (0) (if_pos (c := ¬ (M 105 0 (3 * y13)) = 1) hc).symm
        · skip
          refine sa_const X.1 dL_walk_120 ?_
          refine lv_goto (tgt := 125) X.1.1 X.1.2.1 dL_walk_121 (by decide) ?_
          exact J256 (1) (if_neg (c := ¬ (M 105 0 (3 * y13)) = 1) (fun z => z hc)).symm
      intro v255 hv255
      subst hv255
      have c257 := hw.1
      have hw := hw.2
      refine sa_iadd X.1 dL_walk_125 ?_
      refine lv_istore (lv' := [(11, .int (Int32.ofInt (y11 + (if ¬ (M 105 0 (3 * y13)) = 1 then (0 : Int) else 1)))), (10, .int (Int32.ofInt (y10 + (if ¬ (M 105 0 (3 * y13)) = 1 then (M 113 0 (20 + y13)) else 0)))), (0, .ref (α 104 0)), (1, .ref (α 105 0)), (2, .ref (α 106 0)), (3, .ref (α 107 0)), (4, .ref (α 112 0)), (5, .ref (α 113 0)), (6, .ref (α 114 0)), (7, .ref (α 115 0)), (8, .ref (α 116 0)), (9, .int (Int32.ofInt y9)), (12, .int (Int32.ofInt y12)), (13, .int (Int32.ofInt y13))]) X.1.1 X.1.2.1 dL_walk_126 hl (by decide) rfl (fun ls hl => ?_)
      refine lv_aload_n X.1.1 X.1.2.1 dL_walk_128 rfl (lv_at hl 3 rfl) ?_
      refine sa_const X.1 dL_walk_129 ?_
      refine lv_aload_n X.1.1 X.1.2.1 dL_walk_130 rfl (lv_at hl 4 rfl) ?_
      refine lv_iload X.1.1 X.1.2.1 dL_walk_131 (lv_at hl 13 rfl) ?_
      have c258 := hw.1
      have hw := hw.2
      refine ra_106 X hR (okf X.2.2.1 rfl) c258 dL_walk_133 ?_
      have r259 := hR.r 106 0 y13
      have c260 := hw.1
      have hw := hw.2
      refine sa_imul X.1 dL_walk_134 ?_
      have c261 := hw.1
      have hw := hw.2
      refine ra_105 X hR (okf X.2.2.1 rfl) c261 dL_walk_135 ?_
      have r262 := hR.r 105 0 (3 * (M 106 0 y13))
      refine sa_const X.1 dL_walk_136 ?_
      have r263 := inR_ite (c := ¬ (M 105 0 (3 * (M 106 0 y13))) = 1) hy12 hy13
      refine cut_j (A := ∀ v264 : Int, v264 = (if ¬ (M 105 0 (3 * (M 106 0 y13))) = 1 then y12 else y13) → WV p l e 2 s m args below meth c G e0 α κ B Qm H locs 147 ls [.int (Int32.ofInt v264)]) (fun J265 => ?_) ?_
      · refine sa_icmp_ne (tgt := 145) X.1 r262 (inR_c (a := 1) rfl) dL_walk_137 (by decide) (fun hc => ?_) (fun hc => ?_)
        · skip
          refine lv_iload X.1.1 X.1.2.1 dL_walk_145 (lv_at hl 12 rfl) ?_
          exact J265 (y12) (if_pos (c := ¬ (M 105 0 (3 * (M 106 0 y13))) = 1) hc).symm
        · skip
          refine lv_iload X.1.1 X.1.2.1 dL_walk_140 (lv_at hl 13 rfl) ?_
          refine lv_goto (tgt := 147) X.1.1 X.1.2.1 dL_walk_142 (by decide) ?_
          exact J265 (y13) (if_neg (c := ¬ (M 105 0 (3 * (M 106 0 y13))) = 1) (fun z => z hc)).symm
      intro v264 hv264
      subst hv264
      refine lv_istore (lv' := [(12, .int (Int32.ofInt (if ¬ (M 105 0 (3 * (M 106 0 y13))) = 1 then y12 else y13))), (11, .int (Int32.ofInt (y11 + (if ¬ (M 105 0 (3 * y13)) = 1 then (0 : Int) else 1)))), (10, .int (Int32.ofInt (y10 + (if ¬ (M 105 0 (3 * y13)) = 1 then (M 113 0 (20 + y13)) else 0)))), (0, .ref (α 104 0)), (1, .ref (α 105 0)), (2, .ref (α 106 0)), (3, .ref (α 107 0)), (4, .ref (α 112 0)), (5, .ref (α 113 0)), (6, .ref (α 114 0)), (7, .ref (α 115 0)), (8, .ref (α 116 0)), (9, .int (Int32.ofInt y9)), (13, .int (Int32.ofInt y13))]) X.1.1 X.1.2.1 dL_walk_147 hl (by decide) rfl (fun ls hl => ?_)
      have c266 := hw.1
      have hw := hw.2
      refine lv_iinc (v := Int32.ofInt (y13 + 1)) (lv' := [(13, .int (Int32.ofInt (y13 + 1))), (12, .int (Int32.ofInt (if ¬ (M 105 0 (3 * (M 106 0 y13))) = 1 then y12 else y13))), (11, .int (Int32.ofInt (y11 + (if ¬ (M 105 0 (3 * y13)) = 1 then (0 : Int) else 1)))), (10, .int (Int32.ofInt (y10 + (if ¬ (M 105 0 (3 * y13)) = 1 then (M 113 0 (20 + y13)) else 0)))), (0, .ref (α 104 0)), (1, .ref (α 105 0)), (2, .ref (α 106 0)), (3, .ref (α 107 0)), (4, .ref (α 112 0)), (5, .ref (α 113 0)), (6, .ref (α 114 0)), (7, .ref (α 115 0)), (8, .ref (α 116 0)), (9, .int (Int32.ofInt y9))]) X.1.1 X.1.2.1 dL_walk_149 hl (k := 13) rfl (Int32.ofInt_add _ _).symm (by decide) rfl (fun ls hl => ?_)
      refine lv_goto (tgt := 72) X.1.1 X.1.2.1 dL_walk_152 (by decide) ?_
      exact ih _ _ _ _ _ _ hw hy9 c250 c257 r263 c266 _ _ hR hS _ (lv_sub hl [4, 5, 6, 7, 8, 9, 10, 11, 12, 13, 3, 2, 1, 0] rfl)
set_option maxHeartbeats 4000000 in
set_option maxRecDepth 100000 in
theorem t_L_walk_50 (X : CX p m c cL_walk 27 s args RL G B κ meth none) (ho114 : okk κ 114 0) (ho115 : okk κ 115 0) (ho116 : okk κ 116 0) {Qm : Mem → Prop} : ∀ n : Nat, ∀ y9 : Int, ∀ y10 : Int, ∀ y11 : Int, ∀ y12 : Int, ∀ y13 : Int, ∀ M : Mem, wp_L_walk_50 Qm n y9 y10 y11 y12 y13 M → inR y9 → inR y10 → inR y11 → inR y12 → inR y13 → ∀ (H : Heap) (locs : List Loc), Rp G e0 α κ B M H → va_S (fun q => B ≤ q) s.heap H locs → ∀ (ls : Array Slot), lv_has ls 27 [(0, .ref (α 104 0)), (1, .ref (α 105 0)), (2, .ref (α 106 0)), (3, .ref (α 107 0)), (4, .ref (α 112 0)), (5, .ref (α 113 0)), (6, .ref (α 114 0)), (7, .ref (α 115 0)), (8, .ref (α 116 0)), (9, .int (Int32.ofInt y9)), (10, .int (Int32.ofInt y10)), (11, .int (Int32.ofInt y11)), (12, .int (Int32.ofInt y12)), (13, .int (Int32.ofInt y13))] → WV p l e 2 s m args below meth c G e0 α κ B Qm H locs 50 ls [] := by
  intro n
  induction n with
  | zero =>
    intro y9 y10 y11 y12 y13 M hw hy9 hy10 hy11 hy12 hy13 H locs hR hS ls hl
    exact hw.elim
  | succ n ih =>
    intro y9 y10 y11 y12 y13 M hw hy9 hy10 hy11 hy12 hy13 H locs hR hS ls hl
    have hw : ((13 ≤ y13 → (∃ n267 : Nat, wp_L_walk_72 Qm n267 y9 y10 y11 y12 0 M)) ∧ (y13 < 13 → (0 ≤ y13 ∧ y13 < 13) ∧ ∀ M269 : Mem, M269 = up M 114 0 y13 0 → (inR (y13 + 1)) ∧ wp_L_walk_50 Qm n y9 y10 y11 y12 (y13 + 1) M269)) := hw
    refine lv_iload X.1.1 X.1.2.1 dL_walk_50 (lv_at hl 13 rfl) ?_
    refine sa_bipush X.1 dL_walk_52 (by decide) ?_
    refine sa_icmp_ge (tgt := 69) X.1 hy13 (inR_c (a := 13) rfl) dL_walk_54 (by decide) (fun hc => ?_) (fun hc => ?_)
    · have hw := hw.1 hc
      refine sa_const X.1 dL_walk_69 ?_
      refine lv_istore (lv' := [(13, .int (Int32.ofInt 0)), (0, .ref (α 104 0)), (1, .ref (α 105 0)), (2, .ref (α 106 0)), (3, .ref (α 107 0)), (4, .ref (α 112 0)), (5, .ref (α 113 0)), (6, .ref (α 114 0)), (7, .ref (α 115 0)), (8, .ref (α 116 0)), (9, .int (Int32.ofInt y9)), (10, .int (Int32.ofInt y10)), (11, .int (Int32.ofInt y11)), (12, .int (Int32.ofInt y12))]) X.1.1 X.1.2.1 dL_walk_70 hl (by decide) rfl (fun ls hl => ?_)
      obtain ⟨n267, hw⟩ := hw
      exact t_L_walk_72 X ho114 ho115 ho116 n267 _ _ _ _ _ _ hw hy9 hy10 hy11 hy12 (inR_c (a := 0) rfl) _ _ hR hS _ (lv_sub hl [1, 2, 3, 4, 5, 6, 7, 8, 9, 10, 11, 12, 13, 0] rfl)
    · have hw := hw.2 hc
      refine lv_aload X.1.1 X.1.2.1 dL_walk_57 (lv_at hl 6 rfl) ?_
      refine lv_iload X.1.1 X.1.2.1 dL_walk_59 (lv_at hl 13 rfl) ?_
      refine sa_const X.1 dL_walk_61 ?_
      have c268 := hw.1
      have hw := hw.2
      refine wa_114 X hR hS ho114 c268 (inR_c (a := 0) rfl) dL_walk_62 (fun H locs hR hS => ?_)
      obtain ⟨M269, e270⟩ : ∃ z : Mem, z = up M 114 0 y13 0 := ⟨_, rfl⟩
      rw [← e270] at hR
      have hw := hw M269 e270
      have c271 := hw.1
      have hw := hw.2
      refine lv_iinc (v := Int32.ofInt (y13 + 1)) (lv' := [(13, .int (Int32.ofInt (y13 + 1))), (0, .ref (α 104 0)), (1, .ref (α 105 0)), (2, .ref (α 106 0)), (3, .ref (α 107 0)), (4, .ref (α 112 0)), (5, .ref (α 113 0)), (6, .ref (α 114 0)), (7, .ref (α 115 0)), (8, .ref (α 116 0)), (9, .int (Int32.ofInt y9)), (10, .int (Int32.ofInt y10)), (11, .int (Int32.ofInt y11)), (12, .int (Int32.ofInt y12))]) X.1.1 X.1.2.1 dL_walk_63 hl (k := 13) rfl (Int32.ofInt_add _ _).symm (by decide) rfl (fun ls hl => ?_)
      refine lv_goto (tgt := 50) X.1.1 X.1.2.1 dL_walk_66 (by decide) ?_
      exact ih _ _ _ _ _ _ hw hy9 hy10 hy11 hy12 c271 _ _ hR hS _ (lv_sub hl [1, 2, 3, 4, 5, 6, 7, 8, 9, 10, 11, 12, 13, 0] rfl)
set_option maxHeartbeats 4000000 in
set_option maxRecDepth 100000 in
theorem t_L_walk_28 (X : CX p m c cL_walk 27 s args RL G B κ meth none) (ho114 : okk κ 114 0) (ho115 : okk κ 115 0) (ho116 : okk κ 116 0) {Qm : Mem → Prop} : ∀ n : Nat, ∀ y9 : Int, ∀ y10 : Int, ∀ y11 : Int, ∀ y12 : Int, ∀ y13 : Int, ∀ M : Mem, wp_L_walk_28 Qm n y9 y10 y11 y12 y13 M → inR y9 → inR y10 → inR y11 → inR y12 → inR y13 → ∀ (H : Heap) (locs : List Loc), Rp G e0 α κ B M H → va_S (fun q => B ≤ q) s.heap H locs → ∀ (ls : Array Slot), lv_has ls 27 [(0, .ref (α 104 0)), (1, .ref (α 105 0)), (2, .ref (α 106 0)), (3, .ref (α 107 0)), (4, .ref (α 112 0)), (5, .ref (α 113 0)), (6, .ref (α 114 0)), (7, .ref (α 115 0)), (8, .ref (α 116 0)), (9, .int (Int32.ofInt y9)), (10, .int (Int32.ofInt y10)), (11, .int (Int32.ofInt y11)), (12, .int (Int32.ofInt y12)), (13, .int (Int32.ofInt y13))] → WV p l e 2 s m args below meth c G e0 α κ B Qm H locs 28 ls [] := by
  intro n
  induction n with
  | zero =>
    intro y9 y10 y11 y12 y13 M hw hy9 hy10 hy11 hy12 hy13 H locs hR hS ls hl
    exact hw.elim
  | succ n ih =>
    intro y9 y10 y11 y12 y13 M hw hy9 hy10 hy11 hy12 hy13 H locs hR hS ls hl
    have hw : ((60 ≤ y13 → (∃ n272 : Nat, wp_L_walk_50 Qm n272 y9 y10 y11 y12 0 M)) ∧ (y13 < 60 → (0 ≤ y13 ∧ y13 < 60) ∧ ∀ M274 : Mem, M274 = up M 115 0 y13 0 → (inR (y13 + 1)) ∧ wp_L_walk_28 Qm n y9 y10 y11 y12 (y13 + 1) M274)) := hw
    refine lv_iload X.1.1 X.1.2.1 dL_walk_28 (lv_at hl 13 rfl) ?_
    refine sa_bipush X.1 dL_walk_30 (by decide) ?_
    refine sa_icmp_ge (tgt := 47) X.1 hy13 (inR_c (a := 60) rfl) dL_walk_32 (by decide) (fun hc => ?_) (fun hc => ?_)
    · have hw := hw.1 hc
      refine sa_const X.1 dL_walk_47 ?_
      refine lv_istore (lv' := [(13, .int (Int32.ofInt 0)), (0, .ref (α 104 0)), (1, .ref (α 105 0)), (2, .ref (α 106 0)), (3, .ref (α 107 0)), (4, .ref (α 112 0)), (5, .ref (α 113 0)), (6, .ref (α 114 0)), (7, .ref (α 115 0)), (8, .ref (α 116 0)), (9, .int (Int32.ofInt y9)), (10, .int (Int32.ofInt y10)), (11, .int (Int32.ofInt y11)), (12, .int (Int32.ofInt y12))]) X.1.1 X.1.2.1 dL_walk_48 hl (by decide) rfl (fun ls hl => ?_)
      obtain ⟨n272, hw⟩ := hw
      exact t_L_walk_50 X ho114 ho115 ho116 n272 _ _ _ _ _ _ hw hy9 hy10 hy11 hy12 (inR_c (a := 0) rfl) _ _ hR hS _ (lv_sub hl [1, 2, 3, 4, 5, 6, 7, 8, 9, 10, 11, 12, 13, 0] rfl)
    · have hw := hw.2 hc
      refine lv_aload X.1.1 X.1.2.1 dL_walk_35 (lv_at hl 7 rfl) ?_
      refine lv_iload X.1.1 X.1.2.1 dL_walk_37 (lv_at hl 13 rfl) ?_
      refine sa_const X.1 dL_walk_39 ?_
      have c273 := hw.1
      have hw := hw.2
      refine wa_115 X hR hS ho115 c273 (inR_c (a := 0) rfl) dL_walk_40 (fun H locs hR hS => ?_)
      obtain ⟨M274, e275⟩ : ∃ z : Mem, z = up M 115 0 y13 0 := ⟨_, rfl⟩
      rw [← e275] at hR
      have hw := hw M274 e275
      have c276 := hw.1
      have hw := hw.2
      refine lv_iinc (v := Int32.ofInt (y13 + 1)) (lv' := [(13, .int (Int32.ofInt (y13 + 1))), (0, .ref (α 104 0)), (1, .ref (α 105 0)), (2, .ref (α 106 0)), (3, .ref (α 107 0)), (4, .ref (α 112 0)), (5, .ref (α 113 0)), (6, .ref (α 114 0)), (7, .ref (α 115 0)), (8, .ref (α 116 0)), (9, .int (Int32.ofInt y9)), (10, .int (Int32.ofInt y10)), (11, .int (Int32.ofInt y11)), (12, .int (Int32.ofInt y12))]) X.1.1 X.1.2.1 dL_walk_41 hl (k := 13) rfl (Int32.ofInt_add _ _).symm (by decide) rfl (fun ls hl => ?_)
      refine lv_goto (tgt := 28) X.1.1 X.1.2.1 dL_walk_44 (by decide) ?_
      exact ih _ _ _ _ _ _ hw hy9 hy10 hy11 hy12 c276 _ _ hR hS _ (lv_sub hl [1, 2, 3, 4, 5, 6, 7, 8, 9, 10, 11, 12, 13, 0] rfl)
set_option maxHeartbeats 4000000 in
set_option maxRecDepth 100000 in
theorem t_L_walk (X : CX p m c cL_walk 27 s args RL G B κ meth none) (ho114 : okk κ 114 0) (ho115 : okk κ 115 0) (ho116 : okk κ 116 0) {M : Mem} {Qm : Mem → Prop} (hw : wp_L_walk M Qm) (H : Heap) (locs : List Loc) (hR : Rp G e0 α κ B M H) (hS : va_S (fun q => B ≤ q) s.heap H locs) (ls : Array Slot) (hl : lv_has ls 27 [(0, .ref (α 104 0)), (1, .ref (α 105 0)), (2, .ref (α 106 0)), (3, .ref (α 107 0)), (4, .ref (α 112 0)), (5, .ref (α 113 0)), (6, .ref (α 114 0)), (7, .ref (α 115 0)), (8, .ref (α 116 0))]) : WV p l e 2 s m args below meth c G e0 α κ B Qm H locs 0 ls [] := by
  have hw : wp_L_sums M fun (x2 : Int) (M1 : Mem) => (∃ n277 : Nat, wp_L_walk_28 Qm n277 (if x2 = 0 then (0 : Int) else 1) 0 0 (-1) 0 M1) := hw
  refine lv_aload_n X.1.1 X.1.2.1 dL_walk_0 rfl (lv_at hl 0 rfl) ?_
  refine lv_aload X.1.1 X.1.2.1 dL_walk_1 (lv_at hl 4 rfl) ?_
  refine cs_L_sums X  (kc := 2) rmL_ok rm_c (by decide) hR hS kw_1330 hl.1 dL_walk_3 (Nat.le_of_ble_eq_true rfl) hw (fun x2 M1 H locs hw r3 hR hS => ?_)
  have r4 := inR_ite (c := x2 = 0) (inR_c (a := 0) rfl) (inR_c (a := 1) rfl)
  refine cut_j (A := ∀ v5 : Int, v5 = (if x2 = 0 then (0 : Int) else 1) → WV p l e 2 s m args below meth c G e0 α κ B Qm H locs 14 ls [.int (Int32.ofInt v5)]) (fun J6 => ?_) ?_
  · refine sa_if_eq (tgt := 13) X.1 r3 dL_walk_6 (by decide) (fun hc => ?_) (fun hc => ?_)
    · skip
      refine sa_const X.1 dL_walk_13 ?_
      exact J6 (0) (if_pos (c := x2 = 0) hc).symm
    · skip
      refine sa_const X.1 dL_walk_9 ?_
      refine lv_goto (tgt := 14) X.1.1 X.1.2.1 dL_walk_10 (by decide) ?_
      exact J6 (1) (if_neg (c := x2 = 0) hc).symm
  intro v5 hv5
  subst hv5
  refine lv_istore (lv' := [(9, .int (Int32.ofInt (if x2 = 0 then (0 : Int) else 1))), (0, .ref (α 104 0)), (1, .ref (α 105 0)), (2, .ref (α 106 0)), (3, .ref (α 107 0)), (4, .ref (α 112 0)), (5, .ref (α 113 0)), (6, .ref (α 114 0)), (7, .ref (α 115 0)), (8, .ref (α 116 0))]) X.1.1 X.1.2.1 dL_walk_14 hl (by decide) rfl (fun ls hl => ?_)
  refine sa_const X.1 dL_walk_16 ?_
  refine lv_istore (lv' := [(10, .int (Int32.ofInt 0)), (9, .int (Int32.ofInt (if x2 = 0 then (0 : Int) else 1))), (0, .ref (α 104 0)), (1, .ref (α 105 0)), (2, .ref (α 106 0)), (3, .ref (α 107 0)), (4, .ref (α 112 0)), (5, .ref (α 113 0)), (6, .ref (α 114 0)), (7, .ref (α 115 0)), (8, .ref (α 116 0))]) X.1.1 X.1.2.1 dL_walk_17 hl (by decide) rfl (fun ls hl => ?_)
  refine sa_const X.1 dL_walk_19 ?_
  refine lv_istore (lv' := [(11, .int (Int32.ofInt 0)), (10, .int (Int32.ofInt 0)), (9, .int (Int32.ofInt (if x2 = 0 then (0 : Int) else 1))), (0, .ref (α 104 0)), (1, .ref (α 105 0)), (2, .ref (α 106 0)), (3, .ref (α 107 0)), (4, .ref (α 112 0)), (5, .ref (α 113 0)), (6, .ref (α 114 0)), (7, .ref (α 115 0)), (8, .ref (α 116 0))]) X.1.1 X.1.2.1 dL_walk_20 hl (by decide) rfl (fun ls hl => ?_)
  refine sa_const X.1 dL_walk_22 ?_
  refine lv_istore (lv' := [(12, .int (Int32.ofInt (-1))), (11, .int (Int32.ofInt 0)), (10, .int (Int32.ofInt 0)), (9, .int (Int32.ofInt (if x2 = 0 then (0 : Int) else 1))), (0, .ref (α 104 0)), (1, .ref (α 105 0)), (2, .ref (α 106 0)), (3, .ref (α 107 0)), (4, .ref (α 112 0)), (5, .ref (α 113 0)), (6, .ref (α 114 0)), (7, .ref (α 115 0)), (8, .ref (α 116 0))]) X.1.1 X.1.2.1 dL_walk_23 hl (by decide) rfl (fun ls hl => ?_)
  refine sa_const X.1 dL_walk_25 ?_
  refine lv_istore (lv' := [(13, .int (Int32.ofInt 0)), (12, .int (Int32.ofInt (-1))), (11, .int (Int32.ofInt 0)), (10, .int (Int32.ofInt 0)), (9, .int (Int32.ofInt (if x2 = 0 then (0 : Int) else 1))), (0, .ref (α 104 0)), (1, .ref (α 105 0)), (2, .ref (α 106 0)), (3, .ref (α 107 0)), (4, .ref (α 112 0)), (5, .ref (α 113 0)), (6, .ref (α 114 0)), (7, .ref (α 115 0)), (8, .ref (α 116 0))]) X.1.1 X.1.2.1 dL_walk_26 hl (by decide) rfl (fun ls hl => ?_)
  obtain ⟨n277, hw⟩ := hw
  exact t_L_walk_28 X ho114 ho115 ho116 n277 _ _ _ _ _ _ hw r4 (inR_c (a := 0) rfl) (inR_c (a := 0) rfl) (inR_c (a := -1) rfl) (inR_c (a := 0) rfl) _ _ hR hS _ (lv_sub hl [5, 6, 7, 8, 9, 10, 11, 12, 13, 4, 3, 2, 1, 0] rfl)
theorem m_L_walk {l : Launch} {G : Gx} {e0 : Nat} {α : Ax} {κ : Nat → Int} {B : Nat} (hκ : kOK κ) (ho114 : okk κ 114 0) (ho115 : okk κ 115 0) (ho116 : okk κ 116 0) {M : Mem} {Qm : Mem → Prop} (hw : wp_L_walk M Qm) : CV l yL_walk (Cond.code yL_walk cL_walk 27 none) 2 G e0 α κ B [.ref (α 104 0), .ref (α 105 0), .ref (α 106 0), .ref (α 107 0), .ref (α 112 0), .ref (α 113 0), .ref (α 114 0), .ref (α 115 0), .ref (α 116 0)] M Qm :=
  CV.mk hκ (by decide +kernel) rfl (Nat.le_of_ble_eq_true rfl) (lv := [(0, .ref (α 104 0)), (1, .ref (α 105 0)), (2, .ref (α 106 0)), (3, .ref (α 107 0)), (4, .ref (α 112 0)), (5, .ref (α 113 0)), (6, .ref (α 114 0)), (7, .ref (α 115 0)), (8, .ref (α 116 0))]) rfl (fun p e s m args below meth c ls X hR hS hl => t_L_walk X ho114 ho115 ho116 hw _ _ hR hS ls hl)
theorem cs_L_walk {cc : ByteArray} {nL : Nat} {own : String} {ret : Option FieldType} {idx pc : Nat} (X : CX p m c cc nL s args own G B κ meth ret) (ho114 : okk κ 114 0) (ho115 : okk κ 115 0) (ho116 : okk κ 116 0) {kc : Nat} {R : Room} {cells slots : Nat} (hRr : RmOK R kc) (hcel : cells ≤ R.cells ∧ slots ≤ R.slots) (hk : 3 + 1 ≤ kc) {M : Mem} {H : Heap} {locs : List Loc} (hR : Rp G e0 α κ B M H) (hS : va_S (fun q => B ≤ q) s.heap H locs) (k1 : Cond.methodLink own idx yL_walk ∈ gw) {ls : Array Slot} (hml : ls.size = nL) {rest : List Value} (hd : decode cc pc = .ok (.invokestatic idx, 3)) (hrest : (rest.map fun v => v.category).sum ≤ 8) {Q : State → Prop} {Qm : Mem → Prop} (hw : wp_L_walk M Qm) (kk : ∀ (M1 : Mem) (H1 : Heap) (locs1 : List Loc), Qm M1 → Rp G e0 α κ B M1 H1 → va_S (fun q => B ≤ q) s.heap H1 locs1 → W p l e R s m args below meth c H1 locs1 cells slots Q (F0 m (pc + 3) ls (rest))) : W p l e R s m args below meth c H locs cells slots Q (F0 m pc ls (.ref (α 116 0) :: .ref (α 115 0) :: .ref (α 114 0) :: .ref (α 113 0) :: .ref (α 112 0) :: .ref (α 107 0) :: .ref (α 106 0) :: .ref (α 105 0) :: .ref (α 104 0) :: rest)) :=
  sa_callSV 2 (n := 9) (As := [.ref (α 104 0), .ref (α 105 0), .ref (α 106 0), .ref (α 107 0), .ref (α 112 0), .ref (α 113 0), .ref (α 114 0), .ref (α 115 0), .ref (α 116 0)]) (rest := rest) X.1 X.2.1 hR hS (m_L_walk X.2.2.1 ho114 ho115 ho116 hw) k1 kw_1328 kw_37 kw_1329 ⟨by decide +kernel, by decide +kernel, by decide +kernel⟩ (rm_ok2 hRr hk (by decide)) rfl rfl hrest hml hd hcel kk
end
