theorem dL_isSorted_0 : decode cL_isSorted 0 = .ok (.iload 7, 2) := by decide +kernel
theorem dL_isSorted_2 : decode cL_isSorted 2 = .ok (.aload 6, 2) := by decide +kernel
theorem dL_isSorted_4 : decode cL_isSorted 4 = .ok (.iconst 0, 1) := by decide +kernel
theorem dL_isSorted_5 : decode cL_isSorted 5 = .ok (.iaload, 1) := by decide +kernel
theorem dL_isSorted_6 : decode cL_isSorted 6 = .ok (.irem, 1) := by decide +kernel
theorem dL_isSorted_7 : decode cL_isSorted 7 = .ok (.istore 8, 2) := by decide +kernel
theorem dL_isSorted_9 : decode cL_isSorted 9 = .ok (.iload 7, 2) := by decide +kernel
theorem dL_isSorted_11 : decode cL_isSorted 11 = .ok (.iconst 4, 1) := by decide +kernel
theorem dL_isSorted_12 : decode cL_isSorted 12 = .ok (.idiv, 1) := by decide +kernel
theorem dL_isSorted_13 : decode cL_isSorted 13 = .ok (.iconst 2, 1) := by decide +kernel
theorem dL_isSorted_14 : decode cL_isSorted 14 = .ok (.irem, 1) := by decide +kernel
theorem dL_isSorted_15 : decode cL_isSorted 15 = .ok (.iconst 1, 1) := by decide +kernel
theorem dL_isSorted_16 : decode cL_isSorted 16 = .ok (.if_icmp .ne 7, 3) := by decide +kernel
theorem dL_isSorted_19 : decode cL_isSorted 19 = .ok (.iconst 1, 1) := by decide +kernel
theorem dL_isSorted_20 : decode cL_isSorted 20 = .ok (.goto 4, 3) := by decide +kernel
theorem dL_isSorted_23 : decode cL_isSorted 23 = .ok (.iconst 0, 1) := by decide +kernel
theorem dL_isSorted_24 : decode cL_isSorted 24 = .ok (.istore 9, 2) := by decide +kernel
theorem dL_isSorted_26 : decode cL_isSorted 26 = .ok (.bipush 10, 2) := by decide +kernel
theorem dL_isSorted_28 : decode cL_isSorted 28 = .ok (.newarray .int, 2) := by decide +kernel
theorem dL_isSorted_30 : decode cL_isSorted 30 = .ok (.astore 10, 2) := by decide +kernel
theorem dL_isSorted_32 : decode cL_isSorted 32 = .ok (.iconst 0, 1) := by decide +kernel
theorem dL_isSorted_33 : decode cL_isSorted 33 = .ok (.istore 11, 2) := by decide +kernel
theorem dL_isSorted_35 : decode cL_isSorted 35 = .ok (.iconst 1, 1) := by decide +kernel
theorem dL_isSorted_36 : decode cL_isSorted 36 = .ok (.istore 12, 2) := by decide +kernel
theorem dL_isSorted_38 : decode cL_isSorted 38 = .ok (.iconst 0, 1) := by decide +kernel
theorem dL_isSorted_39 : decode cL_isSorted 39 = .ok (.istore 13, 2) := by decide +kernel
theorem dL_isSorted_41 : decode cL_isSorted 41 = .ok (.iload 13, 2) := by decide +kernel
theorem dL_isSorted_43 : decode cL_isSorted 43 = .ok (.aload 6, 2) := by decide +kernel
theorem dL_isSorted_45 : decode cL_isSorted 45 = .ok (.iconst 2, 1) := by decide +kernel
theorem dL_isSorted_46 : decode cL_isSorted 46 = .ok (.iaload, 1) := by decide +kernel
theorem dL_isSorted_47 : decode cL_isSorted 47 = .ok (.if_icmp .ge 51, 3) := by decide +kernel
theorem dL_isSorted_50 : decode cL_isSorted 50 = .ok (.iload 12, 2) := by decide +kernel
theorem dL_isSorted_52 : decode cL_isSorted 52 = .ok (.ifCond .eq 37, 3) := by decide +kernel
theorem dL_isSorted_55 : decode cL_isSorted 55 = .ok (.aload_n 2, 1) := by decide +kernel
theorem dL_isSorted_56 : decode cL_isSorted 56 = .ok (.iconst 3, 1) := by decide +kernel
theorem dL_isSorted_57 : decode cL_isSorted 57 = .ok (.aload 4, 2) := by decide +kernel
theorem dL_isSorted_59 : decode cL_isSorted 59 = .ok (.bipush 6, 2) := by decide +kernel
theorem dL_isSorted_61 : decode cL_isSorted 61 = .ok (.iload 13, 2) := by decide +kernel
theorem dL_isSorted_63 : decode cL_isSorted 63 = .ok (.imul, 1) := by decide +kernel
theorem dL_isSorted_64 : decode cL_isSorted 64 = .ok (.iaload, 1) := by decide +kernel
theorem dL_isSorted_65 : decode cL_isSorted 65 = .ok (.imul, 1) := by decide +kernel
theorem dL_isSorted_66 : decode cL_isSorted 66 = .ok (.iaload, 1) := by decide +kernel
theorem dL_isSorted_67 : decode cL_isSorted 67 = .ok (.iconst 1, 1) := by decide +kernel
theorem dL_isSorted_68 : decode cL_isSorted 68 = .ok (.if_icmp .ne 17, 3) := by decide +kernel
theorem dL_isSorted_71 : decode cL_isSorted 71 = .ok (.aload 4, 2) := by decide +kernel
theorem dL_isSorted_73 : decode cL_isSorted 73 = .ok (.bipush 6, 2) := by decide +kernel
theorem dL_isSorted_75 : decode cL_isSorted 75 = .ok (.iload 13, 2) := by decide +kernel
theorem dL_isSorted_77 : decode cL_isSorted 77 = .ok (.imul, 1) := by decide +kernel
theorem dL_isSorted_78 : decode cL_isSorted 78 = .ok (.iconst 2, 1) := by decide +kernel
theorem dL_isSorted_79 : decode cL_isSorted 79 = .ok (.iadd, 1) := by decide +kernel
theorem dL_isSorted_80 : decode cL_isSorted 80 = .ok (.iaload, 1) := by decide +kernel
theorem dL_isSorted_81 : decode cL_isSorted 81 = .ok (.iconst 1, 1) := by decide +kernel
theorem dL_isSorted_82 : decode cL_isSorted 82 = .ok (.if_icmp .ne 7, 3) := by decide +kernel
theorem dL_isSorted_85 : decode cL_isSorted 85 = .ok (.iconst 1, 1) := by decide +kernel
theorem dL_isSorted_86 : decode cL_isSorted 86 = .ok (.goto 4, 3) := by decide +kernel
theorem dL_isSorted_89 : decode cL_isSorted 89 = .ok (.iconst 0, 1) := by decide +kernel
theorem dL_isSorted_90 : decode cL_isSorted 90 = .ok (.istore 12, 2) := by decide +kernel
theorem dL_isSorted_92 : decode cL_isSorted 92 = .ok (.iinc 13 1, 3) := by decide +kernel
theorem dL_isSorted_95 : decode cL_isSorted 95 = .ok (.goto (-54), 3) := by decide +kernel
theorem dL_isSorted_98 : decode cL_isSorted 98 = .ok (.iconst 0, 1) := by decide +kernel
theorem dL_isSorted_99 : decode cL_isSorted 99 = .ok (.istore 13, 2) := by decide +kernel
theorem dL_isSorted_101 : decode cL_isSorted 101 = .ok (.iload 13, 2) := by decide +kernel
theorem dL_isSorted_103 : decode cL_isSorted 103 = .ok (.aload 6, 2) := by decide +kernel
theorem dL_isSorted_105 : decode cL_isSorted 105 = .ok (.iconst 1, 1) := by decide +kernel
theorem dL_isSorted_106 : decode cL_isSorted 106 = .ok (.iaload, 1) := by decide +kernel
theorem dL_isSorted_107 : decode cL_isSorted 107 = .ok (.if_icmp .ge 18, 3) := by decide +kernel
theorem dL_isSorted_110 : decode cL_isSorted 110 = .ok (.aload 10, 2) := by decide +kernel
theorem dL_isSorted_112 : decode cL_isSorted 112 = .ok (.iload 13, 2) := by decide +kernel
theorem dL_isSorted_114 : decode cL_isSorted 114 = .ok (.aload_n 3, 1) := by decide +kernel
theorem dL_isSorted_115 : decode cL_isSorted 115 = .ok (.iload 13, 2) := by decide +kernel
theorem dL_isSorted_117 : decode cL_isSorted 117 = .ok (.iaload, 1) := by decide +kernel
theorem dL_isSorted_118 : decode cL_isSorted 118 = .ok (.iastore, 1) := by decide +kernel
theorem dL_isSorted_119 : decode cL_isSorted 119 = .ok (.iinc 13 1, 3) := by decide +kernel
theorem dL_isSorted_122 : decode cL_isSorted 122 = .ok (.goto (-21), 3) := by decide +kernel
theorem dL_isSorted_125 : decode cL_isSorted 125 = .ok (.iconst 0, 1) := by decide +kernel
theorem dL_isSorted_126 : decode cL_isSorted 126 = .ok (.istore 13, 2) := by decide +kernel
theorem dL_isSorted_128 : decode cL_isSorted 128 = .ok (.iload 13, 2) := by decide +kernel
theorem dL_isSorted_130 : decode cL_isSorted 130 = .ok (.aload 6, 2) := by decide +kernel
theorem dL_isSorted_132 : decode cL_isSorted 132 = .ok (.iconst 1, 1) := by decide +kernel
theorem dL_isSorted_133 : decode cL_isSorted 133 = .ok (.iaload, 1) := by decide +kernel
theorem dL_isSorted_134 : decode cL_isSorted 134 = .ok (.if_icmp .ge 178, 3) := by decide +kernel
theorem dL_isSorted_137 : decode cL_isSorted 137 = .ok (.iload 12, 2) := by decide +kernel
theorem dL_isSorted_139 : decode cL_isSorted 139 = .ok (.ifCond .eq 173, 3) := by decide +kernel
theorem dL_isSorted_142 : decode cL_isSorted 142 = .ok (.iconst (-1), 1) := by decide +kernel
theorem dL_isSorted_143 : decode cL_isSorted 143 = .ok (.istore 14, 2) := by decide +kernel
theorem dL_isSorted_145 : decode cL_isSorted 145 = .ok (.iconst 0, 1) := by decide +kernel
theorem dL_isSorted_146 : decode cL_isSorted 146 = .ok (.istore 15, 2) := by decide +kernel
theorem dL_isSorted_148 : decode cL_isSorted 148 = .ok (.iload 15, 2) := by decide +kernel
theorem dL_isSorted_150 : decode cL_isSorted 150 = .ok (.aload 6, 2) := by decide +kernel
theorem dL_isSorted_152 : decode cL_isSorted 152 = .ok (.iconst 1, 1) := by decide +kernel
theorem dL_isSorted_153 : decode cL_isSorted 153 = .ok (.iaload, 1) := by decide +kernel
theorem dL_isSorted_154 : decode cL_isSorted 154 = .ok (.if_icmp .ge 115, 3) := by decide +kernel
theorem dL_isSorted_157 : decode cL_isSorted 157 = .ok (.aload_n 2, 1) := by decide +kernel
theorem dL_isSorted_158 : decode cL_isSorted 158 = .ok (.iconst 3, 1) := by decide +kernel
theorem dL_isSorted_159 : decode cL_isSorted 159 = .ok (.aload_n 3, 1) := by decide +kernel
theorem dL_isSorted_160 : decode cL_isSorted 160 = .ok (.iload 13, 2) := by decide +kernel
theorem dL_isSorted_162 : decode cL_isSorted 162 = .ok (.iaload, 1) := by decide +kernel
theorem dL_isSorted_163 : decode cL_isSorted 163 = .ok (.imul, 1) := by decide +kernel
theorem dL_isSorted_164 : decode cL_isSorted 164 = .ok (.iaload, 1) := by decide +kernel
theorem dL_isSorted_165 : decode cL_isSorted 165 = .ok (.iconst 1, 1) := by decide +kernel
theorem dL_isSorted_166 : decode cL_isSorted 166 = .ok (.if_icmp .ne 103, 3) := by decide +kernel
theorem dL_isSorted_169 : decode cL_isSorted 169 = .ok (.aload_n 2, 1) := by decide +kernel
theorem dL_isSorted_170 : decode cL_isSorted 170 = .ok (.iconst 3, 1) := by decide +kernel
theorem dL_isSorted_171 : decode cL_isSorted 171 = .ok (.aload 10, 2) := by decide +kernel
theorem dL_isSorted_173 : decode cL_isSorted 173 = .ok (.iload 15, 2) := by decide +kernel
theorem dL_isSorted_175 : decode cL_isSorted 175 = .ok (.iaload, 1) := by decide +kernel
theorem dL_isSorted_176 : decode cL_isSorted 176 = .ok (.imul, 1) := by decide +kernel
theorem dL_isSorted_177 : decode cL_isSorted 177 = .ok (.iaload, 1) := by decide +kernel
theorem dL_isSorted_178 : decode cL_isSorted 178 = .ok (.iconst 1, 1) := by decide +kernel
theorem dL_isSorted_179 : decode cL_isSorted 179 = .ok (.if_icmp .ne 21, 3) := by decide +kernel
theorem dL_isSorted_182 : decode cL_isSorted 182 = .ok (.aload_n 3, 1) := by decide +kernel
theorem dL_isSorted_183 : decode cL_isSorted 183 = .ok (.aload 10, 2) := by decide +kernel
theorem dL_isSorted_185 : decode cL_isSorted 185 = .ok (.iload 15, 2) := by decide +kernel
theorem dL_isSorted_187 : decode cL_isSorted 187 = .ok (.iaload, 1) := by decide +kernel
theorem dL_isSorted_188 : decode cL_isSorted 188 = .ok (.iload 13, 2) := by decide +kernel
theorem dL_isSorted_190 : decode cL_isSorted 190 = .ok (.invokestatic 212, 3) := by decide +kernel
theorem dL_isSorted_193 : decode cL_isSorted 193 = .ok (.ifCond .ge 7, 3) := by decide +kernel
theorem dL_isSorted_196 : decode cL_isSorted 196 = .ok (.iconst 1, 1) := by decide +kernel
theorem dL_isSorted_197 : decode cL_isSorted 197 = .ok (.goto 4, 3) := by decide +kernel
theorem dL_isSorted_200 : decode cL_isSorted 200 = .ok (.iconst 0, 1) := by decide +kernel
theorem dL_isSorted_201 : decode cL_isSorted 201 = .ok (.istore 16, 2) := by decide +kernel
theorem dL_isSorted_203 : decode cL_isSorted 203 = .ok (.iload 16, 2) := by decide +kernel
theorem dL_isSorted_205 : decode cL_isSorted 205 = .ok (.ifCond .eq 54, 3) := by decide +kernel
theorem dL_isSorted_208 : decode cL_isSorted 208 = .ok (.iload 14, 2) := by decide +kernel
theorem dL_isSorted_210 : decode cL_isSorted 210 = .ok (.ifCond .lt 44, 3) := by decide +kernel
theorem dL_isSorted_213 : decode cL_isSorted 213 = .ok (.aload_n 1, 1) := by decide +kernel
theorem dL_isSorted_214 : decode cL_isSorted 214 = .ok (.aload 4, 2) := by decide +kernel
theorem dL_isSorted_216 : decode cL_isSorted 216 = .ok (.aload 5, 2) := by decide +kernel
theorem dL_isSorted_218 : decode cL_isSorted 218 = .ok (.aload 6, 2) := by decide +kernel
theorem dL_isSorted_220 : decode cL_isSorted 220 = .ok (.aload 10, 2) := by decide +kernel
theorem dL_isSorted_222 : decode cL_isSorted 222 = .ok (.iload 15, 2) := by decide +kernel
theorem dL_isSorted_224 : decode cL_isSorted 224 = .ok (.iaload, 1) := by decide +kernel
theorem dL_isSorted_225 : decode cL_isSorted 225 = .ok (.iload 8, 2) := by decide +kernel
theorem dL_isSorted_227 : decode cL_isSorted 227 = .ok (.iload 9, 2) := by decide +kernel
theorem dL_isSorted_229 : decode cL_isSorted 229 = .ok (.invokestatic 216, 3) := by decide +kernel
theorem dL_isSorted_232 : decode cL_isSorted 232 = .ok (.aload_n 1, 1) := by decide +kernel
theorem dL_isSorted_233 : decode cL_isSorted 233 = .ok (.aload 4, 2) := by decide +kernel
theorem dL_isSorted_235 : decode cL_isSorted 235 = .ok (.aload 5, 2) := by decide +kernel
theorem dL_isSorted_237 : decode cL_isSorted 237 = .ok (.aload 6, 2) := by decide +kernel
theorem dL_isSorted_239 : decode cL_isSorted 239 = .ok (.aload 10, 2) := by decide +kernel
theorem dL_isSorted_241 : decode cL_isSorted 241 = .ok (.iload 14, 2) := by decide +kernel
theorem dL_isSorted_243 : decode cL_isSorted 243 = .ok (.iaload, 1) := by decide +kernel
theorem dL_isSorted_244 : decode cL_isSorted 244 = .ok (.iload 8, 2) := by decide +kernel
theorem dL_isSorted_246 : decode cL_isSorted 246 = .ok (.iload 9, 2) := by decide +kernel
theorem dL_isSorted_248 : decode cL_isSorted 248 = .ok (.invokestatic 216, 3) := by decide +kernel
theorem dL_isSorted_251 : decode cL_isSorted 251 = .ok (.if_icmp .ge 8, 3) := by decide +kernel
theorem dL_isSorted_254 : decode cL_isSorted 254 = .ok (.iload 15, 2) := by decide +kernel
theorem dL_isSorted_256 : decode cL_isSorted 256 = .ok (.goto 5, 3) := by decide +kernel
theorem dL_isSorted_259 : decode cL_isSorted 259 = .ok (.iload 14, 2) := by decide +kernel
theorem dL_isSorted_261 : decode cL_isSorted 261 = .ok (.istore 14, 2) := by decide +kernel
theorem dL_isSorted_263 : decode cL_isSorted 263 = .ok (.iinc 15 1, 3) := by decide +kernel
theorem dL_isSorted_266 : decode cL_isSorted 266 = .ok (.goto (-118), 3) := by decide +kernel
theorem dL_isSorted_269 : decode cL_isSorted 269 = .ok (.iload 14, 2) := by decide +kernel
theorem dL_isSorted_271 : decode cL_isSorted 271 = .ok (.ifCond .lt 35, 3) := by decide +kernel
theorem dL_isSorted_274 : decode cL_isSorted 274 = .ok (.iload 11, 2) := by decide +kernel
theorem dL_isSorted_276 : decode cL_isSorted 276 = .ok (.aload 10, 2) := by decide +kernel
theorem dL_isSorted_278 : decode cL_isSorted 278 = .ok (.iload 14, 2) := by decide +kernel
theorem dL_isSorted_280 : decode cL_isSorted 280 = .ok (.iaload, 1) := by decide +kernel
theorem dL_isSorted_281 : decode cL_isSorted 281 = .ok (.aload 10, 2) := by decide +kernel
theorem dL_isSorted_283 : decode cL_isSorted 283 = .ok (.iload 13, 2) := by decide +kernel
theorem dL_isSorted_285 : decode cL_isSorted 285 = .ok (.iaload, 1) := by decide +kernel
theorem dL_isSorted_286 : decode cL_isSorted 286 = .ok (.if_icmp .ne 7, 3) := by decide +kernel
theorem dL_isSorted_289 : decode cL_isSorted 289 = .ok (.iconst 0, 1) := by decide +kernel
theorem dL_isSorted_290 : decode cL_isSorted 290 = .ok (.goto 4, 3) := by decide +kernel
theorem dL_isSorted_293 : decode cL_isSorted 293 = .ok (.iconst 1, 1) := by decide +kernel
theorem dL_isSorted_294 : decode cL_isSorted 294 = .ok (.iadd, 1) := by decide +kernel
theorem dL_isSorted_295 : decode cL_isSorted 295 = .ok (.istore 11, 2) := by decide +kernel
theorem dL_isSorted_297 : decode cL_isSorted 297 = .ok (.aload_n 3, 1) := by decide +kernel
theorem dL_isSorted_298 : decode cL_isSorted 298 = .ok (.iload 13, 2) := by decide +kernel
theorem dL_isSorted_300 : decode cL_isSorted 300 = .ok (.aload 10, 2) := by decide +kernel
theorem dL_isSorted_302 : decode cL_isSorted 302 = .ok (.iload 14, 2) := by decide +kernel
theorem dL_isSorted_304 : decode cL_isSorted 304 = .ok (.iaload, 1) := by decide +kernel
theorem dL_isSorted_305 : decode cL_isSorted 305 = .ok (.iastore, 1) := by decide +kernel
theorem dL_isSorted_306 : decode cL_isSorted 306 = .ok (.iinc 13 1, 3) := by decide +kernel
theorem dL_isSorted_309 : decode cL_isSorted 309 = .ok (.goto (-181), 3) := by decide +kernel
theorem dL_isSorted_312 : decode cL_isSorted 312 = .ok (.aload_n 0, 1) := by decide +kernel
theorem dL_isSorted_313 : decode cL_isSorted 313 = .ok (.iload 8, 2) := by decide +kernel
theorem dL_isSorted_315 : decode cL_isSorted 315 = .ok (.iload 9, 2) := by decide +kernel
theorem dL_isSorted_317 : decode cL_isSorted 317 = .ok (.invokestatic 220, 3) := by decide +kernel
theorem dL_isSorted_320 : decode cL_isSorted 320 = .ok (.iload 12, 2) := by decide +kernel
theorem dL_isSorted_322 : decode cL_isSorted 322 = .ok (.ifCond .eq 8, 3) := by decide +kernel
theorem dL_isSorted_325 : decode cL_isSorted 325 = .ok (.iload 11, 2) := by decide +kernel
theorem dL_isSorted_327 : decode cL_isSorted 327 = .ok (.goto 5, 3) := by decide +kernel
theorem dL_isSorted_330 : decode cL_isSorted 330 = .ok (.bipush (-7), 2) := by decide +kernel
theorem dL_isSorted_332 : decode cL_isSorted 332 = .ok (.if_icmp .ne 7, 3) := by decide +kernel
theorem dL_isSorted_335 : decode cL_isSorted 335 = .ok (.iconst 1, 1) := by decide +kernel
theorem dL_isSorted_336 : decode cL_isSorted 336 = .ok (.goto 4, 3) := by decide +kernel
theorem dL_isSorted_339 : decode cL_isSorted 339 = .ok (.iconst 0, 1) := by decide +kernel
theorem dL_isSorted_340 : decode cL_isSorted 340 = .ok (.ireturn, 1) := by decide +kernel
section
variable {p : Program} {l : Launch} {e : Env} {s : State} {m : MethodId} {args : Array Value} {below : List Frame} {meth : Method} {c : Code} {G : Gx} {e0 : Nat} {α : Ax} {κ : Nat → Int} {B : Nat}
def wp_L_isSorted_312 (κ : Nat → Int) (p7 : Int) (Qm : Int → Mem → Prop) (y8 : Int) (y9 : Int) (y11 : Int) (y12 : Int) (M : Mem) : Prop := wp_L_sorted y8 y9 M fun (x17 : Int) (M19 : Mem) => ∃ M20 : Mem, Gh M19 M20 ∧ (bit (if ¬ x17 = (if y12 = 0 then ((-7) : Int) else y11) then (0 : Int) else 1)) ∧ Qm (if ¬ x17 = (if y12 = 0 then ((-7) : Int) else y11) then (0 : Int) else 1) M20
def wp_L_isSorted_306 (κ : Nat → Int) (p7 : Int) (Qm : Int → Mem → Prop) (K128 : Int → Int → Int → Int → Int → Mem → Prop) (y8 : Int) (y9 : Int) (y11 : Int) (y12 : Int) (y13 : Int) (M : Mem) : Prop := (inR (y13 + 1)) ∧ K128 y8 y9 y11 y12 (y13 + 1) M
def wp_L_isSorted_269 (κ : Nat → Int) (p7 : Int) (Qm : Int → Mem → Prop) (K128 : Int → Int → Int → Int → Int → Mem → Prop) (y8 : Int) (y9 : Int) (y11 : Int) (y12 : Int) (y13 : Int) (y14 : Int) (M : Mem) : Prop := ((y14 < 0 → wp_L_isSorted_306 κ p7 Qm K128 y8 y9 y11 y12 y13 M) ∧ (0 ≤ y14 → (0 ≤ y14 ∧ y14 < 10) ∧ (0 ≤ y13 ∧ y13 < 10) ∧ (inR (y11 + (if ¬ (M 117 0 y14) = (M 117 0 y13) then (1 : Int) else 0))) ∧ (0 ≤ y14 ∧ y14 < 10) ∧ (0 ≤ y13 ∧ y13 < 10) ∧ ∀ M42 : Mem, M42 = up M 106 0 y13 (M 117 0 y14) → wp_L_isSorted_306 κ p7 Qm K128 y8 y9 (y11 + (if ¬ (M 117 0 y14) = (M 117 0 y13) then (1 : Int) else 0)) y12 y13 M42))
def wp_L_isSorted_259 (κ : Nat → Int) (p7 : Int) (Qm : Int → Mem → Prop) (K128 : Int → Int → Int → Int → Int → Mem → Prop) (K148 : Int → Int → Int → Int → Int → Int → Int → Mem → Prop) (y8 : Int) (y9 : Int) (y11 : Int) (y12 : Int) (y13 : Int) (y14 : Int) (y15 : Int) (M : Mem) : Prop := (inR (y15 + 1)) ∧ K148 y8 y9 y11 y12 y13 y14 (y15 + 1) M
def wp_L_isSorted_200 (κ : Nat → Int) (p7 : Int) (Qm : Int → Mem → Prop) (K128 : Int → Int → Int → Int → Int → Mem → Prop) (K148 : Int → Int → Int → Int → Int → Int → Int → Mem → Prop) (y8 : Int) (y9 : Int) (y11 : Int) (y12 : Int) (y13 : Int) (y14 : Int) (y15 : Int) (M : Mem) : Prop := wp_L_isSorted_259 κ p7 Qm K128 K148 y8 y9 y11 y12 y13 y14 y15 M
def wp_L_isSorted_254 (κ : Nat → Int) (p7 : Int) (Qm : Int → Mem → Prop) (K128 : Int → Int → Int → Int → Int → Mem → Prop) (K148 : Int → Int → Int → Int → Int → Int → Int → Mem → Prop) (y8 : Int) (y9 : Int) (y11 : Int) (y12 : Int) (y13 : Int) (y15 : Int) (M : Mem) : Prop := (inR (y15 + 1)) ∧ K148 y8 y9 y11 y12 y13 y15 (y15 + 1) M
def wp_L_isSorted_148 (κ : Nat → Int) (p7 : Int) (Qm : Int → Mem → Prop) (K128 : Int → Int → Int → Int → Int → Mem → Prop) : Nat → Int → Int → Int → Int → Int → Int → Int → Mem → Prop
  | 0 => fun _ _ _ _ _ _ _ _ => False
  | n + 1 => fun y8 y9 y11 y12 y13 y14 y15 M => (((M 112 0 1) ≤ y15 → wp_L_isSorted_269 κ p7 Qm K128 y8 y9 y11 y12 y13 y14 M) ∧ (y15 < (M 112 0 1) → (0 ≤ y13 ∧ y13 < 10) ∧ (inR (3 * (M 106 0 y13))) ∧ (0 ≤ (3 * (M 106 0 y13)) ∧ (3 * (M 106 0 y13)) < 30) ∧ ((¬ (M 105 0 (3 * (M 106 0 y13))) = 1 → wp_L_isSorted_269 κ p7 Qm K128 y8 y9 y11 y12 y13 y14 M) ∧ ((M 105 0 (3 * (M 106 0 y13))) = 1 → (0 ≤ y15 ∧ y15 < 10) ∧ (inR (3 * (M 117 0 y15))) ∧ (0 ≤ (3 * (M 117 0 y15)) ∧ (3 * (M 117 0 y15)) < 30) ∧ ((¬ (M 105 0 (3 * (M 117 0 y15))) = 1 → wp_L_isSorted_200 κ p7 Qm K128 (wp_L_isSorted_148 κ p7 Qm K128 n) y8 y9 y11 y12 y13 y14 y15 M) ∧ ((M 105 0 (3 * (M 117 0 y15))) = 1 → (0 ≤ y15 ∧ y15 < 10) ∧ wp_L_ahead (M 117 0 y15) y13 M fun (x58 : Int) (M57 : Mem) => (((if 0 ≤ x58 then (0 : Int) else 1) = 0 → wp_L_isSorted_259 κ p7 Qm K128 (wp_L_isSorted_148 κ p7 Qm K128 n) y8 y9 y11 y12 y13 y14 y15 M57) ∧ (¬ (if 0 ≤ x58 then (0 : Int) else 1) = 0 → ((y14 < 0 → wp_L_isSorted_254 κ p7 Qm K128 (wp_L_isSorted_148 κ p7 Qm K128 n) y8 y9 y11 y12 y13 y15 M57) ∧ (0 ≤ y14 → (0 ≤ y15 ∧ y15 < 10) ∧ wp_L_key (M57 117 0 y15) y8 y9 M57 fun (x67 : Int) (M66 : Mem) => (0 ≤ y14 ∧ y14 < 10) ∧ wp_L_key (M66 117 0 y14) y8 y9 M66 fun (x72 : Int) (M71 : Mem) => (inR (y15 + 1)) ∧ wp_L_isSorted_148 κ p7 Qm K128 n y8 y9 y11 y12 y13 (if x72 ≤ x67 then y14 else y15) (y15 + 1) M71))))))))))
def wp_L_isSorted_128 (κ : Nat → Int) (p7 : Int) (Qm : Int → Mem → Prop) : Nat → Int → Int → Int → Int → Int → Mem → Prop
  | 0 => fun _ _ _ _ _ _ => False
  | n + 1 => fun y8 y9 y11 y12 y13 M => (((M 112 0 1) ≤ y13 → wp_L_isSorted_312 κ p7 Qm y8 y9 y11 y12 M) ∧ (y13 < (M 112 0 1) → ((y12 = 0 → wp_L_isSorted_312 κ p7 Qm y8 y9 y11 y12 M) ∧ (¬ y12 = 0 → (∃ n78 : Nat, wp_L_isSorted_148 κ p7 Qm (wp_L_isSorted_128 κ p7 Qm n) n78 y8 y9 y11 y12 y13 (-1) 0 M)))))
def wp_L_isSorted_101 (κ : Nat → Int) (p7 : Int) (Qm : Int → Mem → Prop) : Nat → Int → Int → Int → Int → Int → Mem → Prop
  | 0 => fun _ _ _ _ _ _ => False
  | n + 1 => fun y8 y9 y11 y12 y13 M => (((M 112 0 1) ≤ y13 → (∃ n79 : Nat, wp_L_isSorted_128 κ p7 Qm n79 y8 y9 y11 y12 0 M)) ∧ (y13 < (M 112 0 1) → (0 ≤ y13 ∧ y13 < 10) ∧ (0 ≤ y13 ∧ y13 < 10) ∧ ∀ M83 : Mem, M83 = up M 117 0 y13 (M 106 0 y13) → (inR (y13 + 1)) ∧ wp_L_isSorted_101 κ p7 Qm n y8 y9 y11 y12 (y13 + 1) M83))
def wp_L_isSorted_41 (κ : Nat → Int) (p7 : Int) (Qm : Int → Mem → Prop) : Nat → Int → Int → Int → Int → Int → Mem → Prop
  | 0 => fun _ _ _ _ _ _ => False
  | n + 1 => fun y8 y9 y11 y12 y13 M => (((M 112 0 2) ≤ y13 → (∃ n86 : Nat, wp_L_isSorted_101 κ p7 Qm n86 y8 y9 y11 y12 0 M)) ∧ (y13 < (M 112 0 2) → (¬ y12 = 0 → (inR (6 * y13)) ∧ (0 ≤ (6 * y13) ∧ (6 * y13) < 60) ∧ (inR (3 * (M 107 0 (6 * y13)))) ∧ (0 ≤ (3 * (M 107 0 (6 * y13))) ∧ (3 * (M 107 0 (6 * y13))) < 30) ∧ ((M 105 0 (3 * (M 107 0 (6 * y13)))) = 1 → (inR (6 * y13)) ∧ (inR ((6 * y13) + 2)) ∧ (0 ≤ ((6 * y13) + 2) ∧ ((6 * y13) + 2) < 60) ∧ True) ∧ True) ∧ (inR (y13 + 1)) ∧ wp_L_isSorted_41 κ p7 Qm n y8 y9 y11 (if y12 = 0 then (0 : Int) else (if ¬ (M 105 0 (3 * (M 107 0 (6 * y13)))) = 1 then (1 : Int) else (if ¬ (M 107 0 ((6 * y13) + 2)) = 1 then (0 : Int) else 1))) (y13 + 1) M))
def wp_L_isSorted_32 (κ : Nat → Int) (p7 : Int) (Qm : Int → Mem → Prop) (y8 : Int) (y9 : Int) (M : Mem) : Prop := (∃ n104 : Nat, wp_L_isSorted_41 κ p7 Qm n104 y8 y9 0 1 0 M)
def wp_L_isSorted (κ : Nat → Int) (p7 : Int) (M : Mem) (Qm : Int → Mem → Prop) : Prop := (0 < (M 112 0 0)) ∧ (κ 117 = 0) ∧ ∀ M12 : Mem, M12 = zM M 117 → wp_L_isSorted_32 (kup [117] κ) p7 Qm (Int.tmod p7 (M 112 0 0)) (if ¬ (Int.tmod (Int.tdiv p7 4) 2) = 1 then (0 : Int) else 1) M12
set_option maxHeartbeats 4000000 in
set_option maxRecDepth 100000 in
theorem t_L_isSorted_312 {α0 : Ax} {κ0 : Nat → Int} {p7 : Int} (X : CX p m c cL_isSorted 17 s args RL G B κ meth (some .boolean)) (N : NcA s) (hlt : l.stackTraces = false) (hb : Bk G e0 α κ α0 κ0 B) (hp7 : inR p7) (ho117 : okk κ 117 0) {Qm : Int → Mem → Prop} : ∀ y8 : Int, ∀ y9 : Int, ∀ y11 : Int, ∀ y12 : Int, ∀ M : Mem, wp_L_isSorted_312 κ p7 Qm y8 y9 y11 y12 M → inR y8 → inR y9 → inR y11 → inR y12 → ∀ cl sl : Nat, cl + 2 ≤ 3 → sl + 12 ≤ 22 → ∀ (H : Heap) (locs : List Loc), Rp G e0 α κ B M H → va_S (fun q => B ≤ q) s.heap H locs → ∀ (ls : Array Slot), lv_has ls 17 [(0, .ref (α 10 0)), (8, .int (Int32.ofInt y8)), (9, .int (Int32.ofInt y9)), (11, .int (Int32.ofInt y11)), (12, .int (Int32.ofInt y12))] → WU p l e 9 3 22 s m args below meth c G e0 α0 κ0 B Qm H locs cl sl 312 ls [] := by
  intro y8 y9 y11 y12 M hw hy8 hy9 hy11 hy12 cl sl hc1 hc2 H locs hR hS ls hl
  have hw : wp_L_sorted y8 y9 M fun (x17 : Int) (M19 : Mem) => ∃ M20 : Mem, Gh M19 M20 ∧ (bit (if ¬ x17 = (if y12 = 0 then ((-7) : Int) else y11) then (0 : Int) else 1)) ∧ Qm (if ¬ x17 = (if y12 = 0 then ((-7) : Int) else y11) then (0 : Int) else 1) M20 := hw
  refine lv_aload_n X.1.1 X.1.2.1 dL_isSorted_312 rfl (lv_at hl 0 rfl) ?_
  refine lv_iload X.1.1 X.1.2.1 dL_isSorted_313 (lv_at hl 1 rfl) ?_
  refine lv_iload X.1.1 X.1.2.1 dL_isSorted_315 (lv_at hl 2 rfl) ?_
  refine sc_call 8 (n := 3) (As := [.ref (α 10 0), .int (Int32.ofInt y8), .int (Int32.ofInt y9)]) (rest := []) X N hR hS (w_L_sorted hlt X.2.2.1 hy8 hy9 hw) kw_1129 kw_1130 kw_37 kw_1131 ⟨by decide +kernel, by decide +kernel, by decide +kernel⟩ (rm_ok rmX_ok (by decide) (by decide)) rfl rfl (Nat.le_of_ble_eq_true rfl) hl.1 dL_isSorted_317 ⟨by show _ ≤ 3; omega, by show _ ≤ 22; omega⟩ (fun x17 M19 H locs hw r18 hR hS => ?_)
  obtain ⟨M20, g21, hw⟩ := hw
  have hR := hR.gh X.2.2.1 g21
  refine lv_iload X.1.1 X.1.2.1 dL_isSorted_320 (lv_at hl 4 rfl) ?_
  have r22 := inR_ite (c := y12 = 0) (inR_c (a := -7) rfl) hy11
  refine cut_j (A := ∀ v23 : Int, v23 = (if y12 = 0 then ((-7) : Int) else y11) → WU p l e 9 3 22 s m args below meth c G e0 α0 κ0 B Qm H locs (cl + 2) (sl + 12) 332 ls [.int (Int32.ofInt v23), .int (Int32.ofInt x17)]) (fun J24 => ?_) ?_
  · refine sa_if_eq (tgt := 330) X.1 hy12 dL_isSorted_322 (by decide) (fun hc => ?_) (fun hc => ?_)
    · skip
      refine sa_bipush X.1 dL_isSorted_330 (by decide) ?_
      exact J24 ((-7)) (if_pos (c := y12 = 0) hc).symm
    · skip
      refine lv_iload X.1.1 X.1.2.1 dL_isSorted_325 (lv_at hl 3 rfl) ?_
      refine lv_goto (tgt := 332) X.1.1 X.1.2.1 dL_isSorted_327 (by decide) ?_
      exact J24 (y11) (if_neg (c := y12 = 0) hc).symm
  intro v23 hv23
  subst hv23
  have r25 := inR_ite (c := ¬ x17 = (if y12 = 0 then ((-7) : Int) else y11)) (inR_c (a := 0) rfl) (inR_c (a := 1) rfl)
  refine cut_j (A := ∀ v26 : Int, v26 = (if ¬ x17 = (if y12 = 0 then ((-7) : Int) else y11) then (0 : Int) else 1) → WU p l e 9 3 22 s m args below meth c G e0 α0 κ0 B Qm H locs (cl + 2) (sl + 12) 340 ls [.int (Int32.ofInt v26)]) (fun J27 => ?_) ?_
  · refine sa_icmp_ne (tgt := 339) X.1 r18 r22 dL_isSorted_332 (by decide) (fun hc => ?_) (fun hc => ?_)
    · skip
      refine sa_const X.1 dL_isSorted_339 ?_
      exact J27 (0) (if_pos (c := ¬ x17 = (if y12 = 0 then ((-7) : Int) else y11)) hc).symm
    · skip
      refine sa_const X.1 dL_isSorted_335 ?_
      refine lv_goto (tgt := 340) X.1.1 X.1.2.1 dL_isSorted_336 (by decide) ?_
      exact J27 (1) (if_neg (c := ¬ x17 = (if y12 = 0 then ((-7) : Int) else y11)) (fun z => z hc)).symm
  intro v26 hv26
  subst hv26
  have c28 := hw.1
  have hw := hw.2
  exact su_zret X hb hR hS c28 hw dL_isSorted_340 (by omega) (by omega)
set_option maxHeartbeats 4000000 in
set_option maxRecDepth 100000 in
theorem t_L_isSorted_306 {α0 : Ax} {κ0 : Nat → Int} {p7 : Int} (X : CX p m c cL_isSorted 17 s args RL G B κ meth (some .boolean)) (N : NcA s) (hlt : l.stackTraces = false) (hb : Bk G e0 α κ α0 κ0 B) (hp7 : inR p7) (ho117 : okk κ 117 0) {Qm : Int → Mem → Prop} {K128 : Int → Int → Int → Int → Int → Mem → Prop} (hK128 : ∀ y8 : Int, ∀ y9 : Int, ∀ y11 : Int, ∀ y12 : Int, ∀ y13 : Int, ∀ M : Mem, K128 y8 y9 y11 y12 y13 M → inR y8 → inR y9 → inR y11 → inR y12 → inR y13 → ∀ cl sl : Nat, cl + 2 ≤ 3 → sl + 12 ≤ 22 → ∀ (H : Heap) (locs : List Loc), Rp G e0 α κ B M H → va_S (fun q => B ≤ q) s.heap H locs → ∀ (ls : Array Slot), lv_has ls 17 [(0, .ref (α 10 0)), (1, .ref (α 104 0)), (2, .ref (α 105 0)), (3, .ref (α 106 0)), (4, .ref (α 107 0)), (5, .ref (α 109 0)), (6, .ref (α 112 0)), (8, .int (Int32.ofInt y8)), (9, .int (Int32.ofInt y9)), (10, .ref (α 117 0)), (11, .int (Int32.ofInt y11)), (12, .int (Int32.ofInt y12)), (13, .int (Int32.ofInt y13))] → WU p l e 9 3 22 s m args below meth c G e0 α0 κ0 B Qm H locs cl sl 128 ls []) : ∀ y8 : Int, ∀ y9 : Int, ∀ y11 : Int, ∀ y12 : Int, ∀ y13 : Int, ∀ M : Mem, wp_L_isSorted_306 κ p7 Qm K128 y8 y9 y11 y12 y13 M → inR y8 → inR y9 → inR y11 → inR y12 → inR y13 → ∀ cl sl : Nat, cl + 2 ≤ 3 → sl + 12 ≤ 22 → ∀ (H : Heap) (locs : List Loc), Rp G e0 α κ B M H → va_S (fun q => B ≤ q) s.heap H locs → ∀ (ls : Array Slot), lv_has ls 17 [(0, .ref (α 10 0)), (1, .ref (α 104 0)), (2, .ref (α 105 0)), (3, .ref (α 106 0)), (4, .ref (α 107 0)), (5, .ref (α 109 0)), (6, .ref (α 112 0)), (8, .int (Int32.ofInt y8)), (9, .int (Int32.ofInt y9)), (10, .ref (α 117 0)), (11, .int (Int32.ofInt y11)), (12, .int (Int32.ofInt y12)), (13, .int (Int32.ofInt y13))] → WU p l e 9 3 22 s m args below meth c G e0 α0 κ0 B Qm H locs cl sl 306 ls [] := by
  intro y8 y9 y11 y12 y13 M hw hy8 hy9 hy11 hy12 hy13 cl sl hc1 hc2 H locs hR hS ls hl
  have hw : (inR (y13 + 1)) ∧ K128 y8 y9 y11 y12 (y13 + 1) M := hw
  have c30 := hw.1
  have hw := hw.2
  refine lv_iinc (v := Int32.ofInt (y13 + 1)) (lv' := [(13, .int (Int32.ofInt (y13 + 1))), (0, .ref (α 10 0)), (1, .ref (α 104 0)), (2, .ref (α 105 0)), (3, .ref (α 106 0)), (4, .ref (α 107 0)), (5, .ref (α 109 0)), (6, .ref (α 112 0)), (8, .int (Int32.ofInt y8)), (9, .int (Int32.ofInt y9)), (10, .ref (α 117 0)), (11, .int (Int32.ofInt y11)), (12, .int (Int32.ofInt y12))]) X.1.1 X.1.2.1 dL_isSorted_306 hl (k := 12) rfl (Int32.ofInt_add _ _).symm (by decide) rfl (fun ls hl => ?_)
  refine lv_goto (tgt := 128) X.1.1 X.1.2.1 dL_isSorted_309 (by decide) ?_
  exact hK128 _ _ _ _ _ _ hw hy8 hy9 hy11 hy12 c30 _ _ (by omega) (by omega) _ _ hR hS _ (lv_sub hl [1, 2, 3, 4, 5, 6, 7, 8, 9, 10, 11, 12, 0] rfl)
set_option maxHeartbeats 4000000 in
set_option maxRecDepth 100000 in
theorem t_L_isSorted_269 {α0 : Ax} {κ0 : Nat → Int} {p7 : Int} (X : CX p m c cL_isSorted 17 s args RL G B κ meth (some .boolean)) (N : NcA s) (hlt : l.stackTraces = false) (hb : Bk G e0 α κ α0 κ0 B) (hp7 : inR p7) (ho117 : okk κ 117 0) {Qm : Int → Mem → Prop} {K128 : Int → Int → Int → Int → Int → Mem → Prop} (hK128 : ∀ y8 : Int, ∀ y9 : Int, ∀ y11 : Int, ∀ y12 : Int, ∀ y13 : Int, ∀ M : Mem, K128 y8 y9 y11 y12 y13 M → inR y8 → inR y9 → inR y11 → inR y12 → inR y13 → ∀ cl sl : Nat, cl + 2 ≤ 3 → sl + 12 ≤ 22 → ∀ (H : Heap) (locs : List Loc), Rp G e0 α κ B M H → va_S (fun q => B ≤ q) s.heap H locs → ∀ (ls : Array Slot), lv_has ls 17 [(0, .ref (α 10 0)), (1, .ref (α 104 0)), (2, .ref (α 105 0)), (3, .ref (α 106 0)), (4, .ref (α 107 0)), (5, .ref (α 109 0)), (6, .ref (α 112 0)), (8, .int (Int32.ofInt y8)), (9, .int (Int32.ofInt y9)), (10, .ref (α 117 0)), (11, .int (Int32.ofInt y11)), (12, .int (Int32.ofInt y12)), (13, .int (Int32.ofInt y13))] → WU p l e 9 3 22 s m args below meth c G e0 α0 κ0 B Qm H locs cl sl 128 ls []) : ∀ y8 : Int, ∀ y9 : Int, ∀ y11 : Int, ∀ y12 : Int, ∀ y13 : Int, ∀ y14 : Int, ∀ M : Mem, wp_L_isSorted_269 κ p7 Qm K128 y8 y9 y11 y12 y13 y14 M → inR y8 → inR y9 → inR y11 → inR y12 → inR y13 → inR y14 → ∀ cl sl : Nat, cl + 2 ≤ 3 → sl + 12 ≤ 22 → ∀ (H : Heap) (locs : List Loc), Rp G e0 α κ B M H → va_S (fun q => B ≤ q) s.heap H locs → ∀ (ls : Array Slot), lv_has ls 17 [(0, .ref (α 10 0)), (1, .ref (α 104 0)), (2, .ref (α 105 0)), (3, .ref (α 106 0)), (4, .ref (α 107 0)), (5, .ref (α 109 0)), (6, .ref (α 112 0)), (8, .int (Int32.ofInt y8)), (9, .int (Int32.ofInt y9)), (10, .ref (α 117 0)), (11, .int (Int32.ofInt y11)), (12, .int (Int32.ofInt y12)), (13, .int (Int32.ofInt y13)), (14, .int (Int32.ofInt y14))] → WU p l e 9 3 22 s m args below meth c G e0 α0 κ0 B Qm H locs cl sl 269 ls [] := by
  intro y8 y9 y11 y12 y13 y14 M hw hy8 hy9 hy11 hy12 hy13 hy14 cl sl hc1 hc2 H locs hR hS ls hl
  have hw : ((y14 < 0 → wp_L_isSorted_306 κ p7 Qm K128 y8 y9 y11 y12 y13 M) ∧ (0 ≤ y14 → (0 ≤ y14 ∧ y14 < 10) ∧ (0 ≤ y13 ∧ y13 < 10) ∧ (inR (y11 + (if ¬ (M 117 0 y14) = (M 117 0 y13) then (1 : Int) else 0))) ∧ (0 ≤ y14 ∧ y14 < 10) ∧ (0 ≤ y13 ∧ y13 < 10) ∧ ∀ M42 : Mem, M42 = up M 106 0 y13 (M 117 0 y14) → wp_L_isSorted_306 κ p7 Qm K128 y8 y9 (y11 + (if ¬ (M 117 0 y14) = (M 117 0 y13) then (1 : Int) else 0)) y12 y13 M42)) := hw
  refine lv_iload X.1.1 X.1.2.1 dL_isSorted_269 (lv_at hl 13 rfl) ?_
  refine sa_if_lt (tgt := 306) X.1 hy14 dL_isSorted_271 (by decide) (fun hc => ?_) (fun hc => ?_)
  · have hw := hw.1 hc
    exact t_L_isSorted_306 X N hlt hb hp7 ho117 hK128 _ _ _ _ _ _ hw hy8 hy9 hy11 hy12 hy13 _ _ (by omega) (by omega) _ _ hR hS _ (lv_sub hl [0, 1, 2, 3, 4, 5, 6, 7, 8, 9, 10, 11, 12] rfl)
  · have hw := hw.2 hc
    refine lv_iload X.1.1 X.1.2.1 dL_isSorted_274 (lv_at hl 10 rfl) ?_
    refine lv_aload X.1.1 X.1.2.1 dL_isSorted_276 (lv_at hl 9 rfl) ?_
    refine lv_iload X.1.1 X.1.2.1 dL_isSorted_278 (lv_at hl 13 rfl) ?_
    have c31 := hw.1
    have hw := hw.2
    refine ra_117 X hR ho117 c31 dL_isSorted_280 ?_
    have r32 := hR.r 117 0 y14
    refine lv_aload X.1.1 X.1.2.1 dL_isSorted_281 (lv_at hl 9 rfl) ?_
    refine lv_iload X.1.1 X.1.2.1 dL_isSorted_283 (lv_at hl 12 rfl) ?_
    have c33 := hw.1
    have hw := hw.2
    refine ra_117 X hR ho117 c33 dL_isSorted_285 ?_
    have r34 := hR.r 117 0 y13
    have r35 := inR_ite (c := ¬ (M 117 0 y14) = (M 117 0 y13)) (inR_c (a := 1) rfl) (inR_c (a := 0) rfl)
    refine cut_j (A := ∀ v36 : Int, v36 = (if ¬ (M 117 0 y14) = (M 117 0 y13) then (1 : Int) else 0) → WU p l e 9 3 22 s m args below meth c G e0 α0 κ0 B Qm H locs cl sl 294 ls [.int (Int32.ofInt v36), .int (Int32.ofInt y11)]) (fun J37 => ?_) ?_
    · refine sa_icmp_ne (tgt := 293) X.1 r32 r34 dL_isSorted_286 (by decide) (fun hc => ?_) (fun hc => ?_)
      · skip
        refine sa_const X.1 dL_isSorted_293 ?_
        exact J37 (1) (if_pos (c := ¬ (M 117 0 y14) = (M 117 0 y13)) hc).symm
      · skip
        refine sa_const X.1 dL_isSorted_289 ?_
        refine lv_goto (tgt := 294) X.1.1 X.1.2.1 dL_isSorted_290 (by decide) ?_
        exact J37 (0) (if_neg (c := ¬ (M 117 0 y14) = (M 117 0 y13)) (fun z => z hc)).symm
    intro v36 hv36
    subst hv36
    have c38 := hw.1
    have hw := hw.2
    refine sa_iadd X.1 dL_isSorted_294 ?_
    refine lv_istore (lv' := [(11, .int (Int32.ofInt (y11 + (if ¬ (M 117 0 y14) = (M 117 0 y13) then (1 : Int) else 0)))), (0, .ref (α 10 0)), (1, .ref (α 104 0)), (2, .ref (α 105 0)), (3, .ref (α 106 0)), (4, .ref (α 107 0)), (5, .ref (α 109 0)), (6, .ref (α 112 0)), (8, .int (Int32.ofInt y8)), (9, .int (Int32.ofInt y9)), (10, .ref (α 117 0)), (12, .int (Int32.ofInt y12)), (13, .int (Int32.ofInt y13)), (14, .int (Int32.ofInt y14))]) X.1.1 X.1.2.1 dL_isSorted_295 hl (by decide) rfl (fun ls hl => ?_)
    refine lv_aload_n X.1.1 X.1.2.1 dL_isSorted_297 rfl (lv_at hl 4 rfl) ?_
    refine lv_iload X.1.1 X.1.2.1 dL_isSorted_298 (lv_at hl 12 rfl) ?_
    refine lv_aload X.1.1 X.1.2.1 dL_isSorted_300 (lv_at hl 10 rfl) ?_
    refine lv_iload X.1.1 X.1.2.1 dL_isSorted_302 (lv_at hl 13 rfl) ?_
    have c39 := hw.1
    have hw := hw.2
    refine ra_117 X hR ho117 c39 dL_isSorted_304 ?_
    have r40 := hR.r 117 0 y14
    have c41 := hw.1
    have hw := hw.2
    refine wa_106 X hR hS (okf X.2.2.1 rfl) c41 r40 dL_isSorted_305 (fun H locs hR hS => ?_)
    obtain ⟨M42, e43⟩ : ∃ z : Mem, z = up M 106 0 y13 (M 117 0 y14) := ⟨_, rfl⟩
    rw [← e43] at hR
    have hw := hw M42 e43
    exact t_L_isSorted_306 X N hlt hb hp7 ho117 hK128 _ _ _ _ _ _ hw hy8 hy9 c38 hy12 hy13 _ _ (by omega) (by omega) _ _ hR hS _ (lv_sub hl [1, 2, 3, 4, 5, 6, 7, 8, 9, 10, 0, 11, 12] rfl)
set_option maxHeartbeats 4000000 in
set_option maxRecDepth 100000 in
theorem t_L_isSorted_259 {α0 : Ax} {κ0 : Nat → Int} {p7 : Int} (X : CX p m c cL_isSorted 17 s args RL G B κ meth (some .boolean)) (N : NcA s) (hlt : l.stackTraces = false) (hb : Bk G e0 α κ α0 κ0 B) (hp7 : inR p7) (ho117 : okk κ 117 0) {Qm : Int → Mem → Prop} {K128 : Int → Int → Int → Int → Int → Mem → Prop} {K148 : Int → Int → Int → Int → Int → Int → Int → Mem → Prop} (hK128 : ∀ y8 : Int, ∀ y9 : Int, ∀ y11 : Int, ∀ y12 : Int, ∀ y13 : Int, ∀ M : Mem, K128 y8 y9 y11 y12 y13 M → inR y8 → inR y9 → inR y11 → inR y12 → inR y13 → ∀ cl sl : Nat, cl + 2 ≤ 3 → sl + 12 ≤ 22 → ∀ (H : Heap) (locs : List Loc), Rp G e0 α κ B M H → va_S (fun q => B ≤ q) s.heap H locs → ∀ (ls : Array Slot), lv_has ls 17 [(0, .ref (α 10 0)), (1, .ref (α 104 0)), (2, .ref (α 105 0)), (3, .ref (α 106 0)), (4, .ref (α 107 0)), (5, .ref (α 109 0)), (6, .ref (α 112 0)), (8, .int (Int32.ofInt y8)), (9, .int (Int32.ofInt y9)), (10, .ref (α 117 0)), (11, .int (Int32.ofInt y11)), (12, .int (Int32.ofInt y12)), (13, .int (Int32.ofInt y13))] → WU p l e 9 3 22 s m args below meth c G e0 α0 κ0 B Qm H locs cl sl 128 ls []) (hK148 : ∀ y8 : Int, ∀ y9 : Int, ∀ y11 : Int, ∀ y12 : Int, ∀ y13 : Int, ∀ y14 : Int, ∀ y15 : Int, ∀ M : Mem, K148 y8 y9 y11 y12 y13 y14 y15 M → inR y8 → inR y9 → inR y11 → inR y12 → inR y13 → inR y14 → inR y15 → ∀ cl sl : Nat, cl + 2 ≤ 3 → sl + 12 ≤ 22 → ∀ (H : Heap) (locs : List Loc), Rp G e0 α κ B M H → va_S (fun q => B ≤ q) s.heap H locs → ∀ (ls : Array Slot), lv_has ls 17 [(0, .ref (α 10 0)), (1, .ref (α 104 0)), (2, .ref (α 105 0)), (3, .ref (α 106 0)), (4, .ref (α 107 0)), (5, .ref (α 109 0)), (6, .ref (α 112 0)), (8, .int (Int32.ofInt y8)), (9, .int (Int32.ofInt y9)), (10, .ref (α 117 0)), (11, .int (Int32.ofInt y11)), (12, .int (Int32.ofInt y12)), (13, .int (Int32.ofInt y13)), (14, .int (Int32.ofInt y14)), (15, .int (Int32.ofInt y15))] → WU p l e 9 3 22 s m args below meth c G e0 α0 κ0 B Qm H locs cl sl 148 ls []) : ∀ y8 : Int, ∀ y9 : Int, ∀ y11 : Int, ∀ y12 : Int, ∀ y13 : Int, ∀ y14 : Int, ∀ y15 : Int, ∀ M : Mem, wp_L_isSorted_259 κ p7 Qm K128 K148 y8 y9 y11 y12 y13 y14 y15 M → inR y8 → inR y9 → inR y11 → inR y12 → inR y13 → inR y14 → inR y15 → ∀ cl sl : Nat, cl + 2 ≤ 3 → sl + 12 ≤ 22 → ∀ (H : Heap) (locs : List Loc), Rp G e0 α κ B M H → va_S (fun q => B ≤ q) s.heap H locs → ∀ (ls : Array Slot), lv_has ls 17 [(0, .ref (α 10 0)), (1, .ref (α 104 0)), (2, .ref (α 105 0)), (3, .ref (α 106 0)), (4, .ref (α 107 0)), (5, .ref (α 109 0)), (6, .ref (α 112 0)), (8, .int (Int32.ofInt y8)), (9, .int (Int32.ofInt y9)), (10, .ref (α 117 0)), (11, .int (Int32.ofInt y11)), (12, .int (Int32.ofInt y12)), (13, .int (Int32.ofInt y13)), (14, .int (Int32.ofInt y14)), (15, .int (Int32.ofInt y15))] → WU p l e 9 3 22 s m args below meth c G e0 α0 κ0 B Qm H locs cl sl 259 ls [] := by
  intro y8 y9 y11 y12 y13 y14 y15 M hw hy8 hy9 hy11 hy12 hy13 hy14 hy15 cl sl hc1 hc2 H locs hR hS ls hl
  have hw : (inR (y15 + 1)) ∧ K148 y8 y9 y11 y12 y13 y14 (y15 + 1) M := hw
  refine lv_iload X.1.1 X.1.2.1 dL_isSorted_259 (lv_at hl 13 rfl) ?_
  refine lv_istore (lv' := [(14, .int (Int32.ofInt y14)), (0, .ref (α 10 0)), (1, .ref (α 104 0)), (2, .ref (α 105 0)), (3, .ref (α 106 0)), (4, .ref (α 107 0)), (5, .ref (α 109 0)), (6, .ref (α 112 0)), (8, .int (Int32.ofInt y8)), (9, .int (Int32.ofInt y9)), (10, .ref (α 117 0)), (11, .int (Int32.ofInt y11)), (12, .int (Int32.ofInt y12)), (13, .int (Int32.ofInt y13)), (15, .int (Int32.ofInt y15))]) X.1.1 X.1.2.1 dL_isSorted_261 hl (by decide) rfl (fun ls hl => ?_)
  have c54 := hw.1
  have hw := hw.2
  refine lv_iinc (v := Int32.ofInt (y15 + 1)) (lv' := [(15, .int (Int32.ofInt (y15 + 1))), (14, .int (Int32.ofInt y14)), (0, .ref (α 10 0)), (1, .ref (α 104 0)), (2, .ref (α 105 0)), (3, .ref (α 106 0)), (4, .ref (α 107 0)), (5, .ref (α 109 0)), (6, .ref (α 112 0)), (8, .int (Int32.ofInt y8)), (9, .int (Int32.ofInt y9)), (10, .ref (α 117 0)), (11, .int (Int32.ofInt y11)), (12, .int (Int32.ofInt y12)), (13, .int (Int32.ofInt y13))]) X.1.1 X.1.2.1 dL_isSorted_263 hl (k := 14) rfl (Int32.ofInt_add _ _).symm (by decide) rfl (fun ls hl => ?_)
  refine lv_goto (tgt := 148) X.1.1 X.1.2.1 dL_isSorted_266 (by decide) ?_
  exact hK148 _ _ _ _ _ _ _ _ hw hy8 hy9 hy11 hy12 hy13 hy14 c54 _ _ (by omega) (by omega) _ _ hR hS _ (lv_sub hl [2, 3, 4, 5, 6, 7, 8, 9, 10, 11, 12, 13, 14, 1, 0] rfl)
set_option maxHeartbeats 4000000 in
set_option maxRecDepth 100000 in
theorem t_L_isSorted_200 {α0 : Ax} {κ0 : Nat → Int} {p7 : Int} (X : CX p m c cL_isSorted 17 s args RL G B κ meth (some .boolean)) (N : NcA s) (hlt : l.stackTraces = false) (hb : Bk G e0 α κ α0 κ0 B) (hp7 : inR p7) (ho117 : okk κ 117 0) {Qm : Int → Mem → Prop} {K128 : Int → Int → Int → Int → Int → Mem → Prop} {K148 : Int → Int → Int → Int → Int → Int → Int → Mem → Prop} (hK128 : ∀ y8 : Int, ∀ y9 : Int, ∀ y11 : Int, ∀ y12 : Int, ∀ y13 : Int, ∀ M : Mem, K128 y8 y9 y11 y12 y13 M → inR y8 → inR y9 → inR y11 → inR y12 → inR y13 → ∀ cl sl : Nat, cl + 2 ≤ 3 → sl + 12 ≤ 22 → ∀ (H : Heap) (locs : List Loc), Rp G e0 α κ B M H → va_S (fun q => B ≤ q) s.heap H locs → ∀ (ls : Array Slot), lv_has ls 17 [(0, .ref (α 10 0)), (1, .ref (α 104 0)), (2, .ref (α 105 0)), (3, .ref (α 106 0)), (4, .ref (α 107 0)), (5, .ref (α 109 0)), (6, .ref (α 112 0)), (8, .int (Int32.ofInt y8)), (9, .int (Int32.ofInt y9)), (10, .ref (α 117 0)), (11, .int (Int32.ofInt y11)), (12, .int (Int32.ofInt y12)), (13, .int (Int32.ofInt y13))] → WU p l e 9 3 22 s m args below meth c G e0 α0 κ0 B Qm H locs cl sl 128 ls []) (hK148 : ∀ y8 : Int, ∀ y9 : Int, ∀ y11 : Int, ∀ y12 : Int, ∀ y13 : Int, ∀ y14 : Int, ∀ y15 : Int, ∀ M : Mem, K148 y8 y9 y11 y12 y13 y14 y15 M → inR y8 → inR y9 → inR y11 → inR y12 → inR y13 → inR y14 → inR y15 → ∀ cl sl : Nat, cl + 2 ≤ 3 → sl + 12 ≤ 22 → ∀ (H : Heap) (locs : List Loc), Rp G e0 α κ B M H → va_S (fun q => B ≤ q) s.heap H locs → ∀ (ls : Array Slot), lv_has ls 17 [(0, .ref (α 10 0)), (1, .ref (α 104 0)), (2, .ref (α 105 0)), (3, .ref (α 106 0)), (4, .ref (α 107 0)), (5, .ref (α 109 0)), (6, .ref (α 112 0)), (8, .int (Int32.ofInt y8)), (9, .int (Int32.ofInt y9)), (10, .ref (α 117 0)), (11, .int (Int32.ofInt y11)), (12, .int (Int32.ofInt y12)), (13, .int (Int32.ofInt y13)), (14, .int (Int32.ofInt y14)), (15, .int (Int32.ofInt y15))] → WU p l e 9 3 22 s m args below meth c G e0 α0 κ0 B Qm H locs cl sl 148 ls []) : ∀ y8 : Int, ∀ y9 : Int, ∀ y11 : Int, ∀ y12 : Int, ∀ y13 : Int, ∀ y14 : Int, ∀ y15 : Int, ∀ M : Mem, wp_L_isSorted_200 κ p7 Qm K128 K148 y8 y9 y11 y12 y13 y14 y15 M → inR y8 → inR y9 → inR y11 → inR y12 → inR y13 → inR y14 → inR y15 → ∀ cl sl : Nat, cl + 2 ≤ 3 → sl + 12 ≤ 22 → ∀ (H : Heap) (locs : List Loc), Rp G e0 α κ B M H → va_S (fun q => B ≤ q) s.heap H locs → ∀ (ls : Array Slot), lv_has ls 17 [(0, .ref (α 10 0)), (1, .ref (α 104 0)), (2, .ref (α 105 0)), (3, .ref (α 106 0)), (4, .ref (α 107 0)), (5, .ref (α 109 0)), (6, .ref (α 112 0)), (8, .int (Int32.ofInt y8)), (9, .int (Int32.ofInt y9)), (10, .ref (α 117 0)), (11, .int (Int32.ofInt y11)), (12, .int (Int32.ofInt y12)), (13, .int (Int32.ofInt y13)), (14, .int (Int32.ofInt y14)), (15, .int (Int32.ofInt y15))] → WU p l e 9 3 22 s m args below meth c G e0 α0 κ0 B Qm H locs cl sl 200 ls [] := by
  intro y8 y9 y11 y12 y13 y14 y15 M hw hy8 hy9 hy11 hy12 hy13 hy14 hy15 cl sl hc1 hc2 H locs hR hS ls hl
  have hw : wp_L_isSorted_259 κ p7 Qm K128 K148 y8 y9 y11 y12 y13 y14 y15 M := hw
  refine sa_const X.1 dL_isSorted_200 ?_
  refine lv_istore (lv' := [(16, .int (Int32.ofInt 0)), (0, .ref (α 10 0)), (1, .ref (α 104 0)), (2, .ref (α 105 0)), (3, .ref (α 106 0)), (4, .ref (α 107 0)), (5, .ref (α 109 0)), (6, .ref (α 112 0)), (8, .int (Int32.ofInt y8)), (9, .int (Int32.ofInt y9)), (10, .ref (α 117 0)), (11, .int (Int32.ofInt y11)), (12, .int (Int32.ofInt y12)), (13, .int (Int32.ofInt y13)), (14, .int (Int32.ofInt y14)), (15, .int (Int32.ofInt y15))]) X.1.1 X.1.2.1 dL_isSorted_201 hl (by decide) rfl (fun ls hl => ?_)
  refine lv_iload X.1.1 X.1.2.1 dL_isSorted_203 (lv_at hl 0 rfl) ?_
  refine sa_if_eq (tgt := 259) X.1 (inR_c (a := 0) rfl) dL_isSorted_205 (by decide) (fun hc => ?_) (fun hc => absurd hc (by decide))
  exact t_L_isSorted_259 X N hlt hb hp7 ho117 hK128 hK148 _ _ _ _ _ _ _ _ hw hy8 hy9 hy11 hy12 hy13 hy14 hy15 _ _ (by omega) (by omega) _ _ hR hS _ (lv_sub hl [1, 2, 3, 4, 5, 6, 7, 8, 9, 10, 11, 12, 13, 14, 15] rfl)
set_option maxHeartbeats 4000000 in
set_option maxRecDepth 100000 in
theorem t_L_isSorted_254 {α0 : Ax} {κ0 : Nat → Int} {p7 : Int} (X : CX p m c cL_isSorted 17 s args RL G B κ meth (some .boolean)) (N : NcA s) (hlt : l.stackTraces = false) (hb : Bk G e0 α κ α0 κ0 B) (hp7 : inR p7) (ho117 : okk κ 117 0) {Qm : Int → Mem → Prop} {K128 : Int → Int → Int → Int → Int → Mem → Prop} {K148 : Int → Int → Int → Int → Int → Int → Int → Mem → Prop} (hK128 : ∀ y8 : Int, ∀ y9 : Int, ∀ y11 : Int, ∀ y12 : Int, ∀ y13 : Int, ∀ M : Mem, K128 y8 y9 y11 y12 y13 M → inR y8 → inR y9 → inR y11 → inR y12 → inR y13 → ∀ cl sl : Nat, cl + 2 ≤ 3 → sl + 12 ≤ 22 → ∀ (H : Heap) (locs : List Loc), Rp G e0 α κ B M H → va_S (fun q => B ≤ q) s.heap H locs → ∀ (ls : Array Slot), lv_has ls 17 [(0, .ref (α 10 0)), (1, .ref (α 104 0)), (2, .ref (α 105 0)), (3, .ref (α 106 0)), (4, .ref (α 107 0)), (5, .ref (α 109 0)), (6, .ref (α 112 0)), (8, .int (Int32.ofInt y8)), (9, .int (Int32.ofInt y9)), (10, .ref (α 117 0)), (11, .int (Int32.ofInt y11)), (12, .int (Int32.ofInt y12)), (13, .int (Int32.ofInt y13))] → WU p l e 9 3 22 s m args below meth c G e0 α0 κ0 B Qm H locs cl sl 128 ls []) (hK148 : ∀ y8 : Int, ∀ y9 : Int, ∀ y11 : Int, ∀ y12 : Int, ∀ y13 : Int, ∀ y14 : Int, ∀ y15 : Int, ∀ M : Mem, K148 y8 y9 y11 y12 y13 y14 y15 M → inR y8 → inR y9 → inR y11 → inR y12 → inR y13 → inR y14 → inR y15 → ∀ cl sl : Nat, cl + 2 ≤ 3 → sl + 12 ≤ 22 → ∀ (H : Heap) (locs : List Loc), Rp G e0 α κ B M H → va_S (fun q => B ≤ q) s.heap H locs → ∀ (ls : Array Slot), lv_has ls 17 [(0, .ref (α 10 0)), (1, .ref (α 104 0)), (2, .ref (α 105 0)), (3, .ref (α 106 0)), (4, .ref (α 107 0)), (5, .ref (α 109 0)), (6, .ref (α 112 0)), (8, .int (Int32.ofInt y8)), (9, .int (Int32.ofInt y9)), (10, .ref (α 117 0)), (11, .int (Int32.ofInt y11)), (12, .int (Int32.ofInt y12)), (13, .int (Int32.ofInt y13)), (14, .int (Int32.ofInt y14)), (15, .int (Int32.ofInt y15))] → WU p l e 9 3 22 s m args below meth c G e0 α0 κ0 B Qm H locs cl sl 148 ls []) : ∀ y8 : Int, ∀ y9 : Int, ∀ y11 : Int, ∀ y12 : Int, ∀ y13 : Int, ∀ y15 : Int, ∀ M : Mem, wp_L_isSorted_254 κ p7 Qm K128 K148 y8 y9 y11 y12 y13 y15 M → inR y8 → inR y9 → inR y11 → inR y12 → inR y13 → inR y15 → ∀ cl sl : Nat, cl + 2 ≤ 3 → sl + 12 ≤ 22 → ∀ (H : Heap) (locs : List Loc), Rp G e0 α κ B M H → va_S (fun q => B ≤ q) s.heap H locs → ∀ (ls : Array Slot), lv_has ls 17 [(0, .ref (α 10 0)), (1, .ref (α 104 0)), (2, .ref (α 105 0)), (3, .ref (α 106 0)), (4, .ref (α 107 0)), (5, .ref (α 109 0)), (6, .ref (α 112 0)), (8, .int (Int32.ofInt y8)), (9, .int (Int32.ofInt y9)), (10, .ref (α 117 0)), (11, .int (Int32.ofInt y11)), (12, .int (Int32.ofInt y12)), (13, .int (Int32.ofInt y13)), (15, .int (Int32.ofInt y15))] → WU p l e 9 3 22 s m args below meth c G e0 α0 κ0 B Qm H locs cl sl 254 ls [] := by
  intro y8 y9 y11 y12 y13 y15 M hw hy8 hy9 hy11 hy12 hy13 hy15 cl sl hc1 hc2 H locs hR hS ls hl
  have hw : (inR (y15 + 1)) ∧ K148 y8 y9 y11 y12 y13 y15 (y15 + 1) M := hw
  refine lv_iload X.1.1 X.1.2.1 dL_isSorted_254 (lv_at hl 13 rfl) ?_
  refine lv_goto (tgt := 261) X.1.1 X.1.2.1 dL_isSorted_256 (by decide) ?_
  refine lv_istore (lv' := [(14, .int (Int32.ofInt y15)), (0, .ref (α 10 0)), (1, .ref (α 104 0)), (2, .ref (α 105 0)), (3, .ref (α 106 0)), (4, .ref (α 107 0)), (5, .ref (α 109 0)), (6, .ref (α 112 0)), (8, .int (Int32.ofInt y8)), (9, .int (Int32.ofInt y9)), (10, .ref (α 117 0)), (11, .int (Int32.ofInt y11)), (12, .int (Int32.ofInt y12)), (13, .int (Int32.ofInt y13)), (15, .int (Int32.ofInt y15))]) X.1.1 X.1.2.1 dL_isSorted_261 hl (by decide) rfl (fun ls hl => ?_)
  have c63 := hw.1
  have hw := hw.2
  refine lv_iinc (v := Int32.ofInt (y15 + 1)) (lv' := [(15, .int (Int32.ofInt (y15 + 1))), (14, .int (Int32.ofInt y15)), (0, .ref (α 10 0)), (1, .ref (α 104 0)), (2, .ref (α 105 0)), (3, .ref (α 106 0)), (4, .ref (α 107 0)), (5, .ref (α 109 0)), (6, .ref (α 112 0)), (8, .int (Int32.ofInt y8)), (9, .int (Int32.ofInt y9)), (10, .ref (α 117 0)), (11, .int (Int32.ofInt y11)), (12, .int (Int32.ofInt y12)), (13, .int (Int32.ofInt y13))]) X.1.1 X.1.2.1 dL_isSorted_263 hl (k := 14) rfl (Int32.ofInt_add _ _).symm (by decide) rfl (fun ls hl => ?_)
  refine lv_goto (tgt := 148) X.1.1 X.1.2.1 dL_isSorted_266 (by decide) ?_
  exact hK148 _ _ _ _ _ _ _ _ hw hy8 hy9 hy11 hy12 hy13 hy15 c63 _ _ (by omega) (by omega) _ _ hR hS _ (lv_sub hl [2, 3, 4, 5, 6, 7, 8, 9, 10, 11, 12, 13, 14, 1, 0] rfl)
set_option maxHeartbeats 4000000 in
set_option maxRecDepth 100000 in
theorem t_L_isSorted_148 {α0 : Ax} {κ0 : Nat → Int} {p7 : Int} (X : CX p m c cL_isSorted 17 s args RL G B κ meth (some .boolean)) (N : NcA s) (hlt : l.stackTraces = false) (hb : Bk G e0 α κ α0 κ0 B) (hp7 : inR p7) (ho117 : okk κ 117 0) {Qm : Int → Mem → Prop} {K128 : Int → Int → Int → Int → Int → Mem → Prop} (hK128 : ∀ y8 : Int, ∀ y9 : Int, ∀ y11 : Int, ∀ y12 : Int, ∀ y13 : Int, ∀ M : Mem, K128 y8 y9 y11 y12 y13 M → inR y8 → inR y9 → inR y11 → inR y12 → inR y13 → ∀ cl sl : Nat, cl + 2 ≤ 3 → sl + 12 ≤ 22 → ∀ (H : Heap) (locs : List Loc), Rp G e0 α κ B M H → va_S (fun q => B ≤ q) s.heap H locs → ∀ (ls : Array Slot), lv_has ls 17 [(0, .ref (α 10 0)), (1, .ref (α 104 0)), (2, .ref (α 105 0)), (3, .ref (α 106 0)), (4, .ref (α 107 0)), (5, .ref (α 109 0)), (6, .ref (α 112 0)), (8, .int (Int32.ofInt y8)), (9, .int (Int32.ofInt y9)), (10, .ref (α 117 0)), (11, .int (Int32.ofInt y11)), (12, .int (Int32.ofInt y12)), (13, .int (Int32.ofInt y13))] → WU p l e 9 3 22 s m args below meth c G e0 α0 κ0 B Qm H locs cl sl 128 ls []) : ∀ n : Nat, ∀ y8 : Int, ∀ y9 : Int, ∀ y11 : Int, ∀ y12 : Int, ∀ y13 : Int, ∀ y14 : Int, ∀ y15 : Int, ∀ M : Mem, wp_L_isSorted_148 κ p7 Qm K128 n y8 y9 y11 y12 y13 y14 y15 M → inR y8 → inR y9 → inR y11 → inR y12 → inR y13 → inR y14 → inR y15 → ∀ cl sl : Nat, cl + 2 ≤ 3 → sl + 12 ≤ 22 → ∀ (H : Heap) (locs : List Loc), Rp G e0 α κ B M H → va_S (fun q => B ≤ q) s.heap H locs → ∀ (ls : Array Slot), lv_has ls 17 [(0, .ref (α 10 0)), (1, .ref (α 104 0)), (2, .ref (α 105 0)), (3, .ref (α 106 0)), (4, .ref (α 107 0)), (5, .ref (α 109 0)), (6, .ref (α 112 0)), (8, .int (Int32.ofInt y8)), (9, .int (Int32.ofInt y9)), (10, .ref (α 117 0)), (11, .int (Int32.ofInt y11)), (12, .int (Int32.ofInt y12)), (13, .int (Int32.ofInt y13)), (14, .int (Int32.ofInt y14)), (15, .int (Int32.ofInt y15))] → WU p l e 9 3 22 s m args below meth c G e0 α0 κ0 B Qm H locs cl sl 148 ls [] := by
  intro n
  induction n with
  | zero =>
    intro y8 y9 y11 y12 y13 y14 y15 M hw hy8 hy9 hy11 hy12 hy13 hy14 hy15 cl sl hc1 hc2 H locs hR hS ls hl
    exact hw.elim
  | succ n ih =>
    intro y8 y9 y11 y12 y13 y14 y15 M hw hy8 hy9 hy11 hy12 hy13 hy14 hy15 cl sl hc1 hc2 H locs hR hS ls hl
    have hw : (((M 112 0 1) ≤ y15 → wp_L_isSorted_269 κ p7 Qm K128 y8 y9 y11 y12 y13 y14 M) ∧ (y15 < (M 112 0 1) → (0 ≤ y13 ∧ y13 < 10) ∧ (inR (3 * (M 106 0 y13))) ∧ (0 ≤ (3 * (M 106 0 y13)) ∧ (3 * (M 106 0 y13)) < 30) ∧ ((¬ (M 105 0 (3 * (M 106 0 y13))) = 1 → wp_L_isSorted_269 κ p7 Qm K128 y8 y9 y11 y12 y13 y14 M) ∧ ((M 105 0 (3 * (M 106 0 y13))) = 1 → (0 ≤ y15 ∧ y15 < 10) ∧ (inR (3 * (M 117 0 y15))) ∧ (0 ≤ (3 * (M 117 0 y15)) ∧ (3 * (M 117 0 y15)) < 30) ∧ ((¬ (M 105 0 (3 * (M 117 0 y15))) = 1 → wp_L_isSorted_200 κ p7 Qm K128 (wp_L_isSorted_148 κ p7 Qm K128 n) y8 y9 y11 y12 y13 y14 y15 M) ∧ ((M 105 0 (3 * (M 117 0 y15))) = 1 → (0 ≤ y15 ∧ y15 < 10) ∧ wp_L_ahead (M 117 0 y15) y13 M fun (x58 : Int) (M57 : Mem) => (((if 0 ≤ x58 then (0 : Int) else 1) = 0 → wp_L_isSorted_259 κ p7 Qm K128 (wp_L_isSorted_148 κ p7 Qm K128 n) y8 y9 y11 y12 y13 y14 y15 M57) ∧ (¬ (if 0 ≤ x58 then (0 : Int) else 1) = 0 → ((y14 < 0 → wp_L_isSorted_254 κ p7 Qm K128 (wp_L_isSorted_148 κ p7 Qm K128 n) y8 y9 y11 y12 y13 y15 M57) ∧ (0 ≤ y14 → (0 ≤ y15 ∧ y15 < 10) ∧ wp_L_key (M57 117 0 y15) y8 y9 M57 fun (x67 : Int) (M66 : Mem) => (0 ≤ y14 ∧ y14 < 10) ∧ wp_L_key (M66 117 0 y14) y8 y9 M66 fun (x72 : Int) (M71 : Mem) => (inR (y15 + 1)) ∧ wp_L_isSorted_148 κ p7 Qm K128 n y8 y9 y11 y12 y13 (if x72 ≤ x67 then y14 else y15) (y15 + 1) M71)))))))))) := hw
    refine lv_iload X.1.1 X.1.2.1 dL_isSorted_148 (lv_at hl 14 rfl) ?_
    refine lv_aload X.1.1 X.1.2.1 dL_isSorted_150 (lv_at hl 6 rfl) ?_
    refine sa_const X.1 dL_isSorted_152 ?_
    refine ra_112 X hR (okf X.2.2.1 rfl) ⟨by decide, by decide⟩ dL_isSorted_153 ?_
    have r29 := hR.r 112 0 1
    refine sa_icmp_ge (tgt := 269) X.1 hy15 r29 dL_isSorted_154 (by decide) (fun hc => ?_) (fun hc => ?_)
    · have hw := hw.1 hc
      exact t_L_isSorted_269 X N hlt hb hp7 ho117 hK128 _ _ _ _ _ _ _ hw hy8 hy9 hy11 hy12 hy13 hy14 _ _ (by omega) (by omega) _ _ hR hS _ (lv_sub hl [0, 1, 2, 3, 4, 5, 6, 7, 8, 9, 10, 11, 12, 13] rfl)
    · have hw := hw.2 hc
      refine lv_aload_n X.1.1 X.1.2.1 dL_isSorted_157 rfl (lv_at hl 2 rfl) ?_
      refine sa_const X.1 dL_isSorted_158 ?_
      refine lv_aload_n X.1.1 X.1.2.1 dL_isSorted_159 rfl (lv_at hl 3 rfl) ?_
      refine lv_iload X.1.1 X.1.2.1 dL_isSorted_160 (lv_at hl 12 rfl) ?_
      have c44 := hw.1
      have hw := hw.2
      refine ra_106 X hR (okf X.2.2.1 rfl) c44 dL_isSorted_162 ?_
      have r45 := hR.r 106 0 y13
      have c46 := hw.1
      have hw := hw.2
      refine sa_imul X.1 dL_isSorted_163 ?_
      have c47 := hw.1
      have hw := hw.2
      refine ra_105 X hR (okf X.2.2.1 rfl) c47 dL_isSorted_164 ?_
      have r48 := hR.r 105 0 (3 * (M 106 0 y13))
      refine sa_const X.1 dL_isSorted_165 ?_
      refine sa_icmp_ne (tgt := 269) X.1 r48 (inR_c (a := 1) rfl) dL_isSorted_166 (by decide) (fun hc => ?_) (fun hc => ?_)
      · have hw := hw.1 hc
        exact t_L_isSorted_269 X N hlt hb hp7 ho117 hK128 _ _ _ _ _ _ _ hw hy8 hy9 hy11 hy12 hy13 hy14 _ _ (by omega) (by omega) _ _ hR hS _ (lv_sub hl [0, 1, 2, 3, 4, 5, 6, 7, 8, 9, 10, 11, 12, 13] rfl)
      · have hw := hw.2 hc
        refine lv_aload_n X.1.1 X.1.2.1 dL_isSorted_169 rfl (lv_at hl 2 rfl) ?_
        refine sa_const X.1 dL_isSorted_170 ?_
        refine lv_aload X.1.1 X.1.2.1 dL_isSorted_171 (lv_at hl 9 rfl) ?_
        refine lv_iload X.1.1 X.1.2.1 dL_isSorted_173 (lv_at hl 14 rfl) ?_
        have c49 := hw.1
        have hw := hw.2
        refine ra_117 X hR ho117 c49 dL_isSorted_175 ?_
        have r50 := hR.r 117 0 y15
        have c51 := hw.1
        have hw := hw.2
        refine sa_imul X.1 dL_isSorted_176 ?_
        have c52 := hw.1
        have hw := hw.2
        refine ra_105 X hR (okf X.2.2.1 rfl) c52 dL_isSorted_177 ?_
        have r53 := hR.r 105 0 (3 * (M 117 0 y15))
        refine sa_const X.1 dL_isSorted_178 ?_
        refine sa_icmp_ne (tgt := 200) X.1 r53 (inR_c (a := 1) rfl) dL_isSorted_179 (by decide) (fun hc => ?_) (fun hc => ?_)
        · have hw := hw.1 hc
          exact t_L_isSorted_200 X N hlt hb hp7 ho117 hK128 ih _ _ _ _ _ _ _ _ hw hy8 hy9 hy11 hy12 hy13 hy14 hy15 _ _ (by omega) (by omega) _ _ hR hS _ (lv_sub hl [0, 1, 2, 3, 4, 5, 6, 7, 8, 9, 10, 11, 12, 13, 14] rfl)
        · have hw := hw.2 hc
          refine lv_aload_n X.1.1 X.1.2.1 dL_isSorted_182 rfl (lv_at hl 3 rfl) ?_
          refine lv_aload X.1.1 X.1.2.1 dL_isSorted_183 (lv_at hl 9 rfl) ?_
          refine lv_iload X.1.1 X.1.2.1 dL_isSorted_185 (lv_at hl 14 rfl) ?_
          have c55 := hw.1
          have hw := hw.2
          refine ra_117 X hR ho117 c55 dL_isSorted_187 ?_
          have r56 := hR.r 117 0 y15
          refine lv_iload X.1.1 X.1.2.1 dL_isSorted_188 (lv_at hl 12 rfl) ?_
          refine cs_L_ahead X r56 hy13 (kc := 9) rmX_ok ⟨by show _ ≤ 3; omega, by show _ ≤ 22; omega⟩ (by decide) hR hS kw_1122 hl.1 dL_isSorted_190 (Nat.le_of_ble_eq_true rfl) hw (fun x58 M57 H locs hw r59 hR hS => ?_)
          have r60 := inR_ite (c := 0 ≤ x58) (inR_c (a := 0) rfl) (inR_c (a := 1) rfl)
          refine cut_j (A := ∀ v61 : Int, v61 = (if 0 ≤ x58 then (0 : Int) else 1) → WU p l e 9 3 22 s m args below meth c G e0 α0 κ0 B Qm H locs cl sl 201 ls [.int (Int32.ofInt v61)]) (fun J62 => ?_) ?_
          · refine sa_if_ge (tgt := 200) X.1 r59 dL_isSorted_193 (by decide) (fun hc => ?_) (fun hc => ?_)
            · skip
              refine sa_const X.1 dL_isSorted_200 ?_
              exact J62 (0) (if_pos (c := 0 ≤ x58) hc).symm
            · skip
              refine sa_const X.1 dL_isSorted_196 ?_
              refine lv_goto (tgt := 201) X.1.1 X.1.2.1 dL_isSorted_197 (by decide) ?_
              exact J62 (1) (if_neg (c := 0 ≤ x58) (Int.not_le.mpr hc)).symm
          intro v61 hv61
          subst hv61
          refine lv_istore (lv' := [(16, .int (Int32.ofInt (if 0 ≤ x58 then (0 : Int) else 1))), (0, .ref (α 10 0)), (1, .ref (α 104 0)), (2, .ref (α 105 0)), (3, .ref (α 106 0)), (4, .ref (α 107 0)), (5, .ref (α 109 0)), (6, .ref (α 112 0)), (8, .int (Int32.ofInt y8)), (9, .int (Int32.ofInt y9)), (10, .ref (α 117 0)), (11, .int (Int32.ofInt y11)), (12, .int (Int32.ofInt y12)), (13, .int (Int32.ofInt y13)), (14, .int (Int32.ofInt y14)), (15, .int (Int32.ofInt y15))]) X.1.1 X.1.2.1 dL_isSorted_201 hl (by decide) rfl (fun ls hl => ?_)
          refine lv_iload X.1.1 X.1.2.1 dL_isSorted_203 (lv_at hl 0 rfl) ?_
          refine sa_if_eq (tgt := 259) X.1 r60 dL_isSorted_205 (by decide) (fun hc => ?_) (fun hc => ?_)
          · have hw := hw.1 hc
            exact t_L_isSorted_259 X N hlt hb hp7 ho117 hK128 ih _ _ _ _ _ _ _ _ hw hy8 hy9 hy11 hy12 hy13 hy14 hy15 _ _ (by omega) (by omega) _ _ hR hS _ (lv_sub hl [1, 2, 3, 4, 5, 6, 7, 8, 9, 10, 11, 12, 13, 14, 15] rfl)
          · have hw := hw.2 hc
            refine lv_iload X.1.1 X.1.2.1 dL_isSorted_208 (lv_at hl 14 rfl) ?_
            refine sa_if_lt (tgt := 254) X.1 hy14 dL_isSorted_210 (by decide) (fun hc => ?_) (fun hc => ?_)
            · have hw := hw.1 hc
              exact t_L_isSorted_254 X N hlt hb hp7 ho117 hK128 ih _ _ _ _ _ _ _ hw hy8 hy9 hy11 hy12 hy13 hy15 _ _ (by omega) (by omega) _ _ hR hS _ (lv_sub hl [1, 2, 3, 4, 5, 6, 7, 8, 9, 10, 11, 12, 13, 15] rfl)
            · have hw := hw.2 hc
              refine lv_aload_n X.1.1 X.1.2.1 dL_isSorted_213 rfl (lv_at hl 2 rfl) ?_
              refine lv_aload X.1.1 X.1.2.1 dL_isSorted_214 (lv_at hl 5 rfl) ?_
              refine lv_aload X.1.1 X.1.2.1 dL_isSorted_216 (lv_at hl 6 rfl) ?_
              refine lv_aload X.1.1 X.1.2.1 dL_isSorted_218 (lv_at hl 7 rfl) ?_
              refine lv_aload X.1.1 X.1.2.1 dL_isSorted_220 (lv_at hl 10 rfl) ?_
              refine lv_iload X.1.1 X.1.2.1 dL_isSorted_222 (lv_at hl 15 rfl) ?_
              have c64 := hw.1
              have hw := hw.2
              refine ra_117 X hR ho117 c64 dL_isSorted_224 ?_
              have r65 := hR.r 117 0 y15
              refine lv_iload X.1.1 X.1.2.1 dL_isSorted_225 (lv_at hl 8 rfl) ?_
              refine lv_iload X.1.1 X.1.2.1 dL_isSorted_227 (lv_at hl 9 rfl) ?_
              refine cs_L_key X r65 hy8 hy9 (kc := 9) rmX_ok ⟨by show _ ≤ 3; omega, by show _ ≤ 22; omega⟩ (by decide) hR hS kw_1125 hl.1 dL_isSorted_229 (Nat.le_of_ble_eq_true rfl) hw (fun x67 M66 H locs hw r68 hR hS => ?_)
              refine lv_aload_n X.1.1 X.1.2.1 dL_isSorted_232 rfl (lv_at hl 2 rfl) ?_
              refine lv_aload X.1.1 X.1.2.1 dL_isSorted_233 (lv_at hl 5 rfl) ?_
              refine lv_aload X.1.1 X.1.2.1 dL_isSorted_235 (lv_at hl 6 rfl) ?_
              refine lv_aload X.1.1 X.1.2.1 dL_isSorted_237 (lv_at hl 7 rfl) ?_
              refine lv_aload X.1.1 X.1.2.1 dL_isSorted_239 (lv_at hl 10 rfl) ?_
              refine lv_iload X.1.1 X.1.2.1 dL_isSorted_241 (lv_at hl 14 rfl) ?_
              have c69 := hw.1
              have hw := hw.2
              refine ra_117 X hR ho117 c69 dL_isSorted_243 ?_
              have r70 := hR.r 117 0 y14
              refine lv_iload X.1.1 X.1.2.1 dL_isSorted_244 (lv_at hl 8 rfl) ?_
              refine lv_iload X.1.1 X.1.2.1 dL_isSorted_246 (lv_at hl 9 rfl) ?_
              refine cs_L_key X r70 hy8 hy9 (kc := 9) rmX_ok ⟨by show _ ≤ 3; omega, by show _ ≤ 22; omega⟩ (by decide) hR hS kw_1125 hl.1 dL_isSorted_248 (Nat.le_of_ble_eq_true rfl) hw (fun x72 M71 H locs hw r73 hR hS => ?_)
              have r74 := inR_ite (c := x72 ≤ x67) hy14 hy15
              refine cut_j (A := ∀ v75 : Int, v75 = (if x72 ≤ x67 then y14 else y15) → WU p l e 9 3 22 s m args below meth c G e0 α0 κ0 B Qm H locs cl sl 261 ls [.int (Int32.ofInt v75)]) (fun J76 => ?_) ?_
              · refine sa_icmp_ge (tgt := 259) X.1 r68 r73 dL_isSorted_251 (by decide) (fun hc => ?_) (fun hc => ?_)
                · skip
                  refine lv_iload X.1.1 X.1.2.1 dL_isSorted_259 (lv_at hl 14 rfl) ?_
                  exact J76 (y14) (if_pos (c := x72 ≤ x67) hc).symm
                · skip
                  refine lv_iload X.1.1 X.1.2.1 dL_isSorted_254 (lv_at hl 15 rfl) ?_
                  refine lv_goto (tgt := 261) X.1.1 X.1.2.1 dL_isSorted_256 (by decide) ?_
                  exact J76 (y15) (if_neg (c := x72 ≤ x67) (Int.not_le.mpr hc)).symm
              intro v75 hv75
              subst hv75
              refine lv_istore (lv' := [(14, .int (Int32.ofInt (if x72 ≤ x67 then y14 else y15))), (16, .int (Int32.ofInt (if 0 ≤ x58 then (0 : Int) else 1))), (0, .ref (α 10 0)), (1, .ref (α 104 0)), (2, .ref (α 105 0)), (3, .ref (α 106 0)), (4, .ref (α 107 0)), (5, .ref (α 109 0)), (6, .ref (α 112 0)), (8, .int (Int32.ofInt y8)), (9, .int (Int32.ofInt y9)), (10, .ref (α 117 0)), (11, .int (Int32.ofInt y11)), (12, .int (Int32.ofInt y12)), (13, .int (Int32.ofInt y13)), (15, .int (Int32.ofInt y15))]) X.1.1 X.1.2.1 dL_isSorted_261 hl (by decide) rfl (fun ls hl => ?_)
              have c77 := hw.1
              have hw := hw.2
              refine lv_iinc (v := Int32.ofInt (y15 + 1)) (lv' := [(15, .int (Int32.ofInt (y15 + 1))), (14, .int (Int32.ofInt (if x72 ≤ x67 then y14 else y15))), (16, .int (Int32.ofInt (if 0 ≤ x58 then (0 : Int) else 1))), (0, .ref (α 10 0)), (1, .ref (α 104 0)), (2, .ref (α 105 0)), (3, .ref (α 106 0)), (4, .ref (α 107 0)), (5, .ref (α 109 0)), (6, .ref (α 112 0)), (8, .int (Int32.ofInt y8)), (9, .int (Int32.ofInt y9)), (10, .ref (α 117 0)), (11, .int (Int32.ofInt y11)), (12, .int (Int32.ofInt y12)), (13, .int (Int32.ofInt y13))]) X.1.1 X.1.2.1 dL_isSorted_263 hl (k := 15) rfl (Int32.ofInt_add _ _).symm (by decide) rfl (fun ls hl => ?_)
              refine lv_goto (tgt := 148) X.1.1 X.1.2.1 dL_isSorted_266 (by decide) ?_
              exact ih _ _ _ _ _ _ _ _ hw hy8 hy9 hy11 hy12 hy13 r74 c77 _ _ (by omega) (by omega) _ _ hR hS _ (lv_sub hl [3, 4, 5, 6, 7, 8, 9, 10, 11, 12, 13, 14, 15, 1, 0] rfl)
set_option maxHeartbeats 4000000 in
set_option maxRecDepth 100000 in
theorem t_L_isSorted_128 {α0 : Ax} {κ0 : Nat → Int} {p7 : Int} (X : CX p m c cL_isSorted 17 s args RL G B κ meth (some .boolean)) (N : NcA s) (hlt : l.stackTraces = false) (hb : Bk G e0 α κ α0 κ0 B) (hp7 : inR p7) (ho117 : okk κ 117 0) {Qm : Int → Mem → Prop} : ∀ n : Nat, ∀ y8 : Int, ∀ y9 : Int, ∀ y11 : Int, ∀ y12 : Int, ∀ y13 : Int, ∀ M : Mem, wp_L_isSorted_128 κ p7 Qm n y8 y9 y11 y12 y13 M → inR y8 → inR y9 → inR y11 → inR y12 → inR y13 → ∀ cl sl : Nat, cl + 2 ≤ 3 → sl + 12 ≤ 22 → ∀ (H : Heap) (locs : List Loc), Rp G e0 α κ B M H → va_S (fun q => B ≤ q) s.heap H locs → ∀ (ls : Array Slot), lv_has ls 17 [(0, .ref (α 10 0)), (1, .ref (α 104 0)), (2, .ref (α 105 0)), (3, .ref (α 106 0)), (4, .ref (α 107 0)), (5, .ref (α 109 0)), (6, .ref (α 112 0)), (8, .int (Int32.ofInt y8)), (9, .int (Int32.ofInt y9)), (10, .ref (α 117 0)), (11, .int (Int32.ofInt y11)), (12, .int (Int32.ofInt y12)), (13, .int (Int32.ofInt y13))] → WU p l e 9 3 22 s m args below meth c G e0 α0 κ0 B Qm H locs cl sl 128 ls [] := by
  intro n
  induction n with
  | zero =>
    intro y8 y9 y11 y12 y13 M hw hy8 hy9 hy11 hy12 hy13 cl sl hc1 hc2 H locs hR hS ls hl
    exact hw.elim
  | succ n ih =>
    intro y8 y9 y11 y12 y13 M hw hy8 hy9 hy11 hy12 hy13 cl sl hc1 hc2 H locs hR hS ls hl
    have hw : (((M 112 0 1) ≤ y13 → wp_L_isSorted_312 κ p7 Qm y8 y9 y11 y12 M) ∧ (y13 < (M 112 0 1) → ((y12 = 0 → wp_L_isSorted_312 κ p7 Qm y8 y9 y11 y12 M) ∧ (¬ y12 = 0 → (∃ n78 : Nat, wp_L_isSorted_148 κ p7 Qm (wp_L_isSorted_128 κ p7 Qm n) n78 y8 y9 y11 y12 y13 (-1) 0 M))))) := hw
    refine lv_iload X.1.1 X.1.2.1 dL_isSorted_128 (lv_at hl 12 rfl) ?_
    refine lv_aload X.1.1 X.1.2.1 dL_isSorted_130 (lv_at hl 6 rfl) ?_
    refine sa_const X.1 dL_isSorted_132 ?_
    refine ra_112 X hR (okf X.2.2.1 rfl) ⟨by decide, by decide⟩ dL_isSorted_133 ?_
    have r16 := hR.r 112 0 1
    refine sa_icmp_ge (tgt := 312) X.1 hy13 r16 dL_isSorted_134 (by decide) (fun hc => ?_) (fun hc => ?_)
    · have hw := hw.1 hc
      exact t_L_isSorted_312 X N hlt hb hp7 ho117 _ _ _ _ _ hw hy8 hy9 hy11 hy12 _ _ (by omega) (by omega) _ _ hR hS _ (lv_sub hl [0, 7, 8, 10, 11] rfl)
    · have hw := hw.2 hc
      refine lv_iload X.1.1 X.1.2.1 dL_isSorted_137 (lv_at hl 11 rfl) ?_
      refine sa_if_eq (tgt := 312) X.1 hy12 dL_isSorted_139 (by decide) (fun hc => ?_) (fun hc => ?_)
      · have hw := hw.1 hc
        exact t_L_isSorted_312 X N hlt hb hp7 ho117 _ _ _ _ _ hw hy8 hy9 hy11 hy12 _ _ (by omega) (by omega) _ _ hR hS _ (lv_sub hl [0, 7, 8, 10, 11] rfl)
      · have hw := hw.2 hc
        refine sa_const X.1 dL_isSorted_142 ?_
        refine lv_istore (lv' := [(14, .int (Int32.ofInt (-1))), (0, .ref (α 10 0)), (1, .ref (α 104 0)), (2, .ref (α 105 0)), (3, .ref (α 106 0)), (4, .ref (α 107 0)), (5, .ref (α 109 0)), (6, .ref (α 112 0)), (8, .int (Int32.ofInt y8)), (9, .int (Int32.ofInt y9)), (10, .ref (α 117 0)), (11, .int (Int32.ofInt y11)), (12, .int (Int32.ofInt y12)), (13, .int (Int32.ofInt y13))]) X.1.1 X.1.2.1 dL_isSorted_143 hl (by decide) rfl (fun ls hl => ?_)
        refine sa_const X.1 dL_isSorted_145 ?_
        refine lv_istore (lv' := [(15, .int (Int32.ofInt 0)), (14, .int (Int32.ofInt (-1))), (0, .ref (α 10 0)), (1, .ref (α 104 0)), (2, .ref (α 105 0)), (3, .ref (α 106 0)), (4, .ref (α 107 0)), (5, .ref (α 109 0)), (6, .ref (α 112 0)), (8, .int (Int32.ofInt y8)), (9, .int (Int32.ofInt y9)), (10, .ref (α 117 0)), (11, .int (Int32.ofInt y11)), (12, .int (Int32.ofInt y12)), (13, .int (Int32.ofInt y13))]) X.1.1 X.1.2.1 dL_isSorted_146 hl (by decide) rfl (fun ls hl => ?_)
        obtain ⟨n78, hw⟩ := hw
        exact t_L_isSorted_148 X N hlt hb hp7 ho117 ih n78 _ _ _ _ _ _ _ _ hw hy8 hy9 hy11 hy12 hy13 (inR_c (a := -1) rfl) (inR_c (a := 0) rfl) _ _ (by omega) (by omega) _ _ hR hS _ (lv_sub hl [2, 3, 4, 5, 6, 7, 8, 9, 10, 11, 12, 13, 14, 1, 0] rfl)
set_option maxHeartbeats 4000000 in
set_option maxRecDepth 100000 in
theorem t_L_isSorted_101 {α0 : Ax} {κ0 : Nat → Int} {p7 : Int} (X : CX p m c cL_isSorted 17 s args RL G B κ meth (some .boolean)) (N : NcA s) (hlt : l.stackTraces = false) (hb : Bk G e0 α κ α0 κ0 B) (hp7 : inR p7) (ho117 : okk κ 117 0) {Qm : Int → Mem → Prop} : ∀ n : Nat, ∀ y8 : Int, ∀ y9 : Int, ∀ y11 : Int, ∀ y12 : Int, ∀ y13 : Int, ∀ M : Mem, wp_L_isSorted_101 κ p7 Qm n y8 y9 y11 y12 y13 M → inR y8 → inR y9 → inR y11 → inR y12 → inR y13 → ∀ cl sl : Nat, cl + 2 ≤ 3 → sl + 12 ≤ 22 → ∀ (H : Heap) (locs : List Loc), Rp G e0 α κ B M H → va_S (fun q => B ≤ q) s.heap H locs → ∀ (ls : Array Slot), lv_has ls 17 [(0, .ref (α 10 0)), (1, .ref (α 104 0)), (2, .ref (α 105 0)), (3, .ref (α 106 0)), (4, .ref (α 107 0)), (5, .ref (α 109 0)), (6, .ref (α 112 0)), (8, .int (Int32.ofInt y8)), (9, .int (Int32.ofInt y9)), (10, .ref (α 117 0)), (11, .int (Int32.ofInt y11)), (12, .int (Int32.ofInt y12)), (13, .int (Int32.ofInt y13))] → WU p l e 9 3 22 s m args below meth c G e0 α0 κ0 B Qm H locs cl sl 101 ls [] := by
  intro n
  induction n with
  | zero =>
    intro y8 y9 y11 y12 y13 M hw hy8 hy9 hy11 hy12 hy13 cl sl hc1 hc2 H locs hR hS ls hl
    exact hw.elim
  | succ n ih =>
    intro y8 y9 y11 y12 y13 M hw hy8 hy9 hy11 hy12 hy13 cl sl hc1 hc2 H locs hR hS ls hl
    have hw : (((M 112 0 1) ≤ y13 → (∃ n79 : Nat, wp_L_isSorted_128 κ p7 Qm n79 y8 y9 y11 y12 0 M)) ∧ (y13 < (M 112 0 1) → (0 ≤ y13 ∧ y13 < 10) ∧ (0 ≤ y13 ∧ y13 < 10) ∧ ∀ M83 : Mem, M83 = up M 117 0 y13 (M 106 0 y13) → (inR (y13 + 1)) ∧ wp_L_isSorted_101 κ p7 Qm n y8 y9 y11 y12 (y13 + 1) M83)) := hw
    refine lv_iload X.1.1 X.1.2.1 dL_isSorted_101 (lv_at hl 12 rfl) ?_
    refine lv_aload X.1.1 X.1.2.1 dL_isSorted_103 (lv_at hl 6 rfl) ?_
    refine sa_const X.1 dL_isSorted_105 ?_
    refine ra_112 X hR (okf X.2.2.1 rfl) ⟨by decide, by decide⟩ dL_isSorted_106 ?_
    have r15 := hR.r 112 0 1
    refine sa_icmp_ge (tgt := 125) X.1 hy13 r15 dL_isSorted_107 (by decide) (fun hc => ?_) (fun hc => ?_)
    · have hw := hw.1 hc
      refine sa_const X.1 dL_isSorted_125 ?_
      refine lv_istore (lv' := [(13, .int (Int32.ofInt 0)), (0, .ref (α 10 0)), (1, .ref (α 104 0)), (2, .ref (α 105 0)), (3, .ref (α 106 0)), (4, .ref (α 107 0)), (5, .ref (α 109 0)), (6, .ref (α 112 0)), (8, .int (Int32.ofInt y8)), (9, .int (Int32.ofInt y9)), (10, .ref (α 117 0)), (11, .int (Int32.ofInt y11)), (12, .int (Int32.ofInt y12))]) X.1.1 X.1.2.1 dL_isSorted_126 hl (by decide) rfl (fun ls hl => ?_)
      obtain ⟨n79, hw⟩ := hw
      exact t_L_isSorted_128 X N hlt hb hp7 ho117 n79 _ _ _ _ _ _ hw hy8 hy9 hy11 hy12 (inR_c (a := 0) rfl) _ _ (by omega) (by omega) _ _ hR hS _ (lv_sub hl [1, 2, 3, 4, 5, 6, 7, 8, 9, 10, 11, 12, 0] rfl)
    · have hw := hw.2 hc
      refine lv_aload X.1.1 X.1.2.1 dL_isSorted_110 (lv_at hl 9 rfl) ?_
      refine lv_iload X.1.1 X.1.2.1 dL_isSorted_112 (lv_at hl 12 rfl) ?_
      refine lv_aload_n X.1.1 X.1.2.1 dL_isSorted_114 rfl (lv_at hl 3 rfl) ?_
      refine lv_iload X.1.1 X.1.2.1 dL_isSorted_115 (lv_at hl 12 rfl) ?_
      have c80 := hw.1
      have hw := hw.2
      refine ra_106 X hR (okf X.2.2.1 rfl) c80 dL_isSorted_117 ?_
      have r81 := hR.r 106 0 y13
      have c82 := hw.1
      have hw := hw.2
      refine wa_117 X hR hS ho117 c82 r81 dL_isSorted_118 (fun H locs hR hS => ?_)
      obtain ⟨M83, e84⟩ : ∃ z : Mem, z = up M 117 0 y13 (M 106 0 y13) := ⟨_, rfl⟩
      rw [← e84] at hR
      have hw := hw M83 e84
      have c85 := hw.1
      have hw := hw.2
      refine lv_iinc (v := Int32.ofInt (y13 + 1)) (lv' := [(13, .int (Int32.ofInt (y13 + 1))), (0, .ref (α 10 0)), (1, .ref (α 104 0)), (2, .ref (α 105 0)), (3, .ref (α 106 0)), (4, .ref (α 107 0)), (5, .ref (α 109 0)), (6, .ref (α 112 0)), (8, .int (Int32.ofInt y8)), (9, .int (Int32.ofInt y9)), (10, .ref (α 117 0)), (11, .int (Int32.ofInt y11)), (12, .int (Int32.ofInt y12))]) X.1.1 X.1.2.1 dL_isSorted_119 hl (k := 12) rfl (Int32.ofInt_add _ _).symm (by decide) rfl (fun ls hl => ?_)
      refine lv_goto (tgt := 101) X.1.1 X.1.2.1 dL_isSorted_122 (by decide) ?_
      exact ih _ _ _ _ _ _ hw hy8 hy9 hy11 hy12 c85 _ _ (by omega) (by omega) _ _ hR hS _ (lv_sub hl [1, 2, 3, 4, 5, 6, 7, 8, 9, 10, 11, 12, 0] rfl)
set_option maxHeartbeats 4000000 in
set_option maxRecDepth 100000 in
theorem t_L_isSorted_41 {α0 : Ax} {κ0 : Nat → Int} {p7 : Int} (X : CX p m c cL_isSorted 17 s args RL G B κ meth (some .boolean)) (N : NcA s) (hlt : l.stackTraces = false) (hb : Bk G e0 α κ α0 κ0 B) (hp7 : inR p7) (ho117 : okk κ 117 0) {Qm : Int → Mem → Prop} : ∀ n : Nat, ∀ y8 : Int, ∀ y9 : Int, ∀ y11 : Int, ∀ y12 : Int, ∀ y13 : Int, ∀ M : Mem, wp_L_isSorted_41 κ p7 Qm n y8 y9 y11 y12 y13 M → inR y8 → inR y9 → inR y11 → inR y12 → inR y13 → ∀ cl sl : Nat, cl + 2 ≤ 3 → sl + 12 ≤ 22 → ∀ (H : Heap) (locs : List Loc), Rp G e0 α κ B M H → va_S (fun q => B ≤ q) s.heap H locs → ∀ (ls : Array Slot), lv_has ls 17 [(0, .ref (α 10 0)), (1, .ref (α 104 0)), (2, .ref (α 105 0)), (3, .ref (α 106 0)), (4, .ref (α 107 0)), (5, .ref (α 109 0)), (6, .ref (α 112 0)), (8, .int (Int32.ofInt y8)), (9, .int (Int32.ofInt y9)), (10, .ref (α 117 0)), (11, .int (Int32.ofInt y11)), (12, .int (Int32.ofInt y12)), (13, .int (Int32.ofInt y13))] → WU p l e 9 3 22 s m args below meth c G e0 α0 κ0 B Qm H locs cl sl 41 ls [] := by
  intro n
  induction n with
  | zero =>
    intro y8 y9 y11 y12 y13 M hw hy8 hy9 hy11 hy12 hy13 cl sl hc1 hc2 H locs hR hS ls hl
    exact hw.elim
  | succ n ih =>
    intro y8 y9 y11 y12 y13 M hw hy8 hy9 hy11 hy12 hy13 cl sl hc1 hc2 H locs hR hS ls hl
    have hw : (((M 112 0 2) ≤ y13 → (∃ n86 : Nat, wp_L_isSorted_101 κ p7 Qm n86 y8 y9 y11 y12 0 M)) ∧ (y13 < (M 112 0 2) → (¬ y12 = 0 → (inR (6 * y13)) ∧ (0 ≤ (6 * y13) ∧ (6 * y13) < 60) ∧ (inR (3 * (M 107 0 (6 * y13)))) ∧ (0 ≤ (3 * (M 107 0 (6 * y13))) ∧ (3 * (M 107 0 (6 * y13))) < 30) ∧ ((M 105 0 (3 * (M 107 0 (6 * y13)))) = 1 → (inR (6 * y13)) ∧ (inR ((6 * y13) + 2)) ∧ (0 ≤ ((6 * y13) + 2) ∧ ((6 * y13) + 2) < 60) ∧ True) ∧ True) ∧ (inR (y13 + 1)) ∧ wp_L_isSorted_41 κ p7 Qm n y8 y9 y11 (if y12 = 0 then (0 : Int) else (if ¬ (M 105 0 (3 * (M 107 0 (6 * y13)))) = 1 then (1 : Int) else (if ¬ (M 107 0 ((6 * y13) + 2)) = 1 then (0 : Int) else 1))) (y13 + 1) M)) := hw
    refine lv_iload X.1.1 X.1.2.1 dL_isSorted_41 (lv_at hl 12 rfl) ?_
    refine lv_aload X.1.1 X.1.2.1 dL_isSorted_43 (lv_at hl 6 rfl) ?_
    refine sa_const X.1 dL_isSorted_45 ?_
    refine ra_112 X hR (okf X.2.2.1 rfl) ⟨by decide, by decide⟩ dL_isSorted_46 ?_
    have r14 := hR.r 112 0 2
    refine sa_icmp_ge (tgt := 98) X.1 hy13 r14 dL_isSorted_47 (by decide) (fun hc => ?_) (fun hc => ?_)
    · have hw := hw.1 hc
      refine sa_const X.1 dL_isSorted_98 ?_
      refine lv_istore (lv' := [(13, .int (Int32.ofInt 0)), (0, .ref (α 10 0)), (1, .ref (α 104 0)), (2, .ref (α 105 0)), (3, .ref (α 106 0)), (4, .ref (α 107 0)), (5, .ref (α 109 0)), (6, .ref (α 112 0)), (8, .int (Int32.ofInt y8)), (9, .int (Int32.ofInt y9)), (10, .ref (α 117 0)), (11, .int (Int32.ofInt y11)), (12, .int (Int32.ofInt y12))]) X.1.1 X.1.2.1 dL_isSorted_99 hl (by decide) rfl (fun ls hl => ?_)
      obtain ⟨n86, hw⟩ := hw
      exact t_L_isSorted_101 X N hlt hb hp7 ho117 n86 _ _ _ _ _ _ hw hy8 hy9 hy11 hy12 (inR_c (a := 0) rfl) _ _ (by omega) (by omega) _ _ hR hS _ (lv_sub hl [1, 2, 3, 4, 5, 6, 7, 8, 9, 10, 11, 12, 0] rfl)
    · have hw := hw.2 hc
      refine lv_iload X.1.1 X.1.2.1 dL_isSorted_50 (lv_at hl 11 rfl) ?_
      have s99 := hw.1
      have hw := hw.2
      have r100 := inR_ite (c := y12 = 0) (inR_c (a := 0) rfl) (inR_ite (c := ¬ (M 105 0 (3 * (M 107 0 (6 * y13)))) = 1) (inR_c (a := 1) rfl) (inR_ite (c := ¬ (M 107 0 ((6 * y13) + 2)) = 1) (inR_c (a := 0) rfl) (inR_c (a := 1) rfl)))
      refine cut_j (A := ∀ v101 : Int, v101 = (if y12 = 0 then (0 : Int) else (if ¬ (M 105 0 (3 * (M 107 0 (6 * y13)))) = 1 then (1 : Int) else (if ¬ (M 107 0 ((6 * y13) + 2)) = 1 then (0 : Int) else 1))) → WU p l e 9 3 22 s m args below meth c G e0 α0 κ0 B Qm H locs cl sl 90 ls [.int (Int32.ofInt v101)]) (fun J102 => ?_) ?_
      · refine sa_if_eq (tgt := 89) X.1 hy12 dL_isSorted_52 (by decide) (fun hc => ?_) (fun hc => ?_)
        · skip
          refine sa_const X.1 dL_isSorted_89 ?_
          exact J102 (0) (if_pos (c := y12 = 0) hc).symm
        · have hw := s99 hc
          refine lv_aload_n X.1.1 X.1.2.1 dL_isSorted_55 rfl (lv_at hl 2 rfl) ?_
          refine sa_const X.1 dL_isSorted_56 ?_
          refine lv_aload X.1.1 X.1.2.1 dL_isSorted_57 (lv_at hl 4 rfl) ?_
          refine sa_bipush X.1 dL_isSorted_59 (by decide) ?_
          refine lv_iload X.1.1 X.1.2.1 dL_isSorted_61 (lv_at hl 12 rfl) ?_
          have c87 := hw.1
          have hw := hw.2
          refine sa_imul X.1 dL_isSorted_63 ?_
          have c88 := hw.1
          have hw := hw.2
          refine ra_107 X hR (okf X.2.2.1 rfl) c88 dL_isSorted_64 ?_
          have c89 := hw.1
          have hw := hw.2
          refine sa_imul X.1 dL_isSorted_65 ?_
          have c90 := hw.1
          have hw := hw.2
          refine ra_105 X hR (okf X.2.2.1 rfl) c90 dL_isSorted_66 ?_
          refine sa_const X.1 dL_isSorted_67 ?_
          have s96 := hw.1
          have hw := hw.2
          refine cut_j (A := ∀ v97 : Int, v97 = (if ¬ (M 105 0 (3 * (M 107 0 (6 * y13)))) = 1 then (1 : Int) else (if ¬ (M 107 0 ((6 * y13) + 2)) = 1 then (0 : Int) else 1)) → WU p l e 9 3 22 s m args below meth c G e0 α0 κ0 B Qm H locs cl sl 90 ls [.int (Int32.ofInt v97)]) (fun J98 => ?_) ?_
          · refine sa_icmp_ne (tgt := 85) X.1 (hR.r 105 0 (3 * (M 107 0 (6 * y13)))) (inR_c (a := 1) rfl) dL_isSorted_68 (by decide) (fun hc => ?_) (fun hc => ?_)
            · skip
              refine sa_const X.1 dL_isSorted_85 ?_
              refine lv_goto (tgt := 90) X.1.1 X.1.2.1 dL_isSorted_86 (by decide) ?_
              exact J98 (1) (if_pos (c := ¬ (M 105 0 (3 * (M 107 0 (6 * y13)))) = 1) hc).symm
            · have hw := s96 hc
              refine lv_aload X.1.1 X.1.2.1 dL_isSorted_71 (lv_at hl 4 rfl) ?_
              refine sa_bipush X.1 dL_isSorted_73 (by decide) ?_
              refine lv_iload X.1.1 X.1.2.1 dL_isSorted_75 (lv_at hl 12 rfl) ?_
              have c91 := hw.1
              have hw := hw.2
              refine sa_imul X.1 dL_isSorted_77 ?_
              refine sa_const X.1 dL_isSorted_78 ?_
              have c92 := hw.1
              have hw := hw.2
              refine sa_iadd X.1 dL_isSorted_79 ?_
              have c93 := hw.1
              have hw := hw.2
              refine ra_107 X hR (okf X.2.2.1 rfl) c93 dL_isSorted_80 ?_
              refine sa_const X.1 dL_isSorted_81 ?_
              refine cut_j (A := ∀ v94 : Int, v94 = (if ¬ (M 107 0 ((6 * y13) + 2)) = 1 then (0 : Int) else 1) → WU p l e 9 3 22 s m args below meth c G e0 α0 κ0 B Qm H locs cl sl 90 ls [.int (Int32.ofInt v94)]) (fun J95 => ?_) ?_
              · refine sa_icmp_ne (tgt := 89) X.1 (hR.r 107 0 ((6 * y13) + 2)) (inR_c (a := 1) rfl) dL_isSorted_82 (by decide) (fun hc => ?_) (fun hc => ?_)
                · skip
                  refine sa_const X.1 dL_isSorted_89 ?_
                  exact J95 (0) (if_pos (c := ¬ (M 107 0 ((6 * y13) + 2)) = 1) hc).symm
                · skip
                  refine sa_const X.1 dL_isSorted_85 ?_
                  refine lv_goto (tgt := 90) X.1.1 X.1.2.1 dL_isSorted_86 (by decide) ?_
                  exact J95 (1) (if_neg (c := ¬ (M 107 0 ((6 * y13) + 2)) = 1) (fun z => z hc)).symm
              intro v94 hv94
              subst hv94
              exact J98 ((if ¬ (M 107 0 ((6 * y13) + 2)) = 1 then (0 : Int) else 1)) (if_neg (c := ¬ (M 105 0 (3 * (M 107 0 (6 * y13)))) = 1) (fun z => z hc)).symm
          intro v97 hv97
          subst hv97
          exact J102 ((if ¬ (M 105 0 (3 * (M 107 0 (6 * y13)))) = 1 then (1 : Int) else (if ¬ (M 107 0 ((6 * y13) + 2)) = 1 then (0 : Int) else 1))) (if_neg (c := y12 = 0) hc).symm
      intro v101 hv101
      subst hv101
      refine lv_istore (lv' := [(12, .int (Int32.ofInt (if y12 = 0 then (0 : Int) else (if ¬ (M 105 0 (3 * (M 107 0 (6 * y13)))) = 1 then (1 : Int) else (if ¬ (M 107 0 ((6 * y13) + 2)) = 1 then (0 : Int) else 1))))), (0, .ref (α 10 0)), (1, .ref (α 104 0)), (2, .ref (α 105 0)), (3, .ref (α 106 0)), (4, .ref (α 107 0)), (5, .ref (α 109 0)), (6, .ref (α 112 0)), (8, .int (Int32.ofInt y8)), (9, .int (Int32.ofInt y9)), (10, .ref (α 117 0)), (11, .int (Int32.ofInt y11)), (13, .int (Int32.ofInt y13))]) X.1.1 X.1.2.1 dL_isSorted_90 hl (by decide) rfl (fun ls hl => ?_)
      have c103 := hw.1
      have hw := hw.2
      refine lv_iinc (v := Int32.ofInt (y13 + 1)) (lv' := [(13, .int (Int32.ofInt (y13 + 1))), (12, .int (Int32.ofInt (if y12 = 0 then (0 : Int) else (if ¬ (M 105 0 (3 * (M 107 0 (6 * y13)))) = 1 then (1 : Int) else (if ¬ (M 107 0 ((6 * y13) + 2)) = 1 then (0 : Int) else 1))))), (0, .ref (α 10 0)), (1, .ref (α 104 0)), (2, .ref (α 105 0)), (3, .ref (α 106 0)), (4, .ref (α 107 0)), (5, .ref (α 109 0)), (6, .ref (α 112 0)), (8, .int (Int32.ofInt y8)), (9, .int (Int32.ofInt y9)), (10, .ref (α 117 0)), (11, .int (Int32.ofInt y11))]) X.1.1 X.1.2.1 dL_isSorted_92 hl (k := 12) rfl (Int32.ofInt_add _ _).symm (by decide) rfl (fun ls hl => ?_)
      refine lv_goto (tgt := 41) X.1.1 X.1.2.1 dL_isSorted_95 (by decide) ?_
      exact ih _ _ _ _ _ _ hw hy8 hy9 hy11 r100 c103 _ _ (by omega) (by omega) _ _ hR hS _ (lv_sub hl [2, 3, 4, 5, 6, 7, 8, 9, 10, 11, 12, 1, 0] rfl)
set_option maxHeartbeats 4000000 in
set_option maxRecDepth 100000 in
theorem t_L_isSorted_32 {α0 : Ax} {κ0 : Nat → Int} {p7 : Int} (X : CX p m c cL_isSorted 17 s args RL G B κ meth (some .boolean)) (N : NcA s) (hlt : l.stackTraces = false) (hb : Bk G e0 α κ α0 κ0 B) (hp7 : inR p7) (ho117 : okk κ 117 0) {Qm : Int → Mem → Prop} : ∀ y8 : Int, ∀ y9 : Int, ∀ M : Mem, wp_L_isSorted_32 κ p7 Qm y8 y9 M → inR y8 → inR y9 → ∀ cl sl : Nat, cl + 2 ≤ 3 → sl + 12 ≤ 22 → ∀ (H : Heap) (locs : List Loc), Rp G e0 α κ B M H → va_S (fun q => B ≤ q) s.heap H locs → ∀ (ls : Array Slot), lv_has ls 17 [(0, .ref (α 10 0)), (1, .ref (α 104 0)), (2, .ref (α 105 0)), (3, .ref (α 106 0)), (4, .ref (α 107 0)), (5, .ref (α 109 0)), (6, .ref (α 112 0)), (8, .int (Int32.ofInt y8)), (9, .int (Int32.ofInt y9)), (10, .ref (α 117 0))] → WU p l e 9 3 22 s m args below meth c G e0 α0 κ0 B Qm H locs cl sl 32 ls [] := by
  intro y8 y9 M hw hy8 hy9 cl sl hc1 hc2 H locs hR hS ls hl
  have hw : (∃ n104 : Nat, wp_L_isSorted_41 κ p7 Qm n104 y8 y9 0 1 0 M) := hw
  refine sa_const X.1 dL_isSorted_32 ?_
  refine lv_istore (lv' := [(11, .int (Int32.ofInt 0)), (0, .ref (α 10 0)), (1, .ref (α 104 0)), (2, .ref (α 105 0)), (3, .ref (α 106 0)), (4, .ref (α 107 0)), (5, .ref (α 109 0)), (6, .ref (α 112 0)), (8, .int (Int32.ofInt y8)), (9, .int (Int32.ofInt y9)), (10, .ref (α 117 0))]) X.1.1 X.1.2.1 dL_isSorted_33 hl (by decide) rfl (fun ls hl => ?_)
  refine sa_const X.1 dL_isSorted_35 ?_
  refine lv_istore (lv' := [(12, .int (Int32.ofInt 1)), (11, .int (Int32.ofInt 0)), (0, .ref (α 10 0)), (1, .ref (α 104 0)), (2, .ref (α 105 0)), (3, .ref (α 106 0)), (4, .ref (α 107 0)), (5, .ref (α 109 0)), (6, .ref (α 112 0)), (8, .int (Int32.ofInt y8)), (9, .int (Int32.ofInt y9)), (10, .ref (α 117 0))]) X.1.1 X.1.2.1 dL_isSorted_36 hl (by decide) rfl (fun ls hl => ?_)
  refine sa_const X.1 dL_isSorted_38 ?_
  refine lv_istore (lv' := [(13, .int (Int32.ofInt 0)), (12, .int (Int32.ofInt 1)), (11, .int (Int32.ofInt 0)), (0, .ref (α 10 0)), (1, .ref (α 104 0)), (2, .ref (α 105 0)), (3, .ref (α 106 0)), (4, .ref (α 107 0)), (5, .ref (α 109 0)), (6, .ref (α 112 0)), (8, .int (Int32.ofInt y8)), (9, .int (Int32.ofInt y9)), (10, .ref (α 117 0))]) X.1.1 X.1.2.1 dL_isSorted_39 hl (by decide) rfl (fun ls hl => ?_)
  obtain ⟨n104, hw⟩ := hw
  exact t_L_isSorted_41 X N hlt hb hp7 ho117 n104 _ _ _ _ _ _ hw hy8 hy9 (inR_c (a := 0) rfl) (inR_c (a := 1) rfl) (inR_c (a := 0) rfl) _ _ (by omega) (by omega) _ _ hR hS _ (lv_sub hl [3, 4, 5, 6, 7, 8, 9, 10, 11, 12, 2, 1, 0] rfl)
set_option maxHeartbeats 4000000 in
set_option maxRecDepth 100000 in
theorem t_L_isSorted {α0 : Ax} {κ0 : Nat → Int} {p7 : Int} (X : CX p m c cL_isSorted 17 s args RL G B κ meth (some .boolean)) (N : NcA s) (hlt : l.stackTraces = false) (hb : Bk G e0 α κ α0 κ0 B) (hp7 : inR p7) {M : Mem} {Qm : Int → Mem → Prop} (hw : wp_L_isSorted κ p7 M Qm) (cl sl : Nat) (hc1 : cl + 3 ≤ 3) (hc2 : sl + 22 ≤ 22) (H : Heap) (locs : List Loc) (hR : Rp G e0 α κ B M H) (hS : va_S (fun q => B ≤ q) s.heap H locs) (ls : Array Slot) (hl : lv_has ls 17 [(0, .ref (α 10 0)), (1, .ref (α 104 0)), (2, .ref (α 105 0)), (3, .ref (α 106 0)), (4, .ref (α 107 0)), (5, .ref (α 109 0)), (6, .ref (α 112 0)), (7, .int (Int32.ofInt p7))]) : WU p l e 9 3 22 s m args below meth c G e0 α0 κ0 B Qm H locs cl sl 0 ls [] := by
  have hw : (0 < (M 112 0 0)) ∧ (κ 117 = 0) ∧ ∀ M12 : Mem, M12 = zM M 117 → wp_L_isSorted_32 (kup [117] κ) p7 Qm (Int.tmod p7 (M 112 0 0)) (if ¬ (Int.tmod (Int.tdiv p7 4) 2) = 1 then (0 : Int) else 1) M12 := hw
  refine lv_iload X.1.1 X.1.2.1 dL_isSorted_0 (lv_at hl 7 rfl) ?_
  refine lv_aload X.1.1 X.1.2.1 dL_isSorted_2 (lv_at hl 6 rfl) ?_
  refine sa_const X.1 dL_isSorted_4 ?_
  refine ra_112 X hR (okf X.2.2.1 rfl) ⟨by decide, by decide⟩ dL_isSorted_5 ?_
  have r1 := hR.r 112 0 0
  have c2 := hw.1
  have hw := hw.2
  have r3 := inR_tmod hp7 r1 c2
  refine sa_irem X.1 hp7 r1 (Int.ne_of_gt c2) dL_isSorted_6 ?_
  refine lv_istore (lv' := [(8, .int (Int32.ofInt (Int.tmod p7 (M 112 0 0)))), (0, .ref (α 10 0)), (1, .ref (α 104 0)), (2, .ref (α 105 0)), (3, .ref (α 106 0)), (4, .ref (α 107 0)), (5, .ref (α 109 0)), (6, .ref (α 112 0)), (7, .int (Int32.ofInt p7))]) X.1.1 X.1.2.1 dL_isSorted_7 hl (by decide) rfl (fun ls hl => ?_)
  refine lv_iload X.1.1 X.1.2.1 dL_isSorted_9 (lv_at hl 8 rfl) ?_
  refine sa_const X.1 dL_isSorted_11 ?_
  have r4 := inR_tdiv hp7 (inR_c (a := 4) rfl) (by decide)
  refine sa_idiv X.1 hp7 (inR_c (a := 4) rfl) (Int.ne_of_gt (by decide)) dL_isSorted_12 ?_
  refine sa_const X.1 dL_isSorted_13 ?_
  have r5 := inR_tmod r4 (inR_c (a := 2) rfl) (by decide)
  refine sa_irem X.1 r4 (inR_c (a := 2) rfl) (Int.ne_of_gt (by decide)) dL_isSorted_14 ?_
  refine sa_const X.1 dL_isSorted_15 ?_
  have r6 := inR_ite (c := ¬ (Int.tmod (Int.tdiv p7 4) 2) = 1) (inR_c (a := 0) rfl) (inR_c (a := 1) rfl)
  refine cut_j (A := ∀ v7 : Int, v7 = (if ¬ (Int.tmod (Int.tdiv p7 4) 2) = 1 then (0 : Int) else 1) → WU p l e 9 3 22 s m args below meth c G e0 α0 κ0 B Qm H locs cl sl 24 ls [.int (Int32.ofInt v7)]) (fun J8 => ?_) ?_
  · refine sa_icmp_ne (tgt := 23) X.1 r5 (inR_c (a := 1) rfl) dL_isSorted_16 (by decide) (fun hc => ?_) (fun hc => ?_)
    · skip
      refine sa_const X.1 dL_isSorted_23 ?_
      exact J8 (0) (if_pos (c := ¬ (Int.tmod (Int.tdiv p7 4) 2) = 1) hc).symm
    · skip
      refine sa_const X.1 dL_isSorted_19 ?_
      refine lv_goto (tgt := 24) X.1.1 X.1.2.1 dL_isSorted_20 (by decide) ?_
      exact J8 (1) (if_neg (c := ¬ (Int.tmod (Int.tdiv p7 4) 2) = 1) (fun z => z hc)).symm
  intro v7 hv7
  subst hv7
  refine lv_istore (lv' := [(9, .int (Int32.ofInt (if ¬ (Int.tmod (Int.tdiv p7 4) 2) = 1 then (0 : Int) else 1))), (8, .int (Int32.ofInt (Int.tmod p7 (M 112 0 0)))), (0, .ref (α 10 0)), (1, .ref (α 104 0)), (2, .ref (α 105 0)), (3, .ref (α 106 0)), (4, .ref (α 107 0)), (5, .ref (α 109 0)), (6, .ref (α 112 0)), (7, .int (Int32.ofInt p7))]) X.1.1 X.1.2.1 dL_isSorted_24 hl (by decide) rfl (fun ls hl => ?_)
  refine sa_bipush X.1 dL_isSorted_26 (by decide) ?_
  have c11 := hw.1
  have hw := hw.2
  refine nw_arr (s0 := 117) (N := 10) (by decide) rfl rfl kw_184 c11 X hR hS dL_isSorted_28 (by show _ ≤ 3; omega) (by show _ ≤ 22; omega) (fun q10 H hk hR hS => ?_)
  obtain ⟨α9, eα9⟩ : ∃ z : Ax, z = upA α 117 0 q10 := ⟨_, rfl⟩
  rw [← eα9] at hR
  have hA : ∀ t : Nat, t ≠ 117 → α9 t 0 = α t 0 := fun t ht => by rw [eα9, upA_s _ _ _ ht]
  have hq10 : q10 = α9 117 0 := by rw [eα9, upA_eq]
  rw [← hA 10 (by decide), ← hA 104 (by decide), ← hA 105 (by decide), ← hA 106 (by decide), ← hA 107 (by decide), ← hA 109 (by decide), ← hA 112 (by decide)] at hl
  rw [hq10]
  have hb : Bk G e0 α9 (kup [117] κ) α0 κ0 B := fun M H h => hb M H (Rp.drop (by decide) c11 (by rw [← eα9]; exact h))
  have X := X.re hk
  have ho117 : okk (kup [117] κ) 117 0 := ⟨by decide, kup_pos c11⟩
  obtain ⟨M12, e13⟩ : ∃ z : Mem, z = zM M 117 := ⟨_, rfl⟩
  rw [← e13] at hR
  have hw := hw M12 e13
  refine lv_astore (lv' := [(10, .ref (α9 117 0)), (9, .int (Int32.ofInt (if ¬ (Int.tmod (Int.tdiv p7 4) 2) = 1 then (0 : Int) else 1))), (8, .int (Int32.ofInt (Int.tmod p7 (M 112 0 0)))), (0, .ref (α9 10 0)), (1, .ref (α9 104 0)), (2, .ref (α9 105 0)), (3, .ref (α9 106 0)), (4, .ref (α9 107 0)), (5, .ref (α9 109 0)), (6, .ref (α9 112 0)), (7, .int (Int32.ofInt p7))]) X.1.1 X.1.2.1 dL_isSorted_30 hl (by decide) rfl (fun ls hl => ?_)
  exact t_L_isSorted_32 X N hlt hb hp7 ho117 _ _ _ hw r3 r6 _ _ (by omega) (by omega) _ _ hR hS _ (lv_sub hl [3, 4, 5, 6, 7, 8, 9, 2, 1, 0] rfl)
theorem m_L_isSorted {l : Launch} {G : Gx} {e0 : Nat} {α : Ax} {κ : Nat → Int} {B : Nat} {p7 : Int} (hlt : l.stackTraces = false) (hκ : kOK κ) (hp7 : inR p7) {M : Mem} {Qm : Int → Mem → Prop} (hw : wp_L_isSorted κ p7 M Qm) : UC l yL_isSorted (Cond.code yL_isSorted cL_isSorted 17 (some .boolean)) 9 3 22 G e0 α κ B [.ref (α 10 0), .ref (α 104 0), .ref (α 105 0), .ref (α 106 0), .ref (α 107 0), .ref (α 109 0), .ref (α 112 0), .int (Int32.ofInt p7)] M Qm :=
  UC.mk hκ (by decide +kernel) rfl (Nat.le_of_ble_eq_true rfl) (lv := [(0, .ref (α 10 0)), (1, .ref (α 104 0)), (2, .ref (α 105 0)), (3, .ref (α 106 0)), (4, .ref (α 107 0)), (5, .ref (α 109 0)), (6, .ref (α 112 0)), (7, .int (Int32.ofInt p7))]) rfl (fun p e s m args below meth c ls X N hR hS hl => t_L_isSorted X N hlt Bk.rf hp7 hw 0 0 (by decide) (by decide) _ _ hR hS ls hl)
end
