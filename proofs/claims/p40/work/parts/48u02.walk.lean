theorem dL_isRow_0 : decode cL_isRow 0 = .ok (.iload 4, 2) := by decide +kernel
theorem dL_isRow_2 : decode cL_isRow 2 = .ok (.iconst 5, 1) := by decide +kernel
theorem dL_isRow_3 : decode cL_isRow 3 = .ok (.irem, 1) := by decide +kernel
theorem dL_isRow_4 : decode cL_isRow 4 = .ok (.ifCond .ne 7, 3) := by decide +kernel
theorem dL_isRow_7 : decode cL_isRow 7 = .ok (.iconst 0, 1) := by decide +kernel
theorem dL_isRow_8 : decode cL_isRow 8 = .ok (.goto 16, 3) := by decide +kernel
theorem dL_isRow_11 : decode cL_isRow 11 = .ok (.iload 4, 2) := by decide +kernel
theorem dL_isRow_13 : decode cL_isRow 13 = .ok (.iconst 5, 1) := by decide +kernel
theorem dL_isRow_14 : decode cL_isRow 14 = .ok (.irem, 1) := by decide +kernel
theorem dL_isRow_15 : decode cL_isRow 15 = .ok (.iconst 1, 1) := by decide +kernel
theorem dL_isRow_16 : decode cL_isRow 16 = .ok (.if_icmp .ne 7, 3) := by decide +kernel
theorem dL_isRow_19 : decode cL_isRow 19 = .ok (.iconst 2, 1) := by decide +kernel
theorem dL_isRow_20 : decode cL_isRow 20 = .ok (.goto 4, 3) := by decide +kernel
theorem dL_isRow_23 : decode cL_isRow 23 = .ok (.iconst 1, 1) := by decide +kernel
theorem dL_isRow_24 : decode cL_isRow 24 = .ok (.istore 5, 2) := by decide +kernel
theorem dL_isRow_26 : decode cL_isRow 26 = .ok (.iload 4, 2) := by decide +kernel
theorem dL_isRow_28 : decode cL_isRow 28 = .ok (.iconst 5, 1) := by decide +kernel
theorem dL_isRow_29 : decode cL_isRow 29 = .ok (.idiv, 1) := by decide +kernel
theorem dL_isRow_30 : decode cL_isRow 30 = .ok (.iconst 3, 1) := by decide +kernel
theorem dL_isRow_31 : decode cL_isRow 31 = .ok (.irem, 1) := by decide +kernel
theorem dL_isRow_32 : decode cL_isRow 32 = .ok (.istore 6, 2) := by decide +kernel
theorem dL_isRow_34 : decode cL_isRow 34 = .ok (.iconst 0, 1) := by decide +kernel
theorem dL_isRow_35 : decode cL_isRow 35 = .ok (.istore 7, 2) := by decide +kernel
theorem dL_isRow_37 : decode cL_isRow 37 = .ok (.iconst 0, 1) := by decide +kernel
theorem dL_isRow_38 : decode cL_isRow 38 = .ok (.istore 8, 2) := by decide +kernel
theorem dL_isRow_40 : decode cL_isRow 40 = .ok (.iconst 0, 1) := by decide +kernel
theorem dL_isRow_41 : decode cL_isRow 41 = .ok (.istore 9, 2) := by decide +kernel
theorem dL_isRow_43 : decode cL_isRow 43 = .ok (.iload 9, 2) := by decide +kernel
theorem dL_isRow_45 : decode cL_isRow 45 = .ok (.aload_n 3, 1) := by decide +kernel
theorem dL_isRow_46 : decode cL_isRow 46 = .ok (.iconst 1, 1) := by decide +kernel
theorem dL_isRow_47 : decode cL_isRow 47 = .ok (.iaload, 1) := by decide +kernel
theorem dL_isRow_48 : decode cL_isRow 48 = .ok (.if_icmp .ge 51, 3) := by decide +kernel
theorem dL_isRow_51 : decode cL_isRow 51 = .ok (.iload 7, 2) := by decide +kernel
theorem dL_isRow_53 : decode cL_isRow 53 = .ok (.aload_n 1, 1) := by decide +kernel
theorem dL_isRow_54 : decode cL_isRow 54 = .ok (.iconst 3, 1) := by decide +kernel
theorem dL_isRow_55 : decode cL_isRow 55 = .ok (.iload 9, 2) := by decide +kernel
theorem dL_isRow_57 : decode cL_isRow 57 = .ok (.imul, 1) := by decide +kernel
theorem dL_isRow_58 : decode cL_isRow 58 = .ok (.iaload, 1) := by decide +kernel
theorem dL_isRow_59 : decode cL_isRow 59 = .ok (.iload 5, 2) := by decide +kernel
theorem dL_isRow_61 : decode cL_isRow 61 = .ok (.if_icmp .gt 7, 3) := by decide +kernel
theorem dL_isRow_64 : decode cL_isRow 64 = .ok (.iconst 1, 1) := by decide +kernel
theorem dL_isRow_65 : decode cL_isRow 65 = .ok (.goto 4, 3) := by decide +kernel
theorem dL_isRow_68 : decode cL_isRow 68 = .ok (.iconst 0, 1) := by decide +kernel
theorem dL_isRow_69 : decode cL_isRow 69 = .ok (.iadd, 1) := by decide +kernel
theorem dL_isRow_70 : decode cL_isRow 70 = .ok (.istore 7, 2) := by decide +kernel
theorem dL_isRow_72 : decode cL_isRow 72 = .ok (.iload 8, 2) := by decide +kernel
theorem dL_isRow_74 : decode cL_isRow 74 = .ok (.aload_n 1, 1) := by decide +kernel
theorem dL_isRow_75 : decode cL_isRow 75 = .ok (.iconst 3, 1) := by decide +kernel
theorem dL_isRow_76 : decode cL_isRow 76 = .ok (.iload 9, 2) := by decide +kernel
theorem dL_isRow_78 : decode cL_isRow 78 = .ok (.imul, 1) := by decide +kernel
theorem dL_isRow_79 : decode cL_isRow 79 = .ok (.iaload, 1) := by decide +kernel
theorem dL_isRow_80 : decode cL_isRow 80 = .ok (.iload 5, 2) := by decide +kernel
theorem dL_isRow_82 : decode cL_isRow 82 = .ok (.if_icmp .ne 7, 3) := by decide +kernel
theorem dL_isRow_85 : decode cL_isRow 85 = .ok (.iconst 1, 1) := by decide +kernel
theorem dL_isRow_86 : decode cL_isRow 86 = .ok (.goto 4, 3) := by decide +kernel
theorem dL_isRow_89 : decode cL_isRow 89 = .ok (.iconst 0, 1) := by decide +kernel
theorem dL_isRow_90 : decode cL_isRow 90 = .ok (.iadd, 1) := by decide +kernel
theorem dL_isRow_91 : decode cL_isRow 91 = .ok (.istore 8, 2) := by decide +kernel
theorem dL_isRow_93 : decode cL_isRow 93 = .ok (.iinc 9 1, 3) := by decide +kernel
theorem dL_isRow_96 : decode cL_isRow 96 = .ok (.goto (-53), 3) := by decide +kernel
theorem dL_isRow_99 : decode cL_isRow 99 = .ok (.iload 8, 2) := by decide +kernel
theorem dL_isRow_101 : decode cL_isRow 101 = .ok (.iload 5, 2) := by decide +kernel
theorem dL_isRow_103 : decode cL_isRow 103 = .ok (.ifCond .ne 7, 3) := by decide +kernel
theorem dL_isRow_106 : decode cL_isRow 106 = .ok (.iconst 3, 1) := by decide +kernel
theorem dL_isRow_107 : decode cL_isRow 107 = .ok (.goto 15, 3) := by decide +kernel
theorem dL_isRow_110 : decode cL_isRow 110 = .ok (.iload 5, 2) := by decide +kernel
theorem dL_isRow_112 : decode cL_isRow 112 = .ok (.iconst 1, 1) := by decide +kernel
theorem dL_isRow_113 : decode cL_isRow 113 = .ok (.if_icmp .ne 8, 3) := by decide +kernel
theorem dL_isRow_116 : decode cL_isRow 116 = .ok (.bipush 24, 2) := by decide +kernel
theorem dL_isRow_118 : decode cL_isRow 118 = .ok (.goto 4, 3) := by decide +kernel
theorem dL_isRow_121 : decode cL_isRow 121 = .ok (.iconst 2, 1) := by decide +kernel
theorem dL_isRow_122 : decode cL_isRow 122 = .ok (.if_icmp .ge 7, 3) := by decide +kernel
theorem dL_isRow_125 : decode cL_isRow 125 = .ok (.iconst 1, 1) := by decide +kernel
theorem dL_isRow_126 : decode cL_isRow 126 = .ok (.goto 4, 3) := by decide +kernel
theorem dL_isRow_129 : decode cL_isRow 129 = .ok (.iconst 0, 1) := by decide +kernel
theorem dL_isRow_130 : decode cL_isRow 130 = .ok (.istore 9, 2) := by decide +kernel
theorem dL_isRow_132 : decode cL_isRow 132 = .ok (.aload_n 3, 1) := by decide +kernel
theorem dL_isRow_133 : decode cL_isRow 133 = .ok (.iconst 1, 1) := by decide +kernel
theorem dL_isRow_134 : decode cL_isRow 134 = .ok (.iaload, 1) := by decide +kernel
theorem dL_isRow_135 : decode cL_isRow 135 = .ok (.bipush 10, 2) := by decide +kernel
theorem dL_isRow_137 : decode cL_isRow 137 = .ok (.if_icmp .ne 10, 3) := by decide +kernel
theorem dL_isRow_140 : decode cL_isRow 140 = .ok (.iload 9, 2) := by decide +kernel
theorem dL_isRow_142 : decode cL_isRow 142 = .ok (.ifCond .eq 5, 3) := by decide +kernel
theorem dL_isRow_145 : decode cL_isRow 145 = .ok (.iconst 1, 1) := by decide +kernel
theorem dL_isRow_146 : decode cL_isRow 146 = .ok (.ireturn, 1) := by decide +kernel
theorem dL_isRow_147 : decode cL_isRow 147 = .ok (.iload 9, 2) := by decide +kernel
theorem dL_isRow_149 : decode cL_isRow 149 = .ok (.ifCond .eq 105, 3) := by decide +kernel
theorem dL_isRow_152 : decode cL_isRow 152 = .ok (.aload_n 3, 1) := by decide +kernel
theorem dL_isRow_153 : decode cL_isRow 153 = .ok (.iconst 1, 1) := by decide +kernel
theorem dL_isRow_154 : decode cL_isRow 154 = .ok (.iaload, 1) := by decide +kernel
theorem dL_isRow_155 : decode cL_isRow 155 = .ok (.istore 10, 2) := by decide +kernel
theorem dL_isRow_157 : decode cL_isRow 157 = .ok (.iload 10, 2) := by decide +kernel
theorem dL_isRow_159 : decode cL_isRow 159 = .ok (.iload 7, 2) := by decide +kernel
theorem dL_isRow_161 : decode cL_isRow 161 = .ok (.if_icmp .le 19, 3) := by decide +kernel
theorem dL_isRow_164 : decode cL_isRow 164 = .ok (.aload_n 2, 1) := by decide +kernel
theorem dL_isRow_165 : decode cL_isRow 165 = .ok (.iload 10, 2) := by decide +kernel
theorem dL_isRow_167 : decode cL_isRow 167 = .ok (.aload_n 2, 1) := by decide +kernel
theorem dL_isRow_168 : decode cL_isRow 168 = .ok (.iload 10, 2) := by decide +kernel
theorem dL_isRow_170 : decode cL_isRow 170 = .ok (.iconst 1, 1) := by decide +kernel
theorem dL_isRow_171 : decode cL_isRow 171 = .ok (.isub, 1) := by decide +kernel
theorem dL_isRow_172 : decode cL_isRow 172 = .ok (.iaload, 1) := by decide +kernel
theorem dL_isRow_173 : decode cL_isRow 173 = .ok (.iastore, 1) := by decide +kernel
theorem dL_isRow_174 : decode cL_isRow 174 = .ok (.iinc 10 (-1), 3) := by decide +kernel
theorem dL_isRow_177 : decode cL_isRow 177 = .ok (.goto (-20), 3) := by decide +kernel
theorem dL_isRow_180 : decode cL_isRow 180 = .ok (.aload_n 2, 1) := by decide +kernel
theorem dL_isRow_181 : decode cL_isRow 181 = .ok (.iload 7, 2) := by decide +kernel
theorem dL_isRow_183 : decode cL_isRow 183 = .ok (.aload_n 3, 1) := by decide +kernel
theorem dL_isRow_184 : decode cL_isRow 184 = .ok (.iconst 1, 1) := by decide +kernel
theorem dL_isRow_185 : decode cL_isRow 185 = .ok (.iaload, 1) := by decide +kernel
theorem dL_isRow_186 : decode cL_isRow 186 = .ok (.iastore, 1) := by decide +kernel
theorem dL_isRow_187 : decode cL_isRow 187 = .ok (.aload_n 1, 1) := by decide +kernel
theorem dL_isRow_188 : decode cL_isRow 188 = .ok (.iconst 3, 1) := by decide +kernel
theorem dL_isRow_189 : decode cL_isRow 189 = .ok (.aload_n 3, 1) := by decide +kernel
theorem dL_isRow_190 : decode cL_isRow 190 = .ok (.iconst 1, 1) := by decide +kernel
theorem dL_isRow_191 : decode cL_isRow 191 = .ok (.iaload, 1) := by decide +kernel
theorem dL_isRow_192 : decode cL_isRow 192 = .ok (.imul, 1) := by decide +kernel
theorem dL_isRow_193 : decode cL_isRow 193 = .ok (.iload 5, 2) := by decide +kernel
theorem dL_isRow_195 : decode cL_isRow 195 = .ok (.iastore, 1) := by decide +kernel
theorem dL_isRow_196 : decode cL_isRow 196 = .ok (.aload_n 1, 1) := by decide +kernel
theorem dL_isRow_197 : decode cL_isRow 197 = .ok (.iconst 3, 1) := by decide +kernel
theorem dL_isRow_198 : decode cL_isRow 198 = .ok (.aload_n 3, 1) := by decide +kernel
theorem dL_isRow_199 : decode cL_isRow 199 = .ok (.iconst 1, 1) := by decide +kernel
theorem dL_isRow_200 : decode cL_isRow 200 = .ok (.iaload, 1) := by decide +kernel
theorem dL_isRow_201 : decode cL_isRow 201 = .ok (.imul, 1) := by decide +kernel
theorem dL_isRow_202 : decode cL_isRow 202 = .ok (.iconst 1, 1) := by decide +kernel
theorem dL_isRow_203 : decode cL_isRow 203 = .ok (.iadd, 1) := by decide +kernel
theorem dL_isRow_204 : decode cL_isRow 204 = .ok (.iload 5, 2) := by decide +kernel
theorem dL_isRow_206 : decode cL_isRow 206 = .ok (.iconst 1, 1) := by decide +kernel
theorem dL_isRow_207 : decode cL_isRow 207 = .ok (.if_icmp .ne 8, 3) := by decide +kernel
theorem dL_isRow_210 : decode cL_isRow 210 = .ok (.iload 6, 2) := by decide +kernel
theorem dL_isRow_212 : decode cL_isRow 212 = .ok (.goto 4, 3) := by decide +kernel
theorem dL_isRow_215 : decode cL_isRow 215 = .ok (.iconst 0, 1) := by decide +kernel
theorem dL_isRow_216 : decode cL_isRow 216 = .ok (.iastore, 1) := by decide +kernel
theorem dL_isRow_217 : decode cL_isRow 217 = .ok (.aload_n 1, 1) := by decide +kernel
theorem dL_isRow_218 : decode cL_isRow 218 = .ok (.iconst 3, 1) := by decide +kernel
theorem dL_isRow_219 : decode cL_isRow 219 = .ok (.aload_n 3, 1) := by decide +kernel
theorem dL_isRow_220 : decode cL_isRow 220 = .ok (.iconst 1, 1) := by decide +kernel
theorem dL_isRow_221 : decode cL_isRow 221 = .ok (.iaload, 1) := by decide +kernel
theorem dL_isRow_222 : decode cL_isRow 222 = .ok (.imul, 1) := by decide +kernel
theorem dL_isRow_223 : decode cL_isRow 223 = .ok (.iconst 2, 1) := by decide +kernel
theorem dL_isRow_224 : decode cL_isRow 224 = .ok (.iadd, 1) := by decide +kernel
theorem dL_isRow_225 : decode cL_isRow 225 = .ok (.iload 5, 2) := by decide +kernel
theorem dL_isRow_227 : decode cL_isRow 227 = .ok (.iconst 1, 1) := by decide +kernel
theorem dL_isRow_228 : decode cL_isRow 228 = .ok (.if_icmp .ne 17, 3) := by decide +kernel
theorem dL_isRow_231 : decode cL_isRow 231 = .ok (.iload 4, 2) := by decide +kernel
theorem dL_isRow_233 : decode cL_isRow 233 = .ok (.bipush 15, 2) := by decide +kernel
theorem dL_isRow_235 : decode cL_isRow 235 = .ok (.idiv, 1) := by decide +kernel
theorem dL_isRow_236 : decode cL_isRow 236 = .ok (.iconst 3, 1) := by decide +kernel
theorem dL_isRow_237 : decode cL_isRow 237 = .ok (.irem, 1) := by decide +kernel
theorem dL_isRow_238 : decode cL_isRow 238 = .ok (.ifCond .le 7, 3) := by decide +kernel
theorem dL_isRow_241 : decode cL_isRow 241 = .ok (.iconst 1, 1) := by decide +kernel
theorem dL_isRow_242 : decode cL_isRow 242 = .ok (.goto 4, 3) := by decide +kernel
theorem dL_isRow_245 : decode cL_isRow 245 = .ok (.iconst 0, 1) := by decide +kernel
theorem dL_isRow_246 : decode cL_isRow 246 = .ok (.iastore, 1) := by decide +kernel
theorem dL_isRow_247 : decode cL_isRow 247 = .ok (.aload_n 3, 1) := by decide +kernel
theorem dL_isRow_248 : decode cL_isRow 248 = .ok (.iconst 1, 1) := by decide +kernel
theorem dL_isRow_249 : decode cL_isRow 249 = .ok (.dup2, 1) := by decide +kernel
theorem dL_isRow_250 : decode cL_isRow 250 = .ok (.iaload, 1) := by decide +kernel
theorem dL_isRow_251 : decode cL_isRow 251 = .ok (.iconst 1, 1) := by decide +kernel
theorem dL_isRow_252 : decode cL_isRow 252 = .ok (.iadd, 1) := by decide +kernel
theorem dL_isRow_253 : decode cL_isRow 253 = .ok (.iastore, 1) := by decide +kernel
theorem dL_isRow_254 : decode cL_isRow 254 = .ok (.aload_n 0, 1) := by decide +kernel
theorem dL_isRow_255 : decode cL_isRow 255 = .ok (.iload 5, 2) := by decide +kernel
theorem dL_isRow_257 : decode cL_isRow 257 = .ok (.iload 6, 2) := by decide +kernel
theorem dL_isRow_259 : decode cL_isRow 259 = .ok (.iload 4, 2) := by decide +kernel
theorem dL_isRow_261 : decode cL_isRow 261 = .ok (.bipush 15, 2) := by decide +kernel
theorem dL_isRow_263 : decode cL_isRow 263 = .ok (.idiv, 1) := by decide +kernel
theorem dL_isRow_264 : decode cL_isRow 264 = .ok (.iconst 3, 1) := by decide +kernel
theorem dL_isRow_265 : decode cL_isRow 265 = .ok (.irem, 1) := by decide +kernel
theorem dL_isRow_266 : decode cL_isRow 266 = .ok (.ifCond .le 7, 3) := by decide +kernel
theorem dL_isRow_269 : decode cL_isRow 269 = .ok (.iconst 1, 1) := by decide +kernel
theorem dL_isRow_270 : decode cL_isRow 270 = .ok (.goto 4, 3) := by decide +kernel
theorem dL_isRow_273 : decode cL_isRow 273 = .ok (.iconst 0, 1) := by decide +kernel
theorem dL_isRow_274 : decode cL_isRow 274 = .ok (.invokestatic 185, 3) := by decide +kernel
theorem dL_isRow_277 : decode cL_isRow 277 = .ok (.iload 9, 2) := by decide +kernel
theorem dL_isRow_279 : decode cL_isRow 279 = .ok (.ifCond .eq 11, 3) := by decide +kernel
theorem dL_isRow_282 : decode cL_isRow 282 = .ok (.aload_n 3, 1) := by decide +kernel
theorem dL_isRow_283 : decode cL_isRow 283 = .ok (.iconst 1, 1) := by decide +kernel
theorem dL_isRow_284 : decode cL_isRow 284 = .ok (.iaload, 1) := by decide +kernel
theorem dL_isRow_285 : decode cL_isRow 285 = .ok (.iconst 1, 1) := by decide +kernel
theorem dL_isRow_286 : decode cL_isRow 286 = .ok (.isub, 1) := by decide +kernel
theorem dL_isRow_287 : decode cL_isRow 287 = .ok (.goto 5, 3) := by decide +kernel
theorem dL_isRow_290 : decode cL_isRow 290 = .ok (.bipush (-7), 2) := by decide +kernel
theorem dL_isRow_292 : decode cL_isRow 292 = .ok (.if_icmp .ne 7, 3) := by decide +kernel
theorem dL_isRow_295 : decode cL_isRow 295 = .ok (.iconst 1, 1) := by decide +kernel
theorem dL_isRow_296 : decode cL_isRow 296 = .ok (.goto 4, 3) := by decide +kernel
theorem dL_isRow_299 : decode cL_isRow 299 = .ok (.iconst 0, 1) := by decide +kernel
theorem dL_isRow_300 : decode cL_isRow 300 = .ok (.ireturn, 1) := by decide +kernel
theorem dL_isCell_0 : decode cL_isCell 0 = .ok (.iload 5, 2) := by decide +kernel
theorem dL_isCell_2 : decode cL_isCell 2 = .ok (.aload 4, 2) := by decide +kernel
theorem dL_isCell_4 : decode cL_isCell 4 = .ok (.iconst 1, 1) := by decide +kernel
theorem dL_isCell_5 : decode cL_isCell 5 = .ok (.iaload, 1) := by decide +kernel
theorem dL_isCell_6 : decode cL_isCell 6 = .ok (.irem, 1) := by decide +kernel
theorem dL_isCell_7 : decode cL_isCell 7 = .ok (.istore 6, 2) := by decide +kernel
theorem dL_isCell_9 : decode cL_isCell 9 = .ok (.iload 5, 2) := by decide +kernel
theorem dL_isCell_11 : decode cL_isCell 11 = .ok (.bipush 10, 2) := by decide +kernel
theorem dL_isCell_13 : decode cL_isCell 13 = .ok (.idiv, 1) := by decide +kernel
theorem dL_isCell_14 : decode cL_isCell 14 = .ok (.aload 4, 2) := by decide +kernel
theorem dL_isCell_16 : decode cL_isCell 16 = .ok (.iconst 0, 1) := by decide +kernel
theorem dL_isCell_17 : decode cL_isCell 17 = .ok (.iaload, 1) := by decide +kernel
theorem dL_isCell_18 : decode cL_isCell 18 = .ok (.irem, 1) := by decide +kernel
theorem dL_isCell_19 : decode cL_isCell 19 = .ok (.istore 7, 2) := by decide +kernel
theorem dL_isCell_21 : decode cL_isCell 21 = .ok (.iload 5, 2) := by decide +kernel
theorem dL_isCell_23 : decode cL_isCell 23 = .ok (.bipush 40, 2) := by decide +kernel
theorem dL_isCell_25 : decode cL_isCell 25 = .ok (.idiv, 1) := by decide +kernel
theorem dL_isCell_26 : decode cL_isCell 26 = .ok (.iconst 4, 1) := by decide +kernel
theorem dL_isCell_27 : decode cL_isCell 27 = .ok (.irem, 1) := by decide +kernel
theorem dL_isCell_28 : decode cL_isCell 28 = .ok (.ifCond .ne 16, 3) := by decide +kernel
theorem dL_isCell_31 : decode cL_isCell 31 = .ok (.iconst 1, 1) := by decide +kernel
theorem dL_isCell_32 : decode cL_isCell 32 = .ok (.iload 5, 2) := by decide +kernel
theorem dL_isCell_34 : decode cL_isCell 34 = .ok (.sipush 160, 3) := by decide +kernel
theorem dL_isCell_37 : decode cL_isCell 37 = .ok (.idiv, 1) := by decide +kernel
theorem dL_isCell_38 : decode cL_isCell 38 = .ok (.iconst 3, 1) := by decide +kernel
theorem dL_isCell_39 : decode cL_isCell 39 = .ok (.irem, 1) := by decide +kernel
theorem dL_isCell_40 : decode cL_isCell 40 = .ok (.iadd, 1) := by decide +kernel
theorem dL_isCell_41 : decode cL_isCell 41 = .ok (.goto 4, 3) := by decide +kernel
theorem dL_isCell_44 : decode cL_isCell 44 = .ok (.iconst 1, 1) := by decide +kernel
theorem dL_isCell_45 : decode cL_isCell 45 = .ok (.istore 8, 2) := by decide +kernel
theorem dL_isCell_47 : decode cL_isCell 47 = .ok (.iload 5, 2) := by decide +kernel
theorem dL_isCell_49 : decode cL_isCell 49 = .ok (.sipush 480, 3) := by decide +kernel
theorem dL_isCell_52 : decode cL_isCell 52 = .ok (.idiv, 1) := by decide +kernel
theorem dL_isCell_53 : decode cL_isCell 53 = .ok (.iconst 3, 1) := by decide +kernel
theorem dL_isCell_54 : decode cL_isCell 54 = .ok (.irem, 1) := by decide +kernel
theorem dL_isCell_55 : decode cL_isCell 55 = .ok (.ifCond .ne 19, 3) := by decide +kernel
theorem dL_isCell_58 : decode cL_isCell 58 = .ok (.iconst 1, 1) := by decide +kernel
theorem dL_isCell_59 : decode cL_isCell 59 = .ok (.iload 5, 2) := by decide +kernel
theorem dL_isCell_61 : decode cL_isCell 61 = .ok (.sipush 1440, 3) := by decide +kernel
theorem dL_isCell_64 : decode cL_isCell 64 = .ok (.idiv, 1) := by decide +kernel
theorem dL_isCell_65 : decode cL_isCell 65 = .ok (.aload 4, 2) := by decide +kernel
theorem dL_isCell_67 : decode cL_isCell 67 = .ok (.iconst 0, 1) := by decide +kernel
theorem dL_isCell_68 : decode cL_isCell 68 = .ok (.iaload, 1) := by decide +kernel
theorem dL_isCell_69 : decode cL_isCell 69 = .ok (.irem, 1) := by decide +kernel
theorem dL_isCell_70 : decode cL_isCell 70 = .ok (.iadd, 1) := by decide +kernel
theorem dL_isCell_71 : decode cL_isCell 71 = .ok (.goto 4, 3) := by decide +kernel
theorem dL_isCell_74 : decode cL_isCell 74 = .ok (.iconst 1, 1) := by decide +kernel
theorem dL_isCell_75 : decode cL_isCell 75 = .ok (.istore 9, 2) := by decide +kernel
theorem dL_isCell_77 : decode cL_isCell 77 = .ok (.aload_n 2, 1) := by decide +kernel
theorem dL_isCell_78 : decode cL_isCell 78 = .ok (.iload 6, 2) := by decide +kernel
theorem dL_isCell_80 : decode cL_isCell 80 = .ok (.invokestatic 9, 3) := by decide +kernel
theorem dL_isCell_83 : decode cL_isCell 83 = .ok (.istore 10, 2) := by decide +kernel
theorem dL_isCell_85 : decode cL_isCell 85 = .ok (.iload 7, 2) := by decide +kernel
theorem dL_isCell_87 : decode cL_isCell 87 = .ok (.iload 9, 2) := by decide +kernel
theorem dL_isCell_89 : decode cL_isCell 89 = .ok (.iadd, 1) := by decide +kernel
theorem dL_isCell_90 : decode cL_isCell 90 = .ok (.aload 4, 2) := by decide +kernel
theorem dL_isCell_92 : decode cL_isCell 92 = .ok (.iconst 0, 1) := by decide +kernel
theorem dL_isCell_93 : decode cL_isCell 93 = .ok (.iaload, 1) := by decide +kernel
theorem dL_isCell_94 : decode cL_isCell 94 = .ok (.if_icmp .gt 19, 3) := by decide +kernel
theorem dL_isCell_97 : decode cL_isCell 97 = .ok (.iload 10, 2) := by decide +kernel
theorem dL_isCell_99 : decode cL_isCell 99 = .ok (.iload 8, 2) := by decide +kernel
theorem dL_isCell_101 : decode cL_isCell 101 = .ok (.iadd, 1) := by decide +kernel
theorem dL_isCell_102 : decode cL_isCell 102 = .ok (.aload 4, 2) := by decide +kernel
theorem dL_isCell_104 : decode cL_isCell 104 = .ok (.iconst 1, 1) := by decide +kernel
theorem dL_isCell_105 : decode cL_isCell 105 = .ok (.iaload, 1) := by decide +kernel
theorem dL_isCell_106 : decode cL_isCell 106 = .ok (.if_icmp .gt 7, 3) := by decide +kernel
theorem dL_isCell_109 : decode cL_isCell 109 = .ok (.iconst 1, 1) := by decide +kernel
theorem dL_isCell_110 : decode cL_isCell 110 = .ok (.goto 4, 3) := by decide +kernel
theorem dL_isCell_113 : decode cL_isCell 113 = .ok (.iconst 0, 1) := by decide +kernel
theorem dL_isCell_114 : decode cL_isCell 114 = .ok (.istore 11, 2) := by decide +kernel
theorem dL_isCell_116 : decode cL_isCell 116 = .ok (.iconst 0, 1) := by decide +kernel
theorem dL_isCell_117 : decode cL_isCell 117 = .ok (.istore 12, 2) := by decide +kernel
theorem dL_isCell_119 : decode cL_isCell 119 = .ok (.iload 12, 2) := by decide +kernel
theorem dL_isCell_121 : decode cL_isCell 121 = .ok (.iload 8, 2) := by decide +kernel
theorem dL_isCell_123 : decode cL_isCell 123 = .ok (.iload 9, 2) := by decide +kernel
theorem dL_isCell_125 : decode cL_isCell 125 = .ok (.imul, 1) := by decide +kernel
theorem dL_isCell_126 : decode cL_isCell 126 = .ok (.if_icmp .ge 70, 3) := by decide +kernel
theorem dL_isCell_129 : decode cL_isCell 129 = .ok (.iload 11, 2) := by decide +kernel
theorem dL_isCell_131 : decode cL_isCell 131 = .ok (.ifCond .eq 65, 3) := by decide +kernel
theorem dL_isCell_134 : decode cL_isCell 134 = .ok (.aload_n 1, 1) := by decide +kernel
theorem dL_isCell_135 : decode cL_isCell 135 = .ok (.iconst 3, 1) := by decide +kernel
theorem dL_isCell_136 : decode cL_isCell 136 = .ok (.aload_n 2, 1) := by decide +kernel
theorem dL_isCell_137 : decode cL_isCell 137 = .ok (.iload 10, 2) := by decide +kernel
theorem dL_isCell_139 : decode cL_isCell 139 = .ok (.iload 12, 2) := by decide +kernel
theorem dL_isCell_141 : decode cL_isCell 141 = .ok (.iload 9, 2) := by decide +kernel
theorem dL_isCell_143 : decode cL_isCell 143 = .ok (.idiv, 1) := by decide +kernel
theorem dL_isCell_144 : decode cL_isCell 144 = .ok (.iadd, 1) := by decide +kernel
theorem dL_isCell_145 : decode cL_isCell 145 = .ok (.iaload, 1) := by decide +kernel
theorem dL_isCell_146 : decode cL_isCell 146 = .ok (.imul, 1) := by decide +kernel
theorem dL_isCell_147 : decode cL_isCell 147 = .ok (.iaload, 1) := by decide +kernel
theorem dL_isCell_148 : decode cL_isCell 148 = .ok (.aload_n 1, 1) := by decide +kernel
theorem dL_isCell_149 : decode cL_isCell 149 = .ok (.iconst 3, 1) := by decide +kernel
theorem dL_isCell_150 : decode cL_isCell 150 = .ok (.iload 6, 2) := by decide +kernel
theorem dL_isCell_152 : decode cL_isCell 152 = .ok (.imul, 1) := by decide +kernel
theorem dL_isCell_153 : decode cL_isCell 153 = .ok (.iaload, 1) := by decide +kernel
theorem dL_isCell_154 : decode cL_isCell 154 = .ok (.if_icmp .ne 33, 3) := by decide +kernel
theorem dL_isCell_157 : decode cL_isCell 157 = .ok (.aload_n 2, 1) := by decide +kernel
theorem dL_isCell_158 : decode cL_isCell 158 = .ok (.aload_n 3, 1) := by decide +kernel
theorem dL_isCell_159 : decode cL_isCell 159 = .ok (.aload 4, 2) := by decide +kernel
theorem dL_isCell_161 : decode cL_isCell 161 = .ok (.iload 10, 2) := by decide +kernel
theorem dL_isCell_163 : decode cL_isCell 163 = .ok (.iload 12, 2) := by decide +kernel
theorem dL_isCell_165 : decode cL_isCell 165 = .ok (.iload 9, 2) := by decide +kernel
theorem dL_isCell_167 : decode cL_isCell 167 = .ok (.idiv, 1) := by decide +kernel
theorem dL_isCell_168 : decode cL_isCell 168 = .ok (.iadd, 1) := by decide +kernel
theorem dL_isCell_169 : decode cL_isCell 169 = .ok (.iload 7, 2) := by decide +kernel
theorem dL_isCell_171 : decode cL_isCell 171 = .ok (.iload 12, 2) := by decide +kernel
theorem dL_isCell_173 : decode cL_isCell 173 = .ok (.iload 9, 2) := by decide +kernel
theorem dL_isCell_175 : decode cL_isCell 175 = .ok (.irem, 1) := by decide +kernel
theorem dL_isCell_176 : decode cL_isCell 176 = .ok (.iadd, 1) := by decide +kernel
theorem dL_isCell_177 : decode cL_isCell 177 = .ok (.invokestatic 61, 3) := by decide +kernel
theorem dL_isCell_180 : decode cL_isCell 180 = .ok (.ifCond .ge 7, 3) := by decide +kernel
theorem dL_isCell_183 : decode cL_isCell 183 = .ok (.iconst 1, 1) := by decide +kernel
theorem dL_isCell_184 : decode cL_isCell 184 = .ok (.goto 4, 3) := by decide +kernel
theorem dL_isCell_187 : decode cL_isCell 187 = .ok (.iconst 0, 1) := by decide +kernel
theorem dL_isCell_188 : decode cL_isCell 188 = .ok (.istore 11, 2) := by decide +kernel
theorem dL_isCell_190 : decode cL_isCell 190 = .ok (.iinc 12 1, 3) := by decide +kernel
theorem dL_isCell_193 : decode cL_isCell 193 = .ok (.goto (-74), 3) := by decide +kernel
theorem dL_isCell_196 : decode cL_isCell 196 = .ok (.aload 4, 2) := by decide +kernel
theorem dL_isCell_198 : decode cL_isCell 198 = .ok (.iconst 2, 1) := by decide +kernel
theorem dL_isCell_199 : decode cL_isCell 199 = .ok (.iaload, 1) := by decide +kernel
theorem dL_isCell_200 : decode cL_isCell 200 = .ok (.bipush 10, 2) := by decide +kernel
theorem dL_isCell_202 : decode cL_isCell 202 = .ok (.if_icmp .ne 10, 3) := by decide +kernel
theorem dL_isCell_205 : decode cL_isCell 205 = .ok (.iload 11, 2) := by decide +kernel
theorem dL_isCell_207 : decode cL_isCell 207 = .ok (.ifCond .eq 5, 3) := by decide +kernel
theorem dL_isCell_210 : decode cL_isCell 210 = .ok (.iconst 1, 1) := by decide +kernel
theorem dL_isCell_211 : decode cL_isCell 211 = .ok (.ireturn, 1) := by decide +kernel
theorem dL_isCell_212 : decode cL_isCell 212 = .ok (.iload 11, 2) := by decide +kernel
theorem dL_isCell_214 : decode cL_isCell 214 = .ok (.ifCond .eq 64, 3) := by decide +kernel
theorem dL_isCell_217 : decode cL_isCell 217 = .ok (.bipush 6, 2) := by decide +kernel
theorem dL_isCell_219 : decode cL_isCell 219 = .ok (.aload 4, 2) := by decide +kernel
theorem dL_isCell_221 : decode cL_isCell 221 = .ok (.iconst 2, 1) := by decide +kernel
theorem dL_isCell_222 : decode cL_isCell 222 = .ok (.iaload, 1) := by decide +kernel
theorem dL_isCell_223 : decode cL_isCell 223 = .ok (.imul, 1) := by decide +kernel
theorem dL_isCell_224 : decode cL_isCell 224 = .ok (.istore 12, 2) := by decide +kernel
theorem dL_isCell_226 : decode cL_isCell 226 = .ok (.aload_n 3, 1) := by decide +kernel
theorem dL_isCell_227 : decode cL_isCell 227 = .ok (.iload 12, 2) := by decide +kernel
theorem dL_isCell_229 : decode cL_isCell 229 = .ok (.iload 6, 2) := by decide +kernel
theorem dL_isCell_231 : decode cL_isCell 231 = .ok (.iastore, 1) := by decide +kernel
theorem dL_isCell_232 : decode cL_isCell 232 = .ok (.aload_n 3, 1) := by decide +kernel
theorem dL_isCell_233 : decode cL_isCell 233 = .ok (.iload 12, 2) := by decide +kernel
theorem dL_isCell_235 : decode cL_isCell 235 = .ok (.iconst 1, 1) := by decide +kernel
theorem dL_isCell_236 : decode cL_isCell 236 = .ok (.iadd, 1) := by decide +kernel
theorem dL_isCell_237 : decode cL_isCell 237 = .ok (.iload 7, 2) := by decide +kernel
theorem dL_isCell_239 : decode cL_isCell 239 = .ok (.iastore, 1) := by decide +kernel
theorem dL_isCell_240 : decode cL_isCell 240 = .ok (.aload_n 3, 1) := by decide +kernel
theorem dL_isCell_241 : decode cL_isCell 241 = .ok (.iload 12, 2) := by decide +kernel
theorem dL_isCell_243 : decode cL_isCell 243 = .ok (.iconst 2, 1) := by decide +kernel
theorem dL_isCell_244 : decode cL_isCell 244 = .ok (.iadd, 1) := by decide +kernel
theorem dL_isCell_245 : decode cL_isCell 245 = .ok (.iload 8, 2) := by decide +kernel
theorem dL_isCell_247 : decode cL_isCell 247 = .ok (.iastore, 1) := by decide +kernel
theorem dL_isCell_248 : decode cL_isCell 248 = .ok (.aload_n 3, 1) := by decide +kernel
theorem dL_isCell_249 : decode cL_isCell 249 = .ok (.iload 12, 2) := by decide +kernel
theorem dL_isCell_251 : decode cL_isCell 251 = .ok (.iconst 3, 1) := by decide +kernel
theorem dL_isCell_252 : decode cL_isCell 252 = .ok (.iadd, 1) := by decide +kernel
theorem dL_isCell_253 : decode cL_isCell 253 = .ok (.iload 9, 2) := by decide +kernel
theorem dL_isCell_255 : decode cL_isCell 255 = .ok (.iastore, 1) := by decide +kernel
theorem dL_isCell_256 : decode cL_isCell 256 = .ok (.aload_n 3, 1) := by decide +kernel
theorem dL_isCell_257 : decode cL_isCell 257 = .ok (.iload 12, 2) := by decide +kernel
theorem dL_isCell_259 : decode cL_isCell 259 = .ok (.iconst 4, 1) := by decide +kernel
theorem dL_isCell_260 : decode cL_isCell 260 = .ok (.iadd, 1) := by decide +kernel
theorem dL_isCell_261 : decode cL_isCell 261 = .ok (.iconst 0, 1) := by decide +kernel
theorem dL_isCell_262 : decode cL_isCell 262 = .ok (.iastore, 1) := by decide +kernel
theorem dL_isCell_263 : decode cL_isCell 263 = .ok (.aload_n 3, 1) := by decide +kernel
theorem dL_isCell_264 : decode cL_isCell 264 = .ok (.iload 12, 2) := by decide +kernel
theorem dL_isCell_266 : decode cL_isCell 266 = .ok (.iconst 5, 1) := by decide +kernel
theorem dL_isCell_267 : decode cL_isCell 267 = .ok (.iadd, 1) := by decide +kernel
theorem dL_isCell_268 : decode cL_isCell 268 = .ok (.iconst (-1), 1) := by decide +kernel
theorem dL_isCell_269 : decode cL_isCell 269 = .ok (.iastore, 1) := by decide +kernel
theorem dL_isCell_270 : decode cL_isCell 270 = .ok (.aload 4, 2) := by decide +kernel
theorem dL_isCell_272 : decode cL_isCell 272 = .ok (.iconst 2, 1) := by decide +kernel
theorem dL_isCell_273 : decode cL_isCell 273 = .ok (.dup2, 1) := by decide +kernel
theorem dL_isCell_274 : decode cL_isCell 274 = .ok (.iaload, 1) := by decide +kernel
theorem dL_isCell_275 : decode cL_isCell 275 = .ok (.iconst 1, 1) := by decide +kernel
theorem dL_isCell_276 : decode cL_isCell 276 = .ok (.iadd, 1) := by decide +kernel
theorem dL_isCell_277 : decode cL_isCell 277 = .ok (.iastore, 1) := by decide +kernel
theorem dL_isCell_278 : decode cL_isCell 278 = .ok (.aload_n 0, 1) := by decide +kernel
theorem dL_isCell_279 : decode cL_isCell 279 = .ok (.iload 6, 2) := by decide +kernel
theorem dL_isCell_281 : decode cL_isCell 281 = .ok (.iload 7, 2) := by decide +kernel
theorem dL_isCell_283 : decode cL_isCell 283 = .ok (.iload 8, 2) := by decide +kernel
theorem dL_isCell_285 : decode cL_isCell 285 = .ok (.iload 9, 2) := by decide +kernel
theorem dL_isCell_287 : decode cL_isCell 287 = .ok (.invokestatic 189, 3) := by decide +kernel
theorem dL_isCell_290 : decode cL_isCell 290 = .ok (.iload 11, 2) := by decide +kernel
theorem dL_isCell_292 : decode cL_isCell 292 = .ok (.ifCond .eq 12, 3) := by decide +kernel
theorem dL_isCell_295 : decode cL_isCell 295 = .ok (.aload 4, 2) := by decide +kernel
theorem dL_isCell_297 : decode cL_isCell 297 = .ok (.iconst 2, 1) := by decide +kernel
theorem dL_isCell_298 : decode cL_isCell 298 = .ok (.iaload, 1) := by decide +kernel
theorem dL_isCell_299 : decode cL_isCell 299 = .ok (.iconst 1, 1) := by decide +kernel
theorem dL_isCell_300 : decode cL_isCell 300 = .ok (.isub, 1) := by decide +kernel
theorem dL_isCell_301 : decode cL_isCell 301 = .ok (.goto 5, 3) := by decide +kernel
theorem dL_isCell_304 : decode cL_isCell 304 = .ok (.bipush (-7), 2) := by decide +kernel
theorem dL_isCell_306 : decode cL_isCell 306 = .ok (.if_icmp .ne 29, 3) := by decide +kernel
theorem dL_isCell_309 : decode cL_isCell 309 = .ok (.aload_n 0, 1) := by decide +kernel
theorem dL_isCell_310 : decode cL_isCell 310 = .ok (.iload 6, 2) := by decide +kernel
theorem dL_isCell_312 : decode cL_isCell 312 = .ok (.iload 7, 2) := by decide +kernel
theorem dL_isCell_314 : decode cL_isCell 314 = .ok (.invokevirtual 193, 3) := by decide +kernel
theorem dL_isCell_317 : decode cL_isCell 317 = .ok (.aload_n 2, 1) := by decide +kernel
theorem dL_isCell_318 : decode cL_isCell 318 = .ok (.aload_n 3, 1) := by decide +kernel
theorem dL_isCell_319 : decode cL_isCell 319 = .ok (.aload 4, 2) := by decide +kernel
theorem dL_isCell_321 : decode cL_isCell 321 = .ok (.iload 10, 2) := by decide +kernel
theorem dL_isCell_323 : decode cL_isCell 323 = .ok (.iload 7, 2) := by decide +kernel
theorem dL_isCell_325 : decode cL_isCell 325 = .ok (.invokestatic 61, 3) := by decide +kernel
theorem dL_isCell_328 : decode cL_isCell 328 = .ok (.if_icmp .ne 7, 3) := by decide +kernel
theorem dL_isCell_331 : decode cL_isCell 331 = .ok (.iconst 1, 1) := by decide +kernel
theorem dL_isCell_332 : decode cL_isCell 332 = .ok (.goto 4, 3) := by decide +kernel
theorem dL_isCell_335 : decode cL_isCell 335 = .ok (.iconst 0, 1) := by decide +kernel
theorem dL_isCell_336 : decode cL_isCell 336 = .ok (.ireturn, 1) := by decide +kernel
section
variable {p : Program} {l : Launch} {e : Env} {s : State} {m : MethodId} {args : Array Value} {below : List Frame} {meth : Method} {c : Code} {G : Gx} {e0 : Nat} {α : Ax} {κ : Nat → Int} {B : Nat}
def wp_L_isRow_254 (κ : Nat → Int) (p4 : Int) (Qm : Int → (Nat → Int) → Mem → Prop) (y5 : Int) (y6 : Int) (y9 : Int) (M : Mem) : Prop := wp_L_rowed y5 y6 (if (Int.tmod (Int.tdiv p4 15) 3) ≤ 0 then (0 : Int) else 1) κ M fun (x24 : Int) (κ27 : Nat → Int) (M26 : Mem) => ∃ M29 : Mem, Gh M26 M29 ∧ (¬ y9 = 0 → (inR ((M29 112 0 1) - 1)) ∧ True) ∧ (inR (if y9 = 0 then ((-7) : Int) else ((M29 112 0 1) - 1))) ∧ (bit (if ¬ x24 = (if y9 = 0 then ((-7) : Int) else ((M29 112 0 1) - 1)) then (0 : Int) else 1)) ∧ Qm (if ¬ x24 = (if y9 = 0 then ((-7) : Int) else ((M29 112 0 1) - 1)) then (0 : Int) else 1) κ27 M29
def wp_L_isRow_157 (κ : Nat → Int) (p4 : Int) (Qm : Int → (Nat → Int) → Mem → Prop) : Nat → Int → Int → Int → Int → Int → Mem → Prop
  | 0 => fun _ _ _ _ _ _ => False
  | n + 1 => fun y5 y6 y7 y9 y10 M => ((y10 ≤ y7 → (0 ≤ y7 ∧ y7 < 10) ∧ ∀ M43 : Mem, M43 = up M 106 0 y7 (M 112 0 1) → (inR (3 * (M43 112 0 1))) ∧ (0 ≤ (3 * (M43 112 0 1)) ∧ (3 * (M43 112 0 1)) < 30) ∧ ∀ M48 : Mem, M48 = up M43 105 0 (3 * (M43 112 0 1)) y5 → (inR (3 * (M48 112 0 1))) ∧ (inR ((3 * (M48 112 0 1)) + 1)) ∧ (0 ≤ ((3 * (M48 112 0 1)) + 1) ∧ ((3 * (M48 112 0 1)) + 1) < 30) ∧ ∀ M57 : Mem, M57 = up M48 105 0 ((3 * (M48 112 0 1)) + 1) (if ¬ y5 = 1 then (0 : Int) else y6) → (inR (3 * (M57 112 0 1))) ∧ (inR ((3 * (M57 112 0 1)) + 2)) ∧ (0 ≤ ((3 * (M57 112 0 1)) + 2) ∧ ((3 * (M57 112 0 1)) + 2) < 30) ∧ ∀ M68 : Mem, M68 = up M57 105 0 ((3 * (M57 112 0 1)) + 2) (if ¬ y5 = 1 then (0 : Int) else (if (Int.tmod (Int.tdiv p4 15) 3) ≤ 0 then (0 : Int) else 1)) → (inR ((M68 112 0 1) + 1)) ∧ ∀ M72 : Mem, M72 = up M68 112 0 1 ((M68 112 0 1) + 1) → wp_L_isRow_254 κ p4 Qm y5 y6 y9 M72) ∧ (y7 < y10 → (inR (y10 - 1)) ∧ (0 ≤ (y10 - 1) ∧ (y10 - 1) < 10) ∧ (0 ≤ y10 ∧ y10 < 10) ∧ ∀ M78 : Mem, M78 = up M 106 0 y10 (M 106 0 (y10 - 1)) → (inR (y10 + (-1))) ∧ wp_L_isRow_157 κ p4 Qm n y5 y6 y7 y9 (y10 + (-1)) M78))
def wp_L_isRow_147 (κ : Nat → Int) (p4 : Int) (Qm : Int → (Nat → Int) → Mem → Prop) (y5 : Int) (y6 : Int) (y7 : Int) (y9 : Int) (M : Mem) : Prop := ((y9 = 0 → wp_L_isRow_254 κ p4 Qm y5 y6 y9 M) ∧ (¬ y9 = 0 → (∃ n81 : Nat, wp_L_isRow_157 κ p4 Qm n81 y5 y6 y7 y9 (M 112 0 1) M)))
def wp_L_isRow_43 (κ : Nat → Int) (p4 : Int) (Qm : Int → (Nat → Int) → Mem → Prop) : Nat → Int → Int → Int → Int → Int → Mem → Prop
  | 0 => fun _ _ _ _ _ _ => False
  | n + 1 => fun y5 y6 y7 y8 y9 M => (((M 112 0 1) ≤ y9 → ((¬ (M 112 0 1) = 10 → wp_L_isRow_147 κ p4 Qm y5 y6 y7 (if (if ¬ y5 = 0 then (if ¬ y5 = 1 then (2 : Int) else 24) else 3) ≤ y8 then (0 : Int) else 1) M) ∧ ((M 112 0 1) = 10 → (((if (if ¬ y5 = 0 then (if ¬ y5 = 1 then (2 : Int) else 24) else 3) ≤ y8 then (0 : Int) else 1) = 0 → wp_L_isRow_147 κ p4 Qm y5 y6 y7 (if (if ¬ y5 = 0 then (if ¬ y5 = 1 then (2 : Int) else 24) else 3) ≤ y8 then (0 : Int) else 1) M) ∧ (¬ (if (if ¬ y5 = 0 then (if ¬ y5 = 1 then (2 : Int) else 24) else 3) ≤ y8 then (0 : Int) else 1) = 0 → Qm 1 κ M))))) ∧ (y9 < (M 112 0 1) → (inR (3 * y9)) ∧ (0 ≤ (3 * y9) ∧ (3 * y9) < 30) ∧ (inR (y7 + (if y5 < (M 105 0 (3 * y9)) then (0 : Int) else 1))) ∧ (inR (3 * y9)) ∧ (0 ≤ (3 * y9) ∧ (3 * y9) < 30) ∧ (inR (y8 + (if ¬ (M 105 0 (3 * y9)) = y5 then (0 : Int) else 1))) ∧ (inR (y9 + 1)) ∧ wp_L_isRow_43 κ p4 Qm n y5 y6 (y7 + (if y5 < (M 105 0 (3 * y9)) then (0 : Int) else 1)) (y8 + (if ¬ (M 105 0 (3 * y9)) = y5 then (0 : Int) else 1)) (y9 + 1) M))
def wp_L_isRow (κ : Nat → Int) (p4 : Int) (M : Mem) (Qm : Int → (Nat → Int) → Mem → Prop) : Prop := (∃ n97 : Nat, wp_L_isRow_43 κ p4 Qm n97 (if ¬ (Int.tmod p4 5) = 0 then (if ¬ (Int.tmod p4 5) = 1 then (1 : Int) else 2) else 0) (Int.tmod (Int.tdiv p4 5) 3) 0 0 0 M)
set_option maxHeartbeats 4000000 in
set_option maxRecDepth 100000 in
theorem t_L_isRow_254 {α0 : Ax} {p4 : Int} (X : CX p m c cL_isRow 11 s args RL G B κ meth (some .boolean)) (N : NcA s) (hlt : l.stackTraces = false) (he0 : e0 = G.2.2.2.2.2) (hA0 : Ak α0 α) (hp4 : inR p4) {Qm : Int → (Nat → Int) → Mem → Prop} : ∀ y5 : Int, ∀ y6 : Int, ∀ y9 : Int, ∀ M : Mem, wp_L_isRow_254 κ p4 Qm y5 y6 y9 M → inR y5 → inR y6 → inR y9 → ∀ cl sl : Nat, cl + 5 ≤ 5 → sl + 2017 ≤ 2017 → ∀ (H : Heap) (locs : List Loc), Rp G e0 α κ B M H → va_S (fun q => B ≤ q) s.heap H locs → ∀ (ls : Array Slot), lv_has ls 11 [(0, .ref (α 10 0)), (3, .ref (α 112 0)), (4, .int (Int32.ofInt p4)), (5, .int (Int32.ofInt y5)), (6, .int (Int32.ofInt y6)), (9, .int (Int32.ofInt y9))] → WD p l e 10 5 2017 s m args below meth c G e0 α0 B Qm H locs cl sl 254 ls [] := by
  intro y5 y6 y9 M hw hy5 hy6 hy9 cl sl hc1 hc2 H locs hR hS ls hl
  have hw : wp_L_rowed y5 y6 (if (Int.tmod (Int.tdiv p4 15) 3) ≤ 0 then (0 : Int) else 1) κ M fun (x24 : Int) (κ27 : Nat → Int) (M26 : Mem) => ∃ M29 : Mem, Gh M26 M29 ∧ (¬ y9 = 0 → (inR ((M29 112 0 1) - 1)) ∧ True) ∧ (inR (if y9 = 0 then ((-7) : Int) else ((M29 112 0 1) - 1))) ∧ (bit (if ¬ x24 = (if y9 = 0 then ((-7) : Int) else ((M29 112 0 1) - 1)) then (0 : Int) else 1)) ∧ Qm (if ¬ x24 = (if y9 = 0 then ((-7) : Int) else ((M29 112 0 1) - 1)) then (0 : Int) else 1) κ27 M29 := hw
  refine lv_aload_n X.1.1 X.1.2.1 dL_isRow_254 rfl (lv_at hl 0 rfl) ?_
  refine lv_iload X.1.1 X.1.2.1 dL_isRow_255 (lv_at hl 3 rfl) ?_
  refine lv_iload X.1.1 X.1.2.1 dL_isRow_257 (lv_at hl 4 rfl) ?_
  refine lv_iload X.1.1 X.1.2.1 dL_isRow_259 (lv_at hl 2 rfl) ?_
  refine sa_bipush X.1 dL_isRow_261 (by decide) ?_
  have r19 := inR_tdiv hp4 (inR_c (a := 15) rfl) (by decide)
  refine sa_idiv X.1 hp4 (inR_c (a := 15) rfl) (Int.ne_of_gt (by decide)) dL_isRow_263 ?_
  refine sa_const X.1 dL_isRow_264 ?_
  have r20 := inR_tmod r19 (inR_c (a := 3) rfl) (by decide)
  refine sa_irem X.1 r19 (inR_c (a := 3) rfl) (Int.ne_of_gt (by decide)) dL_isRow_265 ?_
  have r21 := inR_ite (c := (Int.tmod (Int.tdiv p4 15) 3) ≤ 0) (inR_c (a := 0) rfl) (inR_c (a := 1) rfl)
  refine cut_j (A := ∀ v22 : Int, v22 = (if (Int.tmod (Int.tdiv p4 15) 3) ≤ 0 then (0 : Int) else 1) → WD p l e 10 5 2017 s m args below meth c G e0 α0 B Qm H locs cl sl 274 ls [.int (Int32.ofInt v22), .int (Int32.ofInt y6), .int (Int32.ofInt y5), .ref (α 10 0)]) (fun J23 => ?_) ?_
  · refine sa_if_le (tgt := 273) X.1 r20 dL_isRow_266 (by decide) (fun hc => ?_) (fun hc => ?_)
    · skip
      refine sa_const X.1 dL_isRow_273 ?_
      exact J23 (0) (if_pos (c := (Int.tmod (Int.tdiv p4 15) 3) ≤ 0) hc).symm
    · skip
      refine sa_const X.1 dL_isRow_269 ?_
      refine lv_goto (tgt := 274) X.1.1 X.1.2.1 dL_isRow_270 (by decide) ?_
      exact J23 (1) (if_neg (c := (Int.tmod (Int.tdiv p4 15) 3) ≤ 0) (Int.not_le.mpr hc)).symm
  intro v22 hv22
  subst hv22
  refine sl_call 9 (n := 4) (As := [.ref (α 10 0), .int (Int32.ofInt y5), .int (Int32.ofInt y6), .int (Int32.ofInt (if (Int.tmod (Int.tdiv p4 15) 3) ≤ 0 then (0 : Int) else 1))]) (rest := []) X N hR hS (w_L_rowed hlt he0 X.2.2.1 hy5 hy6 r21 hw) kw_860 kw_861 kw_37 kw_862 ⟨by decide +kernel, by decide +kernel, by decide +kernel⟩ (rm_ok rmX_ok (by decide) (by decide)) rfl rfl (Nat.le_of_ble_eq_true rfl) hl.1 dL_isRow_274 ⟨by show _ ≤ 5; omega, by show _ ≤ 2017; omega⟩ (fun x24 κ27 α28 M26 H locs hw r25 hA hk hR hS => ?_)
  have X := X.re hk
  have hA0 := Ak.tr hA0 hA
  rw [← hA 10 (Or.inl rfl), ← hA 112 (Or.inr (Or.inr (by decide)))] at hl
  obtain ⟨M29, g30, hw⟩ := hw
  have hR := hR.gh X.2.2.1 g30
  refine lv_iload X.1.1 X.1.2.1 dL_isRow_277 (lv_at hl 5 rfl) ?_
  have s32 := hw.1
  have hw := hw.2
  have c33 := hw.1
  have hw := hw.2
  refine cut_j (A := ∀ v34 : Int, v34 = (if y9 = 0 then ((-7) : Int) else ((M29 112 0 1) - 1)) → WD p l e 10 5 2017 s m args below meth c G e0 α0 B Qm H locs (cl + 5) (sl + 2017) 292 ls [.int (Int32.ofInt v34), .int (Int32.ofInt x24)]) (fun J35 => ?_) ?_
  · refine sa_if_eq (tgt := 290) X.1 hy9 dL_isRow_279 (by decide) (fun hc => ?_) (fun hc => ?_)
    · skip
      refine sa_bipush X.1 dL_isRow_290 (by decide) ?_
      exact J35 ((-7)) (if_pos (c := y9 = 0) hc).symm
    · have hw := s32 hc
      refine lv_aload_n X.1.1 X.1.2.1 dL_isRow_282 rfl (lv_at hl 1 rfl) ?_
      refine sa_const X.1 dL_isRow_283 ?_
      refine ra_112 X hR (okf X.2.2.1 rfl) ⟨by decide, by decide⟩ dL_isRow_284 ?_
      refine sa_const X.1 dL_isRow_285 ?_
      have c31 := hw.1
      have hw := hw.2
      refine sa_isub X.1 dL_isRow_286 ?_
      refine lv_goto (tgt := 292) X.1.1 X.1.2.1 dL_isRow_287 (by decide) ?_
      exact J35 (((M29 112 0 1) - 1)) (if_neg (c := y9 = 0) hc).symm
  intro v34 hv34
  subst hv34
  have r36 := inR_ite (c := ¬ x24 = (if y9 = 0 then ((-7) : Int) else ((M29 112 0 1) - 1))) (inR_c (a := 0) rfl) (inR_c (a := 1) rfl)
  refine cut_j (A := ∀ v37 : Int, v37 = (if ¬ x24 = (if y9 = 0 then ((-7) : Int) else ((M29 112 0 1) - 1)) then (0 : Int) else 1) → WD p l e 10 5 2017 s m args below meth c G e0 α0 B Qm H locs (cl + 5) (sl + 2017) 300 ls [.int (Int32.ofInt v37)]) (fun J38 => ?_) ?_
  · refine sa_icmp_ne (tgt := 299) X.1 r25 c33 dL_isRow_292 (by decide) (fun hc => ?_) (fun hc => ?_)
    · skip
      refine sa_const X.1 dL_isRow_299 ?_
      exact J38 (0) (if_pos (c := ¬ x24 = (if y9 = 0 then ((-7) : Int) else ((M29 112 0 1) - 1))) hc).symm
    · skip
      refine sa_const X.1 dL_isRow_295 ?_
      refine lv_goto (tgt := 300) X.1.1 X.1.2.1 dL_isRow_296 (by decide) ?_
      exact J38 (1) (if_neg (c := ¬ x24 = (if y9 = 0 then ((-7) : Int) else ((M29 112 0 1) - 1))) (fun z => z hc)).symm
  intro v37 hv37
  subst hv37
  have c39 := hw.1
  have hw := hw.2
  exact sd_zrtb X hR hS c39 hw hA0 dL_isRow_300 (by omega) (by omega)
set_option maxHeartbeats 4000000 in
set_option maxRecDepth 100000 in
theorem t_L_isRow_157 {α0 : Ax} {p4 : Int} (X : CX p m c cL_isRow 11 s args RL G B κ meth (some .boolean)) (N : NcA s) (hlt : l.stackTraces = false) (he0 : e0 = G.2.2.2.2.2) (hA0 : Ak α0 α) (hp4 : inR p4) {Qm : Int → (Nat → Int) → Mem → Prop} : ∀ n : Nat, ∀ y5 : Int, ∀ y6 : Int, ∀ y7 : Int, ∀ y9 : Int, ∀ y10 : Int, ∀ M : Mem, wp_L_isRow_157 κ p4 Qm n y5 y6 y7 y9 y10 M → inR y5 → inR y6 → inR y7 → inR y9 → inR y10 → ∀ cl sl : Nat, cl + 5 ≤ 5 → sl + 2017 ≤ 2017 → ∀ (H : Heap) (locs : List Loc), Rp G e0 α κ B M H → va_S (fun q => B ≤ q) s.heap H locs → ∀ (ls : Array Slot), lv_has ls 11 [(0, .ref (α 10 0)), (1, .ref (α 105 0)), (2, .ref (α 106 0)), (3, .ref (α 112 0)), (4, .int (Int32.ofInt p4)), (5, .int (Int32.ofInt y5)), (6, .int (Int32.ofInt y6)), (7, .int (Int32.ofInt y7)), (9, .int (Int32.ofInt y9)), (10, .int (Int32.ofInt y10))] → WD p l e 10 5 2017 s m args below meth c G e0 α0 B Qm H locs cl sl 157 ls [] := by
  intro n
  induction n with
  | zero =>
    intro y5 y6 y7 y9 y10 M hw hy5 hy6 hy7 hy9 hy10 cl sl hc1 hc2 H locs hR hS ls hl
    exact hw.elim
  | succ n ih =>
    intro y5 y6 y7 y9 y10 M hw hy5 hy6 hy7 hy9 hy10 cl sl hc1 hc2 H locs hR hS ls hl
    have hw : ((y10 ≤ y7 → (0 ≤ y7 ∧ y7 < 10) ∧ ∀ M43 : Mem, M43 = up M 106 0 y7 (M 112 0 1) → (inR (3 * (M43 112 0 1))) ∧ (0 ≤ (3 * (M43 112 0 1)) ∧ (3 * (M43 112 0 1)) < 30) ∧ ∀ M48 : Mem, M48 = up M43 105 0 (3 * (M43 112 0 1)) y5 → (inR (3 * (M48 112 0 1))) ∧ (inR ((3 * (M48 112 0 1)) + 1)) ∧ (0 ≤ ((3 * (M48 112 0 1)) + 1) ∧ ((3 * (M48 112 0 1)) + 1) < 30) ∧ ∀ M57 : Mem, M57 = up M48 105 0 ((3 * (M48 112 0 1)) + 1) (if ¬ y5 = 1 then (0 : Int) else y6) → (inR (3 * (M57 112 0 1))) ∧ (inR ((3 * (M57 112 0 1)) + 2)) ∧ (0 ≤ ((3 * (M57 112 0 1)) + 2) ∧ ((3 * (M57 112 0 1)) + 2) < 30) ∧ ∀ M68 : Mem, M68 = up M57 105 0 ((3 * (M57 112 0 1)) + 2) (if ¬ y5 = 1 then (0 : Int) else (if (Int.tmod (Int.tdiv p4 15) 3) ≤ 0 then (0 : Int) else 1)) → (inR ((M68 112 0 1) + 1)) ∧ ∀ M72 : Mem, M72 = up M68 112 0 1 ((M68 112 0 1) + 1) → wp_L_isRow_254 κ p4 Qm y5 y6 y9 M72) ∧ (y7 < y10 → (inR (y10 - 1)) ∧ (0 ≤ (y10 - 1) ∧ (y10 - 1) < 10) ∧ (0 ≤ y10 ∧ y10 < 10) ∧ ∀ M78 : Mem, M78 = up M 106 0 y10 (M 106 0 (y10 - 1)) → (inR (y10 + (-1))) ∧ wp_L_isRow_157 κ p4 Qm n y5 y6 y7 y9 (y10 + (-1)) M78)) := hw
    refine lv_iload X.1.1 X.1.2.1 dL_isRow_157 (lv_at hl 9 rfl) ?_
    refine lv_iload X.1.1 X.1.2.1 dL_isRow_159 (lv_at hl 7 rfl) ?_
    refine sa_icmp_le (tgt := 180) X.1 hy10 hy7 dL_isRow_161 (by decide) (fun hc => ?_) (fun hc => ?_)
    · have hw := hw.1 hc
      refine lv_aload_n X.1.1 X.1.2.1 dL_isRow_180 rfl (lv_at hl 2 rfl) ?_
      refine lv_iload X.1.1 X.1.2.1 dL_isRow_181 (lv_at hl 7 rfl) ?_
      refine lv_aload_n X.1.1 X.1.2.1 dL_isRow_183 rfl (lv_at hl 3 rfl) ?_
      refine sa_const X.1 dL_isRow_184 ?_
      refine ra_112 X hR (okf X.2.2.1 rfl) ⟨by decide, by decide⟩ dL_isRow_185 ?_
      have r41 := hR.r 112 0 1
      have c42 := hw.1
      have hw := hw.2
      refine wa_106 X hR hS (okf X.2.2.1 rfl) c42 r41 dL_isRow_186 (fun H locs hR hS => ?_)
      obtain ⟨M43, e44⟩ : ∃ z : Mem, z = up M 106 0 y7 (M 112 0 1) := ⟨_, rfl⟩
      rw [← e44] at hR
      have hw := hw M43 e44
      refine lv_aload_n X.1.1 X.1.2.1 dL_isRow_187 rfl (lv_at hl 1 rfl) ?_
      refine sa_const X.1 dL_isRow_188 ?_
      refine lv_aload_n X.1.1 X.1.2.1 dL_isRow_189 rfl (lv_at hl 3 rfl) ?_
      refine sa_const X.1 dL_isRow_190 ?_
      refine ra_112 X hR (okf X.2.2.1 rfl) ⟨by decide, by decide⟩ dL_isRow_191 ?_
      have r45 := hR.r 112 0 1
      have c46 := hw.1
      have hw := hw.2
      refine sa_imul X.1 dL_isRow_192 ?_
      refine lv_iload X.1.1 X.1.2.1 dL_isRow_193 (lv_at hl 5 rfl) ?_
      have c47 := hw.1
      have hw := hw.2
      refine wa_105 X hR hS (okf X.2.2.1 rfl) c47 hy5 dL_isRow_195 (fun H locs hR hS => ?_)
      obtain ⟨M48, e49⟩ : ∃ z : Mem, z = up M43 105 0 (3 * (M43 112 0 1)) y5 := ⟨_, rfl⟩
      rw [← e49] at hR
      have hw := hw M48 e49
      refine lv_aload_n X.1.1 X.1.2.1 dL_isRow_196 rfl (lv_at hl 1 rfl) ?_
      refine sa_const X.1 dL_isRow_197 ?_
      refine lv_aload_n X.1.1 X.1.2.1 dL_isRow_198 rfl (lv_at hl 3 rfl) ?_
      refine sa_const X.1 dL_isRow_199 ?_
      refine ra_112 X hR (okf X.2.2.1 rfl) ⟨by decide, by decide⟩ dL_isRow_200 ?_
      have r50 := hR.r 112 0 1
      have c51 := hw.1
      have hw := hw.2
      refine sa_imul X.1 dL_isRow_201 ?_
      refine sa_const X.1 dL_isRow_202 ?_
      have c52 := hw.1
      have hw := hw.2
      refine sa_iadd X.1 dL_isRow_203 ?_
      refine lv_iload X.1.1 X.1.2.1 dL_isRow_204 (lv_at hl 5 rfl) ?_
      refine sa_const X.1 dL_isRow_206 ?_
      have r53 := inR_ite (c := ¬ y5 = 1) (inR_c (a := 0) rfl) hy6
      refine cut_j (A := ∀ v54 : Int, v54 = (if ¬ y5 = 1 then (0 : Int) else y6) → WD p l e 10 5 2017 s m args below meth c G e0 α0 B Qm H locs cl sl 216 ls [.int (Int32.ofInt v54), .int (Int32.ofInt ((3 * (M48 112 0 1)) + 1)), .ref (α 105 0)]) (fun J55 => ?_) ?_
      · refine sa_icmp_ne (tgt := 215) X.1 hy5 (inR_c (a := 1) rfl) dL_isRow_207 (by decide) (fun hc => ?_) (fun hc => ?_)
        · skip
          refine sa_const X.1 dL_isRow_215 ?_
          exact J55 (0) (if_pos (c := ¬ y5 = 1) hc).symm
        · skip
          refine lv_iload X.1.1 X.1.2.1 dL_isRow_210 (lv_at hl 6 rfl) ?_
          refine lv_goto (tgt := 216) X.1.1 X.1.2.1 dL_isRow_212 (by decide) ?_
          exact J55 (y6) (if_neg (c := ¬ y5 = 1) (fun z => z hc)).symm
      intro v54 hv54
      subst hv54
      have c56 := hw.1
      have hw := hw.2
      refine wa_105 X hR hS (okf X.2.2.1 rfl) c56 r53 dL_isRow_216 (fun H locs hR hS => ?_)
      obtain ⟨M57, e58⟩ : ∃ z : Mem, z = up M48 105 0 ((3 * (M48 112 0 1)) + 1) (if ¬ y5 = 1 then (0 : Int) else y6) := ⟨_, rfl⟩
      rw [← e58] at hR
      have hw := hw M57 e58
      refine lv_aload_n X.1.1 X.1.2.1 dL_isRow_217 rfl (lv_at hl 1 rfl) ?_
      refine sa_const X.1 dL_isRow_218 ?_
      refine lv_aload_n X.1.1 X.1.2.1 dL_isRow_219 rfl (lv_at hl 3 rfl) ?_
      refine sa_const X.1 dL_isRow_220 ?_
      refine ra_112 X hR (okf X.2.2.1 rfl) ⟨by decide, by decide⟩ dL_isRow_221 ?_
      have r59 := hR.r 112 0 1
      have c60 := hw.1
      have hw := hw.2
      refine sa_imul X.1 dL_isRow_222 ?_
      refine sa_const X.1 dL_isRow_223 ?_
      have c61 := hw.1
      have hw := hw.2
      refine sa_iadd X.1 dL_isRow_224 ?_
      refine lv_iload X.1.1 X.1.2.1 dL_isRow_225 (lv_at hl 5 rfl) ?_
      refine sa_const X.1 dL_isRow_227 ?_
      have r64 := inR_ite (c := ¬ y5 = 1) (inR_c (a := 0) rfl) (inR_ite (c := (Int.tmod (Int.tdiv p4 15) 3) ≤ 0) (inR_c (a := 0) rfl) (inR_c (a := 1) rfl))
      refine cut_j (A := ∀ v65 : Int, v65 = (if ¬ y5 = 1 then (0 : Int) else (if (Int.tmod (Int.tdiv p4 15) 3) ≤ 0 then (0 : Int) else 1)) → WD p l e 10 5 2017 s m args below meth c G e0 α0 B Qm H locs cl sl 246 ls [.int (Int32.ofInt v65), .int (Int32.ofInt ((3 * (M57 112 0 1)) + 2)), .ref (α 105 0)]) (fun J66 => ?_) ?_
      · refine sa_icmp_ne (tgt := 245) X.1 hy5 (inR_c (a := 1) rfl) dL_isRow_228 (by decide) (fun hc => ?_) (fun hc => ?_)
        · skip
          refine sa_const X.1 dL_isRow_245 ?_
          exact J66 (0) (if_pos (c := ¬ y5 = 1) hc).symm
        · skip
          refine lv_iload X.1.1 X.1.2.1 dL_isRow_231 (lv_at hl 4 rfl) ?_
          refine sa_bipush X.1 dL_isRow_233 (by decide) ?_
          refine sa_idiv X.1 hp4 (inR_c (a := 15) rfl) (Int.ne_of_gt (by decide)) dL_isRow_235 ?_
          refine sa_const X.1 dL_isRow_236 ?_
          refine sa_irem X.1 (inR_tdiv hp4 (inR_c (a := 15) rfl) (by decide)) (inR_c (a := 3) rfl) (Int.ne_of_gt (by decide)) dL_isRow_237 ?_
          refine cut_j (A := ∀ v62 : Int, v62 = (if (Int.tmod (Int.tdiv p4 15) 3) ≤ 0 then (0 : Int) else 1) → WD p l e 10 5 2017 s m args below meth c G e0 α0 B Qm H locs cl sl 246 ls [.int (Int32.ofInt v62), .int (Int32.ofInt ((3 * (M57 112 0 1)) + 2)), .ref (α 105 0)]) (fun J63 => ?_) ?_
          · refine sa_if_le (tgt := 245) X.1 (inR_tmod (inR_tdiv hp4 (inR_c (a := 15) rfl) (by decide)) (inR_c (a := 3) rfl) (by decide)) dL_isRow_238 (by decide) (fun hc => ?_) (fun hc => ?_)
            · skip
              refine sa_const X.1 dL_isRow_245 ?_
              exact J63 (0) (if_pos (c := (Int.tmod (Int.tdiv p4 15) 3) ≤ 0) hc).symm
            · skip
              refine sa_const X.1 dL_isRow_241 ?_
              refine lv_goto (tgt := 246) X.1.1 X.1.2.1 dL_isRow_242 (by decide) ?_
              exact J63 (1) (if_neg (c := (Int.tmod (Int.tdiv p4 15) 3) ≤ 0) (Int.not_le.mpr hc)).symm
          intro v62 hv62
          subst hv62
          exact J66 ((if (Int.tmod (Int.tdiv p4 15) 3) ≤ 0 then (0 : Int) else 1)) (if_neg (c := ¬ y5 = 1) (fun z => z hc)).symm
      intro v65 hv65
      subst hv65
      have c67 := hw.1
      have hw := hw.2
      refine wa_105 X hR hS (okf X.2.2.1 rfl) c67 r64 dL_isRow_246 (fun H locs hR hS => ?_)
      obtain ⟨M68, e69⟩ : ∃ z : Mem, z = up M57 105 0 ((3 * (M57 112 0 1)) + 2) (if ¬ y5 = 1 then (0 : Int) else (if (Int.tmod (Int.tdiv p4 15) 3) ≤ 0 then (0 : Int) else 1)) := ⟨_, rfl⟩
      rw [← e69] at hR
      have hw := hw M68 e69
      refine lv_aload_n X.1.1 X.1.2.1 dL_isRow_247 rfl (lv_at hl 3 rfl) ?_
      refine sa_const X.1 dL_isRow_248 ?_
      refine lv_dup2_11 X.1.1 X.1.2.1 dL_isRow_249 rfl rfl ?_
      refine ra_112 X hR (okf X.2.2.1 rfl) ⟨by decide, by decide⟩ dL_isRow_250 ?_
      have r70 := hR.r 112 0 1
      refine sa_const X.1 dL_isRow_251 ?_
      have c71 := hw.1
      have hw := hw.2
      refine sa_iadd X.1 dL_isRow_252 ?_
      refine wa_112 X hR hS (okf X.2.2.1 rfl) ⟨by decide, by decide⟩ c71 dL_isRow_253 (fun H locs hR hS => ?_)
      obtain ⟨M72, e73⟩ : ∃ z : Mem, z = up M68 112 0 1 ((M68 112 0 1) + 1) := ⟨_, rfl⟩
      rw [← e73] at hR
      have hw := hw M72 e73
      exact t_L_isRow_254 X N hlt he0 hA0 hp4 _ _ _ _ hw hy5 hy6 hy9 _ _ (by omega) (by omega) _ _ hR hS _ (lv_sub hl [0, 3, 4, 5, 6, 8] rfl)
    · have hw := hw.2 hc
      refine lv_aload_n X.1.1 X.1.2.1 dL_isRow_164 rfl (lv_at hl 2 rfl) ?_
      refine lv_iload X.1.1 X.1.2.1 dL_isRow_165 (lv_at hl 9 rfl) ?_
      refine lv_aload_n X.1.1 X.1.2.1 dL_isRow_167 rfl (lv_at hl 2 rfl) ?_
      refine lv_iload X.1.1 X.1.2.1 dL_isRow_168 (lv_at hl 9 rfl) ?_
      refine sa_const X.1 dL_isRow_170 ?_
      have c74 := hw.1
      have hw := hw.2
      refine sa_isub X.1 dL_isRow_171 ?_
      have c75 := hw.1
      have hw := hw.2
      refine ra_106 X hR (okf X.2.2.1 rfl) c75 dL_isRow_172 ?_
      have r76 := hR.r 106 0 (y10 - 1)
      have c77 := hw.1
      have hw := hw.2
      refine wa_106 X hR hS (okf X.2.2.1 rfl) c77 r76 dL_isRow_173 (fun H locs hR hS => ?_)
      obtain ⟨M78, e79⟩ : ∃ z : Mem, z = up M 106 0 y10 (M 106 0 (y10 - 1)) := ⟨_, rfl⟩
      rw [← e79] at hR
      have hw := hw M78 e79
      have c80 := hw.1
      have hw := hw.2
      refine lv_iinc (v := Int32.ofInt (y10 + (-1))) (lv' := [(10, .int (Int32.ofInt (y10 + (-1)))), (0, .ref (α 10 0)), (1, .ref (α 105 0)), (2, .ref (α 106 0)), (3, .ref (α 112 0)), (4, .int (Int32.ofInt p4)), (5, .int (Int32.ofInt y5)), (6, .int (Int32.ofInt y6)), (7, .int (Int32.ofInt y7)), (9, .int (Int32.ofInt y9))]) X.1.1 X.1.2.1 dL_isRow_174 hl (k := 9) rfl (Int32.ofInt_add _ _).symm (by decide) rfl (fun ls hl => ?_)
      refine lv_goto (tgt := 157) X.1.1 X.1.2.1 dL_isRow_177 (by decide) ?_
      exact ih _ _ _ _ _ _ hw hy5 hy6 hy7 hy9 c80 _ _ (by omega) (by omega) _ _ hR hS _ (lv_sub hl [1, 2, 3, 4, 5, 6, 7, 8, 9, 0] rfl)
set_option maxHeartbeats 4000000 in
set_option maxRecDepth 100000 in
theorem t_L_isRow_147 {α0 : Ax} {p4 : Int} (X : CX p m c cL_isRow 11 s args RL G B κ meth (some .boolean)) (N : NcA s) (hlt : l.stackTraces = false) (he0 : e0 = G.2.2.2.2.2) (hA0 : Ak α0 α) (hp4 : inR p4) {Qm : Int → (Nat → Int) → Mem → Prop} : ∀ y5 : Int, ∀ y6 : Int, ∀ y7 : Int, ∀ y9 : Int, ∀ M : Mem, wp_L_isRow_147 κ p4 Qm y5 y6 y7 y9 M → inR y5 → inR y6 → inR y7 → inR y9 → ∀ cl sl : Nat, cl + 5 ≤ 5 → sl + 2017 ≤ 2017 → ∀ (H : Heap) (locs : List Loc), Rp G e0 α κ B M H → va_S (fun q => B ≤ q) s.heap H locs → ∀ (ls : Array Slot), lv_has ls 11 [(0, .ref (α 10 0)), (1, .ref (α 105 0)), (2, .ref (α 106 0)), (3, .ref (α 112 0)), (4, .int (Int32.ofInt p4)), (5, .int (Int32.ofInt y5)), (6, .int (Int32.ofInt y6)), (7, .int (Int32.ofInt y7)), (9, .int (Int32.ofInt y9))] → WD p l e 10 5 2017 s m args below meth c G e0 α0 B Qm H locs cl sl 147 ls [] := by
  intro y5 y6 y7 y9 M hw hy5 hy6 hy7 hy9 cl sl hc1 hc2 H locs hR hS ls hl
  have hw : ((y9 = 0 → wp_L_isRow_254 κ p4 Qm y5 y6 y9 M) ∧ (¬ y9 = 0 → (∃ n81 : Nat, wp_L_isRow_157 κ p4 Qm n81 y5 y6 y7 y9 (M 112 0 1) M))) := hw
  refine lv_iload X.1.1 X.1.2.1 dL_isRow_147 (lv_at hl 8 rfl) ?_
  refine sa_if_eq (tgt := 254) X.1 hy9 dL_isRow_149 (by decide) (fun hc => ?_) (fun hc => ?_)
  · have hw := hw.1 hc
    exact t_L_isRow_254 X N hlt he0 hA0 hp4 _ _ _ _ hw hy5 hy6 hy9 _ _ (by omega) (by omega) _ _ hR hS _ (lv_sub hl [0, 3, 4, 5, 6, 8] rfl)
  · have hw := hw.2 hc
    refine lv_aload_n X.1.1 X.1.2.1 dL_isRow_152 rfl (lv_at hl 3 rfl) ?_
    refine sa_const X.1 dL_isRow_153 ?_
    refine ra_112 X hR (okf X.2.2.1 rfl) ⟨by decide, by decide⟩ dL_isRow_154 ?_
    have r40 := hR.r 112 0 1
    refine lv_istore (lv' := [(10, .int (Int32.ofInt (M 112 0 1))), (0, .ref (α 10 0)), (1, .ref (α 105 0)), (2, .ref (α 106 0)), (3, .ref (α 112 0)), (4, .int (Int32.ofInt p4)), (5, .int (Int32.ofInt y5)), (6, .int (Int32.ofInt y6)), (7, .int (Int32.ofInt y7)), (9, .int (Int32.ofInt y9))]) X.1.1 X.1.2.1 dL_isRow_155 hl (by decide) rfl (fun ls hl => ?_)
    obtain ⟨n81, hw⟩ := hw
    exact t_L_isRow_157 X N hlt he0 hA0 hp4 n81 _ _ _ _ _ _ hw hy5 hy6 hy7 hy9 r40 _ _ (by omega) (by omega) _ _ hR hS _ (lv_sub hl [1, 2, 3, 4, 5, 6, 7, 8, 9, 0] rfl)
set_option maxHeartbeats 4000000 in
set_option maxRecDepth 100000 in
theorem t_L_isRow_43 {α0 : Ax} {p4 : Int} (X : CX p m c cL_isRow 11 s args RL G B κ meth (some .boolean)) (N : NcA s) (hlt : l.stackTraces = false) (he0 : e0 = G.2.2.2.2.2) (hA0 : Ak α0 α) (hp4 : inR p4) {Qm : Int → (Nat → Int) → Mem → Prop} : ∀ n : Nat, ∀ y5 : Int, ∀ y6 : Int, ∀ y7 : Int, ∀ y8 : Int, ∀ y9 : Int, ∀ M : Mem, wp_L_isRow_43 κ p4 Qm n y5 y6 y7 y8 y9 M → inR y5 → inR y6 → inR y7 → inR y8 → inR y9 → ∀ cl sl : Nat, cl + 5 ≤ 5 → sl + 2017 ≤ 2017 → ∀ (H : Heap) (locs : List Loc), Rp G e0 α κ B M H → va_S (fun q => B ≤ q) s.heap H locs → ∀ (ls : Array Slot), lv_has ls 11 [(0, .ref (α 10 0)), (1, .ref (α 105 0)), (2, .ref (α 106 0)), (3, .ref (α 112 0)), (4, .int (Int32.ofInt p4)), (5, .int (Int32.ofInt y5)), (6, .int (Int32.ofInt y6)), (7, .int (Int32.ofInt y7)), (8, .int (Int32.ofInt y8)), (9, .int (Int32.ofInt y9))] → WD p l e 10 5 2017 s m args below meth c G e0 α0 B Qm H locs cl sl 43 ls [] := by
  intro n
  induction n with
  | zero =>
    intro y5 y6 y7 y8 y9 M hw hy5 hy6 hy7 hy8 hy9 cl sl hc1 hc2 H locs hR hS ls hl
    exact hw.elim
  | succ n ih =>
    intro y5 y6 y7 y8 y9 M hw hy5 hy6 hy7 hy8 hy9 cl sl hc1 hc2 H locs hR hS ls hl
    have hw : (((M 112 0 1) ≤ y9 → ((¬ (M 112 0 1) = 10 → wp_L_isRow_147 κ p4 Qm y5 y6 y7 (if (if ¬ y5 = 0 then (if ¬ y5 = 1 then (2 : Int) else 24) else 3) ≤ y8 then (0 : Int) else 1) M) ∧ ((M 112 0 1) = 10 → (((if (if ¬ y5 = 0 then (if ¬ y5 = 1 then (2 : Int) else 24) else 3) ≤ y8 then (0 : Int) else 1) = 0 → wp_L_isRow_147 κ p4 Qm y5 y6 y7 (if (if ¬ y5 = 0 then (if ¬ y5 = 1 then (2 : Int) else 24) else 3) ≤ y8 then (0 : Int) else 1) M) ∧ (¬ (if (if ¬ y5 = 0 then (if ¬ y5 = 1 then (2 : Int) else 24) else 3) ≤ y8 then (0 : Int) else 1) = 0 → Qm 1 κ M))))) ∧ (y9 < (M 112 0 1) → (inR (3 * y9)) ∧ (0 ≤ (3 * y9) ∧ (3 * y9) < 30) ∧ (inR (y7 + (if y5 < (M 105 0 (3 * y9)) then (0 : Int) else 1))) ∧ (inR (3 * y9)) ∧ (0 ≤ (3 * y9) ∧ (3 * y9) < 30) ∧ (inR (y8 + (if ¬ (M 105 0 (3 * y9)) = y5 then (0 : Int) else 1))) ∧ (inR (y9 + 1)) ∧ wp_L_isRow_43 κ p4 Qm n y5 y6 (y7 + (if y5 < (M 105 0 (3 * y9)) then (0 : Int) else 1)) (y8 + (if ¬ (M 105 0 (3 * y9)) = y5 then (0 : Int) else 1)) (y9 + 1) M)) := hw
    refine lv_iload X.1.1 X.1.2.1 dL_isRow_43 (lv_at hl 9 rfl) ?_
    refine lv_aload_n X.1.1 X.1.2.1 dL_isRow_45 rfl (lv_at hl 3 rfl) ?_
    refine sa_const X.1 dL_isRow_46 ?_
    refine ra_112 X hR (okf X.2.2.1 rfl) ⟨by decide, by decide⟩ dL_isRow_47 ?_
    have r9 := hR.r 112 0 1
    refine sa_icmp_ge (tgt := 99) X.1 hy9 r9 dL_isRow_48 (by decide) (fun hc => ?_) (fun hc => ?_)
    · have hw := hw.1 hc
      refine lv_iload X.1.1 X.1.2.1 dL_isRow_99 (lv_at hl 8 rfl) ?_
      refine lv_iload X.1.1 X.1.2.1 dL_isRow_101 (lv_at hl 5 rfl) ?_
      have r12 := inR_ite (c := ¬ y5 = 0) (inR_ite (c := ¬ y5 = 1) (inR_c (a := 2) rfl) (inR_c (a := 24) rfl)) (inR_c (a := 3) rfl)
      refine cut_j (A := ∀ v13 : Int, v13 = (if ¬ y5 = 0 then (if ¬ y5 = 1 then (2 : Int) else 24) else 3) → WD p l e 10 5 2017 s m args below meth c G e0 α0 B Qm H locs cl sl 122 ls [.int (Int32.ofInt v13), .int (Int32.ofInt y8)]) (fun J14 => ?_) ?_
      · refine sa_if_ne (tgt := 110) X.1 hy5 dL_isRow_103 (by decide) (fun hc => ?_) (fun hc => ?_)
        · skip
          refine lv_iload X.1.1 X.1.2.1 dL_isRow_110 (lv_at hl 5 rfl) ?_
          refine sa_const X.1 dL_isRow_112 ?_
          refine cut_j (A := ∀ v10 : Int, v10 = (if ¬ y5 = 1 then (2 : Int) else 24) → WD p l e 10 5 2017 s m args below meth c G e0 α0 B Qm H locs cl sl 122 ls [.int (Int32.ofInt v10), .int (Int32.ofInt y8)]) (fun J11 => ?_) ?_
          · refine sa_icmp_ne (tgt := 121) X.1 hy5 (inR_c (a := 1) rfl) dL_isRow_113 (by decide) (fun hc => ?_) (fun hc => ?_)
            · skip
              refine sa_const X.1 dL_isRow_121 ?_
              exact J11 (2) (if_pos (c := ¬ y5 = 1) hc).symm
            · skip
              refine sa_bipush X.1 dL_isRow_116 (by decide) ?_
              refine lv_goto (tgt := 122) X.1.1 X.1.2.1 dL_isRow_118 (by decide) ?_
              exact J11 (24) (if_neg (c := ¬ y5 = 1) (fun z => z hc)).symm
          intro v10 hv10
          subst hv10
          exact J14 ((if ¬ y5 = 1 then (2 : Int) else 24)) (if_pos (c := ¬ y5 = 0) hc).symm
        · skip
          refine sa_const X.1 dL_isRow_106 ?_
          refine lv_goto (tgt := 122) X.1.1 X.1.2.1 dL_isRow_107 (by decide) ?_
          exact J14 (3) (if_neg (c := ¬ y5 = 0) (fun z => z hc)).symm
      intro v13 hv13
      subst hv13
      have r15 := inR_ite (c := (if ¬ y5 = 0 then (if ¬ y5 = 1 then (2 : Int) else 24) else 3) ≤ y8) (inR_c (a := 0) rfl) (inR_c (a := 1) rfl)
      refine cut_j (A := ∀ v16 : Int, v16 = (if (if ¬ y5 = 0 then (if ¬ y5 = 1 then (2 : Int) else 24) else 3) ≤ y8 then (0 : Int) else 1) → WD p l e 10 5 2017 s m args below meth c G e0 α0 B Qm H locs cl sl 130 ls [.int (Int32.ofInt v16)]) (fun J17 => ?_) ?_
      · refine sa_icmp_ge (tgt := 129) X.1 hy8 r12 dL_isRow_122 (by decide) (fun hc => ?_) (fun hc => ?_)
        · skip
          refine sa_const X.1 dL_isRow_129 ?_
          exact J17 (0) (if_pos (c := (if ¬ y5 = 0 then (if ¬ y5 = 1 then (2 : Int) else 24) else 3) ≤ y8) hc).symm
        · skip
          refine sa_const X.1 dL_isRow_125 ?_
          refine lv_goto (tgt := 130) X.1.1 X.1.2.1 dL_isRow_126 (by decide) ?_
          exact J17 (1) (if_neg (c := (if ¬ y5 = 0 then (if ¬ y5 = 1 then (2 : Int) else 24) else 3) ≤ y8) (Int.not_le.mpr hc)).symm
      intro v16 hv16
      subst hv16
      refine lv_istore (lv' := [(9, .int (Int32.ofInt (if (if ¬ y5 = 0 then (if ¬ y5 = 1 then (2 : Int) else 24) else 3) ≤ y8 then (0 : Int) else 1))), (0, .ref (α 10 0)), (1, .ref (α 105 0)), (2, .ref (α 106 0)), (3, .ref (α 112 0)), (4, .int (Int32.ofInt p4)), (5, .int (Int32.ofInt y5)), (6, .int (Int32.ofInt y6)), (7, .int (Int32.ofInt y7)), (8, .int (Int32.ofInt y8))]) X.1.1 X.1.2.1 dL_isRow_130 hl (by decide) rfl (fun ls hl => ?_)
      refine lv_aload_n X.1.1 X.1.2.1 dL_isRow_132 rfl (lv_at hl 4 rfl) ?_
      refine sa_const X.1 dL_isRow_133 ?_
      refine ra_112 X hR (okf X.2.2.1 rfl) ⟨by decide, by decide⟩ dL_isRow_134 ?_
      have r18 := hR.r 112 0 1
      refine sa_bipush X.1 dL_isRow_135 (by decide) ?_
      refine sa_icmp_ne (tgt := 147) X.1 r18 (inR_c (a := 10) rfl) dL_isRow_137 (by decide) (fun hc => ?_) (fun hc => ?_)
      · have hw := hw.1 hc
        exact t_L_isRow_147 X N hlt he0 hA0 hp4 _ _ _ _ _ hw hy5 hy6 hy7 r15 _ _ (by omega) (by omega) _ _ hR hS _ (lv_sub hl [1, 2, 3, 4, 5, 6, 7, 8, 0] rfl)
      · have hw := hw.2 hc
        refine lv_iload X.1.1 X.1.2.1 dL_isRow_140 (lv_at hl 0 rfl) ?_
        refine sa_if_eq (tgt := 147) X.1 r15 dL_isRow_142 (by decide) (fun hc => ?_) (fun hc => ?_)
        · have hw := hw.1 hc
          exact t_L_isRow_147 X N hlt he0 hA0 hp4 _ _ _ _ _ hw hy5 hy6 hy7 r15 _ _ (by omega) (by omega) _ _ hR hS _ (lv_sub hl [1, 2, 3, 4, 5, 6, 7, 8, 0] rfl)
        · have hw := hw.2 hc
          refine sa_const X.1 dL_isRow_145 ?_
          exact sd_zrtb X hR hS (Or.inr rfl) hw hA0 dL_isRow_146 (by omega) (by omega)
    · have hw := hw.2 hc
      refine lv_iload X.1.1 X.1.2.1 dL_isRow_51 (lv_at hl 7 rfl) ?_
      refine lv_aload_n X.1.1 X.1.2.1 dL_isRow_53 rfl (lv_at hl 1 rfl) ?_
      refine sa_const X.1 dL_isRow_54 ?_
      refine lv_iload X.1.1 X.1.2.1 dL_isRow_55 (lv_at hl 9 rfl) ?_
      have c82 := hw.1
      have hw := hw.2
      refine sa_imul X.1 dL_isRow_57 ?_
      have c83 := hw.1
      have hw := hw.2
      refine ra_105 X hR (okf X.2.2.1 rfl) c83 dL_isRow_58 ?_
      have r84 := hR.r 105 0 (3 * y9)
      refine lv_iload X.1.1 X.1.2.1 dL_isRow_59 (lv_at hl 5 rfl) ?_
      have r85 := inR_ite (c := y5 < (M 105 0 (3 * y9))) (inR_c (a := 0) rfl) (inR_c (a := 1) rfl)
      refine cut_j (A := ∀ v86 : Int, v86 = (if y5 < (M 105 0 (3 * y9)) then (0 : Int) else 1) → WD p l e 10 5 2017 s m args below meth c G e0 α0 B Qm H locs cl sl 69 ls [.int (Int32.ofInt v86), .int (Int32.ofInt y7)]) (fun J87 => ?_) ?_
      · refine sa_icmp_gt (tgt := 68) X.1 r84 hy5 dL_isRow_61 (by decide) (fun hc => ?_) (fun hc => ?_)
        · skip
          refine sa_const X.1 dL_isRow_68 ?_
          exact J87 (0) (if_pos (c := y5 < (M 105 0 (3 * y9))) hc).symm
        · skip
          refine sa_const X.1 dL_isRow_64 ?_
          refine lv_goto (tgt := 69) X.1.1 X.1.2.1 dL_isRow_65 (by decide) ?_
          exact J87 (1) (if_neg (c := y5 < (M 105 0 (3 * y9))) (Int.not_lt.mpr hc)).symm
      intro v86 hv86
      subst hv86
      have c88 := hw.1
      have hw := hw.2
      refine sa_iadd X.1 dL_isRow_69 ?_
      refine lv_istore (lv' := [(7, .int (Int32.ofInt (y7 + (if y5 < (M 105 0 (3 * y9)) then (0 : Int) else 1)))), (0, .ref (α 10 0)), (1, .ref (α 105 0)), (2, .ref (α 106 0)), (3, .ref (α 112 0)), (4, .int (Int32.ofInt p4)), (5, .int (Int32.ofInt y5)), (6, .int (Int32.ofInt y6)), (8, .int (Int32.ofInt y8)), (9, .int (Int32.ofInt y9))]) X.1.1 X.1.2.1 dL_isRow_70 hl (by decide) rfl (fun ls hl => ?_)
      refine lv_iload X.1.1 X.1.2.1 dL_isRow_72 (lv_at hl 8 rfl) ?_
      refine lv_aload_n X.1.1 X.1.2.1 dL_isRow_74 rfl (lv_at hl 2 rfl) ?_
      refine sa_const X.1 dL_isRow_75 ?_
      refine lv_iload X.1.1 X.1.2.1 dL_isRow_76 (lv_at hl 9 rfl) ?_
      have c89 := hw.1
      have hw := hw.2
      refine sa_imul X.1 dL_isRow_78 ?_
      have c90 := hw.1
      have hw := hw.2
      refine ra_105 X hR (okf X.2.2.1 rfl) c90 dL_isRow_79 ?_
      have r91 := hR.r 105 0 (3 * y9)
      refine lv_iload X.1.1 X.1.2.1 dL_isRow_80 (lv_at hl 6 rfl) ?_
      have r92 := inR_ite (c := ¬ (M 105 0 (3 * y9)) = y5) (inR_c (a := 0) rfl) (inR_c (a := 1) rfl)
      refine cut_j (A := ∀ v93 : Int, v93 = (if ¬ (M 105 0 (3 * y9)) = y5 then (0 : Int) else 1) → WD p l e 10 5 2017 s m args below meth c G e0 α0 B Qm H locs cl sl 90 ls [.int (Int32.ofInt v93), .int (Int32.ofInt y8)]) (fun J94 => ?_) ?_
      · refine sa_icmp_ne (tgt := 89) X.1 r91 hy5 dL_isRow_82 (by decide) (fun hc => ?_) (fun hc => ?_)
        · skip
          refine sa_const X.1 dL_isRow_89 ?_
          exact J94 (0) (if_pos (c := ¬ (M 105 0 (3 * y9)) = y5) hc).symm
        · skip
          refine sa_const X.1 dL_isRow_85 ?_
          refine lv_goto (tgt := 90) X.1.1 X.1.2.1 dL_isRow_86 (by decide) ?_
          exact J94 (1) (if_neg (c := ¬ (M 105 0 (3 * y9)) = y5) (fun z => z hc)).symm
      intro v93 hv93
      subst hv93
      have c95 := hw.1
      have hw := hw.2
      refine sa_iadd X.1 dL_isRow_90 ?_
      refine lv_istore (lv' := [(8, .int (Int32.ofInt (y8 + (if ¬ (M 105 0 (3 * y9)) = y5 then (0 : Int) else 1)))), (7, .int (Int32.ofInt (y7 + (if y5 < (M 105 0 (3 * y9)) then (0 : Int) else 1)))), (0, .ref (α 10 0)), (1, .ref (α 105 0)), (2, .ref (α 106 0)), (3, .ref (α 112 0)), (4, .int (Int32.ofInt p4)), (5, .int (Int32.ofInt y5)), (6, .int (Int32.ofInt y6)), (9, .int (Int32.ofInt y9))]) X.1.1 X.1.2.1 dL_isRow_91 hl (by decide) rfl (fun ls hl => ?_)
      have c96 := hw.1
      have hw := hw.2
      refine lv_iinc (v := Int32.ofInt (y9 + 1)) (lv' := [(9, .int (Int32.ofInt (y9 + 1))), (8, .int (Int32.ofInt (y8 + (if ¬ (M 105 0 (3 * y9)) = y5 then (0 : Int) else 1)))), (7, .int (Int32.ofInt (y7 + (if y5 < (M 105 0 (3 * y9)) then (0 : Int) else 1)))), (0, .ref (α 10 0)), (1, .ref (α 105 0)), (2, .ref (α 106 0)), (3, .ref (α 112 0)), (4, .int (Int32.ofInt p4)), (5, .int (Int32.ofInt y5)), (6, .int (Int32.ofInt y6))]) X.1.1 X.1.2.1 dL_isRow_93 hl (k := 9) rfl (Int32.ofInt_add _ _).symm (by decide) rfl (fun ls hl => ?_)
      refine lv_goto (tgt := 43) X.1.1 X.1.2.1 dL_isRow_96 (by decide) ?_
      exact ih _ _ _ _ _ _ hw hy5 hy6 c88 c95 c96 _ _ (by omega) (by omega) _ _ hR hS _ (lv_sub hl [3, 4, 5, 6, 7, 8, 9, 2, 1, 0] rfl)
set_option maxHeartbeats 4000000 in
set_option maxRecDepth 100000 in
theorem t_L_isRow {α0 : Ax} {p4 : Int} (X : CX p m c cL_isRow 11 s args RL G B κ meth (some .boolean)) (N : NcA s) (hlt : l.stackTraces = false) (he0 : e0 = G.2.2.2.2.2) (hA0 : Ak α0 α) (hp4 : inR p4) {M : Mem} {Qm : Int → (Nat → Int) → Mem → Prop} (hw : wp_L_isRow κ p4 M Qm) (cl sl : Nat) (hc1 : cl + 5 ≤ 5) (hc2 : sl + 2017 ≤ 2017) (H : Heap) (locs : List Loc) (hR : Rp G e0 α κ B M H) (hS : va_S (fun q => B ≤ q) s.heap H locs) (ls : Array Slot) (hl : lv_has ls 11 [(0, .ref (α 10 0)), (1, .ref (α 105 0)), (2, .ref (α 106 0)), (3, .ref (α 112 0)), (4, .int (Int32.ofInt p4))]) : WD p l e 10 5 2017 s m args below meth c G e0 α0 B Qm H locs cl sl 0 ls [] := by
  have hw : (∃ n97 : Nat, wp_L_isRow_43 κ p4 Qm n97 (if ¬ (Int.tmod p4 5) = 0 then (if ¬ (Int.tmod p4 5) = 1 then (1 : Int) else 2) else 0) (Int.tmod (Int.tdiv p4 5) 3) 0 0 0 M) := hw
  refine lv_iload X.1.1 X.1.2.1 dL_isRow_0 (lv_at hl 4 rfl) ?_
  refine sa_const X.1 dL_isRow_2 ?_
  have r1 := inR_tmod hp4 (inR_c (a := 5) rfl) (by decide)
  refine sa_irem X.1 hp4 (inR_c (a := 5) rfl) (Int.ne_of_gt (by decide)) dL_isRow_3 ?_
  have r4 := inR_ite (c := ¬ (Int.tmod p4 5) = 0) (inR_ite (c := ¬ (Int.tmod p4 5) = 1) (inR_c (a := 1) rfl) (inR_c (a := 2) rfl)) (inR_c (a := 0) rfl)
  refine cut_j (A := ∀ v5 : Int, v5 = (if ¬ (Int.tmod p4 5) = 0 then (if ¬ (Int.tmod p4 5) = 1 then (1 : Int) else 2) else 0) → WD p l e 10 5 2017 s m args below meth c G e0 α0 B Qm H locs cl sl 24 ls [.int (Int32.ofInt v5)]) (fun J6 => ?_) ?_
  · refine sa_if_ne (tgt := 11) X.1 r1 dL_isRow_4 (by decide) (fun hc => ?_) (fun hc => ?_)
    · skip
      refine lv_iload X.1.1 X.1.2.1 dL_isRow_11 (lv_at hl 4 rfl) ?_
      refine sa_const X.1 dL_isRow_13 ?_
      refine sa_irem X.1 hp4 (inR_c (a := 5) rfl) (Int.ne_of_gt (by decide)) dL_isRow_14 ?_
      refine sa_const X.1 dL_isRow_15 ?_
      refine cut_j (A := ∀ v2 : Int, v2 = (if ¬ (Int.tmod p4 5) = 1 then (1 : Int) else 2) → WD p l e 10 5 2017 s m args below meth c G e0 α0 B Qm H locs cl sl 24 ls [.int (Int32.ofInt v2)]) (fun J3 => ?_) ?_
      · refine sa_icmp_ne (tgt := 23) X.1 (inR_tmod hp4 (inR_c (a := 5) rfl) (by decide)) (inR_c (a := 1) rfl) dL_isRow_16 (by decide) (fun hc => ?_) (fun hc => ?_)
        · skip
          refine sa_const X.1 dL_isRow_23 ?_
          exact J3 (1) (if_pos (c := ¬ (Int.tmod p4 5) = 1) hc).symm
        · skip
          refine sa_const X.1 dL_isRow_19 ?_
          refine lv_goto (tgt := 24) X.1.1 X.1.2.1 dL_isRow_20 (by decide) ?_
          exact J3 (2) (if_neg (c := ¬ (Int.tmod p4 5) = 1) (fun z => z hc)).symm
      intro v2 hv2
      subst hv2
      exact J6 ((if ¬ (Int.tmod p4 5) = 1 then (1 : Int) else 2)) (if_pos (c := ¬ (Int.tmod p4 5) = 0) hc).symm
    · skip
      refine sa_const X.1 dL_isRow_7 ?_
      refine lv_goto (tgt := 24) X.1.1 X.1.2.1 dL_isRow_8 (by decide) ?_
      exact J6 (0) (if_neg (c := ¬ (Int.tmod p4 5) = 0) (fun z => z hc)).symm
  intro v5 hv5
  subst hv5
  refine lv_istore (lv' := [(5, .int (Int32.ofInt (if ¬ (Int.tmod p4 5) = 0 then (if ¬ (Int.tmod p4 5) = 1 then (1 : Int) else 2) else 0))), (0, .ref (α 10 0)), (1, .ref (α 105 0)), (2, .ref (α 106 0)), (3, .ref (α 112 0)), (4, .int (Int32.ofInt p4))]) X.1.1 X.1.2.1 dL_isRow_24 hl (by decide) rfl (fun ls hl => ?_)
  refine lv_iload X.1.1 X.1.2.1 dL_isRow_26 (lv_at hl 5 rfl) ?_
  refine sa_const X.1 dL_isRow_28 ?_
  have r7 := inR_tdiv hp4 (inR_c (a := 5) rfl) (by decide)
  refine sa_idiv X.1 hp4 (inR_c (a := 5) rfl) (Int.ne_of_gt (by decide)) dL_isRow_29 ?_
  refine sa_const X.1 dL_isRow_30 ?_
  have r8 := inR_tmod r7 (inR_c (a := 3) rfl) (by decide)
  refine sa_irem X.1 r7 (inR_c (a := 3) rfl) (Int.ne_of_gt (by decide)) dL_isRow_31 ?_
  refine lv_istore (lv' := [(6, .int (Int32.ofInt (Int.tmod (Int.tdiv p4 5) 3))), (5, .int (Int32.ofInt (if ¬ (Int.tmod p4 5) = 0 then (if ¬ (Int.tmod p4 5) = 1 then (1 : Int) else 2) else 0))), (0, .ref (α 10 0)), (1, .ref (α 105 0)), (2, .ref (α 106 0)), (3, .ref (α 112 0)), (4, .int (Int32.ofInt p4))]) X.1.1 X.1.2.1 dL_isRow_32 hl (by decide) rfl (fun ls hl => ?_)
  refine sa_const X.1 dL_isRow_34 ?_
  refine lv_istore (lv' := [(7, .int (Int32.ofInt 0)), (6, .int (Int32.ofInt (Int.tmod (Int.tdiv p4 5) 3))), (5, .int (Int32.ofInt (if ¬ (Int.tmod p4 5) = 0 then (if ¬ (Int.tmod p4 5) = 1 then (1 : Int) else 2) else 0))), (0, .ref (α 10 0)), (1, .ref (α 105 0)), (2, .ref (α 106 0)), (3, .ref (α 112 0)), (4, .int (Int32.ofInt p4))]) X.1.1 X.1.2.1 dL_isRow_35 hl (by decide) rfl (fun ls hl => ?_)
  refine sa_const X.1 dL_isRow_37 ?_
  refine lv_istore (lv' := [(8, .int (Int32.ofInt 0)), (7, .int (Int32.ofInt 0)), (6, .int (Int32.ofInt (Int.tmod (Int.tdiv p4 5) 3))), (5, .int (Int32.ofInt (if ¬ (Int.tmod p4 5) = 0 then (if ¬ (Int.tmod p4 5) = 1 then (1 : Int) else 2) else 0))), (0, .ref (α 10 0)), (1, .ref (α 105 0)), (2, .ref (α 106 0)), (3, .ref (α 112 0)), (4, .int (Int32.ofInt p4))]) X.1.1 X.1.2.1 dL_isRow_38 hl (by decide) rfl (fun ls hl => ?_)
  refine sa_const X.1 dL_isRow_40 ?_
  refine lv_istore (lv' := [(9, .int (Int32.ofInt 0)), (8, .int (Int32.ofInt 0)), (7, .int (Int32.ofInt 0)), (6, .int (Int32.ofInt (Int.tmod (Int.tdiv p4 5) 3))), (5, .int (Int32.ofInt (if ¬ (Int.tmod p4 5) = 0 then (if ¬ (Int.tmod p4 5) = 1 then (1 : Int) else 2) else 0))), (0, .ref (α 10 0)), (1, .ref (α 105 0)), (2, .ref (α 106 0)), (3, .ref (α 112 0)), (4, .int (Int32.ofInt p4))]) X.1.1 X.1.2.1 dL_isRow_41 hl (by decide) rfl (fun ls hl => ?_)
  obtain ⟨n97, hw⟩ := hw
  exact t_L_isRow_43 X N hlt he0 hA0 hp4 n97 _ _ _ _ _ _ hw r4 r8 (inR_c (a := 0) rfl) (inR_c (a := 0) rfl) (inR_c (a := 0) rfl) _ _ (by omega) (by omega) _ _ hR hS _ (lv_sub hl [5, 6, 7, 8, 9, 4, 3, 2, 1, 0] rfl)
theorem m_L_isRow {l : Launch} {G : Gx} {e0 : Nat} {α : Ax} {κ : Nat → Int} {B : Nat} {p4 : Int} (hlt : l.stackTraces = false) (hκ : kOK κ) (he0 : e0 = G.2.2.2.2.2) (hp4 : inR p4) {M : Mem} {Qm : Int → (Nat → Int) → Mem → Prop} (hw : wp_L_isRow κ p4 M Qm) : UD l yL_isRow (Cond.code yL_isRow cL_isRow 11 (some .boolean)) 10 5 2017 G e0 α κ B [.ref (α 10 0), .ref (α 105 0), .ref (α 106 0), .ref (α 112 0), .int (Int32.ofInt p4)] M Qm :=
  UD.mk hκ (by decide +kernel) rfl (Nat.le_of_ble_eq_true rfl) (lv := [(0, .ref (α 10 0)), (1, .ref (α 105 0)), (2, .ref (α 106 0)), (3, .ref (α 112 0)), (4, .int (Int32.ofInt p4))]) rfl (fun p e s m args below meth c ls X N hR hS hl => t_L_isRow X N hlt he0 Ak.rf hp4 hw 0 0 (by decide) (by decide) _ _ hR hS ls hl)
def wp_L_isCell_335 (κ : Nat → Int) (p5 : Int) (Qm : Int → (Nat → Int) → Mem → Prop) (M : Mem) : Prop := Qm 0 κ M
def wp_L_isCell_278 (κ : Nat → Int) (p5 : Int) (Qm : Int → (Nat → Int) → Mem → Prop) (y6 : Int) (y7 : Int) (y8 : Int) (y9 : Int) (y10 : Int) (y11 : Int) (M : Mem) : Prop := wp_L_celled y6 y7 y8 y9 κ M fun (x37 : Int) (κ40 : Nat → Int) (M39 : Mem) => ∃ M42 : Mem, Gh M39 M42 ∧ (¬ y11 = 0 → (inR ((M42 112 0 2) - 1)) ∧ True) ∧ (inR (if y11 = 0 then ((-7) : Int) else ((M42 112 0 2) - 1))) ∧ ((¬ x37 = (if y11 = 0 then ((-7) : Int) else ((M42 112 0 2) - 1)) → wp_L_isCell_335 κ40 p5 Qm M42) ∧ (x37 = (if y11 = 0 then ((-7) : Int) else ((M42 112 0 2) - 1)) → wo_X9_at y6 y7 M42 fun (x50 : Int) (M49 : Mem) => wp_L_at y10 y7 M49 fun (x53 : Int) (M52 : Mem) => (bit (if ¬ x50 = x53 then (0 : Int) else 1)) ∧ Qm (if ¬ x50 = x53 then (0 : Int) else 1) κ40 M52))
def wp_L_isCell_212 (κ : Nat → Int) (p5 : Int) (Qm : Int → (Nat → Int) → Mem → Prop) (y6 : Int) (y7 : Int) (y8 : Int) (y9 : Int) (y10 : Int) (y11 : Int) (M : Mem) : Prop := ((y11 = 0 → wp_L_isCell_278 κ p5 Qm y6 y7 y8 y9 y10 y11 M) ∧ (¬ y11 = 0 → (inR (6 * (M 112 0 2))) ∧ (0 ≤ (6 * (M 112 0 2)) ∧ (6 * (M 112 0 2)) < 60) ∧ ∀ M62 : Mem, M62 = up M 107 0 (6 * (M 112 0 2)) y6 → (inR ((6 * (M 112 0 2)) + 1)) ∧ (0 ≤ ((6 * (M 112 0 2)) + 1) ∧ ((6 * (M 112 0 2)) + 1) < 60) ∧ ∀ M66 : Mem, M66 = up M62 107 0 ((6 * (M 112 0 2)) + 1) y7 → (inR ((6 * (M 112 0 2)) + 2)) ∧ (0 ≤ ((6 * (M 112 0 2)) + 2) ∧ ((6 * (M 112 0 2)) + 2) < 60) ∧ ∀ M70 : Mem, M70 = up M66 107 0 ((6 * (M 112 0 2)) + 2) y8 → (inR ((6 * (M 112 0 2)) + 3)) ∧ (0 ≤ ((6 * (M 112 0 2)) + 3) ∧ ((6 * (M 112 0 2)) + 3) < 60) ∧ ∀ M74 : Mem, M74 = up M70 107 0 ((6 * (M 112 0 2)) + 3) y9 → (inR ((6 * (M 112 0 2)) + 4)) ∧ (0 ≤ ((6 * (M 112 0 2)) + 4) ∧ ((6 * (M 112 0 2)) + 4) < 60) ∧ ∀ M78 : Mem, M78 = up M74 107 0 ((6 * (M 112 0 2)) + 4) 0 → (inR ((6 * (M 112 0 2)) + 5)) ∧ (0 ≤ ((6 * (M 112 0 2)) + 5) ∧ ((6 * (M 112 0 2)) + 5) < 60) ∧ ∀ M82 : Mem, M82 = up M78 107 0 ((6 * (M 112 0 2)) + 5) (-1) → (inR ((M82 112 0 2) + 1)) ∧ ∀ M86 : Mem, M86 = up M82 112 0 2 ((M82 112 0 2) + 1) → wp_L_isCell_278 κ p5 Qm y6 y7 y8 y9 y10 y11 M86))
def wp_L_isCell_196 (κ : Nat → Int) (p5 : Int) (Qm : Int → (Nat → Int) → Mem → Prop) (y6 : Int) (y7 : Int) (y8 : Int) (y9 : Int) (y10 : Int) (y11 : Int) (M : Mem) : Prop := ((¬ (M 112 0 2) = 10 → wp_L_isCell_212 κ p5 Qm y6 y7 y8 y9 y10 y11 M) ∧ ((M 112 0 2) = 10 → ((y11 = 0 → wp_L_isCell_212 κ p5 Qm y6 y7 y8 y9 y10 y11 M) ∧ (¬ y11 = 0 → Qm 1 κ M))))
def wp_L_isCell_187 (κ : Nat → Int) (p5 : Int) (Qm : Int → (Nat → Int) → Mem → Prop) (K119 : Int → Int → Int → Int → Int → Int → Int → Mem → Prop) (y6 : Int) (y7 : Int) (y8 : Int) (y9 : Int) (y10 : Int) (y12 : Int) (M : Mem) : Prop := (inR (y12 + 1)) ∧ K119 y6 y7 y8 y9 y10 0 (y12 + 1) M
def wp_L_isCell_119 (κ : Nat → Int) (p5 : Int) (Qm : Int → (Nat → Int) → Mem → Prop) : Nat → Int → Int → Int → Int → Int → Int → Int → Mem → Prop
  | 0 => fun _ _ _ _ _ _ _ _ => False
  | n + 1 => fun y6 y7 y8 y9 y10 y11 y12 M => (inR (y8 * y9)) ∧ (((y8 * y9) ≤ y12 → wp_L_isCell_196 κ p5 Qm y6 y7 y8 y9 y10 y11 M) ∧ (y12 < (y8 * y9) → ((y11 = 0 → wp_L_isCell_196 κ p5 Qm y6 y7 y8 y9 y10 y11 M) ∧ (¬ y11 = 0 → (0 < y9) ∧ (inR (y10 + (Int.tdiv y12 y9))) ∧ (0 ≤ (y10 + (Int.tdiv y12 y9)) ∧ (y10 + (Int.tdiv y12 y9)) < 10) ∧ (inR (3 * (M 106 0 (y10 + (Int.tdiv y12 y9))))) ∧ (0 ≤ (3 * (M 106 0 (y10 + (Int.tdiv y12 y9)))) ∧ (3 * (M 106 0 (y10 + (Int.tdiv y12 y9)))) < 30) ∧ (inR (3 * y6)) ∧ (0 ≤ (3 * y6) ∧ (3 * y6) < 30) ∧ ((¬ (M 105 0 (3 * (M 106 0 (y10 + (Int.tdiv y12 y9))))) = (M 105 0 (3 * y6)) → wp_L_isCell_187 κ p5 Qm (wp_L_isCell_119 κ p5 Qm n) y6 y7 y8 y9 y10 y12 M) ∧ ((M 105 0 (3 * (M 106 0 (y10 + (Int.tdiv y12 y9))))) = (M 105 0 (3 * y6)) → (0 < y9) ∧ (inR (y10 + (Int.tdiv y12 y9))) ∧ (0 < y9) ∧ (inR (y7 + (Int.tmod y12 y9))) ∧ wp_L_at (y10 + (Int.tdiv y12 y9)) (y7 + (Int.tmod y12 y9)) M fun (x107 : Int) (M106 : Mem) => (inR (y12 + 1)) ∧ wp_L_isCell_119 κ p5 Qm n y6 y7 y8 y9 y10 (if 0 ≤ x107 then (0 : Int) else 1) (y12 + 1) M106))))))
def wp_L_isCell (κ : Nat → Int) (p5 : Int) (M : Mem) (Qm : Int → (Nat → Int) → Mem → Prop) : Prop := (0 < (M 112 0 1)) ∧ (0 < (M 112 0 0)) ∧ ((Int.tmod (Int.tdiv p5 40) 4) = 0 → (inR (1 + (Int.tmod (Int.tdiv p5 160) 3))) ∧ True) ∧ (inR (if ¬ (Int.tmod (Int.tdiv p5 40) 4) = 0 then (1 : Int) else (1 + (Int.tmod (Int.tdiv p5 160) 3)))) ∧ ((Int.tmod (Int.tdiv p5 480) 3) = 0 → (0 < (M 112 0 0)) ∧ (inR (1 + (Int.tmod (Int.tdiv p5 1440) (M 112 0 0)))) ∧ True) ∧ (inR (if ¬ (Int.tmod (Int.tdiv p5 480) 3) = 0 then (1 : Int) else (1 + (Int.tmod (Int.tdiv p5 1440) (M 112 0 0))))) ∧ wp_L_placeOf (Int.tmod p5 (M 112 0 1)) M fun (x24 : Int) (M23 : Mem) => (inR ((Int.tmod (Int.tdiv p5 10) (M 112 0 0)) + (if ¬ (Int.tmod (Int.tdiv p5 480) 3) = 0 then (1 : Int) else (1 + (Int.tmod (Int.tdiv p5 1440) (M 112 0 0)))))) ∧ (((Int.tmod (Int.tdiv p5 10) (M 112 0 0)) + (if ¬ (Int.tmod (Int.tdiv p5 480) 3) = 0 then (1 : Int) else (1 + (Int.tmod (Int.tdiv p5 1440) (M 112 0 0))))) ≤ (M23 112 0 0) → (inR (x24 + (if ¬ (Int.tmod (Int.tdiv p5 40) 4) = 0 then (1 : Int) else (1 + (Int.tmod (Int.tdiv p5 160) 3))))) ∧ True) ∧ (∃ n113 : Nat, wp_L_isCell_119 κ p5 Qm n113 (Int.tmod p5 (M 112 0 1)) (Int.tmod (Int.tdiv p5 10) (M 112 0 0)) (if ¬ (Int.tmod (Int.tdiv p5 40) 4) = 0 then (1 : Int) else (1 + (Int.tmod (Int.tdiv p5 160) 3))) (if ¬ (Int.tmod (Int.tdiv p5 480) 3) = 0 then (1 : Int) else (1 + (Int.tmod (Int.tdiv p5 1440) (M 112 0 0)))) x24 (if (M23 112 0 0) < ((Int.tmod (Int.tdiv p5 10) (M 112 0 0)) + (if ¬ (Int.tmod (Int.tdiv p5 480) 3) = 0 then (1 : Int) else (1 + (Int.tmod (Int.tdiv p5 1440) (M 112 0 0))))) then (0 : Int) else (if (M23 112 0 1) < (x24 + (if ¬ (Int.tmod (Int.tdiv p5 40) 4) = 0 then (1 : Int) else (1 + (Int.tmod (Int.tdiv p5 160) 3)))) then (0 : Int) else 1)) 0 M23)
set_option maxHeartbeats 4000000 in
set_option maxRecDepth 100000 in
theorem t_L_isCell_335 {α0 : Ax} {p5 : Int} (X : CX p m c cL_isCell 13 s args RL G B κ meth (some .boolean)) (N : NcA s) (hlt : l.stackTraces = false) (he0 : e0 = G.2.2.2.2.2) (hA0 : Ak α0 α) (hp5 : inR p5) {Qm : Int → (Nat → Int) → Mem → Prop} : ∀ M : Mem, wp_L_isCell_335 κ p5 Qm M → ∀ cl sl : Nat, cl + 0 ≤ 7 → sl + 0 ≤ 1053 → ∀ (H : Heap) (locs : List Loc), Rp G e0 α κ B M H → va_S (fun q => B ≤ q) s.heap H locs → ∀ (ls : Array Slot), lv_has ls 13 [] → WD p l e 10 7 1053 s m args below meth c G e0 α0 B Qm H locs cl sl 335 ls [] := by
  intro M hw cl sl hc1 hc2 H locs hR hS ls hl
  have hw : Qm 0 κ M := hw
  refine sa_const X.1 dL_isCell_335 ?_
  exact sd_zrtb X hR hS (Or.inl rfl) hw hA0 dL_isCell_336 (by omega) (by omega)
set_option maxHeartbeats 4000000 in
set_option maxRecDepth 100000 in
theorem t_L_isCell_278 {α0 : Ax} {p5 : Int} (X : CX p m c cL_isCell 13 s args RL G B κ meth (some .boolean)) (N : NcA s) (hlt : l.stackTraces = false) (he0 : e0 = G.2.2.2.2.2) (hA0 : Ak α0 α) (hp5 : inR p5) {Qm : Int → (Nat → Int) → Mem → Prop} : ∀ y6 : Int, ∀ y7 : Int, ∀ y8 : Int, ∀ y9 : Int, ∀ y10 : Int, ∀ y11 : Int, ∀ M : Mem, wp_L_isCell_278 κ p5 Qm y6 y7 y8 y9 y10 y11 M → inR y6 → inR y7 → inR y8 → inR y9 → inR y10 → inR y11 → ∀ cl sl : Nat, cl + 7 ≤ 7 → sl + 1053 ≤ 1053 → ∀ (H : Heap) (locs : List Loc), Rp G e0 α κ B M H → va_S (fun q => B ≤ q) s.heap H locs → ∀ (ls : Array Slot), lv_has ls 13 [(0, .ref (α 10 0)), (2, .ref (α 106 0)), (3, .ref (α 107 0)), (4, .ref (α 112 0)), (6, .int (Int32.ofInt y6)), (7, .int (Int32.ofInt y7)), (8, .int (Int32.ofInt y8)), (9, .int (Int32.ofInt y9)), (10, .int (Int32.ofInt y10)), (11, .int (Int32.ofInt y11))] → WD p l e 10 7 1053 s m args below meth c G e0 α0 B Qm H locs cl sl 278 ls [] := by
  intro y6 y7 y8 y9 y10 y11 M hw hy6 hy7 hy8 hy9 hy10 hy11 cl sl hc1 hc2 H locs hR hS ls hl
  have hw : wp_L_celled y6 y7 y8 y9 κ M fun (x37 : Int) (κ40 : Nat → Int) (M39 : Mem) => ∃ M42 : Mem, Gh M39 M42 ∧ (¬ y11 = 0 → (inR ((M42 112 0 2) - 1)) ∧ True) ∧ (inR (if y11 = 0 then ((-7) : Int) else ((M42 112 0 2) - 1))) ∧ ((¬ x37 = (if y11 = 0 then ((-7) : Int) else ((M42 112 0 2) - 1)) → wp_L_isCell_335 κ40 p5 Qm M42) ∧ (x37 = (if y11 = 0 then ((-7) : Int) else ((M42 112 0 2) - 1)) → wo_X9_at y6 y7 M42 fun (x50 : Int) (M49 : Mem) => wp_L_at y10 y7 M49 fun (x53 : Int) (M52 : Mem) => (bit (if ¬ x50 = x53 then (0 : Int) else 1)) ∧ Qm (if ¬ x50 = x53 then (0 : Int) else 1) κ40 M52)) := hw
  refine lv_aload_n X.1.1 X.1.2.1 dL_isCell_278 rfl (lv_at hl 0 rfl) ?_
  refine lv_iload X.1.1 X.1.2.1 dL_isCell_279 (lv_at hl 4 rfl) ?_
  refine lv_iload X.1.1 X.1.2.1 dL_isCell_281 (lv_at hl 5 rfl) ?_
  refine lv_iload X.1.1 X.1.2.1 dL_isCell_283 (lv_at hl 6 rfl) ?_
  refine lv_iload X.1.1 X.1.2.1 dL_isCell_285 (lv_at hl 7 rfl) ?_
  refine sl_call 9 (n := 5) (As := [.ref (α 10 0), .int (Int32.ofInt y6), .int (Int32.ofInt y7), .int (Int32.ofInt y8), .int (Int32.ofInt y9)]) (rest := []) X N hR hS (w_L_celled hlt he0 X.2.2.1 hy6 hy7 hy8 hy9 hw) kw_931 kw_932 kw_37 kw_933 ⟨by decide +kernel, by decide +kernel, by decide +kernel⟩ (rm_ok rmX_ok (by decide) (by decide)) rfl rfl (Nat.le_of_ble_eq_true rfl) hl.1 dL_isCell_287 ⟨by show _ ≤ 7; omega, by show _ ≤ 1053; omega⟩ (fun x37 κ40 α41 M39 H locs hw r38 hA hk hR hS => ?_)
  have X := X.re hk
  have hA0 := Ak.tr hA0 hA
  rw [← hA 10 (Or.inl rfl), ← hA 106 (Or.inr (Or.inr (by decide))), ← hA 107 (Or.inr (Or.inr (by decide))), ← hA 112 (Or.inr (Or.inr (by decide)))] at hl
  obtain ⟨M42, g43, hw⟩ := hw
  have hR := hR.gh X.2.2.1 g43
  refine lv_iload X.1.1 X.1.2.1 dL_isCell_290 (lv_at hl 9 rfl) ?_
  have s45 := hw.1
  have hw := hw.2
  have c46 := hw.1
  have hw := hw.2
  refine cut_j (A := ∀ v47 : Int, v47 = (if y11 = 0 then ((-7) : Int) else ((M42 112 0 2) - 1)) → WD p l e 10 7 1053 s m args below meth c G e0 α0 B Qm H locs (cl + 7) (sl + 1053) 306 ls [.int (Int32.ofInt v47), .int (Int32.ofInt x37)]) (fun J48 => ?_) ?_
  · refine sa_if_eq (tgt := 304) X.1 hy11 dL_isCell_292 (by decide) (fun hc => ?_) (fun hc => ?_)
    · skip
      refine sa_bipush X.1 dL_isCell_304 (by decide) ?_
      exact J48 ((-7)) (if_pos (c := y11 = 0) hc).symm
    · have hw := s45 hc
      refine lv_aload X.1.1 X.1.2.1 dL_isCell_295 (lv_at hl 3 rfl) ?_
      refine sa_const X.1 dL_isCell_297 ?_
      refine ra_112 X hR (okf X.2.2.1 rfl) ⟨by decide, by decide⟩ dL_isCell_298 ?_
      refine sa_const X.1 dL_isCell_299 ?_
      have c44 := hw.1
      have hw := hw.2
      refine sa_isub X.1 dL_isCell_300 ?_
      refine lv_goto (tgt := 306) X.1.1 X.1.2.1 dL_isCell_301 (by decide) ?_
      exact J48 (((M42 112 0 2) - 1)) (if_neg (c := y11 = 0) hc).symm
  intro v47 hv47
  subst hv47
  refine sa_icmp_ne (tgt := 335) X.1 r38 c46 dL_isCell_306 (by decide) (fun hc => ?_) (fun hc => ?_)
  · have hw := hw.1 hc
    exact t_L_isCell_335 X N hlt he0 hA0 hp5 _ hw _ _ (by omega) (by omega) _ _ hR hS _ (lv_sub hl [] rfl)
  · have hw := hw.2 hc
    refine lv_aload_n X.1.1 X.1.2.1 dL_isCell_309 rfl (lv_at hl 0 rfl) ?_
    refine lv_iload X.1.1 X.1.2.1 dL_isCell_310 (lv_at hl 4 rfl) ?_
    refine lv_iload X.1.1 X.1.2.1 dL_isCell_312 (lv_at hl 5 rfl) ?_
    refine co_X9_at X hy6 hy7 (kc := 10) rmX_ok ⟨by show _ ≤ 7; omega, by show _ ≤ 1053; omega⟩ (by decide) hR hS kw_1054 hl.1 dL_isCell_314 (Nat.le_of_ble_eq_true rfl) hw (fun x50 M49 H locs hw r51 hR hS => ?_)
    refine lv_aload_n X.1.1 X.1.2.1 dL_isCell_317 rfl (lv_at hl 1 rfl) ?_
    refine lv_aload_n X.1.1 X.1.2.1 dL_isCell_318 rfl (lv_at hl 2 rfl) ?_
    refine lv_aload X.1.1 X.1.2.1 dL_isCell_319 (lv_at hl 3 rfl) ?_
    refine lv_iload X.1.1 X.1.2.1 dL_isCell_321 (lv_at hl 8 rfl) ?_
    refine lv_iload X.1.1 X.1.2.1 dL_isCell_323 (lv_at hl 5 rfl) ?_
    refine cs_L_at X hy10 hy7 (kc := 10) rmX_ok ⟨by show _ ≤ 7; omega, by show _ ≤ 1053; omega⟩ (by decide) hR hS kw_928 hl.1 dL_isCell_325 (Nat.le_of_ble_eq_true rfl) hw (fun x53 M52 H locs hw r54 hR hS => ?_)
    have r55 := inR_ite (c := ¬ x50 = x53) (inR_c (a := 0) rfl) (inR_c (a := 1) rfl)
    refine cut_j (A := ∀ v56 : Int, v56 = (if ¬ x50 = x53 then (0 : Int) else 1) → WD p l e 10 7 1053 s m args below meth c G e0 α0 B Qm H locs (cl + 7) (sl + 1053) 336 ls [.int (Int32.ofInt v56)]) (fun J57 => ?_) ?_
    · refine sa_icmp_ne (tgt := 335) X.1 r51 r54 dL_isCell_328 (by decide) (fun hc => ?_) (fun hc => ?_)
      · skip
        refine sa_const X.1 dL_isCell_335 ?_
        exact J57 (0) (if_pos (c := ¬ x50 = x53) hc).symm
      · skip
        refine sa_const X.1 dL_isCell_331 ?_
        refine lv_goto (tgt := 336) X.1.1 X.1.2.1 dL_isCell_332 (by decide) ?_
        exact J57 (1) (if_neg (c := ¬ x50 = x53) (fun z => z hc)).symm
    intro v56 hv56
    subst hv56
    have c58 := hw.1
    have hw := hw.2
    exact sd_zrtb X hR hS c58 hw hA0 dL_isCell_336 (by omega) (by omega)
set_option maxHeartbeats 4000000 in
set_option maxRecDepth 100000 in
theorem t_L_isCell_212 {α0 : Ax} {p5 : Int} (X : CX p m c cL_isCell 13 s args RL G B κ meth (some .boolean)) (N : NcA s) (hlt : l.stackTraces = false) (he0 : e0 = G.2.2.2.2.2) (hA0 : Ak α0 α) (hp5 : inR p5) {Qm : Int → (Nat → Int) → Mem → Prop} : ∀ y6 : Int, ∀ y7 : Int, ∀ y8 : Int, ∀ y9 : Int, ∀ y10 : Int, ∀ y11 : Int, ∀ M : Mem, wp_L_isCell_212 κ p5 Qm y6 y7 y8 y9 y10 y11 M → inR y6 → inR y7 → inR y8 → inR y9 → inR y10 → inR y11 → ∀ cl sl : Nat, cl + 7 ≤ 7 → sl + 1053 ≤ 1053 → ∀ (H : Heap) (locs : List Loc), Rp G e0 α κ B M H → va_S (fun q => B ≤ q) s.heap H locs → ∀ (ls : Array Slot), lv_has ls 13 [(0, .ref (α 10 0)), (2, .ref (α 106 0)), (3, .ref (α 107 0)), (4, .ref (α 112 0)), (6, .int (Int32.ofInt y6)), (7, .int (Int32.ofInt y7)), (8, .int (Int32.ofInt y8)), (9, .int (Int32.ofInt y9)), (10, .int (Int32.ofInt y10)), (11, .int (Int32.ofInt y11))] → WD p l e 10 7 1053 s m args below meth c G e0 α0 B Qm H locs cl sl 212 ls [] := by
  intro y6 y7 y8 y9 y10 y11 M hw hy6 hy7 hy8 hy9 hy10 hy11 cl sl hc1 hc2 H locs hR hS ls hl
  have hw : ((y11 = 0 → wp_L_isCell_278 κ p5 Qm y6 y7 y8 y9 y10 y11 M) ∧ (¬ y11 = 0 → (inR (6 * (M 112 0 2))) ∧ (0 ≤ (6 * (M 112 0 2)) ∧ (6 * (M 112 0 2)) < 60) ∧ ∀ M62 : Mem, M62 = up M 107 0 (6 * (M 112 0 2)) y6 → (inR ((6 * (M 112 0 2)) + 1)) ∧ (0 ≤ ((6 * (M 112 0 2)) + 1) ∧ ((6 * (M 112 0 2)) + 1) < 60) ∧ ∀ M66 : Mem, M66 = up M62 107 0 ((6 * (M 112 0 2)) + 1) y7 → (inR ((6 * (M 112 0 2)) + 2)) ∧ (0 ≤ ((6 * (M 112 0 2)) + 2) ∧ ((6 * (M 112 0 2)) + 2) < 60) ∧ ∀ M70 : Mem, M70 = up M66 107 0 ((6 * (M 112 0 2)) + 2) y8 → (inR ((6 * (M 112 0 2)) + 3)) ∧ (0 ≤ ((6 * (M 112 0 2)) + 3) ∧ ((6 * (M 112 0 2)) + 3) < 60) ∧ ∀ M74 : Mem, M74 = up M70 107 0 ((6 * (M 112 0 2)) + 3) y9 → (inR ((6 * (M 112 0 2)) + 4)) ∧ (0 ≤ ((6 * (M 112 0 2)) + 4) ∧ ((6 * (M 112 0 2)) + 4) < 60) ∧ ∀ M78 : Mem, M78 = up M74 107 0 ((6 * (M 112 0 2)) + 4) 0 → (inR ((6 * (M 112 0 2)) + 5)) ∧ (0 ≤ ((6 * (M 112 0 2)) + 5) ∧ ((6 * (M 112 0 2)) + 5) < 60) ∧ ∀ M82 : Mem, M82 = up M78 107 0 ((6 * (M 112 0 2)) + 5) (-1) → (inR ((M82 112 0 2) + 1)) ∧ ∀ M86 : Mem, M86 = up M82 112 0 2 ((M82 112 0 2) + 1) → wp_L_isCell_278 κ p5 Qm y6 y7 y8 y9 y10 y11 M86)) := hw
  refine lv_iload X.1.1 X.1.2.1 dL_isCell_212 (lv_at hl 9 rfl) ?_
  refine sa_if_eq (tgt := 278) X.1 hy11 dL_isCell_214 (by decide) (fun hc => ?_) (fun hc => ?_)
  · have hw := hw.1 hc
    exact t_L_isCell_278 X N hlt he0 hA0 hp5 _ _ _ _ _ _ _ hw hy6 hy7 hy8 hy9 hy10 hy11 _ _ (by omega) (by omega) _ _ hR hS _ (lv_sub hl [0, 1, 2, 3, 4, 5, 6, 7, 8, 9] rfl)
  · have hw := hw.2 hc
    refine sa_bipush X.1 dL_isCell_217 (by decide) ?_
    refine lv_aload X.1.1 X.1.2.1 dL_isCell_219 (lv_at hl 3 rfl) ?_
    refine sa_const X.1 dL_isCell_221 ?_
    refine ra_112 X hR (okf X.2.2.1 rfl) ⟨by decide, by decide⟩ dL_isCell_222 ?_
    have r59 := hR.r 112 0 2
    have c60 := hw.1
    have hw := hw.2
    refine sa_imul X.1 dL_isCell_223 ?_
    refine lv_istore (lv' := [(12, .int (Int32.ofInt (6 * (M 112 0 2)))), (0, .ref (α 10 0)), (2, .ref (α 106 0)), (3, .ref (α 107 0)), (4, .ref (α 112 0)), (6, .int (Int32.ofInt y6)), (7, .int (Int32.ofInt y7)), (8, .int (Int32.ofInt y8)), (9, .int (Int32.ofInt y9)), (10, .int (Int32.ofInt y10)), (11, .int (Int32.ofInt y11))]) X.1.1 X.1.2.1 dL_isCell_224 hl (by decide) rfl (fun ls hl => ?_)
    refine lv_aload_n X.1.1 X.1.2.1 dL_isCell_226 rfl (lv_at hl 3 rfl) ?_
    refine lv_iload X.1.1 X.1.2.1 dL_isCell_227 (lv_at hl 0 rfl) ?_
    refine lv_iload X.1.1 X.1.2.1 dL_isCell_229 (lv_at hl 5 rfl) ?_
    have c61 := hw.1
    have hw := hw.2
    refine wa_107 X hR hS (okf X.2.2.1 rfl) c61 hy6 dL_isCell_231 (fun H locs hR hS => ?_)
    obtain ⟨M62, e63⟩ : ∃ z : Mem, z = up M 107 0 (6 * (M 112 0 2)) y6 := ⟨_, rfl⟩
    rw [← e63] at hR
    have hw := hw M62 e63
    refine lv_aload_n X.1.1 X.1.2.1 dL_isCell_232 rfl (lv_at hl 3 rfl) ?_
    refine lv_iload X.1.1 X.1.2.1 dL_isCell_233 (lv_at hl 0 rfl) ?_
    refine sa_const X.1 dL_isCell_235 ?_
    have c64 := hw.1
    have hw := hw.2
    refine sa_iadd X.1 dL_isCell_236 ?_
    refine lv_iload X.1.1 X.1.2.1 dL_isCell_237 (lv_at hl 6 rfl) ?_
    have c65 := hw.1
    have hw := hw.2
    refine wa_107 X hR hS (okf X.2.2.1 rfl) c65 hy7 dL_isCell_239 (fun H locs hR hS => ?_)
    obtain ⟨M66, e67⟩ : ∃ z : Mem, z = up M62 107 0 ((6 * (M 112 0 2)) + 1) y7 := ⟨_, rfl⟩
    rw [← e67] at hR
    have hw := hw M66 e67
    refine lv_aload_n X.1.1 X.1.2.1 dL_isCell_240 rfl (lv_at hl 3 rfl) ?_
    refine lv_iload X.1.1 X.1.2.1 dL_isCell_241 (lv_at hl 0 rfl) ?_
    refine sa_const X.1 dL_isCell_243 ?_
    have c68 := hw.1
    have hw := hw.2
    refine sa_iadd X.1 dL_isCell_244 ?_
    refine lv_iload X.1.1 X.1.2.1 dL_isCell_245 (lv_at hl 7 rfl) ?_
    have c69 := hw.1
    have hw := hw.2
    refine wa_107 X hR hS (okf X.2.2.1 rfl) c69 hy8 dL_isCell_247 (fun H locs hR hS => ?_)
    obtain ⟨M70, e71⟩ : ∃ z : Mem, z = up M66 107 0 ((6 * (M 112 0 2)) + 2) y8 := ⟨_, rfl⟩
    rw [← e71] at hR
    have hw := hw M70 e71
    refine lv_aload_n X.1.1 X.1.2.1 dL_isCell_248 rfl (lv_at hl 3 rfl) ?_
    refine lv_iload X.1.1 X.1.2.1 dL_isCell_249 (lv_at hl 0 rfl) ?_
    refine sa_const X.1 dL_isCell_251 ?_
    have c72 := hw.1
    have hw := hw.2
    refine sa_iadd X.1 dL_isCell_252 ?_
    refine lv_iload X.1.1 X.1.2.1 dL_isCell_253 (lv_at hl 8 rfl) ?_
    have c73 := hw.1
    have hw := hw.2
    refine wa_107 X hR hS (okf X.2.2.1 rfl) c73 hy9 dL_isCell_255 (fun H locs hR hS => ?_)
    obtain ⟨M74, e75⟩ : ∃ z : Mem, z = up M70 107 0 ((6 * (M 112 0 2)) + 3) y9 := ⟨_, rfl⟩
    rw [← e75] at hR
    have hw := hw M74 e75
    refine lv_aload_n X.1.1 X.1.2.1 dL_isCell_256 rfl (lv_at hl 3 rfl) ?_
    refine lv_iload X.1.1 X.1.2.1 dL_isCell_257 (lv_at hl 0 rfl) ?_
    refine sa_const X.1 dL_isCell_259 ?_
    have c76 := hw.1
    have hw := hw.2
    refine sa_iadd X.1 dL_isCell_260 ?_
    refine sa_const X.1 dL_isCell_261 ?_
    have c77 := hw.1
    have hw := hw.2
    refine wa_107 X hR hS (okf X.2.2.1 rfl) c77 (inR_c (a := 0) rfl) dL_isCell_262 (fun H locs hR hS => ?_)
    obtain ⟨M78, e79⟩ : ∃ z : Mem, z = up M74 107 0 ((6 * (M 112 0 2)) + 4) 0 := ⟨_, rfl⟩
    rw [← e79] at hR
    have hw := hw M78 e79
    refine lv_aload_n X.1.1 X.1.2.1 dL_isCell_263 rfl (lv_at hl 3 rfl) ?_
    refine lv_iload X.1.1 X.1.2.1 dL_isCell_264 (lv_at hl 0 rfl) ?_
    refine sa_const X.1 dL_isCell_266 ?_
    have c80 := hw.1
    have hw := hw.2
    refine sa_iadd X.1 dL_isCell_267 ?_
    refine sa_const X.1 dL_isCell_268 ?_
    have c81 := hw.1
    have hw := hw.2
    refine wa_107 X hR hS (okf X.2.2.1 rfl) c81 (inR_c (a := -1) rfl) dL_isCell_269 (fun H locs hR hS => ?_)
    obtain ⟨M82, e83⟩ : ∃ z : Mem, z = up M78 107 0 ((6 * (M 112 0 2)) + 5) (-1) := ⟨_, rfl⟩
    rw [← e83] at hR
    have hw := hw M82 e83
    refine lv_aload X.1.1 X.1.2.1 dL_isCell_270 (lv_at hl 4 rfl) ?_
    refine sa_const X.1 dL_isCell_272 ?_
    refine lv_dup2_11 X.1.1 X.1.2.1 dL_isCell_273 rfl rfl ?_
    refine ra_112 X hR (okf X.2.2.1 rfl) ⟨by decide, by decide⟩ dL_isCell_274 ?_
    have r84 := hR.r 112 0 2
    refine sa_const X.1 dL_isCell_275 ?_
    have c85 := hw.1
    have hw := hw.2
    refine sa_iadd X.1 dL_isCell_276 ?_
    refine wa_112 X hR hS (okf X.2.2.1 rfl) ⟨by decide, by decide⟩ c85 dL_isCell_277 (fun H locs hR hS => ?_)
    obtain ⟨M86, e87⟩ : ∃ z : Mem, z = up M82 112 0 2 ((M82 112 0 2) + 1) := ⟨_, rfl⟩
    rw [← e87] at hR
    have hw := hw M86 e87
    exact t_L_isCell_278 X N hlt he0 hA0 hp5 _ _ _ _ _ _ _ hw hy6 hy7 hy8 hy9 hy10 hy11 _ _ (by omega) (by omega) _ _ hR hS _ (lv_sub hl [1, 2, 3, 4, 5, 6, 7, 8, 9, 10] rfl)
set_option maxHeartbeats 4000000 in
set_option maxRecDepth 100000 in
theorem t_L_isCell_196 {α0 : Ax} {p5 : Int} (X : CX p m c cL_isCell 13 s args RL G B κ meth (some .boolean)) (N : NcA s) (hlt : l.stackTraces = false) (he0 : e0 = G.2.2.2.2.2) (hA0 : Ak α0 α) (hp5 : inR p5) {Qm : Int → (Nat → Int) → Mem → Prop} : ∀ y6 : Int, ∀ y7 : Int, ∀ y8 : Int, ∀ y9 : Int, ∀ y10 : Int, ∀ y11 : Int, ∀ M : Mem, wp_L_isCell_196 κ p5 Qm y6 y7 y8 y9 y10 y11 M → inR y6 → inR y7 → inR y8 → inR y9 → inR y10 → inR y11 → ∀ cl sl : Nat, cl + 7 ≤ 7 → sl + 1053 ≤ 1053 → ∀ (H : Heap) (locs : List Loc), Rp G e0 α κ B M H → va_S (fun q => B ≤ q) s.heap H locs → ∀ (ls : Array Slot), lv_has ls 13 [(0, .ref (α 10 0)), (2, .ref (α 106 0)), (3, .ref (α 107 0)), (4, .ref (α 112 0)), (6, .int (Int32.ofInt y6)), (7, .int (Int32.ofInt y7)), (8, .int (Int32.ofInt y8)), (9, .int (Int32.ofInt y9)), (10, .int (Int32.ofInt y10)), (11, .int (Int32.ofInt y11))] → WD p l e 10 7 1053 s m args below meth c G e0 α0 B Qm H locs cl sl 196 ls [] := by
  intro y6 y7 y8 y9 y10 y11 M hw hy6 hy7 hy8 hy9 hy10 hy11 cl sl hc1 hc2 H locs hR hS ls hl
  have hw : ((¬ (M 112 0 2) = 10 → wp_L_isCell_212 κ p5 Qm y6 y7 y8 y9 y10 y11 M) ∧ ((M 112 0 2) = 10 → ((y11 = 0 → wp_L_isCell_212 κ p5 Qm y6 y7 y8 y9 y10 y11 M) ∧ (¬ y11 = 0 → Qm 1 κ M)))) := hw
  refine lv_aload X.1.1 X.1.2.1 dL_isCell_196 (lv_at hl 3 rfl) ?_
  refine sa_const X.1 dL_isCell_198 ?_
  refine ra_112 X hR (okf X.2.2.1 rfl) ⟨by decide, by decide⟩ dL_isCell_199 ?_
  have r36 := hR.r 112 0 2
  refine sa_bipush X.1 dL_isCell_200 (by decide) ?_
  refine sa_icmp_ne (tgt := 212) X.1 r36 (inR_c (a := 10) rfl) dL_isCell_202 (by decide) (fun hc => ?_) (fun hc => ?_)
  · have hw := hw.1 hc
    exact t_L_isCell_212 X N hlt he0 hA0 hp5 _ _ _ _ _ _ _ hw hy6 hy7 hy8 hy9 hy10 hy11 _ _ (by omega) (by omega) _ _ hR hS _ (lv_sub hl [0, 1, 2, 3, 4, 5, 6, 7, 8, 9] rfl)
  · have hw := hw.2 hc
    refine lv_iload X.1.1 X.1.2.1 dL_isCell_205 (lv_at hl 9 rfl) ?_
    refine sa_if_eq (tgt := 212) X.1 hy11 dL_isCell_207 (by decide) (fun hc => ?_) (fun hc => ?_)
    · have hw := hw.1 hc
      exact t_L_isCell_212 X N hlt he0 hA0 hp5 _ _ _ _ _ _ _ hw hy6 hy7 hy8 hy9 hy10 hy11 _ _ (by omega) (by omega) _ _ hR hS _ (lv_sub hl [0, 1, 2, 3, 4, 5, 6, 7, 8, 9] rfl)
    · have hw := hw.2 hc
      refine sa_const X.1 dL_isCell_210 ?_
      exact sd_zrtb X hR hS (Or.inr rfl) hw hA0 dL_isCell_211 (by omega) (by omega)
set_option maxHeartbeats 4000000 in
set_option maxRecDepth 100000 in
theorem t_L_isCell_187 {α0 : Ax} {p5 : Int} (X : CX p m c cL_isCell 13 s args RL G B κ meth (some .boolean)) (N : NcA s) (hlt : l.stackTraces = false) (he0 : e0 = G.2.2.2.2.2) (hA0 : Ak α0 α) (hp5 : inR p5) {Qm : Int → (Nat → Int) → Mem → Prop} {K119 : Int → Int → Int → Int → Int → Int → Int → Mem → Prop} (hK119 : ∀ y6 : Int, ∀ y7 : Int, ∀ y8 : Int, ∀ y9 : Int, ∀ y10 : Int, ∀ y11 : Int, ∀ y12 : Int, ∀ M : Mem, K119 y6 y7 y8 y9 y10 y11 y12 M → inR y6 → inR y7 → inR y8 → inR y9 → inR y10 → inR y11 → inR y12 → ∀ cl sl : Nat, cl + 7 ≤ 7 → sl + 1053 ≤ 1053 → ∀ (H : Heap) (locs : List Loc), Rp G e0 α κ B M H → va_S (fun q => B ≤ q) s.heap H locs → ∀ (ls : Array Slot), lv_has ls 13 [(0, .ref (α 10 0)), (1, .ref (α 105 0)), (2, .ref (α 106 0)), (3, .ref (α 107 0)), (4, .ref (α 112 0)), (6, .int (Int32.ofInt y6)), (7, .int (Int32.ofInt y7)), (8, .int (Int32.ofInt y8)), (9, .int (Int32.ofInt y9)), (10, .int (Int32.ofInt y10)), (11, .int (Int32.ofInt y11)), (12, .int (Int32.ofInt y12))] → WD p l e 10 7 1053 s m args below meth c G e0 α0 B Qm H locs cl sl 119 ls []) : ∀ y6 : Int, ∀ y7 : Int, ∀ y8 : Int, ∀ y9 : Int, ∀ y10 : Int, ∀ y12 : Int, ∀ M : Mem, wp_L_isCell_187 κ p5 Qm K119 y6 y7 y8 y9 y10 y12 M → inR y6 → inR y7 → inR y8 → inR y9 → inR y10 → inR y12 → ∀ cl sl : Nat, cl + 7 ≤ 7 → sl + 1053 ≤ 1053 → ∀ (H : Heap) (locs : List Loc), Rp G e0 α κ B M H → va_S (fun q => B ≤ q) s.heap H locs → ∀ (ls : Array Slot), lv_has ls 13 [(0, .ref (α 10 0)), (1, .ref (α 105 0)), (2, .ref (α 106 0)), (3, .ref (α 107 0)), (4, .ref (α 112 0)), (6, .int (Int32.ofInt y6)), (7, .int (Int32.ofInt y7)), (8, .int (Int32.ofInt y8)), (9, .int (Int32.ofInt y9)), (10, .int (Int32.ofInt y10)), (12, .int (Int32.ofInt y12))] → WD p l e 10 7 1053 s m args below meth c G e0 α0 B Qm H locs cl sl 187 ls [] := by
  intro y6 y7 y8 y9 y10 y12 M hw hy6 hy7 hy8 hy9 hy10 hy12 cl sl hc1 hc2 H locs hR hS ls hl
  have hw : (inR (y12 + 1)) ∧ K119 y6 y7 y8 y9 y10 0 (y12 + 1) M := hw
  refine sa_const X.1 dL_isCell_187 ?_
  refine lv_istore (lv' := [(11, .int (Int32.ofInt 0)), (0, .ref (α 10 0)), (1, .ref (α 105 0)), (2, .ref (α 106 0)), (3, .ref (α 107 0)), (4, .ref (α 112 0)), (6, .int (Int32.ofInt y6)), (7, .int (Int32.ofInt y7)), (8, .int (Int32.ofInt y8)), (9, .int (Int32.ofInt y9)), (10, .int (Int32.ofInt y10)), (12, .int (Int32.ofInt y12))]) X.1.1 X.1.2.1 dL_isCell_188 hl (by decide) rfl (fun ls hl => ?_)
  have c99 := hw.1
  have hw := hw.2
  refine lv_iinc (v := Int32.ofInt (y12 + 1)) (lv' := [(12, .int (Int32.ofInt (y12 + 1))), (11, .int (Int32.ofInt 0)), (0, .ref (α 10 0)), (1, .ref (α 105 0)), (2, .ref (α 106 0)), (3, .ref (α 107 0)), (4, .ref (α 112 0)), (6, .int (Int32.ofInt y6)), (7, .int (Int32.ofInt y7)), (8, .int (Int32.ofInt y8)), (9, .int (Int32.ofInt y9)), (10, .int (Int32.ofInt y10))]) X.1.1 X.1.2.1 dL_isCell_190 hl (k := 11) rfl (Int32.ofInt_add _ _).symm (by decide) rfl (fun ls hl => ?_)
  refine lv_goto (tgt := 119) X.1.1 X.1.2.1 dL_isCell_193 (by decide) ?_
  exact hK119 _ _ _ _ _ _ _ _ hw hy6 hy7 hy8 hy9 hy10 (inR_c (a := 0) rfl) c99 _ _ (by omega) (by omega) _ _ hR hS _ (lv_sub hl [2, 3, 4, 5, 6, 7, 8, 9, 10, 11, 1, 0] rfl)
set_option maxHeartbeats 4000000 in
set_option maxRecDepth 100000 in
theorem t_L_isCell_119 {α0 : Ax} {p5 : Int} (X : CX p m c cL_isCell 13 s args RL G B κ meth (some .boolean)) (N : NcA s) (hlt : l.stackTraces = false) (he0 : e0 = G.2.2.2.2.2) (hA0 : Ak α0 α) (hp5 : inR p5) {Qm : Int → (Nat → Int) → Mem → Prop} : ∀ n : Nat, ∀ y6 : Int, ∀ y7 : Int, ∀ y8 : Int, ∀ y9 : Int, ∀ y10 : Int, ∀ y11 : Int, ∀ y12 : Int, ∀ M : Mem, wp_L_isCell_119 κ p5 Qm n y6 y7 y8 y9 y10 y11 y12 M → inR y6 → inR y7 → inR y8 → inR y9 → inR y10 → inR y11 → inR y12 → ∀ cl sl : Nat, cl + 7 ≤ 7 → sl + 1053 ≤ 1053 → ∀ (H : Heap) (locs : List Loc), Rp G e0 α κ B M H → va_S (fun q => B ≤ q) s.heap H locs → ∀ (ls : Array Slot), lv_has ls 13 [(0, .ref (α 10 0)), (1, .ref (α 105 0)), (2, .ref (α 106 0)), (3, .ref (α 107 0)), (4, .ref (α 112 0)), (6, .int (Int32.ofInt y6)), (7, .int (Int32.ofInt y7)), (8, .int (Int32.ofInt y8)), (9, .int (Int32.ofInt y9)), (10, .int (Int32.ofInt y10)), (11, .int (Int32.ofInt y11)), (12, .int (Int32.ofInt y12))] → WD p l e 10 7 1053 s m args below meth c G e0 α0 B Qm H locs cl sl 119 ls [] := by
  intro n
  induction n with
  | zero =>
    intro y6 y7 y8 y9 y10 y11 y12 M hw hy6 hy7 hy8 hy9 hy10 hy11 hy12 cl sl hc1 hc2 H locs hR hS ls hl
    exact hw.elim
  | succ n ih =>
    intro y6 y7 y8 y9 y10 y11 y12 M hw hy6 hy7 hy8 hy9 hy10 hy11 hy12 cl sl hc1 hc2 H locs hR hS ls hl
    have hw : (inR (y8 * y9)) ∧ (((y8 * y9) ≤ y12 → wp_L_isCell_196 κ p5 Qm y6 y7 y8 y9 y10 y11 M) ∧ (y12 < (y8 * y9) → ((y11 = 0 → wp_L_isCell_196 κ p5 Qm y6 y7 y8 y9 y10 y11 M) ∧ (¬ y11 = 0 → (0 < y9) ∧ (inR (y10 + (Int.tdiv y12 y9))) ∧ (0 ≤ (y10 + (Int.tdiv y12 y9)) ∧ (y10 + (Int.tdiv y12 y9)) < 10) ∧ (inR (3 * (M 106 0 (y10 + (Int.tdiv y12 y9))))) ∧ (0 ≤ (3 * (M 106 0 (y10 + (Int.tdiv y12 y9)))) ∧ (3 * (M 106 0 (y10 + (Int.tdiv y12 y9)))) < 30) ∧ (inR (3 * y6)) ∧ (0 ≤ (3 * y6) ∧ (3 * y6) < 30) ∧ ((¬ (M 105 0 (3 * (M 106 0 (y10 + (Int.tdiv y12 y9))))) = (M 105 0 (3 * y6)) → wp_L_isCell_187 κ p5 Qm (wp_L_isCell_119 κ p5 Qm n) y6 y7 y8 y9 y10 y12 M) ∧ ((M 105 0 (3 * (M 106 0 (y10 + (Int.tdiv y12 y9))))) = (M 105 0 (3 * y6)) → (0 < y9) ∧ (inR (y10 + (Int.tdiv y12 y9))) ∧ (0 < y9) ∧ (inR (y7 + (Int.tmod y12 y9))) ∧ wp_L_at (y10 + (Int.tdiv y12 y9)) (y7 + (Int.tmod y12 y9)) M fun (x107 : Int) (M106 : Mem) => (inR (y12 + 1)) ∧ wp_L_isCell_119 κ p5 Qm n y6 y7 y8 y9 y10 (if 0 ≤ x107 then (0 : Int) else 1) (y12 + 1) M106)))))) := hw
    refine lv_iload X.1.1 X.1.2.1 dL_isCell_119 (lv_at hl 11 rfl) ?_
    refine lv_iload X.1.1 X.1.2.1 dL_isCell_121 (lv_at hl 7 rfl) ?_
    refine lv_iload X.1.1 X.1.2.1 dL_isCell_123 (lv_at hl 8 rfl) ?_
    have c35 := hw.1
    have hw := hw.2
    refine sa_imul X.1 dL_isCell_125 ?_
    refine sa_icmp_ge (tgt := 196) X.1 hy12 c35 dL_isCell_126 (by decide) (fun hc => ?_) (fun hc => ?_)
    · have hw := hw.1 hc
      exact t_L_isCell_196 X N hlt he0 hA0 hp5 _ _ _ _ _ _ _ hw hy6 hy7 hy8 hy9 hy10 hy11 _ _ (by omega) (by omega) _ _ hR hS _ (lv_sub hl [0, 2, 3, 4, 5, 6, 7, 8, 9, 10] rfl)
    · have hw := hw.2 hc
      refine lv_iload X.1.1 X.1.2.1 dL_isCell_129 (lv_at hl 10 rfl) ?_
      refine sa_if_eq (tgt := 196) X.1 hy11 dL_isCell_131 (by decide) (fun hc => ?_) (fun hc => ?_)
      · have hw := hw.1 hc
        exact t_L_isCell_196 X N hlt he0 hA0 hp5 _ _ _ _ _ _ _ hw hy6 hy7 hy8 hy9 hy10 hy11 _ _ (by omega) (by omega) _ _ hR hS _ (lv_sub hl [0, 2, 3, 4, 5, 6, 7, 8, 9, 10] rfl)
      · have hw := hw.2 hc
        refine lv_aload_n X.1.1 X.1.2.1 dL_isCell_134 rfl (lv_at hl 1 rfl) ?_
        refine sa_const X.1 dL_isCell_135 ?_
        refine lv_aload_n X.1.1 X.1.2.1 dL_isCell_136 rfl (lv_at hl 2 rfl) ?_
        refine lv_iload X.1.1 X.1.2.1 dL_isCell_137 (lv_at hl 9 rfl) ?_
        refine lv_iload X.1.1 X.1.2.1 dL_isCell_139 (lv_at hl 11 rfl) ?_
        refine lv_iload X.1.1 X.1.2.1 dL_isCell_141 (lv_at hl 8 rfl) ?_
        have c88 := hw.1
        have hw := hw.2
        have r89 := inR_tdiv hy12 hy9 c88
        refine sa_idiv X.1 hy12 hy9 (Int.ne_of_gt c88) dL_isCell_143 ?_
        have c90 := hw.1
        have hw := hw.2
        refine sa_iadd X.1 dL_isCell_144 ?_
        have c91 := hw.1
        have hw := hw.2
        refine ra_106 X hR (okf X.2.2.1 rfl) c91 dL_isCell_145 ?_
        have r92 := hR.r 106 0 (y10 + (Int.tdiv y12 y9))
        have c93 := hw.1
        have hw := hw.2
        refine sa_imul X.1 dL_isCell_146 ?_
        have c94 := hw.1
        have hw := hw.2
        refine ra_105 X hR (okf X.2.2.1 rfl) c94 dL_isCell_147 ?_
        have r95 := hR.r 105 0 (3 * (M 106 0 (y10 + (Int.tdiv y12 y9))))
        refine lv_aload_n X.1.1 X.1.2.1 dL_isCell_148 rfl (lv_at hl 1 rfl) ?_
        refine sa_const X.1 dL_isCell_149 ?_
        refine lv_iload X.1.1 X.1.2.1 dL_isCell_150 (lv_at hl 5 rfl) ?_
        have c96 := hw.1
        have hw := hw.2
        refine sa_imul X.1 dL_isCell_152 ?_
        have c97 := hw.1
        have hw := hw.2
        refine ra_105 X hR (okf X.2.2.1 rfl) c97 dL_isCell_153 ?_
        have r98 := hR.r 105 0 (3 * y6)
        refine sa_icmp_ne (tgt := 187) X.1 r95 r98 dL_isCell_154 (by decide) (fun hc => ?_) (fun hc => ?_)
        · have hw := hw.1 hc
          exact t_L_isCell_187 X N hlt he0 hA0 hp5 ih _ _ _ _ _ _ _ hw hy6 hy7 hy8 hy9 hy10 hy12 _ _ (by omega) (by omega) _ _ hR hS _ (lv_sub hl [0, 1, 2, 3, 4, 5, 6, 7, 8, 9, 11] rfl)
        · have hw := hw.2 hc
          refine lv_aload_n X.1.1 X.1.2.1 dL_isCell_157 rfl (lv_at hl 2 rfl) ?_
          refine lv_aload_n X.1.1 X.1.2.1 dL_isCell_158 rfl (lv_at hl 3 rfl) ?_
          refine lv_aload X.1.1 X.1.2.1 dL_isCell_159 (lv_at hl 4 rfl) ?_
          refine lv_iload X.1.1 X.1.2.1 dL_isCell_161 (lv_at hl 9 rfl) ?_
          refine lv_iload X.1.1 X.1.2.1 dL_isCell_163 (lv_at hl 11 rfl) ?_
          refine lv_iload X.1.1 X.1.2.1 dL_isCell_165 (lv_at hl 8 rfl) ?_
          have c100 := hw.1
          have hw := hw.2
          have r101 := inR_tdiv hy12 hy9 c100
          refine sa_idiv X.1 hy12 hy9 (Int.ne_of_gt c100) dL_isCell_167 ?_
          have c102 := hw.1
          have hw := hw.2
          refine sa_iadd X.1 dL_isCell_168 ?_
          refine lv_iload X.1.1 X.1.2.1 dL_isCell_169 (lv_at hl 6 rfl) ?_
          refine lv_iload X.1.1 X.1.2.1 dL_isCell_171 (lv_at hl 11 rfl) ?_
          refine lv_iload X.1.1 X.1.2.1 dL_isCell_173 (lv_at hl 8 rfl) ?_
          have c103 := hw.1
          have hw := hw.2
          have r104 := inR_tmod hy12 hy9 c103
          refine sa_irem X.1 hy12 hy9 (Int.ne_of_gt c103) dL_isCell_175 ?_
          have c105 := hw.1
          have hw := hw.2
          refine sa_iadd X.1 dL_isCell_176 ?_
          refine cs_L_at X c102 c105 (kc := 10) rmX_ok ⟨by show _ ≤ 7; omega, by show _ ≤ 1053; omega⟩ (by decide) hR hS kw_928 hl.1 dL_isCell_177 (Nat.le_of_ble_eq_true rfl) hw (fun x107 M106 H locs hw r108 hR hS => ?_)
          have r109 := inR_ite (c := 0 ≤ x107) (inR_c (a := 0) rfl) (inR_c (a := 1) rfl)
          refine cut_j (A := ∀ v110 : Int, v110 = (if 0 ≤ x107 then (0 : Int) else 1) → WD p l e 10 7 1053 s m args below meth c G e0 α0 B Qm H locs cl sl 188 ls [.int (Int32.ofInt v110)]) (fun J111 => ?_) ?_
          · refine sa_if_ge (tgt := 187) X.1 r108 dL_isCell_180 (by decide) (fun hc => ?_) (fun hc => ?_)
            · skip
              refine sa_const X.1 dL_isCell_187 ?_
              exact J111 (0) (if_pos (c := 0 ≤ x107) hc).symm
            · skip
              refine sa_const X.1 dL_isCell_183 ?_
              refine lv_goto (tgt := 188) X.1.1 X.1.2.1 dL_isCell_184 (by decide) ?_
              exact J111 (1) (if_neg (c := 0 ≤ x107) (Int.not_le.mpr hc)).symm
          intro v110 hv110
          subst hv110
          refine lv_istore (lv' := [(11, .int (Int32.ofInt (if 0 ≤ x107 then (0 : Int) else 1))), (0, .ref (α 10 0)), (1, .ref (α 105 0)), (2, .ref (α 106 0)), (3, .ref (α 107 0)), (4, .ref (α 112 0)), (6, .int (Int32.ofInt y6)), (7, .int (Int32.ofInt y7)), (8, .int (Int32.ofInt y8)), (9, .int (Int32.ofInt y9)), (10, .int (Int32.ofInt y10)), (12, .int (Int32.ofInt y12))]) X.1.1 X.1.2.1 dL_isCell_188 hl (by decide) rfl (fun ls hl => ?_)
          have c112 := hw.1
          have hw := hw.2
          refine lv_iinc (v := Int32.ofInt (y12 + 1)) (lv' := [(12, .int (Int32.ofInt (y12 + 1))), (11, .int (Int32.ofInt (if 0 ≤ x107 then (0 : Int) else 1))), (0, .ref (α 10 0)), (1, .ref (α 105 0)), (2, .ref (α 106 0)), (3, .ref (α 107 0)), (4, .ref (α 112 0)), (6, .int (Int32.ofInt y6)), (7, .int (Int32.ofInt y7)), (8, .int (Int32.ofInt y8)), (9, .int (Int32.ofInt y9)), (10, .int (Int32.ofInt y10))]) X.1.1 X.1.2.1 dL_isCell_190 hl (k := 11) rfl (Int32.ofInt_add _ _).symm (by decide) rfl (fun ls hl => ?_)
          refine lv_goto (tgt := 119) X.1.1 X.1.2.1 dL_isCell_193 (by decide) ?_
          exact ih _ _ _ _ _ _ _ _ hw hy6 hy7 hy8 hy9 hy10 r109 c112 _ _ (by omega) (by omega) _ _ hR hS _ (lv_sub hl [2, 3, 4, 5, 6, 7, 8, 9, 10, 11, 1, 0] rfl)
set_option maxHeartbeats 4000000 in
set_option maxRecDepth 100000 in
theorem t_L_isCell {α0 : Ax} {p5 : Int} (X : CX p m c cL_isCell 13 s args RL G B κ meth (some .boolean)) (N : NcA s) (hlt : l.stackTraces = false) (he0 : e0 = G.2.2.2.2.2) (hA0 : Ak α0 α) (hp5 : inR p5) {M : Mem} {Qm : Int → (Nat → Int) → Mem → Prop} (hw : wp_L_isCell κ p5 M Qm) (cl sl : Nat) (hc1 : cl + 7 ≤ 7) (hc2 : sl + 1053 ≤ 1053) (H : Heap) (locs : List Loc) (hR : Rp G e0 α κ B M H) (hS : va_S (fun q => B ≤ q) s.heap H locs) (ls : Array Slot) (hl : lv_has ls 13 [(0, .ref (α 10 0)), (1, .ref (α 105 0)), (2, .ref (α 106 0)), (3, .ref (α 107 0)), (4, .ref (α 112 0)), (5, .int (Int32.ofInt p5))]) : WD p l e 10 7 1053 s m args below meth c G e0 α0 B Qm H locs cl sl 0 ls [] := by
  have hw : (0 < (M 112 0 1)) ∧ (0 < (M 112 0 0)) ∧ ((Int.tmod (Int.tdiv p5 40) 4) = 0 → (inR (1 + (Int.tmod (Int.tdiv p5 160) 3))) ∧ True) ∧ (inR (if ¬ (Int.tmod (Int.tdiv p5 40) 4) = 0 then (1 : Int) else (1 + (Int.tmod (Int.tdiv p5 160) 3)))) ∧ ((Int.tmod (Int.tdiv p5 480) 3) = 0 → (0 < (M 112 0 0)) ∧ (inR (1 + (Int.tmod (Int.tdiv p5 1440) (M 112 0 0)))) ∧ True) ∧ (inR (if ¬ (Int.tmod (Int.tdiv p5 480) 3) = 0 then (1 : Int) else (1 + (Int.tmod (Int.tdiv p5 1440) (M 112 0 0))))) ∧ wp_L_placeOf (Int.tmod p5 (M 112 0 1)) M fun (x24 : Int) (M23 : Mem) => (inR ((Int.tmod (Int.tdiv p5 10) (M 112 0 0)) + (if ¬ (Int.tmod (Int.tdiv p5 480) 3) = 0 then (1 : Int) else (1 + (Int.tmod (Int.tdiv p5 1440) (M 112 0 0)))))) ∧ (((Int.tmod (Int.tdiv p5 10) (M 112 0 0)) + (if ¬ (Int.tmod (Int.tdiv p5 480) 3) = 0 then (1 : Int) else (1 + (Int.tmod (Int.tdiv p5 1440) (M 112 0 0))))) ≤ (M23 112 0 0) → (inR (x24 + (if ¬ (Int.tmod (Int.tdiv p5 40) 4) = 0 then (1 : Int) else (1 + (Int.tmod (Int.tdiv p5 160) 3))))) ∧ True) ∧ (∃ n113 : Nat, wp_L_isCell_119 κ p5 Qm n113 (Int.tmod p5 (M 112 0 1)) (Int.tmod (Int.tdiv p5 10) (M 112 0 0)) (if ¬ (Int.tmod (Int.tdiv p5 40) 4) = 0 then (1 : Int) else (1 + (Int.tmod (Int.tdiv p5 160) 3))) (if ¬ (Int.tmod (Int.tdiv p5 480) 3) = 0 then (1 : Int) else (1 + (Int.tmod (Int.tdiv p5 1440) (M 112 0 0)))) x24 (if (M23 112 0 0) < ((Int.tmod (Int.tdiv p5 10) (M 112 0 0)) + (if ¬ (Int.tmod (Int.tdiv p5 480) 3) = 0 then (1 : Int) else (1 + (Int.tmod (Int.tdiv p5 1440) (M 112 0 0))))) then (0 : Int) else (if (M23 112 0 1) < (x24 + (if ¬ (Int.tmod (Int.tdiv p5 40) 4) = 0 then (1 : Int) else (1 + (Int.tmod (Int.tdiv p5 160) 3)))) then (0 : Int) else 1)) 0 M23) := hw
  refine lv_iload X.1.1 X.1.2.1 dL_isCell_0 (lv_at hl 5 rfl) ?_
  refine lv_aload X.1.1 X.1.2.1 dL_isCell_2 (lv_at hl 4 rfl) ?_
  refine sa_const X.1 dL_isCell_4 ?_
  refine ra_112 X hR (okf X.2.2.1 rfl) ⟨by decide, by decide⟩ dL_isCell_5 ?_
  have r1 := hR.r 112 0 1
  have c2 := hw.1
  have hw := hw.2
  have r3 := inR_tmod hp5 r1 c2
  refine sa_irem X.1 hp5 r1 (Int.ne_of_gt c2) dL_isCell_6 ?_
  refine lv_istore (lv' := [(6, .int (Int32.ofInt (Int.tmod p5 (M 112 0 1)))), (0, .ref (α 10 0)), (1, .ref (α 105 0)), (2, .ref (α 106 0)), (3, .ref (α 107 0)), (4, .ref (α 112 0)), (5, .int (Int32.ofInt p5))]) X.1.1 X.1.2.1 dL_isCell_7 hl (by decide) rfl (fun ls hl => ?_)
  refine lv_iload X.1.1 X.1.2.1 dL_isCell_9 (lv_at hl 6 rfl) ?_
  refine sa_bipush X.1 dL_isCell_11 (by decide) ?_
  have r4 := inR_tdiv hp5 (inR_c (a := 10) rfl) (by decide)
  refine sa_idiv X.1 hp5 (inR_c (a := 10) rfl) (Int.ne_of_gt (by decide)) dL_isCell_13 ?_
  refine lv_aload X.1.1 X.1.2.1 dL_isCell_14 (lv_at hl 5 rfl) ?_
  refine sa_const X.1 dL_isCell_16 ?_
  refine ra_112 X hR (okf X.2.2.1 rfl) ⟨by decide, by decide⟩ dL_isCell_17 ?_
  have r5 := hR.r 112 0 0
  have c6 := hw.1
  have hw := hw.2
  have r7 := inR_tmod r4 r5 c6
  refine sa_irem X.1 r4 r5 (Int.ne_of_gt c6) dL_isCell_18 ?_
  refine lv_istore (lv' := [(7, .int (Int32.ofInt (Int.tmod (Int.tdiv p5 10) (M 112 0 0)))), (6, .int (Int32.ofInt (Int.tmod p5 (M 112 0 1)))), (0, .ref (α 10 0)), (1, .ref (α 105 0)), (2, .ref (α 106 0)), (3, .ref (α 107 0)), (4, .ref (α 112 0)), (5, .int (Int32.ofInt p5))]) X.1.1 X.1.2.1 dL_isCell_19 hl (by decide) rfl (fun ls hl => ?_)
  refine lv_iload X.1.1 X.1.2.1 dL_isCell_21 (lv_at hl 7 rfl) ?_
  refine sa_bipush X.1 dL_isCell_23 (by decide) ?_
  have r8 := inR_tdiv hp5 (inR_c (a := 40) rfl) (by decide)
  refine sa_idiv X.1 hp5 (inR_c (a := 40) rfl) (Int.ne_of_gt (by decide)) dL_isCell_25 ?_
  refine sa_const X.1 dL_isCell_26 ?_
  have r9 := inR_tmod r8 (inR_c (a := 4) rfl) (by decide)
  refine sa_irem X.1 r8 (inR_c (a := 4) rfl) (Int.ne_of_gt (by decide)) dL_isCell_27 ?_
  have s11 := hw.1
  have hw := hw.2
  have c12 := hw.1
  have hw := hw.2
  refine cut_j (A := ∀ v13 : Int, v13 = (if ¬ (Int.tmod (Int.tdiv p5 40) 4) = 0 then (1 : Int) else (1 + (Int.tmod (Int.tdiv p5 160) 3))) → WD p l e 10 7 1053 s m args below meth c G e0 α0 B Qm H locs cl sl 45 ls [.int (Int32.ofInt v13)]) (fun J14 => ?_) ?_
  · refine sa_if_ne (tgt := 44) X.1 r9 dL_isCell_28 (by decide) (fun hc => ?_) (fun hc => ?_)
    · skip
      refine sa_const X.1 dL_isCell_44 ?_
      exact J14 (1) (if_pos (c := ¬ (Int.tmod (Int.tdiv p5 40) 4) = 0) hc).symm
    · have hw := s11 hc
      refine sa_const X.1 dL_isCell_31 ?_
      refine lv_iload X.1.1 X.1.2.1 dL_isCell_32 (lv_at hl 7 rfl) ?_
      refine sa_sipush X.1 dL_isCell_34 (by decide) ?_
      refine sa_idiv X.1 hp5 (inR_c (a := 160) rfl) (Int.ne_of_gt (by decide)) dL_isCell_37 ?_
      refine sa_const X.1 dL_isCell_38 ?_
      refine sa_irem X.1 (inR_tdiv hp5 (inR_c (a := 160) rfl) (by decide)) (inR_c (a := 3) rfl) (Int.ne_of_gt (by decide)) dL_isCell_39 ?_
      have c10 := hw.1
      have hw := hw.2
      refine sa_iadd X.1 dL_isCell_40 ?_
      refine lv_goto (tgt := 45) X.1.1 X.1.2.1 dL_isCell_41 (by decide) ?_
      exact J14 ((1 + (Int.tmod (Int.tdiv p5 160) 3))) (if_neg (c := ¬ (Int.tmod (Int.tdiv p5 40) 4) = 0) (fun z => z hc)).symm
  intro v13 hv13
  subst hv13
  refine lv_istore (lv' := [(8, .int (Int32.ofInt (if ¬ (Int.tmod (Int.tdiv p5 40) 4) = 0 then (1 : Int) else (1 + (Int.tmod (Int.tdiv p5 160) 3))))), (7, .int (Int32.ofInt (Int.tmod (Int.tdiv p5 10) (M 112 0 0)))), (6, .int (Int32.ofInt (Int.tmod p5 (M 112 0 1)))), (0, .ref (α 10 0)), (1, .ref (α 105 0)), (2, .ref (α 106 0)), (3, .ref (α 107 0)), (4, .ref (α 112 0)), (5, .int (Int32.ofInt p5))]) X.1.1 X.1.2.1 dL_isCell_45 hl (by decide) rfl (fun ls hl => ?_)
  refine lv_iload X.1.1 X.1.2.1 dL_isCell_47 (lv_at hl 8 rfl) ?_
  refine sa_sipush X.1 dL_isCell_49 (by decide) ?_
  have r15 := inR_tdiv hp5 (inR_c (a := 480) rfl) (by decide)
  refine sa_idiv X.1 hp5 (inR_c (a := 480) rfl) (Int.ne_of_gt (by decide)) dL_isCell_52 ?_
  refine sa_const X.1 dL_isCell_53 ?_
  have r16 := inR_tmod r15 (inR_c (a := 3) rfl) (by decide)
  refine sa_irem X.1 r15 (inR_c (a := 3) rfl) (Int.ne_of_gt (by decide)) dL_isCell_54 ?_
  have s19 := hw.1
  have hw := hw.2
  have c20 := hw.1
  have hw := hw.2
  refine cut_j (A := ∀ v21 : Int, v21 = (if ¬ (Int.tmod (Int.tdiv p5 480) 3) = 0 then (1 : Int) else (1 + (Int.tmod (Int.tdiv p5 1440) (M 112 0 0)))) → WD p l e 10 7 1053 s m args below meth c G e0 α0 B Qm H locs cl sl 75 ls [.int (Int32.ofInt v21)]) (fun J22 => ?_) ?_
  · refine sa_if_ne (tgt := 74) X.1 r16 dL_isCell_55 (by decide) (fun hc => ?_) (fun hc => ?_)
    · skip
      refine sa_const X.1 dL_isCell_74 ?_
      exact J22 (1) (if_pos (c := ¬ (Int.tmod (Int.tdiv p5 480) 3) = 0) hc).symm
    · have hw := s19 hc
      refine sa_const X.1 dL_isCell_58 ?_
      refine lv_iload X.1.1 X.1.2.1 dL_isCell_59 (lv_at hl 8 rfl) ?_
      refine sa_sipush X.1 dL_isCell_61 (by decide) ?_
      refine sa_idiv X.1 hp5 (inR_c (a := 1440) rfl) (Int.ne_of_gt (by decide)) dL_isCell_64 ?_
      refine lv_aload X.1.1 X.1.2.1 dL_isCell_65 (lv_at hl 7 rfl) ?_
      refine sa_const X.1 dL_isCell_67 ?_
      refine ra_112 X hR (okf X.2.2.1 rfl) ⟨by decide, by decide⟩ dL_isCell_68 ?_
      have c17 := hw.1
      have hw := hw.2
      refine sa_irem X.1 (inR_tdiv hp5 (inR_c (a := 1440) rfl) (by decide)) (hR.r 112 0 0) (Int.ne_of_gt c17) dL_isCell_69 ?_
      have c18 := hw.1
      have hw := hw.2
      refine sa_iadd X.1 dL_isCell_70 ?_
      refine lv_goto (tgt := 75) X.1.1 X.1.2.1 dL_isCell_71 (by decide) ?_
      exact J22 ((1 + (Int.tmod (Int.tdiv p5 1440) (M 112 0 0)))) (if_neg (c := ¬ (Int.tmod (Int.tdiv p5 480) 3) = 0) (fun z => z hc)).symm
  intro v21 hv21
  subst hv21
  refine lv_istore (lv' := [(9, .int (Int32.ofInt (if ¬ (Int.tmod (Int.tdiv p5 480) 3) = 0 then (1 : Int) else (1 + (Int.tmod (Int.tdiv p5 1440) (M 112 0 0)))))), (8, .int (Int32.ofInt (if ¬ (Int.tmod (Int.tdiv p5 40) 4) = 0 then (1 : Int) else (1 + (Int.tmod (Int.tdiv p5 160) 3))))), (7, .int (Int32.ofInt (Int.tmod (Int.tdiv p5 10) (M 112 0 0)))), (6, .int (Int32.ofInt (Int.tmod p5 (M 112 0 1)))), (0, .ref (α 10 0)), (1, .ref (α 105 0)), (2, .ref (α 106 0)), (3, .ref (α 107 0)), (4, .ref (α 112 0)), (5, .int (Int32.ofInt p5))]) X.1.1 X.1.2.1 dL_isCell_75 hl (by decide) rfl (fun ls hl => ?_)
  refine lv_aload_n X.1.1 X.1.2.1 dL_isCell_77 rfl (lv_at hl 6 rfl) ?_
  refine lv_iload X.1.1 X.1.2.1 dL_isCell_78 (lv_at hl 3 rfl) ?_
  refine cs_L_placeOf X r3 (kc := 10) rmX_ok ⟨by show _ ≤ 7; omega, by show _ ≤ 1053; omega⟩ (by decide) hR hS kw_925 hl.1 dL_isCell_80 (Nat.le_of_ble_eq_true rfl) hw (fun x24 M23 H locs hw r25 hR hS => ?_)
  refine lv_istore (lv' := [(10, .int (Int32.ofInt x24)), (9, .int (Int32.ofInt (if ¬ (Int.tmod (Int.tdiv p5 480) 3) = 0 then (1 : Int) else (1 + (Int.tmod (Int.tdiv p5 1440) (M 112 0 0)))))), (8, .int (Int32.ofInt (if ¬ (Int.tmod (Int.tdiv p5 40) 4) = 0 then (1 : Int) else (1 + (Int.tmod (Int.tdiv p5 160) 3))))), (7, .int (Int32.ofInt (Int.tmod (Int.tdiv p5 10) (M 112 0 0)))), (6, .int (Int32.ofInt (Int.tmod p5 (M 112 0 1)))), (0, .ref (α 10 0)), (1, .ref (α 105 0)), (2, .ref (α 106 0)), (3, .ref (α 107 0)), (4, .ref (α 112 0)), (5, .int (Int32.ofInt p5))]) X.1.1 X.1.2.1 dL_isCell_83 hl (by decide) rfl (fun ls hl => ?_)
  refine lv_iload X.1.1 X.1.2.1 dL_isCell_85 (lv_at hl 3 rfl) ?_
  refine lv_iload X.1.1 X.1.2.1 dL_isCell_87 (lv_at hl 1 rfl) ?_
  have c26 := hw.1
  have hw := hw.2
  refine sa_iadd X.1 dL_isCell_89 ?_
  refine lv_aload X.1.1 X.1.2.1 dL_isCell_90 (lv_at hl 9 rfl) ?_
  refine sa_const X.1 dL_isCell_92 ?_
  refine ra_112 X hR (okf X.2.2.1 rfl) ⟨by decide, by decide⟩ dL_isCell_93 ?_
  have r27 := hR.r 112 0 0
  have s31 := hw.1
  have hw := hw.2
  have r32 := inR_ite (c := (M23 112 0 0) < ((Int.tmod (Int.tdiv p5 10) (M 112 0 0)) + (if ¬ (Int.tmod (Int.tdiv p5 480) 3) = 0 then (1 : Int) else (1 + (Int.tmod (Int.tdiv p5 1440) (M 112 0 0)))))) (inR_c (a := 0) rfl) (inR_ite (c := (M23 112 0 1) < (x24 + (if ¬ (Int.tmod (Int.tdiv p5 40) 4) = 0 then (1 : Int) else (1 + (Int.tmod (Int.tdiv p5 160) 3))))) (inR_c (a := 0) rfl) (inR_c (a := 1) rfl))
  refine cut_j (A := ∀ v33 : Int, v33 = (if (M23 112 0 0) < ((Int.tmod (Int.tdiv p5 10) (M 112 0 0)) + (if ¬ (Int.tmod (Int.tdiv p5 480) 3) = 0 then (1 : Int) else (1 + (Int.tmod (Int.tdiv p5 1440) (M 112 0 0))))) then (0 : Int) else (if (M23 112 0 1) < (x24 + (if ¬ (Int.tmod (Int.tdiv p5 40) 4) = 0 then (1 : Int) else (1 + (Int.tmod (Int.tdiv p5 160) 3)))) then (0 : Int) else 1)) → WD p l e 10 7 1053 s m args below meth c G e0 α0 B Qm H locs cl sl 114 ls [.int (Int32.ofInt v33)]) (fun J34 => ?_) ?_
  · refine sa_icmp_gt (tgt := 113) X.1 c26 r27 dL_isCell_94 (by decide) (fun hc => ?_) (fun hc => ?_)
    · skip
      refine sa_const X.1 dL_isCell_113 ?_
      exact J34 (0) (if_pos (c := (M23 112 0 0) < ((Int.tmod (Int.tdiv p5 10) (M 112 0 0)) + (if ¬ (Int.tmod (Int.tdiv p5 480) 3) = 0 then (1 : Int) else (1 + (Int.tmod (Int.tdiv p5 1440) (M 112 0 0)))))) hc).symm
    · have hw := s31 hc
      refine lv_iload X.1.1 X.1.2.1 dL_isCell_97 (lv_at hl 0 rfl) ?_
      refine lv_iload X.1.1 X.1.2.1 dL_isCell_99 (lv_at hl 2 rfl) ?_
      have c28 := hw.1
      have hw := hw.2
      refine sa_iadd X.1 dL_isCell_101 ?_
      refine lv_aload X.1.1 X.1.2.1 dL_isCell_102 (lv_at hl 9 rfl) ?_
      refine sa_const X.1 dL_isCell_104 ?_
      refine ra_112 X hR (okf X.2.2.1 rfl) ⟨by decide, by decide⟩ dL_isCell_105 ?_
      refine cut_j (A := ∀ v29 : Int, v29 = (if (M23 112 0 1) < (x24 + (if ¬ (Int.tmod (Int.tdiv p5 40) 4) = 0 then (1 : Int) else (1 + (Int.tmod (Int.tdiv p5 160) 3)))) then (0 : Int) else 1) → WD p l e 10 7 1053 s m args below meth c G e0 α0 B Qm H locs cl sl 114 ls [.int (Int32.ofInt v29)]) (fun J30 => ?_) ?_
      · refine sa_icmp_gt (tgt := 113) X.1 c28 (hR.r 112 0 1) dL_isCell_106 (by decide) (fun hc => ?_) (fun hc => ?_)
        · skip
          refine sa_const X.1 dL_isCell_113 ?_
          exact J30 (0) (if_pos (c := (M23 112 0 1) < (x24 + (if ¬ (Int.tmod (Int.tdiv p5 40) 4) = 0 then (1 : Int) else (1 + (Int.tmod (Int.tdiv p5 160) 3))))) hc).symm
        · skip
          refine sa_const X.1 dL_isCell_109 ?_
          refine lv_goto (tgt := 114) X.1.1 X.1.2.1 dL_isCell_110 (by decide) ?_
          exact J30 (1) (if_neg (c := (M23 112 0 1) < (x24 + (if ¬ (Int.tmod (Int.tdiv p5 40) 4) = 0 then (1 : Int) else (1 + (Int.tmod (Int.tdiv p5 160) 3))))) (Int.not_lt.mpr hc)).symm
      intro v29 hv29
      subst hv29
      exact J34 ((if (M23 112 0 1) < (x24 + (if ¬ (Int.tmod (Int.tdiv p5 40) 4) = 0 then (1 : Int) else (1 + (Int.tmod (Int.tdiv p5 160) 3)))) then (0 : Int) else 1)) (if_neg (c := (M23 112 0 0) < ((Int.tmod (Int.tdiv p5 10) (M 112 0 0)) + (if ¬ (Int.tmod (Int.tdiv p5 480) 3) = 0 then (1 : Int) else (1 + (Int.tmod (Int.tdiv p5 1440) (M 112 0 0)))))) (Int.not_lt.mpr hc)).symm
  intro v33 hv33
  subst hv33
  refine lv_istore (lv' := [(11, .int (Int32.ofInt (if (M23 112 0 0) < ((Int.tmod (Int.tdiv p5 10) (M 112 0 0)) + (if ¬ (Int.tmod (Int.tdiv p5 480) 3) = 0 then (1 : Int) else (1 + (Int.tmod (Int.tdiv p5 1440) (M 112 0 0))))) then (0 : Int) else (if (M23 112 0 1) < (x24 + (if ¬ (Int.tmod (Int.tdiv p5 40) 4) = 0 then (1 : Int) else (1 + (Int.tmod (Int.tdiv p5 160) 3)))) then (0 : Int) else 1)))), (10, .int (Int32.ofInt x24)), (9, .int (Int32.ofInt (if ¬ (Int.tmod (Int.tdiv p5 480) 3) = 0 then (1 : Int) else (1 + (Int.tmod (Int.tdiv p5 1440) (M 112 0 0)))))), (8, .int (Int32.ofInt (if ¬ (Int.tmod (Int.tdiv p5 40) 4) = 0 then (1 : Int) else (1 + (Int.tmod (Int.tdiv p5 160) 3))))), (7, .int (Int32.ofInt (Int.tmod (Int.tdiv p5 10) (M 112 0 0)))), (6, .int (Int32.ofInt (Int.tmod p5 (M 112 0 1)))), (0, .ref (α 10 0)), (1, .ref (α 105 0)), (2, .ref (α 106 0)), (3, .ref (α 107 0)), (4, .ref (α 112 0)), (5, .int (Int32.ofInt p5))]) X.1.1 X.1.2.1 dL_isCell_114 hl (by decide) rfl (fun ls hl => ?_)
  refine sa_const X.1 dL_isCell_116 ?_
  refine lv_istore (lv' := [(12, .int (Int32.ofInt 0)), (11, .int (Int32.ofInt (if (M23 112 0 0) < ((Int.tmod (Int.tdiv p5 10) (M 112 0 0)) + (if ¬ (Int.tmod (Int.tdiv p5 480) 3) = 0 then (1 : Int) else (1 + (Int.tmod (Int.tdiv p5 1440) (M 112 0 0))))) then (0 : Int) else (if (M23 112 0 1) < (x24 + (if ¬ (Int.tmod (Int.tdiv p5 40) 4) = 0 then (1 : Int) else (1 + (Int.tmod (Int.tdiv p5 160) 3)))) then (0 : Int) else 1)))), (10, .int (Int32.ofInt x24)), (9, .int (Int32.ofInt (if ¬ (Int.tmod (Int.tdiv p5 480) 3) = 0 then (1 : Int) else (1 + (Int.tmod (Int.tdiv p5 1440) (M 112 0 0)))))), (8, .int (Int32.ofInt (if ¬ (Int.tmod (Int.tdiv p5 40) 4) = 0 then (1 : Int) else (1 + (Int.tmod (Int.tdiv p5 160) 3))))), (7, .int (Int32.ofInt (Int.tmod (Int.tdiv p5 10) (M 112 0 0)))), (6, .int (Int32.ofInt (Int.tmod p5 (M 112 0 1)))), (0, .ref (α 10 0)), (1, .ref (α 105 0)), (2, .ref (α 106 0)), (3, .ref (α 107 0)), (4, .ref (α 112 0)), (5, .int (Int32.ofInt p5))]) X.1.1 X.1.2.1 dL_isCell_117 hl (by decide) rfl (fun ls hl => ?_)
  obtain ⟨n113, hw⟩ := hw
  exact t_L_isCell_119 X N hlt he0 hA0 hp5 n113 _ _ _ _ _ _ _ _ hw r3 r7 c12 c20 r25 r32 (inR_c (a := 0) rfl) _ _ (by omega) (by omega) _ _ hR hS _ (lv_sub hl [7, 8, 9, 10, 11, 6, 5, 4, 3, 2, 1, 0] rfl)
theorem m_L_isCell {l : Launch} {G : Gx} {e0 : Nat} {α : Ax} {κ : Nat → Int} {B : Nat} {p5 : Int} (hlt : l.stackTraces = false) (hκ : kOK κ) (he0 : e0 = G.2.2.2.2.2) (hp5 : inR p5) {M : Mem} {Qm : Int → (Nat → Int) → Mem → Prop} (hw : wp_L_isCell κ p5 M Qm) : UD l yL_isCell (Cond.code yL_isCell cL_isCell 13 (some .boolean)) 10 7 1053 G e0 α κ B [.ref (α 10 0), .ref (α 105 0), .ref (α 106 0), .ref (α 107 0), .ref (α 112 0), .int (Int32.ofInt p5)] M Qm :=
  UD.mk hκ (by decide +kernel) rfl (Nat.le_of_ble_eq_true rfl) (lv := [(0, .ref (α 10 0)), (1, .ref (α 105 0)), (2, .ref (α 106 0)), (3, .ref (α 107 0)), (4, .ref (α 112 0)), (5, .int (Int32.ofInt p5))]) rfl (fun p e s m args below meth c ls X N hR hS hl => t_L_isCell X N hlt he0 Ak.rf hp5 hw 0 0 (by decide) (by decide) _ _ hR hS ls hl)
end
