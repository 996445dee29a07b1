-- L_seaText
theorem dL_seaText_0 : decode cL_seaText 0 = .ok (.aload_n 0, 1) := by decide +kernel
theorem dL_seaText_1 : decode cL_seaText 1 = .ok (.iload_n 1, 1) := by decide +kernel
theorem dL_seaText_2 : decode cL_seaText 2 = .ok (.invokestatic 8, 3) := by decide +kernel
theorem dL_seaText_5 : decode cL_seaText 5 = .ok (.istore 4, 2) := by decide +kernel
theorem dL_seaText_7 : decode cL_seaText 7 = .ok (.iconst 0, 1) := by decide +kernel
theorem dL_seaText_8 : decode cL_seaText 8 = .ok (.istore 5, 2) := by decide +kernel
theorem dL_seaText_10 : decode cL_seaText 10 = .ok (.aload_n 2, 1) := by decide +kernel
theorem dL_seaText_11 : decode cL_seaText 11 = .ok (.iconst 0, 1) := by decide +kernel
theorem dL_seaText_12 : decode cL_seaText 12 = .ok (.iconst 2, 1) := by decide +kernel
theorem dL_seaText_13 : decode cL_seaText 13 = .ok (.iload 4, 2) := by decide +kernel
theorem dL_seaText_15 : decode cL_seaText 15 = .ok (.iload 4, 2) := by decide +kernel
theorem dL_seaText_17 : decode cL_seaText 17 = .ok (.bipush 20, 2) := by decide +kernel
theorem dL_seaText_19 : decode cL_seaText 19 = .ok (.ishr, 1) := by decide +kernel
theorem dL_seaText_20 : decode cL_seaText 20 = .ok (.iconst 2, 1) := by decide +kernel
theorem dL_seaText_21 : decode cL_seaText 21 = .ok (.invokestatic 14, 3) := by decide +kernel
theorem dL_seaText_24 : decode cL_seaText 24 = .ok (.ifCond .ne 7, 3) := by decide +kernel
theorem dL_seaText_27 : decode cL_seaText 27 = .ok (.iconst 4, 1) := by decide +kernel
theorem dL_seaText_28 : decode cL_seaText 28 = .ok (.goto 4, 3) := by decide +kernel
theorem dL_seaText_31 : decode cL_seaText 31 = .ok (.iconst 2, 1) := by decide +kernel
theorem dL_seaText_32 : decode cL_seaText 32 = .ok (.invokestatic 14, 3) := by decide +kernel
theorem dL_seaText_35 : decode cL_seaText 35 = .ok (.iadd, 1) := by decide +kernel
theorem dL_seaText_36 : decode cL_seaText 36 = .ok (.iastore, 1) := by decide +kernel
theorem dL_seaText_37 : decode cL_seaText 37 = .ok (.aload_n 2, 1) := by decide +kernel
theorem dL_seaText_38 : decode cL_seaText 38 = .ok (.iconst 1, 1) := by decide +kernel
theorem dL_seaText_39 : decode cL_seaText 39 = .ok (.iconst 2, 1) := by decide +kernel
theorem dL_seaText_40 : decode cL_seaText 40 = .ok (.iload 4, 2) := by decide +kernel
theorem dL_seaText_42 : decode cL_seaText 42 = .ok (.iconst 3, 1) := by decide +kernel
theorem dL_seaText_43 : decode cL_seaText 43 = .ok (.ishr, 1) := by decide +kernel
theorem dL_seaText_44 : decode cL_seaText 44 = .ok (.iload 4, 2) := by decide +kernel
theorem dL_seaText_46 : decode cL_seaText 46 = .ok (.bipush 21, 2) := by decide +kernel
theorem dL_seaText_48 : decode cL_seaText 48 = .ok (.ishr, 1) := by decide +kernel
theorem dL_seaText_49 : decode cL_seaText 49 = .ok (.iconst 2, 1) := by decide +kernel
theorem dL_seaText_50 : decode cL_seaText 50 = .ok (.invokestatic 14, 3) := by decide +kernel
theorem dL_seaText_53 : decode cL_seaText 53 = .ok (.ifCond .ne 7, 3) := by decide +kernel
theorem dL_seaText_56 : decode cL_seaText 56 = .ok (.iconst 5, 1) := by decide +kernel
theorem dL_seaText_57 : decode cL_seaText 57 = .ok (.goto 4, 3) := by decide +kernel
theorem dL_seaText_60 : decode cL_seaText 60 = .ok (.iconst 3, 1) := by decide +kernel
theorem dL_seaText_61 : decode cL_seaText 61 = .ok (.invokestatic 14, 3) := by decide +kernel
theorem dL_seaText_64 : decode cL_seaText 64 = .ok (.iadd, 1) := by decide +kernel
theorem dL_seaText_65 : decode cL_seaText 65 = .ok (.iastore, 1) := by decide +kernel
theorem dL_seaText_66 : decode cL_seaText 66 = .ok (.aload_n 2, 1) := by decide +kernel
theorem dL_seaText_67 : decode cL_seaText 67 = .ok (.iconst 2, 1) := by decide +kernel
theorem dL_seaText_68 : decode cL_seaText 68 = .ok (.iload 4, 2) := by decide +kernel
theorem dL_seaText_70 : decode cL_seaText 70 = .ok (.bipush 7, 2) := by decide +kernel
theorem dL_seaText_72 : decode cL_seaText 72 = .ok (.ishr, 1) := by decide +kernel
theorem dL_seaText_73 : decode cL_seaText 73 = .ok (.aload_n 2, 1) := by decide +kernel
theorem dL_seaText_74 : decode cL_seaText 74 = .ok (.iconst 0, 1) := by decide +kernel
theorem dL_seaText_75 : decode cL_seaText 75 = .ok (.iaload, 1) := by decide +kernel
theorem dL_seaText_76 : decode cL_seaText 76 = .ok (.aload_n 2, 1) := by decide +kernel
theorem dL_seaText_77 : decode cL_seaText 77 = .ok (.iconst 1, 1) := by decide +kernel
theorem dL_seaText_78 : decode cL_seaText 78 = .ok (.iaload, 1) := by decide +kernel
theorem dL_seaText_79 : decode cL_seaText 79 = .ok (.imul, 1) := by decide +kernel
theorem dL_seaText_80 : decode cL_seaText 80 = .ok (.invokestatic 14, 3) := by decide +kernel
theorem dL_seaText_83 : decode cL_seaText 83 = .ok (.iastore, 1) := by decide +kernel
theorem dL_seaText_84 : decode cL_seaText 84 = .ok (.iconst 0, 1) := by decide +kernel
theorem dL_seaText_85 : decode cL_seaText 85 = .ok (.istore 6, 2) := by decide +kernel
theorem dL_seaText_87 : decode cL_seaText 87 = .ok (.iload 6, 2) := by decide +kernel
theorem dL_seaText_89 : decode cL_seaText 89 = .ok (.aload_n 2, 1) := by decide +kernel
theorem dL_seaText_90 : decode cL_seaText 90 = .ok (.iconst 0, 1) := by decide +kernel
theorem dL_seaText_91 : decode cL_seaText 91 = .ok (.iaload, 1) := by decide +kernel
theorem dL_seaText_92 : decode cL_seaText 92 = .ok (.aload_n 2, 1) := by decide +kernel
theorem dL_seaText_93 : decode cL_seaText 93 = .ok (.iconst 1, 1) := by decide +kernel
theorem dL_seaText_94 : decode cL_seaText 94 = .ok (.iaload, 1) := by decide +kernel
theorem dL_seaText_95 : decode cL_seaText 95 = .ok (.imul, 1) := by decide +kernel
theorem dL_seaText_96 : decode cL_seaText 96 = .ok (.if_icmp .ge 270, 3) := by decide +kernel
theorem dL_seaText_99 : decode cL_seaText 99 = .ok (.aload_n 0, 1) := by decide +kernel
theorem dL_seaText_100 : decode cL_seaText 100 = .ok (.iload_n 1, 1) := by decide +kernel
theorem dL_seaText_101 : decode cL_seaText 101 = .ok (.iconst 1, 1) := by decide +kernel
theorem dL_seaText_102 : decode cL_seaText 102 = .ok (.iadd, 1) := by decide +kernel
theorem dL_seaText_103 : decode cL_seaText 103 = .ok (.iload 6, 2) := by decide +kernel
theorem dL_seaText_105 : decode cL_seaText 105 = .ok (.bipush 6, 2) := by decide +kernel
theorem dL_seaText_107 : decode cL_seaText 107 = .ok (.irem, 1) := by decide +kernel
theorem dL_seaText_108 : decode cL_seaText 108 = .ok (.iadd, 1) := by decide +kernel
theorem dL_seaText_109 : decode cL_seaText 109 = .ok (.invokestatic 8, 3) := by decide +kernel
theorem dL_seaText_112 : decode cL_seaText 112 = .ok (.bipush 6, 2) := by decide +kernel
theorem dL_seaText_114 : decode cL_seaText 114 = .ok (.iload 6, 2) := by decide +kernel
theorem dL_seaText_116 : decode cL_seaText 116 = .ok (.bipush 6, 2) := by decide +kernel
theorem dL_seaText_118 : decode cL_seaText 118 = .ok (.idiv, 1) := by decide +kernel
theorem dL_seaText_119 : decode cL_seaText 119 = .ok (.imul, 1) := by decide +kernel
theorem dL_seaText_120 : decode cL_seaText 120 = .ok (.ishr, 1) := by decide +kernel
theorem dL_seaText_121 : decode cL_seaText 121 = .ok (.istore 7, 2) := by decide +kernel
theorem dL_seaText_123 : decode cL_seaText 123 = .ok (.aload_n 2, 1) := by decide +kernel
theorem dL_seaText_124 : decode cL_seaText 124 = .ok (.iconst 3, 1) := by decide +kernel
theorem dL_seaText_125 : decode cL_seaText 125 = .ok (.iload 6, 2) := by decide +kernel
theorem dL_seaText_127 : decode cL_seaText 127 = .ok (.iadd, 1) := by decide +kernel
theorem dL_seaText_128 : decode cL_seaText 128 = .ok (.iload 6, 2) := by decide +kernel
theorem dL_seaText_130 : decode cL_seaText 130 = .ok (.aload_n 2, 1) := by decide +kernel
theorem dL_seaText_131 : decode cL_seaText 131 = .ok (.iconst 2, 1) := by decide +kernel
theorem dL_seaText_132 : decode cL_seaText 132 = .ok (.iaload, 1) := by decide +kernel
theorem dL_seaText_133 : decode cL_seaText 133 = .ok (.if_icmp .ne 8, 3) := by decide +kernel
theorem dL_seaText_136 : decode cL_seaText 136 = .ok (.bipush 10, 2) := by decide +kernel
theorem dL_seaText_138 : decode cL_seaText 138 = .ok (.goto 43, 3) := by decide +kernel
theorem dL_seaText_141 : decode cL_seaText 141 = .ok (.iload 7, 2) := by decide +kernel
theorem dL_seaText_143 : decode cL_seaText 143 = .ok (.bipush 9, 2) := by decide +kernel
theorem dL_seaText_145 : decode cL_seaText 145 = .ok (.invokestatic 14, 3) := by decide +kernel
theorem dL_seaText_148 : decode cL_seaText 148 = .ok (.ifCond .ne 8, 3) := by decide +kernel
theorem dL_seaText_151 : decode cL_seaText 151 = .ok (.bipush 11, 2) := by decide +kernel
theorem dL_seaText_153 : decode cL_seaText 153 = .ok (.goto 28, 3) := by decide +kernel
theorem dL_seaText_156 : decode cL_seaText 156 = .ok (.iload 7, 2) := by decide +kernel
theorem dL_seaText_158 : decode cL_seaText 158 = .ok (.iconst 2, 1) := by decide +kernel
theorem dL_seaText_159 : decode cL_seaText 159 = .ok (.ishr, 1) := by decide +kernel
theorem dL_seaText_160 : decode cL_seaText 160 = .ok (.iload 4, 2) := by decide +kernel
theorem dL_seaText_162 : decode cL_seaText 162 = .ok (.bipush 22, 2) := by decide +kernel
theorem dL_seaText_164 : decode cL_seaText 164 = .ok (.ishr, 1) := by decide +kernel
theorem dL_seaText_165 : decode cL_seaText 165 = .ok (.iconst 2, 1) := by decide +kernel
theorem dL_seaText_166 : decode cL_seaText 166 = .ok (.invokestatic 14, 3) := by decide +kernel
theorem dL_seaText_169 : decode cL_seaText 169 = .ok (.ifCond .ne 8, 3) := by decide +kernel
theorem dL_seaText_172 : decode cL_seaText 172 = .ok (.bipush 10, 2) := by decide +kernel
theorem dL_seaText_174 : decode cL_seaText 174 = .ok (.goto 4, 3) := by decide +kernel
theorem dL_seaText_177 : decode cL_seaText 177 = .ok (.iconst 4, 1) := by decide +kernel
theorem dL_seaText_178 : decode cL_seaText 178 = .ok (.invokestatic 14, 3) := by decide +kernel
theorem dL_seaText_181 : decode cL_seaText 181 = .ok (.iastore, 1) := by decide +kernel
theorem dL_seaText_182 : decode cL_seaText 182 = .ok (.aload_n 2, 1) := by decide +kernel
theorem dL_seaText_183 : decode cL_seaText 183 = .ok (.bipush 33, 2) := by decide +kernel
theorem dL_seaText_185 : decode cL_seaText 185 = .ok (.iload 6, 2) := by decide +kernel
theorem dL_seaText_187 : decode cL_seaText 187 = .ok (.iadd, 1) := by decide +kernel
theorem dL_seaText_188 : decode cL_seaText 188 = .ok (.aload_n 2, 1) := by decide +kernel
theorem dL_seaText_189 : decode cL_seaText 189 = .ok (.iconst 3, 1) := by decide +kernel
theorem dL_seaText_190 : decode cL_seaText 190 = .ok (.iload 6, 2) := by decide +kernel
theorem dL_seaText_192 : decode cL_seaText 192 = .ok (.iadd, 1) := by decide +kernel
theorem dL_seaText_193 : decode cL_seaText 193 = .ok (.iaload, 1) := by decide +kernel
theorem dL_seaText_194 : decode cL_seaText 194 = .ok (.bipush 10, 2) := by decide +kernel
theorem dL_seaText_196 : decode cL_seaText 196 = .ok (.if_icmp .ge 25, 3) := by decide +kernel
theorem dL_seaText_199 : decode cL_seaText 199 = .ok (.iload 7, 2) := by decide +kernel
theorem dL_seaText_201 : decode cL_seaText 201 = .ok (.iconst 1, 1) := by decide +kernel
theorem dL_seaText_202 : decode cL_seaText 202 = .ok (.ishr, 1) := by decide +kernel
theorem dL_seaText_203 : decode cL_seaText 203 = .ok (.iconst 3, 1) := by decide +kernel
theorem dL_seaText_204 : decode cL_seaText 204 = .ok (.invokestatic 14, 3) := by decide +kernel
theorem dL_seaText_207 : decode cL_seaText 207 = .ok (.ifCond .ne 14, 3) := by decide +kernel
theorem dL_seaText_210 : decode cL_seaText 210 = .ok (.iload 7, 2) := by decide +kernel
theorem dL_seaText_212 : decode cL_seaText 212 = .ok (.iconst 4, 1) := by decide +kernel
theorem dL_seaText_213 : decode cL_seaText 213 = .ok (.ishr, 1) := by decide +kernel
theorem dL_seaText_214 : decode cL_seaText 214 = .ok (.iconst 4, 1) := by decide +kernel
theorem dL_seaText_215 : decode cL_seaText 215 = .ok (.invokestatic 14, 3) := by decide +kernel
theorem dL_seaText_218 : decode cL_seaText 218 = .ok (.goto 4, 3) := by decide +kernel
theorem dL_seaText_221 : decode cL_seaText 221 = .ok (.iconst (-1), 1) := by decide +kernel
theorem dL_seaText_222 : decode cL_seaText 222 = .ok (.iastore, 1) := by decide +kernel
theorem dL_seaText_223 : decode cL_seaText 223 = .ok (.iload 6, 2) := by decide +kernel
theorem dL_seaText_225 : decode cL_seaText 225 = .ok (.ifCond .le 21, 3) := by decide +kernel
theorem dL_seaText_228 : decode cL_seaText 228 = .ok (.iload 6, 2) := by decide +kernel
theorem dL_seaText_230 : decode cL_seaText 230 = .ok (.aload_n 2, 1) := by decide +kernel
theorem dL_seaText_231 : decode cL_seaText 231 = .ok (.iconst 1, 1) := by decide +kernel
theorem dL_seaText_232 : decode cL_seaText 232 = .ok (.iaload, 1) := by decide +kernel
theorem dL_seaText_233 : decode cL_seaText 233 = .ok (.irem, 1) := by decide +kernel
theorem dL_seaText_234 : decode cL_seaText 234 = .ok (.ifCond .ne 12, 3) := by decide +kernel
theorem dL_seaText_237 : decode cL_seaText 237 = .ok (.aload_n 3, 1) := by decide +kernel
theorem dL_seaText_238 : decode cL_seaText 238 = .ok (.iload 5, 2) := by decide +kernel
theorem dL_seaText_240 : decode cL_seaText 240 = .ok (.iinc 5 1, 3) := by decide +kernel
theorem dL_seaText_243 : decode cL_seaText 243 = .ok (.bipush 47, 2) := by decide +kernel
theorem dL_seaText_245 : decode cL_seaText 245 = .ok (.iastore, 1) := by decide +kernel
theorem dL_seaText_246 : decode cL_seaText 246 = .ok (.aload_n 3, 1) := by decide +kernel
theorem dL_seaText_247 : decode cL_seaText 247 = .ok (.iload 5, 2) := by decide +kernel
theorem dL_seaText_249 : decode cL_seaText 249 = .ok (.iinc 5 1, 3) := by decide +kernel
theorem dL_seaText_252 : decode cL_seaText 252 = .ok (.aload_n 2, 1) := by decide +kernel
theorem dL_seaText_253 : decode cL_seaText 253 = .ok (.iconst 3, 1) := by decide +kernel
theorem dL_seaText_254 : decode cL_seaText 254 = .ok (.iload 6, 2) := by decide +kernel
theorem dL_seaText_256 : decode cL_seaText 256 = .ok (.iadd, 1) := by decide +kernel
theorem dL_seaText_257 : decode cL_seaText 257 = .ok (.iaload, 1) := by decide +kernel
theorem dL_seaText_258 : decode cL_seaText 258 = .ok (.bipush 10, 2) := by decide +kernel
theorem dL_seaText_260 : decode cL_seaText 260 = .ok (.if_icmp .ne 8, 3) := by decide +kernel
theorem dL_seaText_263 : decode cL_seaText 263 = .ok (.bipush 104, 2) := by decide +kernel
theorem dL_seaText_265 : decode cL_seaText 265 = .ok (.goto 28, 3) := by decide +kernel
theorem dL_seaText_268 : decode cL_seaText 268 = .ok (.aload_n 2, 1) := by decide +kernel
theorem dL_seaText_269 : decode cL_seaText 269 = .ok (.iconst 3, 1) := by decide +kernel
theorem dL_seaText_270 : decode cL_seaText 270 = .ok (.iload 6, 2) := by decide +kernel
theorem dL_seaText_272 : decode cL_seaText 272 = .ok (.iadd, 1) := by decide +kernel
theorem dL_seaText_273 : decode cL_seaText 273 = .ok (.iaload, 1) := by decide +kernel
theorem dL_seaText_274 : decode cL_seaText 274 = .ok (.bipush 11, 2) := by decide +kernel
theorem dL_seaText_276 : decode cL_seaText 276 = .ok (.if_icmp .ne 8, 3) := by decide +kernel
theorem dL_seaText_279 : decode cL_seaText 279 = .ok (.bipush 35, 2) := by decide +kernel
theorem dL_seaText_281 : decode cL_seaText 281 = .ok (.goto 12, 3) := by decide +kernel
theorem dL_seaText_284 : decode cL_seaText 284 = .ok (.bipush 48, 2) := by decide +kernel
theorem dL_seaText_286 : decode cL_seaText 286 = .ok (.aload_n 2, 1) := by decide +kernel
theorem dL_seaText_287 : decode cL_seaText 287 = .ok (.iconst 3, 1) := by decide +kernel
theorem dL_seaText_288 : decode cL_seaText 288 = .ok (.iload 6, 2) := by decide +kernel
theorem dL_seaText_290 : decode cL_seaText 290 = .ok (.iadd, 1) := by decide +kernel
theorem dL_seaText_291 : decode cL_seaText 291 = .ok (.iaload, 1) := by decide +kernel
theorem dL_seaText_292 : decode cL_seaText 292 = .ok (.iadd, 1) := by decide +kernel
theorem dL_seaText_293 : decode cL_seaText 293 = .ok (.iastore, 1) := by decide +kernel
theorem dL_seaText_294 : decode cL_seaText 294 = .ok (.aload_n 2, 1) := by decide +kernel
theorem dL_seaText_295 : decode cL_seaText 295 = .ok (.bipush 33, 2) := by decide +kernel
theorem dL_seaText_297 : decode cL_seaText 297 = .ok (.iload 6, 2) := by decide +kernel
theorem dL_seaText_299 : decode cL_seaText 299 = .ok (.iadd, 1) := by decide +kernel
theorem dL_seaText_300 : decode cL_seaText 300 = .ok (.iaload, 1) := by decide +kernel
theorem dL_seaText_301 : decode cL_seaText 301 = .ok (.ifCond .lt 59, 3) := by decide +kernel
theorem dL_seaText_304 : decode cL_seaText 304 = .ok (.aload_n 3, 1) := by decide +kernel
theorem dL_seaText_305 : decode cL_seaText 305 = .ok (.iload 5, 2) := by decide +kernel
theorem dL_seaText_307 : decode cL_seaText 307 = .ok (.iinc 5 1, 3) := by decide +kernel
theorem dL_seaText_310 : decode cL_seaText 310 = .ok (.aload_n 2, 1) := by decide +kernel
theorem dL_seaText_311 : decode cL_seaText 311 = .ok (.bipush 33, 2) := by decide +kernel
theorem dL_seaText_313 : decode cL_seaText 313 = .ok (.iload 6, 2) := by decide +kernel
theorem dL_seaText_315 : decode cL_seaText 315 = .ok (.iadd, 1) := by decide +kernel
theorem dL_seaText_316 : decode cL_seaText 316 = .ok (.iaload, 1) := by decide +kernel
theorem dL_seaText_317 : decode cL_seaText 317 = .ok (.ifCond .ne 8, 3) := by decide +kernel
theorem dL_seaText_320 : decode cL_seaText 320 = .ok (.bipush 110, 2) := by decide +kernel
theorem dL_seaText_322 : decode cL_seaText 322 = .ok (.goto 37, 3) := by decide +kernel
theorem dL_seaText_325 : decode cL_seaText 325 = .ok (.aload_n 2, 1) := by decide +kernel
theorem dL_seaText_326 : decode cL_seaText 326 = .ok (.bipush 33, 2) := by decide +kernel
theorem dL_seaText_328 : decode cL_seaText 328 = .ok (.iload 6, 2) := by decide +kernel
theorem dL_seaText_330 : decode cL_seaText 330 = .ok (.iadd, 1) := by decide +kernel
theorem dL_seaText_331 : decode cL_seaText 331 = .ok (.iaload, 1) := by decide +kernel
theorem dL_seaText_332 : decode cL_seaText 332 = .ok (.iconst 1, 1) := by decide +kernel
theorem dL_seaText_333 : decode cL_seaText 333 = .ok (.if_icmp .ne 8, 3) := by decide +kernel
theorem dL_seaText_336 : decode cL_seaText 336 = .ok (.bipush 101, 2) := by decide +kernel
theorem dL_seaText_338 : decode cL_seaText 338 = .ok (.goto 21, 3) := by decide +kernel
theorem dL_seaText_341 : decode cL_seaText 341 = .ok (.aload_n 2, 1) := by decide +kernel
theorem dL_seaText_342 : decode cL_seaText 342 = .ok (.bipush 33, 2) := by decide +kernel
theorem dL_seaText_344 : decode cL_seaText 344 = .ok (.iload 6, 2) := by decide +kernel
theorem dL_seaText_346 : decode cL_seaText 346 = .ok (.iadd, 1) := by decide +kernel
theorem dL_seaText_347 : decode cL_seaText 347 = .ok (.iaload, 1) := by decide +kernel
theorem dL_seaText_348 : decode cL_seaText 348 = .ok (.iconst 2, 1) := by decide +kernel
theorem dL_seaText_349 : decode cL_seaText 349 = .ok (.if_icmp .ne 8, 3) := by decide +kernel
theorem dL_seaText_352 : decode cL_seaText 352 = .ok (.bipush 115, 2) := by decide +kernel
theorem dL_seaText_354 : decode cL_seaText 354 = .ok (.goto 5, 3) := by decide +kernel
theorem dL_seaText_357 : decode cL_seaText 357 = .ok (.bipush 119, 2) := by decide +kernel
theorem dL_seaText_359 : decode cL_seaText 359 = .ok (.iastore, 1) := by decide +kernel
theorem dL_seaText_360 : decode cL_seaText 360 = .ok (.iinc 6 1, 3) := by decide +kernel
theorem dL_seaText_363 : decode cL_seaText 363 = .ok (.goto (-276), 3) := by decide +kernel
theorem dL_seaText_366 : decode cL_seaText 366 = .ok (.iload 5, 2) := by decide +kernel
theorem dL_seaText_368 : decode cL_seaText 368 = .ok (.ireturn, 1) := by decide +kernel
theorem cw_L_seaText : Cw yL_seaText cL_seaText 8 (some .int) 4 := ⟨aw_618, aw_18, ⟨by decide, by decide⟩, by decide +kernel, by decide⟩
theorem kz_8 {K : KT} {cc : ByteArray} {nL d M pc : Nat} {ret : Option FieldType} {L : List (Option Value)} {st : List Value} {V : Wl} {σ : LwS} {b Ln : Nat} {xs : Nat → Int32} (C : CZ K cc RL nL d M ret b Ln xs) {a1 : Int32} {p : Int32 × LwS} (hd : decode cc pc = .ok (.invokestatic 8, 3)) (e : fL_cell xs Ln a1 (eT σ) = some p) (hdd : 1 + 1 ≤ d) (hLn : L.length = nL) (hr : (st.map fun v => v.category).sum ≤ 8) (k : GZ K M (pc + 3) L (.int p.1 :: st) V (uT σ p.2 0)) : GZ K M pc L (.int a1 :: .ref b :: st) V σ :=
 z_callL C (As := [.ref b, .int a1]) (rest := st) hd (ct_L_cell rfl e) cw_L_cell aw_609 aw_610 rfl rfl rfl hdd hLn hr (fun h => h) (fun v τ q => by obtain ⟨rfl, rfl⟩ := q; exact k)
theorem kz_14 {K : KT} {cc : ByteArray} {nL d M pc : Nat} {ret : Option FieldType} {L : List (Option Value)} {st : List Value} {V : Wl} {σ : LwS} {b Ln : Nat} {xs : Nat → Int32} (C : CZ K cc RL nL d M ret b Ln xs) {a0 : Int32} {a1 : Int32} {p : Int32 × LwS} (hd : decode cc pc = .ok (.invokestatic 14, 3)) (e : fL_at a0 a1 (eT σ) = some p) (hdd : 1 + 1 ≤ d) (hLn : L.length = nL) (hr : (st.map fun v => v.category).sum ≤ 8) (k : GZ K M (pc + 3) L (.int p.1 :: st) V (uT σ p.2 0)) : GZ K M pc L (.int a1 :: .int a0 :: st) V σ :=
 z_callL C (As := [.int a0, .int a1]) (rest := st) hd (ct_L_at rfl e) cw_L_at aw_613 aw_614 rfl rfl rfl hdd hLn hr (fun h => h) (fun v τ q => by obtain ⟨rfl, rfl⟩ := q; exact k)
def fL_seaText_b360 (xs : Nat → Int32) (Ln : Nat) (x1 : Int32) (w2 : Nat) (w3 : Nat) (x4 : Int32) (x5 : Int32) (x6 : Int32) (σ : LwS) : Option ((Int32 × Int32 × LwS) ⊕ ((Int32 × LwS))) :=
  some (.inl (x5, (x6 + (1 : Int32)), σ))
def fL_seaText_b359 (xs : Nat → Int32) (Ln : Nat) (x1 : Int32) (w2 : Nat) (w3 : Nat) (x4 : Int32) (x5 : Int32) (x6 : Int32) (y0 : Int32) (y1 : Int32) (u2 : Nat) (σ : LwS) : Option ((Int32 × Int32 × LwS) ⊕ ((Int32 × LwS))) :=
  if inb y1 64 = true then (fL_seaText_b360 xs Ln x1 w2 w3 x4 x5 x6 (wT σ u2 (y1).toNatClampNeg y0)) else none
def fL_seaText_b293 (xs : Nat → Int32) (Ln : Nat) (x1 : Int32) (w2 : Nat) (w3 : Nat) (x4 : Int32) (x5 : Int32) (x6 : Int32) (y0 : Int32) (y1 : Int32) (u2 : Nat) (σ : LwS) : Option ((Int32 × Int32 × LwS) ⊕ ((Int32 × LwS))) :=
  if inb y1 64 = true then (if inb ((33 : Int32) + x6) 63 = true then (if (rT (wT σ u2 (y1).toNatClampNeg y0) w2 (((33 : Int32) + x6)).toNatClampNeg) < 0 then (fL_seaText_b360 xs Ln x1 w2 w3 x4 x5 x6 (wT σ u2 (y1).toNatClampNeg y0)) else (if inb ((33 : Int32) + x6) 63 = true then (if (rT (wT σ u2 (y1).toNatClampNeg y0) w2 (((33 : Int32) + x6)).toNatClampNeg) = 0 then (fL_seaText_b359 xs Ln x1 w2 w3 x4 (x5 + (1 : Int32)) x6 (110 : Int32) x5 w3 (wT σ u2 (y1).toNatClampNeg y0)) else (if inb ((33 : Int32) + x6) 63 = true then (if (rT (wT σ u2 (y1).toNatClampNeg y0) w2 (((33 : Int32) + x6)).toNatClampNeg) = (1 : Int32) then (fL_seaText_b359 xs Ln x1 w2 w3 x4 (x5 + (1 : Int32)) x6 (101 : Int32) x5 w3 (wT σ u2 (y1).toNatClampNeg y0)) else (if inb ((33 : Int32) + x6) 63 = true then (if (rT (wT σ u2 (y1).toNatClampNeg y0) w2 (((33 : Int32) + x6)).toNatClampNeg) = (2 : Int32) then (fL_seaText_b359 xs Ln x1 w2 w3 x4 (x5 + (1 : Int32)) x6 (115 : Int32) x5 w3 (wT σ u2 (y1).toNatClampNeg y0)) else (fL_seaText_b359 xs Ln x1 w2 w3 x4 (x5 + (1 : Int32)) x6 (119 : Int32) x5 w3 (wT σ u2 (y1).toNatClampNeg y0))) else none)) else none)) else none)) else none) else none
def fL_seaText_b246 (xs : Nat → Int32) (Ln : Nat) (x1 : Int32) (w2 : Nat) (w3 : Nat) (x4 : Int32) (x5 : Int32) (x6 : Int32) (σ : LwS) : Option ((Int32 × Int32 × LwS) ⊕ ((Int32 × LwS))) :=
  if inb ((3 : Int32) + x6) 63 = true then (if (rT σ w2 (((3 : Int32) + x6)).toNatClampNeg) = (10 : Int32) then (fL_seaText_b293 xs Ln x1 w2 w3 x4 (x5 + (1 : Int32)) x6 (104 : Int32) x5 w3 σ) else (if inb ((3 : Int32) + x6) 63 = true then (if (rT σ w2 (((3 : Int32) + x6)).toNatClampNeg) = (11 : Int32) then (fL_seaText_b293 xs Ln x1 w2 w3 x4 (x5 + (1 : Int32)) x6 (35 : Int32) x5 w3 σ) else (if inb ((3 : Int32) + x6) 63 = true then (fL_seaText_b293 xs Ln x1 w2 w3 x4 (x5 + (1 : Int32)) x6 ((48 : Int32) + (rT σ w2 (((3 : Int32) + x6)).toNatClampNeg)) x5 w3 σ) else none)) else none)) else none
def fL_seaText_b222 (xs : Nat → Int32) (Ln : Nat) (x1 : Int32) (w2 : Nat) (w3 : Nat) (x4 : Int32) (x5 : Int32) (x6 : Int32) (y0 : Int32) (y1 : Int32) (u2 : Nat) (σ : LwS) : Option ((Int32 × Int32 × LwS) ⊕ ((Int32 × LwS))) :=
  if inb y1 63 = true then (if x6 ≤ 0 then (fL_seaText_b246 xs Ln x1 w2 w3 x4 x5 x6 (wT σ u2 (y1).toNatClampNeg y0)) else (if (rT (wT σ u2 (y1).toNatClampNeg y0) w2 ((1 : Int32)).toNatClampNeg) = 0 then none else if (x6 - x6 / (rT (wT σ u2 (y1).toNatClampNeg y0) w2 ((1 : Int32)).toNatClampNeg) * (rT (wT σ u2 (y1).toNatClampNeg y0) w2 ((1 : Int32)).toNatClampNeg)) = 0 then (if inb x5 64 = true then (fL_seaText_b246 xs Ln x1 w2 w3 x4 (x5 + (1 : Int32)) x6 (wT (wT σ u2 (y1).toNatClampNeg y0) w3 (x5).toNatClampNeg (47 : Int32))) else none) else (fL_seaText_b246 xs Ln x1 w2 w3 x4 x5 x6 (wT σ u2 (y1).toNatClampNeg y0)))) else none
def fL_seaText_b221 (xs : Nat → Int32) (Ln : Nat) (x1 : Int32) (w2 : Nat) (w3 : Nat) (x4 : Int32) (x5 : Int32) (x6 : Int32) (y0 : Int32) (u1 : Nat) (σ : LwS) : Option ((Int32 × Int32 × LwS) ⊕ ((Int32 × LwS))) :=
  fL_seaText_b222 xs Ln x1 w2 w3 x4 x5 x6 (-1 : Int32) y0 u1 σ
def fL_seaText_b181 (xs : Nat → Int32) (Ln : Nat) (x1 : Int32) (w2 : Nat) (w3 : Nat) (x4 : Int32) (x5 : Int32) (x6 : Int32) (x7 : Int32) (y0 : Int32) (y1 : Int32) (u2 : Nat) (σ : LwS) : Option ((Int32 × Int32 × LwS) ⊕ ((Int32 × LwS))) :=
  if inb y1 63 = true then (if inb ((3 : Int32) + x6) 63 = true then (if (10 : Int32) ≤ (rT (wT σ u2 (y1).toNatClampNeg y0) w2 (((3 : Int32) + x6)).toNatClampNeg) then (fL_seaText_b221 xs Ln x1 w2 w3 x4 x5 x6 ((33 : Int32) + x6) w2 (wT σ u2 (y1).toNatClampNeg y0)) else (Option.bind (fL_at (ishr x7 (1 : Int32)) (3 : Int32) (eT (wT σ u2 (y1).toNatClampNeg y0))) fun p37 => (if p37.1 = 0 then (Option.bind (fL_at (ishr x7 (4 : Int32)) (4 : Int32) (eT (uT (wT σ u2 (y1).toNatClampNeg y0) p37.2 0))) fun p39 => (fL_seaText_b222 xs Ln x1 w2 w3 x4 x5 x6 p39.1 ((33 : Int32) + x6) w2 (uT (uT (wT σ u2 (y1).toNatClampNeg y0) p37.2 0) p39.2 0))) else (fL_seaText_b221 xs Ln x1 w2 w3 x4 x5 x6 ((33 : Int32) + x6) w2 (uT (wT σ u2 (y1).toNatClampNeg y0) p37.2 0))))) else none) else none
def fL_seaText_b178 (xs : Nat → Int32) (Ln : Nat) (x1 : Int32) (w2 : Nat) (w3 : Nat) (x4 : Int32) (x5 : Int32) (x6 : Int32) (x7 : Int32) (y0 : Int32) (y1 : Int32) (y2 : Int32) (u3 : Nat) (σ : LwS) : Option ((Int32 × Int32 × LwS) ⊕ ((Int32 × LwS))) :=
  Option.bind (fL_at y1 y0 (eT σ)) fun p21 => (fL_seaText_b181 xs Ln x1 w2 w3 x4 x5 x6 x7 p21.1 y2 u3 (uT σ p21.2 0))
def fL_seaText_b87 (xs : Nat → Int32) (Ln : Nat) (x1 : Int32) (w2 : Nat) (w3 : Nat) (x4 : Int32) (x5 : Int32) (x6 : Int32) (σ : LwS) : Option ((Int32 × Int32 × LwS) ⊕ ((Int32 × LwS))) :=
  if ((rT σ w2 ((0 : Int32)).toNatClampNeg) * (rT σ w2 ((1 : Int32)).toNatClampNeg)) ≤ x6 then (some (.inr (x5, σ))) else (Option.bind (fL_cell xs Ln ((x1 + (1 : Int32)) + (x6 - x6 / (6 : Int32) * (6 : Int32))) (eT σ)) fun p15 => (if x6 = (rT (uT σ p15.2 0) w2 ((2 : Int32)).toNatClampNeg) then (fL_seaText_b181 xs Ln x1 w2 w3 x4 x5 x6 (ishr p15.1 ((6 : Int32) * (x6 / (6 : Int32)))) (10 : Int32) ((3 : Int32) + x6) w2 (uT σ p15.2 0)) else (Option.bind (fL_at (ishr p15.1 ((6 : Int32) * (x6 / (6 : Int32)))) (9 : Int32) (eT (uT σ p15.2 0))) fun p17 => (if p17.1 = 0 then (fL_seaText_b181 xs Ln x1 w2 w3 x4 x5 x6 (ishr p15.1 ((6 : Int32) * (x6 / (6 : Int32)))) (11 : Int32) ((3 : Int32) + x6) w2 (uT (uT σ p15.2 0) p17.2 0)) else (Option.bind (fL_at (ishr x4 (22 : Int32)) (2 : Int32) (eT (uT (uT σ p15.2 0) p17.2 0))) fun p19 => (if p19.1 = 0 then (fL_seaText_b178 xs Ln x1 w2 w3 x4 x5 x6 (ishr p15.1 ((6 : Int32) * (x6 / (6 : Int32)))) (10 : Int32) (ishr (ishr p15.1 ((6 : Int32) * (x6 / (6 : Int32)))) (2 : Int32)) ((3 : Int32) + x6) w2 (uT (uT (uT σ p15.2 0) p17.2 0) p19.2 0)) else (fL_seaText_b178 xs Ln x1 w2 w3 x4 x5 x6 (ishr p15.1 ((6 : Int32) * (x6 / (6 : Int32)))) (4 : Int32) (ishr (ishr p15.1 ((6 : Int32) * (x6 / (6 : Int32)))) (2 : Int32)) ((3 : Int32) + x6) w2 (uT (uT (uT σ p15.2 0) p17.2 0) p19.2 0))))))))
def fL_seaText_b61 (xs : Nat → Int32) (Ln : Nat) (x1 : Int32) (w2 : Nat) (w3 : Nat) (x4 : Int32) (x5 : Int32) (y0 : Int32) (y1 : Int32) (y2 : Int32) (y3 : Int32) (u4 : Nat) (σ : LwS) : Option (Int32 × LwS) :=
  Option.bind (fL_at y1 y0 (eT σ)) fun p10 => (if inb y3 63 = true then (Option.bind (fL_at (ishr x4 (7 : Int32)) ((rT (wT (uT σ p10.2 0) u4 (y3).toNatClampNeg (y2 + p10.1)) w2 ((0 : Int32)).toNatClampNeg) * (rT (wT (uT σ p10.2 0) u4 (y3).toNatClampNeg (y2 + p10.1)) w2 ((1 : Int32)).toNatClampNeg)) (eT (wT (uT σ p10.2 0) u4 (y3).toNatClampNeg (y2 + p10.1)))) fun p13 => (Option.bind (lp (fun s => fL_seaText_b87 xs Ln x1 w2 w3 x4 s.1 s.2.1 s.2.2) FU (x5, (0 : Int32), (wT (uT (wT (uT σ p10.2 0) u4 (y3).toNatClampNeg (y2 + p10.1)) p13.2 0) w2 ((2 : Int32)).toNatClampNeg p13.1))) fun t41 => some (t41.1, t41.2))) else none)
def fL_seaText_b32 (xs : Nat → Int32) (Ln : Nat) (x1 : Int32) (w2 : Nat) (w3 : Nat) (x4 : Int32) (x5 : Int32) (y0 : Int32) (y1 : Int32) (y2 : Int32) (y3 : Int32) (u4 : Nat) (σ : LwS) : Option (Int32 × LwS) :=
  Option.bind (fL_at y1 y0 (eT σ)) fun p5 => (if inb y3 63 = true then (Option.bind (fL_at (ishr x4 (21 : Int32)) (2 : Int32) (eT (wT (uT σ p5.2 0) u4 (y3).toNatClampNeg (y2 + p5.1)))) fun p8 => (if p8.1 = 0 then (fL_seaText_b61 xs Ln x1 w2 w3 x4 x5 (5 : Int32) (ishr x4 (3 : Int32)) (2 : Int32) (1 : Int32) w2 (uT (wT (uT σ p5.2 0) u4 (y3).toNatClampNeg (y2 + p5.1)) p8.2 0)) else (fL_seaText_b61 xs Ln x1 w2 w3 x4 x5 (3 : Int32) (ishr x4 (3 : Int32)) (2 : Int32) (1 : Int32) w2 (uT (wT (uT σ p5.2 0) u4 (y3).toNatClampNeg (y2 + p5.1)) p8.2 0)))) else none)
def fL_seaText_b0 (xs : Nat → Int32) (Ln : Nat) (x1 : Int32) (w2 : Nat) (w3 : Nat) (σ : LwS) : Option (Int32 × LwS) :=
  Option.bind (fL_cell xs Ln x1 (eT σ)) fun p1 => (Option.bind (fL_at (ishr p1.1 (20 : Int32)) (2 : Int32) (eT (uT σ p1.2 0))) fun p3 => (if p3.1 = 0 then (fL_seaText_b32 xs Ln x1 w2 w3 p1.1 (0 : Int32) (4 : Int32) p1.1 (2 : Int32) (0 : Int32) w2 (uT (uT σ p1.2 0) p3.2 0)) else (fL_seaText_b32 xs Ln x1 w2 w3 p1.1 (0 : Int32) (2 : Int32) p1.1 (2 : Int32) (0 : Int32) w2 (uT (uT σ p1.2 0) p3.2 0))))
set_option maxRecDepth 8000 in
theorem bL_seaText_b360 {K : KT} {x1 : Int32} {w2 : Nat} {w3 : Nat} {x4 : Int32} {x5 : Int32} {x6 : Int32} {r2 : Nat} {r3 : Nat} {σ : LwS} {o : (Int32 × Int32 × LwS) ⊕ ((Int32 × LwS))} {V Vc : Wl} {b Ln : Nat} {xs : Nat → Int32} (C : CZ K cL_seaText RL 8 2 0 (some .int) b Ln xs) (hp : Pf Vc V) (hw2 : V[w2]? = some (r2, 63)) (hw3 : V[w3]? = some (r3, 64)) (hI : ∀ s' : Int32 × Int32 × LwS, o = .inl s' → GZ K 0 87 [some (.ref b), some (.int x1), some (.ref r2), some (.ref r3), some (.int x4), some (.int s'.1), some (.int s'.2.1), none] [] Vc s'.2.2) (hE0 : ∀ t : Int32 × LwS, o = .inr t → GZ K 0 366 [none, none, none, none, none, some (.int t.1), none, none] [] Vc t.2) (h : fL_seaText_b360 xs Ln x1 w2 w3 x4 x5 x6 σ = some o) : GZ K 0 360 [some (.ref b), some (.int x1), some (.ref r2), some (.ref r3), some (.int x4), some (.int x5), some (.int x6), none] [] V σ := by
  unfold fL_seaText_b360 at h
  refine z_iinc C.c (i := 6) (y := (1 : Int32)) (L' := [some (.ref b), some (.int x1), some (.ref r2), some (.ref r3), some (.int x4), some (.int x5), some (.int (x6 + (1 : Int32))), none]) dL_seaText_360 rfl (by decide) (Nat.le_of_ble_eq_true rfl) rfl ?_
  refine z_goto C.c (tgt := 87) dL_seaText_363 (by decide) ?_
  have g9 := hI _ (Option.some.inj h).symm
  exact z_mask [true, true, true, true, true, true, true, false] rfl (z_drop hp g9)
set_option maxRecDepth 8000 in
theorem bL_seaText_b359 {K : KT} {x1 : Int32} {w2 : Nat} {w3 : Nat} {x4 : Int32} {x5 : Int32} {x6 : Int32} {y0 : Int32} {y1 : Int32} {u2 : Nat} {r2 : Nat} {r3 : Nat} {v2 : Nat} {σ : LwS} {o : (Int32 × Int32 × LwS) ⊕ ((Int32 × LwS))} {V Vc : Wl} {b Ln : Nat} {xs : Nat → Int32} (C : CZ K cL_seaText RL 8 2 0 (some .int) b Ln xs) (hp : Pf Vc V) (hw2 : V[w2]? = some (r2, 63)) (hw3 : V[w3]? = some (r3, 64)) (hu2 : V[u2]? = some (v2, 64)) (hI : ∀ s' : Int32 × Int32 × LwS, o = .inl s' → GZ K 0 87 [some (.ref b), some (.int x1), some (.ref r2), some (.ref r3), some (.int x4), some (.int s'.1), some (.int s'.2.1), none] [] Vc s'.2.2) (hE0 : ∀ t : Int32 × LwS, o = .inr t → GZ K 0 366 [none, none, none, none, none, some (.int t.1), none, none] [] Vc t.2) (h : fL_seaText_b359 xs Ln x1 w2 w3 x4 x5 x6 y0 y1 u2 σ = some o) : GZ K 0 359 [some (.ref b), some (.int x1), some (.ref r2), some (.ref r3), some (.int x4), some (.int x5), some (.int x6), none] [.int y0, .int y1, .ref v2] V σ := by
  unfold fL_seaText_b359 at h
  obtain ⟨c34, h⟩ := chk h
  refine z_iast C dL_seaText_359 hu2 c34 ?_
  exact z_mask [true, true, true, true, true, true, true, false] rfl (bL_seaText_b360 C hp hw2 hw3 hI hE0 h)
set_option maxRecDepth 8000 in
theorem bL_seaText_b293 {K : KT} {x1 : Int32} {w2 : Nat} {w3 : Nat} {x4 : Int32} {x5 : Int32} {x6 : Int32} {y0 : Int32} {y1 : Int32} {u2 : Nat} {r2 : Nat} {r3 : Nat} {v2 : Nat} {σ : LwS} {o : (Int32 × Int32 × LwS) ⊕ ((Int32 × LwS))} {V Vc : Wl} {b Ln : Nat} {xs : Nat → Int32} (C : CZ K cL_seaText RL 8 2 0 (some .int) b Ln xs) (hp : Pf Vc V) (hw2 : V[w2]? = some (r2, 63)) (hw3 : V[w3]? = some (r3, 64)) (hu2 : V[u2]? = some (v2, 64)) (hI : ∀ s' : Int32 × Int32 × LwS, o = .inl s' → GZ K 0 87 [some (.ref b), some (.int x1), some (.ref r2), some (.ref r3), some (.int x4), some (.int s'.1), some (.int s'.2.1), none] [] Vc s'.2.2) (hE0 : ∀ t : Int32 × LwS, o = .inr t → GZ K 0 366 [none, none, none, none, none, some (.int t.1), none, none] [] Vc t.2) (h : fL_seaText_b293 xs Ln x1 w2 w3 x4 x5 x6 y0 y1 u2 σ = some o) : GZ K 0 293 [some (.ref b), some (.int x1), some (.ref r2), some (.ref r3), some (.int x4), some (.int x5), some (.int x6), none] [.int y0, .int y1, .ref v2] V σ := by
  unfold fL_seaText_b293 at h
  obtain ⟨c29, h⟩ := chk h
  refine z_iast C dL_seaText_293 hu2 c29 ?_
  refine z_aload_n C.c dL_seaText_294 rfl (i := 2) rfl ?_
  refine z_bipush C.c dL_seaText_295 (v := (33 : Int32)) (by decide) ?_
  refine z_iload C.c dL_seaText_297 (i := 6) rfl ?_
  refine z_iadd C.c dL_seaText_299 ?_
  obtain ⟨c30, h⟩ := chk h
  refine z_iald C dL_seaText_300 hw2 c30 ?_
  refine z_if_lt C.c (tgt := 360) dL_seaText_301 (by decide) (fun c => ?_) (fun c => ?_)
  · replace h := ite_t c h
    exact z_mask [true, true, true, true, true, true, true, false] rfl (bL_seaText_b360 C hp hw2 hw3 hI hE0 h)
  · replace h := ite_f c h
    refine z_aload_n C.c dL_seaText_304 rfl (i := 3) rfl ?_
    refine z_iload C.c dL_seaText_305 (i := 5) rfl ?_
    refine z_iinc C.c (i := 5) (y := (1 : Int32)) (L' := [some (.ref b), some (.int x1), some (.ref r2), some (.ref r3), some (.int x4), some (.int (x5 + (1 : Int32))), some (.int x6), none]) dL_seaText_307 rfl (by decide) (Nat.le_of_ble_eq_true rfl) rfl ?_
    refine z_aload_n C.c dL_seaText_310 rfl (i := 2) rfl ?_
    refine z_bipush C.c dL_seaText_311 (v := (33 : Int32)) (by decide) ?_
    refine z_iload C.c dL_seaText_313 (i := 6) rfl ?_
    refine z_iadd C.c dL_seaText_315 ?_
    obtain ⟨c31, h⟩ := chk h
    refine z_iald C dL_seaText_316 hw2 c31 ?_
    refine z_if_ne C.c (tgt := 325) dL_seaText_317 (by decide) (fun c => ?_) (fun c => ?_)
    · replace h := ite_f c h
      refine z_aload_n C.c dL_seaText_325 rfl (i := 2) rfl ?_
      refine z_bipush C.c dL_seaText_326 (v := (33 : Int32)) (by decide) ?_
      refine z_iload C.c dL_seaText_328 (i := 6) rfl ?_
      refine z_iadd C.c dL_seaText_330 ?_
      obtain ⟨c32, h⟩ := chk h
      refine z_iald C dL_seaText_331 hw2 c32 ?_
      refine z_iconst C.c dL_seaText_332 (v := (1 : Int32)) (by decide) ?_
      refine z_icmp_ne C.c (tgt := 341) dL_seaText_333 (by decide) (fun c => ?_) (fun c => ?_)
      · replace h := ite_f c h
        refine z_aload_n C.c dL_seaText_341 rfl (i := 2) rfl ?_
        refine z_bipush C.c dL_seaText_342 (v := (33 : Int32)) (by decide) ?_
        refine z_iload C.c dL_seaText_344 (i := 6) rfl ?_
        refine z_iadd C.c dL_seaText_346 ?_
        obtain ⟨c33, h⟩ := chk h
        refine z_iald C dL_seaText_347 hw2 c33 ?_
        refine z_iconst C.c dL_seaText_348 (v := (2 : Int32)) (by decide) ?_
        refine z_icmp_ne C.c (tgt := 357) dL_seaText_349 (by decide) (fun c => ?_) (fun c => ?_)
        · replace h := ite_f c h
          refine z_bipush C.c dL_seaText_357 (v := (119 : Int32)) (by decide) ?_
          exact z_mask [true, true, true, true, true, true, true, false] rfl (bL_seaText_b359 C hp hw2 hw3 hw3 hI hE0 h)
        · replace h := ite_t c h
          refine z_bipush C.c dL_seaText_352 (v := (115 : Int32)) (by decide) ?_
          refine z_goto C.c (tgt := 359) dL_seaText_354 (by decide) ?_
          exact z_mask [true, true, true, true, true, true, true, false] rfl (bL_seaText_b359 C hp hw2 hw3 hw3 hI hE0 h)
      · replace h := ite_t c h
        refine z_bipush C.c dL_seaText_336 (v := (101 : Int32)) (by decide) ?_
        refine z_goto C.c (tgt := 359) dL_seaText_338 (by decide) ?_
        exact z_mask [true, true, true, true, true, true, true, false] rfl (bL_seaText_b359 C hp hw2 hw3 hw3 hI hE0 h)
    · replace h := ite_t c h
      refine z_bipush C.c dL_seaText_320 (v := (110 : Int32)) (by decide) ?_
      refine z_goto C.c (tgt := 359) dL_seaText_322 (by decide) ?_
      exact z_mask [true, true, true, true, true, true, true, false] rfl (bL_seaText_b359 C hp hw2 hw3 hw3 hI hE0 h)
set_option maxRecDepth 8000 in
theorem bL_seaText_b246 {K : KT} {x1 : Int32} {w2 : Nat} {w3 : Nat} {x4 : Int32} {x5 : Int32} {x6 : Int32} {r2 : Nat} {r3 : Nat} {σ : LwS} {o : (Int32 × Int32 × LwS) ⊕ ((Int32 × LwS))} {V Vc : Wl} {b Ln : Nat} {xs : Nat → Int32} (C : CZ K cL_seaText RL 8 2 0 (some .int) b Ln xs) (hp : Pf Vc V) (hw2 : V[w2]? = some (r2, 63)) (hw3 : V[w3]? = some (r3, 64)) (hI : ∀ s' : Int32 × Int32 × LwS, o = .inl s' → GZ K 0 87 [some (.ref b), some (.int x1), some (.ref r2), some (.ref r3), some (.int x4), some (.int s'.1), some (.int s'.2.1), none] [] Vc s'.2.2) (hE0 : ∀ t : Int32 × LwS, o = .inr t → GZ K 0 366 [none, none, none, none, none, some (.int t.1), none, none] [] Vc t.2) (h : fL_seaText_b246 xs Ln x1 w2 w3 x4 x5 x6 σ = some o) : GZ K 0 246 [some (.ref b), some (.int x1), some (.ref r2), some (.ref r3), some (.int x4), some (.int x5), some (.int x6), none] [] V σ := by
  unfold fL_seaText_b246 at h
  refine z_aload_n C.c dL_seaText_246 rfl (i := 3) rfl ?_
  refine z_iload C.c dL_seaText_247 (i := 5) rfl ?_
  refine z_iinc C.c (i := 5) (y := (1 : Int32)) (L' := [some (.ref b), some (.int x1), some (.ref r2), some (.ref r3), some (.int x4), some (.int (x5 + (1 : Int32))), some (.int x6), none]) dL_seaText_249 rfl (by decide) (Nat.le_of_ble_eq_true rfl) rfl ?_
  refine z_aload_n C.c dL_seaText_252 rfl (i := 2) rfl ?_
  refine z_iconst C.c dL_seaText_253 (v := (3 : Int32)) (by decide) ?_
  refine z_iload C.c dL_seaText_254 (i := 6) rfl ?_
  refine z_iadd C.c dL_seaText_256 ?_
  obtain ⟨c26, h⟩ := chk h
  refine z_iald C dL_seaText_257 hw2 c26 ?_
  refine z_bipush C.c dL_seaText_258 (v := (10 : Int32)) (by decide) ?_
  refine z_icmp_ne C.c (tgt := 268) dL_seaText_260 (by decide) (fun c => ?_) (fun c => ?_)
  · replace h := ite_f c h
    refine z_aload_n C.c dL_seaText_268 rfl (i := 2) rfl ?_
    refine z_iconst C.c dL_seaText_269 (v := (3 : Int32)) (by decide) ?_
    refine z_iload C.c dL_seaText_270 (i := 6) rfl ?_
    refine z_iadd C.c dL_seaText_272 ?_
    obtain ⟨c27, h⟩ := chk h
    refine z_iald C dL_seaText_273 hw2 c27 ?_
    refine z_bipush C.c dL_seaText_274 (v := (11 : Int32)) (by decide) ?_
    refine z_icmp_ne C.c (tgt := 284) dL_seaText_276 (by decide) (fun c => ?_) (fun c => ?_)
    · replace h := ite_f c h
      refine z_bipush C.c dL_seaText_284 (v := (48 : Int32)) (by decide) ?_
      refine z_aload_n C.c dL_seaText_286 rfl (i := 2) rfl ?_
      refine z_iconst C.c dL_seaText_287 (v := (3 : Int32)) (by decide) ?_
      refine z_iload C.c dL_seaText_288 (i := 6) rfl ?_
      refine z_iadd C.c dL_seaText_290 ?_
      obtain ⟨c28, h⟩ := chk h
      refine z_iald C dL_seaText_291 hw2 c28 ?_
      refine z_iadd C.c dL_seaText_292 ?_
      exact z_mask [true, true, true, true, true, true, true, false] rfl (bL_seaText_b293 C hp hw2 hw3 hw3 hI hE0 h)
    · replace h := ite_t c h
      refine z_bipush C.c dL_seaText_279 (v := (35 : Int32)) (by decide) ?_
      refine z_goto C.c (tgt := 293) dL_seaText_281 (by decide) ?_
      exact z_mask [true, true, true, true, true, true, true, false] rfl (bL_seaText_b293 C hp hw2 hw3 hw3 hI hE0 h)
  · replace h := ite_t c h
    refine z_bipush C.c dL_seaText_263 (v := (104 : Int32)) (by decide) ?_
    refine z_goto C.c (tgt := 293) dL_seaText_265 (by decide) ?_
    exact z_mask [true, true, true, true, true, true, true, false] rfl (bL_seaText_b293 C hp hw2 hw3 hw3 hI hE0 h)
set_option maxRecDepth 8000 in
theorem bL_seaText_b222 {K : KT} {x1 : Int32} {w2 : Nat} {w3 : Nat} {x4 : Int32} {x5 : Int32} {x6 : Int32} {y0 : Int32} {y1 : Int32} {u2 : Nat} {r2 : Nat} {r3 : Nat} {v2 : Nat} {σ : LwS} {o : (Int32 × Int32 × LwS) ⊕ ((Int32 × LwS))} {V Vc : Wl} {b Ln : Nat} {xs : Nat → Int32} (C : CZ K cL_seaText RL 8 2 0 (some .int) b Ln xs) (hp : Pf Vc V) (hw2 : V[w2]? = some (r2, 63)) (hw3 : V[w3]? = some (r3, 64)) (hu2 : V[u2]? = some (v2, 63)) (hI : ∀ s' : Int32 × Int32 × LwS, o = .inl s' → GZ K 0 87 [some (.ref b), some (.int x1), some (.ref r2), some (.ref r3), some (.int x4), some (.int s'.1), some (.int s'.2.1), none] [] Vc s'.2.2) (hE0 : ∀ t : Int32 × LwS, o = .inr t → GZ K 0 366 [none, none, none, none, none, some (.int t.1), none, none] [] Vc t.2) (h : fL_seaText_b222 xs Ln x1 w2 w3 x4 x5 x6 y0 y1 u2 σ = some o) : GZ K 0 222 [some (.ref b), some (.int x1), some (.ref r2), some (.ref r3), some (.int x4), some (.int x5), some (.int x6), none] [.int y0, .int y1, .ref v2] V σ := by
  unfold fL_seaText_b222 at h
  obtain ⟨c25, h⟩ := chk h
  refine z_iast C dL_seaText_222 hu2 c25 ?_
  refine z_iload C.c dL_seaText_223 (i := 6) rfl ?_
  refine z_if_le C.c (tgt := 246) dL_seaText_225 (by decide) (fun c => ?_) (fun c => ?_)
  · replace h := ite_t c h
    exact z_mask [true, true, true, true, true, true, true, false] rfl (bL_seaText_b246 C hp hw2 hw3 hI hE0 h)
  · replace h := ite_f c h
    refine z_iload C.c dL_seaText_228 (i := 6) rfl ?_
    refine z_aload_n C.c dL_seaText_230 rfl (i := 2) rfl ?_
    refine z_iconst C.c dL_seaText_231 (v := (1 : Int32)) (by decide) ?_
    refine z_iald C dL_seaText_232 hw2 (by decide) ?_
    obtain ⟨c35, h⟩ := chk0 h
    refine z_irem C.c dL_seaText_233 c35 ?_
    refine z_if_ne C.c (tgt := 246) dL_seaText_234 (by decide) (fun c => ?_) (fun c => ?_)
    · replace h := ite_f c h
      exact z_mask [true, true, true, true, true, true, true, false] rfl (bL_seaText_b246 C hp hw2 hw3 hI hE0 h)
    · replace h := ite_t c h
      refine z_aload_n C.c dL_seaText_237 rfl (i := 3) rfl ?_
      refine z_iload C.c dL_seaText_238 (i := 5) rfl ?_
      refine z_iinc C.c (i := 5) (y := (1 : Int32)) (L' := [some (.ref b), some (.int x1), some (.ref r2), some (.ref r3), some (.int x4), some (.int (x5 + (1 : Int32))), some (.int x6), none]) dL_seaText_240 rfl (by decide) (Nat.le_of_ble_eq_true rfl) rfl ?_
      refine z_bipush C.c dL_seaText_243 (v := (47 : Int32)) (by decide) ?_
      obtain ⟨c36, h⟩ := chk h
      refine z_iast C dL_seaText_245 hw3 c36 ?_
      exact z_mask [true, true, true, true, true, true, true, false] rfl (bL_seaText_b246 C hp hw2 hw3 hI hE0 h)
set_option maxRecDepth 8000 in
theorem bL_seaText_b221 {K : KT} {x1 : Int32} {w2 : Nat} {w3 : Nat} {x4 : Int32} {x5 : Int32} {x6 : Int32} {y0 : Int32} {u1 : Nat} {r2 : Nat} {r3 : Nat} {v1 : Nat} {σ : LwS} {o : (Int32 × Int32 × LwS) ⊕ ((Int32 × LwS))} {V Vc : Wl} {b Ln : Nat} {xs : Nat → Int32} (C : CZ K cL_seaText RL 8 2 0 (some .int) b Ln xs) (hp : Pf Vc V) (hw2 : V[w2]? = some (r2, 63)) (hw3 : V[w3]? = some (r3, 64)) (hu1 : V[u1]? = some (v1, 63)) (hI : ∀ s' : Int32 × Int32 × LwS, o = .inl s' → GZ K 0 87 [some (.ref b), some (.int x1), some (.ref r2), some (.ref r3), some (.int x4), some (.int s'.1), some (.int s'.2.1), none] [] Vc s'.2.2) (hE0 : ∀ t : Int32 × LwS, o = .inr t → GZ K 0 366 [none, none, none, none, none, some (.int t.1), none, none] [] Vc t.2) (h : fL_seaText_b221 xs Ln x1 w2 w3 x4 x5 x6 y0 u1 σ = some o) : GZ K 0 221 [some (.ref b), some (.int x1), some (.ref r2), some (.ref r3), some (.int x4), some (.int x5), some (.int x6), none] [.int y0, .ref v1] V σ := by
  unfold fL_seaText_b221 at h
  refine z_iconst C.c dL_seaText_221 (v := (-1 : Int32)) (by decide) ?_
  exact z_mask [true, true, true, true, true, true, true, false] rfl (bL_seaText_b222 C hp hw2 hw3 hu1 hI hE0 h)
set_option maxRecDepth 8000 in
theorem bL_seaText_b181 {K : KT} {x1 : Int32} {w2 : Nat} {w3 : Nat} {x4 : Int32} {x5 : Int32} {x6 : Int32} {x7 : Int32} {y0 : Int32} {y1 : Int32} {u2 : Nat} {r2 : Nat} {r3 : Nat} {v2 : Nat} {σ : LwS} {o : (Int32 × Int32 × LwS) ⊕ ((Int32 × LwS))} {V Vc : Wl} {b Ln : Nat} {xs : Nat → Int32} (C : CZ K cL_seaText RL 8 2 0 (some .int) b Ln xs) (hp : Pf Vc V) (hw2 : V[w2]? = some (r2, 63)) (hw3 : V[w3]? = some (r3, 64)) (hu2 : V[u2]? = some (v2, 63)) (hI : ∀ s' : Int32 × Int32 × LwS, o = .inl s' → GZ K 0 87 [some (.ref b), some (.int x1), some (.ref r2), some (.ref r3), some (.int x4), some (.int s'.1), some (.int s'.2.1), none] [] Vc s'.2.2) (hE0 : ∀ t : Int32 × LwS, o = .inr t → GZ K 0 366 [none, none, none, none, none, some (.int t.1), none, none] [] Vc t.2) (h : fL_seaText_b181 xs Ln x1 w2 w3 x4 x5 x6 x7 y0 y1 u2 σ = some o) : GZ K 0 181 [some (.ref b), some (.int x1), some (.ref r2), some (.ref r3), some (.int x4), some (.int x5), some (.int x6), some (.int x7)] [.int y0, .int y1, .ref v2] V σ := by
  unfold fL_seaText_b181 at h
  obtain ⟨c23, h⟩ := chk h
  refine z_iast C dL_seaText_181 hu2 c23 ?_
  refine z_aload_n C.c dL_seaText_182 rfl (i := 2) rfl ?_
  refine z_bipush C.c dL_seaText_183 (v := (33 : Int32)) (by decide) ?_
  refine z_iload C.c dL_seaText_185 (i := 6) rfl ?_
  refine z_iadd C.c dL_seaText_187 ?_
  refine z_aload_n C.c dL_seaText_188 rfl (i := 2) rfl ?_
  refine z_iconst C.c dL_seaText_189 (v := (3 : Int32)) (by decide) ?_
  refine z_iload C.c dL_seaText_190 (i := 6) rfl ?_
  refine z_iadd C.c dL_seaText_192 ?_
  obtain ⟨c24, h⟩ := chk h
  refine z_iald C dL_seaText_193 hw2 c24 ?_
  refine z_bipush C.c dL_seaText_194 (v := (10 : Int32)) (by decide) ?_
  refine z_icmp_ge C.c (tgt := 221) dL_seaText_196 (by decide) (fun c => ?_) (fun c => ?_)
  · replace h := ite_t c h
    exact z_mask [true, true, true, true, true, true, true, false] rfl (bL_seaText_b221 C hp hw2 hw3 hw2 hI hE0 h)
  · replace h := ite_f c h
    refine z_iload C.c dL_seaText_199 (i := 7) rfl ?_
    refine z_iconst C.c dL_seaText_201 (v := (1 : Int32)) (by decide) ?_
    refine z_ishr C.c dL_seaText_202 ?_
    refine z_iconst C.c dL_seaText_203 (v := (3 : Int32)) (by decide) ?_
    obtain ⟨p37, e38, h⟩ := Option.bind_eq_some_iff.mp h
    refine kz_14 C dL_seaText_204 e38 (Nat.le_of_ble_eq_true rfl) rfl (Nat.le_of_ble_eq_true rfl) ?_
    refine z_if_ne C.c (tgt := 221) dL_seaText_207 (by decide) (fun c => ?_) (fun c => ?_)
    · replace h := ite_f c h
      exact z_mask [true, true, true, true, true, true, true, false] rfl (bL_seaText_b221 C hp hw2 hw3 hw2 hI hE0 h)
    · replace h := ite_t c h
      refine z_iload C.c dL_seaText_210 (i := 7) rfl ?_
      refine z_iconst C.c dL_seaText_212 (v := (4 : Int32)) (by decide) ?_
      refine z_ishr C.c dL_seaText_213 ?_
      refine z_iconst C.c dL_seaText_214 (v := (4 : Int32)) (by decide) ?_
      obtain ⟨p39, e40, h⟩ := Option.bind_eq_some_iff.mp h
      refine kz_14 C dL_seaText_215 e40 (Nat.le_of_ble_eq_true rfl) rfl (Nat.le_of_ble_eq_true rfl) ?_
      refine z_goto C.c (tgt := 222) dL_seaText_218 (by decide) ?_
      exact z_mask [true, true, true, true, true, true, true, false] rfl (bL_seaText_b222 C hp hw2 hw3 hw2 hI hE0 h)
set_option maxRecDepth 8000 in
theorem bL_seaText_b178 {K : KT} {x1 : Int32} {w2 : Nat} {w3 : Nat} {x4 : Int32} {x5 : Int32} {x6 : Int32} {x7 : Int32} {y0 : Int32} {y1 : Int32} {y2 : Int32} {u3 : Nat} {r2 : Nat} {r3 : Nat} {v3 : Nat} {σ : LwS} {o : (Int32 × Int32 × LwS) ⊕ ((Int32 × LwS))} {V Vc : Wl} {b Ln : Nat} {xs : Nat → Int32} (C : CZ K cL_seaText RL 8 2 0 (some .int) b Ln xs) (hp : Pf Vc V) (hw2 : V[w2]? = some (r2, 63)) (hw3 : V[w3]? = some (r3, 64)) (hu3 : V[u3]? = some (v3, 63)) (hI : ∀ s' : Int32 × Int32 × LwS, o = .inl s' → GZ K 0 87 [some (.ref b), some (.int x1), some (.ref r2), some (.ref r3), some (.int x4), some (.int s'.1), some (.int s'.2.1), none] [] Vc s'.2.2) (hE0 : ∀ t : Int32 × LwS, o = .inr t → GZ K 0 366 [none, none, none, none, none, some (.int t.1), none, none] [] Vc t.2) (h : fL_seaText_b178 xs Ln x1 w2 w3 x4 x5 x6 x7 y0 y1 y2 u3 σ = some o) : GZ K 0 178 [some (.ref b), some (.int x1), some (.ref r2), some (.ref r3), some (.int x4), some (.int x5), some (.int x6), some (.int x7)] [.int y0, .int y1, .int y2, .ref v3] V σ := by
  unfold fL_seaText_b178 at h
  obtain ⟨p21, e22, h⟩ := Option.bind_eq_some_iff.mp h
  refine kz_14 C dL_seaText_178 e22 (Nat.le_of_ble_eq_true rfl) rfl (Nat.le_of_ble_eq_true rfl) ?_
  exact z_mask [true, true, true, true, true, true, true, true] rfl (bL_seaText_b181 C hp hw2 hw3 hu3 hI hE0 h)
set_option maxRecDepth 8000 in
theorem bL_seaText_b87 {K : KT} {x1 : Int32} {w2 : Nat} {w3 : Nat} {x4 : Int32} {x5 : Int32} {x6 : Int32} {r2 : Nat} {r3 : Nat} {σ : LwS} {o : (Int32 × Int32 × LwS) ⊕ ((Int32 × LwS))} {V Vc : Wl} {b Ln : Nat} {xs : Nat → Int32} (C : CZ K cL_seaText RL 8 2 0 (some .int) b Ln xs) (hp : Pf Vc V) (hw2 : V[w2]? = some (r2, 63)) (hw3 : V[w3]? = some (r3, 64)) (hI : ∀ s' : Int32 × Int32 × LwS, o = .inl s' → GZ K 0 87 [some (.ref b), some (.int x1), some (.ref r2), some (.ref r3), some (.int x4), some (.int s'.1), some (.int s'.2.1), none] [] Vc s'.2.2) (hE0 : ∀ t : Int32 × LwS, o = .inr t → GZ K 0 366 [none, none, none, none, none, some (.int t.1), none, none] [] Vc t.2) (h : fL_seaText_b87 xs Ln x1 w2 w3 x4 x5 x6 σ = some o) : GZ K 0 87 [some (.ref b), some (.int x1), some (.ref r2), some (.ref r3), some (.int x4), some (.int x5), some (.int x6), none] [] V σ := by
  unfold fL_seaText_b87 at h
  refine z_iload C.c dL_seaText_87 (i := 6) rfl ?_
  refine z_aload_n C.c dL_seaText_89 rfl (i := 2) rfl ?_
  refine z_iconst C.c dL_seaText_90 (v := (0 : Int32)) (by decide) ?_
  refine z_iald C dL_seaText_91 hw2 (by decide) ?_
  refine z_aload_n C.c dL_seaText_92 rfl (i := 2) rfl ?_
  refine z_iconst C.c dL_seaText_93 (v := (1 : Int32)) (by decide) ?_
  refine z_iald C dL_seaText_94 hw2 (by decide) ?_
  refine z_imul C.c dL_seaText_95 ?_
  refine z_icmp_ge C.c (tgt := 366) dL_seaText_96 (by decide) (fun c => ?_) (fun c => ?_)
  · replace h := ite_t c h
    have g9 := hE0 _ (Option.some.inj h).symm
    exact z_mask [false, false, false, false, false, true, false, false] rfl (z_drop hp g9)
  · replace h := ite_f c h
    refine z_aload_n C.c dL_seaText_99 rfl (i := 0) rfl ?_
    refine z_iload_n C.c dL_seaText_100 rfl (i := 1) rfl ?_
    refine z_iconst C.c dL_seaText_101 (v := (1 : Int32)) (by decide) ?_
    refine z_iadd C.c dL_seaText_102 ?_
    refine z_iload C.c dL_seaText_103 (i := 6) rfl ?_
    refine z_bipush C.c dL_seaText_105 (v := (6 : Int32)) (by decide) ?_
    refine z_irem C.c dL_seaText_107 (by decide) ?_
    refine z_iadd C.c dL_seaText_108 ?_
    obtain ⟨p15, e16, h⟩ := Option.bind_eq_some_iff.mp h
    refine kz_8 C dL_seaText_109 e16 (Nat.le_of_ble_eq_true rfl) rfl (Nat.le_of_ble_eq_true rfl) ?_
    refine z_bipush C.c dL_seaText_112 (v := (6 : Int32)) (by decide) ?_
    refine z_iload C.c dL_seaText_114 (i := 6) rfl ?_
    refine z_bipush C.c dL_seaText_116 (v := (6 : Int32)) (by decide) ?_
    refine z_idiv C.c dL_seaText_118 (by decide) ?_
    refine z_imul C.c dL_seaText_119 ?_
    refine z_ishr C.c dL_seaText_120 ?_
    refine z_istore C.c (i := 7) (L' := [some (.ref b), some (.int x1), some (.ref r2), some (.ref r3), some (.int x4), some (.int x5), some (.int x6), some (.int (ishr p15.1 ((6 : Int32) * (x6 / (6 : Int32)))))]) dL_seaText_121 (Nat.le_of_ble_eq_true rfl) rfl ?_
    refine z_aload_n C.c dL_seaText_123 rfl (i := 2) rfl ?_
    refine z_iconst C.c dL_seaText_124 (v := (3 : Int32)) (by decide) ?_
    refine z_iload C.c dL_seaText_125 (i := 6) rfl ?_
    refine z_iadd C.c dL_seaText_127 ?_
    refine z_iload C.c dL_seaText_128 (i := 6) rfl ?_
    refine z_aload_n C.c dL_seaText_130 rfl (i := 2) rfl ?_
    refine z_iconst C.c dL_seaText_131 (v := (2 : Int32)) (by decide) ?_
    refine z_iald C dL_seaText_132 hw2 (by decide) ?_
    refine z_icmp_ne C.c (tgt := 141) dL_seaText_133 (by decide) (fun c => ?_) (fun c => ?_)
    · replace h := ite_f c h
      refine z_iload C.c dL_seaText_141 (i := 7) rfl ?_
      refine z_bipush C.c dL_seaText_143 (v := (9 : Int32)) (by decide) ?_
      obtain ⟨p17, e18, h⟩ := Option.bind_eq_some_iff.mp h
      refine kz_14 C dL_seaText_145 e18 (Nat.le_of_ble_eq_true rfl) rfl (Nat.le_of_ble_eq_true rfl) ?_
      refine z_if_ne C.c (tgt := 156) dL_seaText_148 (by decide) (fun c => ?_) (fun c => ?_)
      · replace h := ite_f c h
        refine z_iload C.c dL_seaText_156 (i := 7) rfl ?_
        refine z_iconst C.c dL_seaText_158 (v := (2 : Int32)) (by decide) ?_
        refine z_ishr C.c dL_seaText_159 ?_
        refine z_iload C.c dL_seaText_160 (i := 4) rfl ?_
        refine z_bipush C.c dL_seaText_162 (v := (22 : Int32)) (by decide) ?_
        refine z_ishr C.c dL_seaText_164 ?_
        refine z_iconst C.c dL_seaText_165 (v := (2 : Int32)) (by decide) ?_
        obtain ⟨p19, e20, h⟩ := Option.bind_eq_some_iff.mp h
        refine kz_14 C dL_seaText_166 e20 (Nat.le_of_ble_eq_true rfl) rfl (Nat.le_of_ble_eq_true rfl) ?_
        refine z_if_ne C.c (tgt := 177) dL_seaText_169 (by decide) (fun c => ?_) (fun c => ?_)
        · replace h := ite_f c h
          refine z_iconst C.c dL_seaText_177 (v := (4 : Int32)) (by decide) ?_
          exact z_mask [true, true, true, true, true, true, true, true] rfl (bL_seaText_b178 C hp hw2 hw3 hw2 hI hE0 h)
        · replace h := ite_t c h
          refine z_bipush C.c dL_seaText_172 (v := (10 : Int32)) (by decide) ?_
          refine z_goto C.c (tgt := 178) dL_seaText_174 (by decide) ?_
          exact z_mask [true, true, true, true, true, true, true, true] rfl (bL_seaText_b178 C hp hw2 hw3 hw2 hI hE0 h)
      · replace h := ite_t c h
        refine z_bipush C.c dL_seaText_151 (v := (11 : Int32)) (by decide) ?_
        refine z_goto C.c (tgt := 181) dL_seaText_153 (by decide) ?_
        exact z_mask [true, true, true, true, true, true, true, true] rfl (bL_seaText_b181 C hp hw2 hw3 hw2 hI hE0 h)
    · replace h := ite_t c h
      refine z_bipush C.c dL_seaText_136 (v := (10 : Int32)) (by decide) ?_
      refine z_goto C.c (tgt := 181) dL_seaText_138 (by decide) ?_
      exact z_mask [true, true, true, true, true, true, true, true] rfl (bL_seaText_b181 C hp hw2 hw3 hw2 hI hE0 h)
set_option maxRecDepth 8000 in
theorem bL_seaText_b61 {K : KT} {x1 : Int32} {w2 : Nat} {w3 : Nat} {x4 : Int32} {x5 : Int32} {y0 : Int32} {y1 : Int32} {y2 : Int32} {y3 : Int32} {u4 : Nat} {r2 : Nat} {r3 : Nat} {v4 : Nat} {σ : LwS} {o : Int32 × LwS} {V Vc : Wl} {b Ln : Nat} {xs : Nat → Int32} (C : CZ K cL_seaText RL 8 2 0 (some .int) b Ln xs) (hp : Pf Vc V) (hw2 : V[w2]? = some (r2, 63)) (hw3 : V[w3]? = some (r3, 64)) (hu4 : V[u4]? = some (v4, 63)) (hQ : RZ K Vc 0 (ozI o)) (h : fL_seaText_b61 xs Ln x1 w2 w3 x4 x5 y0 y1 y2 y3 u4 σ = some o) : GZ K 0 61 [some (.ref b), some (.int x1), some (.ref r2), some (.ref r3), some (.int x4), some (.int x5), none, none] [.int y0, .int y1, .int y2, .int y3, .ref v4] V σ := by
  unfold fL_seaText_b61 at h
  obtain ⟨p10, e11, h⟩ := Option.bind_eq_some_iff.mp h
  refine kz_14 C dL_seaText_61 e11 (Nat.le_of_ble_eq_true rfl) rfl (Nat.le_of_ble_eq_true rfl) ?_
  refine z_iadd C.c dL_seaText_64 ?_
  obtain ⟨c12, h⟩ := chk h
  refine z_iast C dL_seaText_65 hu4 c12 ?_
  refine z_aload_n C.c dL_seaText_66 rfl (i := 2) rfl ?_
  refine z_iconst C.c dL_seaText_67 (v := (2 : Int32)) (by decide) ?_
  refine z_iload C.c dL_seaText_68 (i := 4) rfl ?_
  refine z_bipush C.c dL_seaText_70 (v := (7 : Int32)) (by decide) ?_
  refine z_ishr C.c dL_seaText_72 ?_
  refine z_aload_n C.c dL_seaText_73 rfl (i := 2) rfl ?_
  refine z_iconst C.c dL_seaText_74 (v := (0 : Int32)) (by decide) ?_
  refine z_iald C dL_seaText_75 hw2 (by decide) ?_
  refine z_aload_n C.c dL_seaText_76 rfl (i := 2) rfl ?_
  refine z_iconst C.c dL_seaText_77 (v := (1 : Int32)) (by decide) ?_
  refine z_iald C dL_seaText_78 hw2 (by decide) ?_
  refine z_imul C.c dL_seaText_79 ?_
  obtain ⟨p13, e14, h⟩ := Option.bind_eq_some_iff.mp h
  refine kz_14 C dL_seaText_80 e14 (Nat.le_of_ble_eq_true rfl) rfl (Nat.le_of_ble_eq_true rfl) ?_
  refine z_iast C dL_seaText_83 hw2 (by decide) ?_
  refine z_iconst C.c dL_seaText_84 (v := (0 : Int32)) (by decide) ?_
  refine z_istore C.c (i := 6) (L' := [some (.ref b), some (.int x1), some (.ref r2), some (.ref r3), some (.int x4), some (.int x5), some (.int (0 : Int32)), none]) dL_seaText_85 (Nat.le_of_ble_eq_true rfl) rfl ?_
  refine z_mask [true, true, true, true, true, true, true, false] rfl ?_
  refine lp_bind (Gh := fun s => GZ K 0 87 [some (.ref b), some (.int x1), some (.ref r2), some (.ref r3), some (.int x4), some (.int s.1), some (.int s.2.1), none] [] V s.2.2) h (fun s o2 hf gI gE => ?_)
  refine bL_seaText_b87 C Pf.rf hw2 hw3 gI (fun t41 e => ?_) hf
  · have h := gE _ e
    refine z_iload C.c dL_seaText_366 (i := 5) rfl ?_
    obtain rfl := Option.some.inj h
    exact z_iret C hp hQ dL_seaText_368 rfl ⟨rfl, rfl⟩
set_option maxRecDepth 8000 in
theorem bL_seaText_b32 {K : KT} {x1 : Int32} {w2 : Nat} {w3 : Nat} {x4 : Int32} {x5 : Int32} {y0 : Int32} {y1 : Int32} {y2 : Int32} {y3 : Int32} {u4 : Nat} {r2 : Nat} {r3 : Nat} {v4 : Nat} {σ : LwS} {o : Int32 × LwS} {V Vc : Wl} {b Ln : Nat} {xs : Nat → Int32} (C : CZ K cL_seaText RL 8 2 0 (some .int) b Ln xs) (hp : Pf Vc V) (hw2 : V[w2]? = some (r2, 63)) (hw3 : V[w3]? = some (r3, 64)) (hu4 : V[u4]? = some (v4, 63)) (hQ : RZ K Vc 0 (ozI o)) (h : fL_seaText_b32 xs Ln x1 w2 w3 x4 x5 y0 y1 y2 y3 u4 σ = some o) : GZ K 0 32 [some (.ref b), some (.int x1), some (.ref r2), some (.ref r3), some (.int x4), some (.int x5), none, none] [.int y0, .int y1, .int y2, .int y3, .ref v4] V σ := by
  unfold fL_seaText_b32 at h
  obtain ⟨p5, e6, h⟩ := Option.bind_eq_some_iff.mp h
  refine kz_14 C dL_seaText_32 e6 (Nat.le_of_ble_eq_true rfl) rfl (Nat.le_of_ble_eq_true rfl) ?_
  refine z_iadd C.c dL_seaText_35 ?_
  obtain ⟨c7, h⟩ := chk h
  refine z_iast C dL_seaText_36 hu4 c7 ?_
  refine z_aload_n C.c dL_seaText_37 rfl (i := 2) rfl ?_
  refine z_iconst C.c dL_seaText_38 (v := (1 : Int32)) (by decide) ?_
  refine z_iconst C.c dL_seaText_39 (v := (2 : Int32)) (by decide) ?_
  refine z_iload C.c dL_seaText_40 (i := 4) rfl ?_
  refine z_iconst C.c dL_seaText_42 (v := (3 : Int32)) (by decide) ?_
  refine z_ishr C.c dL_seaText_43 ?_
  refine z_iload C.c dL_seaText_44 (i := 4) rfl ?_
  refine z_bipush C.c dL_seaText_46 (v := (21 : Int32)) (by decide) ?_
  refine z_ishr C.c dL_seaText_48 ?_
  refine z_iconst C.c dL_seaText_49 (v := (2 : Int32)) (by decide) ?_
  obtain ⟨p8, e9, h⟩ := Option.bind_eq_some_iff.mp h
  refine kz_14 C dL_seaText_50 e9 (Nat.le_of_ble_eq_true rfl) rfl (Nat.le_of_ble_eq_true rfl) ?_
  refine z_if_ne C.c (tgt := 60) dL_seaText_53 (by decide) (fun c => ?_) (fun c => ?_)
  · replace h := ite_f c h
    refine z_iconst C.c dL_seaText_60 (v := (3 : Int32)) (by decide) ?_
    exact z_mask [true, true, true, true, true, true, false, false] rfl (bL_seaText_b61 C hp hw2 hw3 hw2 hQ h)
  · replace h := ite_t c h
    refine z_iconst C.c dL_seaText_56 (v := (5 : Int32)) (by decide) ?_
    refine z_goto C.c (tgt := 61) dL_seaText_57 (by decide) ?_
    exact z_mask [true, true, true, true, true, true, false, false] rfl (bL_seaText_b61 C hp hw2 hw3 hw2 hQ h)
set_option maxRecDepth 8000 in
theorem bL_seaText_b0 {K : KT} {x1 : Int32} {w2 : Nat} {w3 : Nat} {r2 : Nat} {r3 : Nat} {σ : LwS} {o : Int32 × LwS} {V Vc : Wl} {b Ln : Nat} {xs : Nat → Int32} (C : CZ K cL_seaText RL 8 2 0 (some .int) b Ln xs) (hp : Pf Vc V) (hw2 : V[w2]? = some (r2, 63)) (hw3 : V[w3]? = some (r3, 64)) (hQ : RZ K Vc 0 (ozI o)) (h : fL_seaText_b0 xs Ln x1 w2 w3 σ = some o) : GZ K 0 0 [some (.ref b), some (.int x1), some (.ref r2), some (.ref r3), none, none, none, none] [] V σ := by
  unfold fL_seaText_b0 at h
  refine z_aload_n C.c dL_seaText_0 rfl (i := 0) rfl ?_
  refine z_iload_n C.c dL_seaText_1 rfl (i := 1) rfl ?_
  obtain ⟨p1, e2, h⟩ := Option.bind_eq_some_iff.mp h
  refine kz_8 C dL_seaText_2 e2 (Nat.le_of_ble_eq_true rfl) rfl (Nat.le_of_ble_eq_true rfl) ?_
  refine z_istore C.c (i := 4) (L' := [some (.ref b), some (.int x1), some (.ref r2), some (.ref r3), some (.int p1.1), none, none, none]) dL_seaText_5 (Nat.le_of_ble_eq_true rfl) rfl ?_
  refine z_iconst C.c dL_seaText_7 (v := (0 : Int32)) (by decide) ?_
  refine z_istore C.c (i := 5) (L' := [some (.ref b), some (.int x1), some (.ref r2), some (.ref r3), some (.int p1.1), some (.int (0 : Int32)), none, none]) dL_seaText_8 (Nat.le_of_ble_eq_true rfl) rfl ?_
  refine z_aload_n C.c dL_seaText_10 rfl (i := 2) rfl ?_
  refine z_iconst C.c dL_seaText_11 (v := (0 : Int32)) (by decide) ?_
  refine z_iconst C.c dL_seaText_12 (v := (2 : Int32)) (by decide) ?_
  refine z_iload C.c dL_seaText_13 (i := 4) rfl ?_
  refine z_iload C.c dL_seaText_15 (i := 4) rfl ?_
  refine z_bipush C.c dL_seaText_17 (v := (20 : Int32)) (by decide) ?_
  refine z_ishr C.c dL_seaText_19 ?_
  refine z_iconst C.c dL_seaText_20 (v := (2 : Int32)) (by decide) ?_
  obtain ⟨p3, e4, h⟩ := Option.bind_eq_some_iff.mp h
  refine kz_14 C dL_seaText_21 e4 (Nat.le_of_ble_eq_true rfl) rfl (Nat.le_of_ble_eq_true rfl) ?_
  refine z_if_ne C.c (tgt := 31) dL_seaText_24 (by decide) (fun c => ?_) (fun c => ?_)
  · replace h := ite_f c h
    refine z_iconst C.c dL_seaText_31 (v := (2 : Int32)) (by decide) ?_
    exact z_mask [true, true, true, true, true, true, false, false] rfl (bL_seaText_b32 C hp hw2 hw3 hw2 hQ h)
  · replace h := ite_t c h
    refine z_iconst C.c dL_seaText_27 (v := (4 : Int32)) (by decide) ?_
    refine z_goto C.c (tgt := 32) dL_seaText_28 (by decide) ?_
    exact z_mask [true, true, true, true, true, true, false, false] rfl (bL_seaText_b32 C hp hw2 hw3 hw2 hQ h)
def fL_seaText (xs : Nat → Int32) (Ln : Nat) (a1 : Int32) (q2 : Nat) (q3 : Nat) (σ : LwS) : Option (Int32 × LwS) := fL_seaText_b0 xs Ln a1 q2 q3 σ
theorem ct_L_seaText {a1 : Int32} {q2 : Nat} {q3 : Nat} {r2 : Nat} {r3 : Nat} {V : Wl} {b Ln : Nat} {xs : Nat → Int32} {σ : LwS} {p : Int32 × LwS} (hq2 : V[q2]? = some (r2, 63)) (hq3 : V[q3]? = some (r3, 64)) (hs : σ.2.2 = 0) (h : fL_seaText xs Ln a1 q2 q3 σ = some p) : CtZ V yL_seaText cL_seaText 8 (some .int) 2 0 b Ln xs (fun ad => [.ref b, .int a1, .ref r2, .ref r3]) σ (ozI p) :=
 ctz_of (L0 := fun ad => [some (.ref b), some (.int a1), some (.ref r2), some (.ref r3), none, none, none, none]) (by decide) hs (fun _ => Nat.le_of_ble_eq_true rfl) (fun _ => rfl) (fun K C hQ => z_mask [true, true, true, true, false, false, false, false] rfl (bL_seaText_b0 C Pf.rf hq2 hq3 hQ h))
-- L_bergs
theorem dL_bergs_0 : decode cL_bergs 0 = .ok (.aload 5, 2) := by decide +kernel
theorem dL_bergs_2 : decode cL_bergs 2 = .ok (.bipush 25, 2) := by decide +kernel
theorem dL_bergs_4 : decode cL_bergs 4 = .ok (.iconst 0, 1) := by decide +kernel
theorem dL_bergs_5 : decode cL_bergs 5 = .ok (.iastore, 1) := by decide +kernel
theorem dL_bergs_6 : decode cL_bergs 6 = .ok (.iconst 0, 1) := by decide +kernel
theorem dL_bergs_7 : decode cL_bergs 7 = .ok (.istore 6, 2) := by decide +kernel
theorem dL_bergs_9 : decode cL_bergs 9 = .ok (.iload 6, 2) := by decide +kernel
theorem dL_bergs_11 : decode cL_bergs 11 = .ok (.iload_n 3, 1) := by decide +kernel
theorem dL_bergs_12 : decode cL_bergs 12 = .ok (.if_icmp .ge 224, 3) := by decide +kernel
theorem dL_bergs_15 : decode cL_bergs 15 = .ok (.aload_n 1, 1) := by decide +kernel
theorem dL_bergs_16 : decode cL_bergs 16 = .ok (.iload_n 2, 1) := by decide +kernel
theorem dL_bergs_17 : decode cL_bergs 17 = .ok (.iload 6, 2) := by decide +kernel
theorem dL_bergs_19 : decode cL_bergs 19 = .ok (.iadd, 1) := by decide +kernel
theorem dL_bergs_20 : decode cL_bergs 20 = .ok (.invokestatic 8, 3) := by decide +kernel
theorem dL_bergs_23 : decode cL_bergs 23 = .ok (.istore 7, 2) := by decide +kernel
theorem dL_bergs_25 : decode cL_bergs 25 = .ok (.iconst 5, 1) := by decide +kernel
theorem dL_bergs_26 : decode cL_bergs 26 = .ok (.aload 5, 2) := by decide +kernel
theorem dL_bergs_28 : decode cL_bergs 28 = .ok (.bipush 25, 2) := by decide +kernel
theorem dL_bergs_30 : decode cL_bergs 30 = .ok (.iaload, 1) := by decide +kernel
theorem dL_bergs_31 : decode cL_bergs 31 = .ok (.imul, 1) := by decide +kernel
theorem dL_bergs_32 : decode cL_bergs 32 = .ok (.istore 8, 2) := by decide +kernel
theorem dL_bergs_34 : decode cL_bergs 34 = .ok (.iload 7, 2) := by decide +kernel
theorem dL_bergs_36 : decode cL_bergs 36 = .ok (.iconst 5, 1) := by decide +kernel
theorem dL_bergs_37 : decode cL_bergs 37 = .ok (.invokestatic 14, 3) := by decide +kernel
theorem dL_bergs_40 : decode cL_bergs 40 = .ok (.istore 9, 2) := by decide +kernel
theorem dL_bergs_42 : decode cL_bergs 42 = .ok (.iload 7, 2) := by decide +kernel
theorem dL_bergs_44 : decode cL_bergs 44 = .ok (.iconst 3, 1) := by decide +kernel
theorem dL_bergs_45 : decode cL_bergs 45 = .ok (.ishr, 1) := by decide +kernel
theorem dL_bergs_46 : decode cL_bergs 46 = .ok (.aload 4, 2) := by decide +kernel
theorem dL_bergs_48 : decode cL_bergs 48 = .ok (.iconst 0, 1) := by decide +kernel
theorem dL_bergs_49 : decode cL_bergs 49 = .ok (.iaload, 1) := by decide +kernel
theorem dL_bergs_50 : decode cL_bergs 50 = .ok (.aload 4, 2) := by decide +kernel
theorem dL_bergs_52 : decode cL_bergs 52 = .ok (.iconst 1, 1) := by decide +kernel
theorem dL_bergs_53 : decode cL_bergs 53 = .ok (.iaload, 1) := by decide +kernel
theorem dL_bergs_54 : decode cL_bergs 54 = .ok (.imul, 1) := by decide +kernel
theorem dL_bergs_55 : decode cL_bergs 55 = .ok (.invokestatic 14, 3) := by decide +kernel
theorem dL_bergs_58 : decode cL_bergs 58 = .ok (.istore 10, 2) := by decide +kernel
theorem dL_bergs_60 : decode cL_bergs 60 = .ok (.bipush 10, 2) := by decide +kernel
theorem dL_bergs_62 : decode cL_bergs 62 = .ok (.iload 7, 2) := by decide +kernel
theorem dL_bergs_64 : decode cL_bergs 64 = .ok (.bipush 8, 2) := by decide +kernel
theorem dL_bergs_66 : decode cL_bergs 66 = .ok (.ishr, 1) := by decide +kernel
theorem dL_bergs_67 : decode cL_bergs 67 = .ok (.iload 7, 2) := by decide +kernel
theorem dL_bergs_69 : decode cL_bergs 69 = .ok (.bipush 24, 2) := by decide +kernel
theorem dL_bergs_71 : decode cL_bergs 71 = .ok (.ishr, 1) := by decide +kernel
theorem dL_bergs_72 : decode cL_bergs 72 = .ok (.iconst 2, 1) := by decide +kernel
theorem dL_bergs_73 : decode cL_bergs 73 = .ok (.invokestatic 14, 3) := by decide +kernel
theorem dL_bergs_76 : decode cL_bergs 76 = .ok (.ifCond .ne 9, 3) := by decide +kernel
theorem dL_bergs_79 : decode cL_bergs 79 = .ok (.sipush 990, 3) := by decide +kernel
theorem dL_bergs_82 : decode cL_bergs 82 = .ok (.goto 5, 3) := by decide +kernel
theorem dL_bergs_85 : decode cL_bergs 85 = .ok (.bipush 90, 2) := by decide +kernel
theorem dL_bergs_87 : decode cL_bergs 87 = .ok (.invokestatic 14, 3) := by decide +kernel
theorem dL_bergs_90 : decode cL_bergs 90 = .ok (.iadd, 1) := by decide +kernel
theorem dL_bergs_91 : decode cL_bergs 91 = .ok (.istore 11, 2) := by decide +kernel
theorem dL_bergs_93 : decode cL_bergs 93 = .ok (.iload 7, 2) := by decide +kernel
theorem dL_bergs_95 : decode cL_bergs 95 = .ok (.bipush 18, 2) := by decide +kernel
theorem dL_bergs_97 : decode cL_bergs 97 = .ok (.ishr, 1) := by decide +kernel
theorem dL_bergs_98 : decode cL_bergs 98 = .ok (.bipush 100, 2) := by decide +kernel
theorem dL_bergs_100 : decode cL_bergs 100 = .ok (.invokestatic 14, 3) := by decide +kernel
theorem dL_bergs_103 : decode cL_bergs 103 = .ok (.istore 12, 2) := by decide +kernel
theorem dL_bergs_105 : decode cL_bergs 105 = .ok (.iload 9, 2) := by decide +kernel
theorem dL_bergs_107 : decode cL_bergs 107 = .ok (.iconst 2, 1) := by decide +kernel
theorem dL_bergs_108 : decode cL_bergs 108 = .ok (.if_icmp .ne 18, 3) := by decide +kernel
theorem dL_bergs_111 : decode cL_bergs 111 = .ok (.iconst 2, 1) := by decide +kernel
theorem dL_bergs_112 : decode cL_bergs 112 = .ok (.iload 7, 2) := by decide +kernel
theorem dL_bergs_114 : decode cL_bergs 114 = .ok (.bipush 25, 2) := by decide +kernel
theorem dL_bergs_116 : decode cL_bergs 116 = .ok (.ishr, 1) := by decide +kernel
theorem dL_bergs_117 : decode cL_bergs 117 = .ok (.bipush 8, 2) := by decide +kernel
theorem dL_bergs_119 : decode cL_bergs 119 = .ok (.invokestatic 14, 3) := by decide +kernel
theorem dL_bergs_122 : decode cL_bergs 122 = .ok (.iadd, 1) := by decide +kernel
theorem dL_bergs_123 : decode cL_bergs 123 = .ok (.goto 4, 3) := by decide +kernel
theorem dL_bergs_126 : decode cL_bergs 126 = .ok (.iconst 0, 1) := by decide +kernel
theorem dL_bergs_127 : decode cL_bergs 127 = .ok (.istore 13, 2) := by decide +kernel
theorem dL_bergs_129 : decode cL_bergs 129 = .ok (.aload_n 0, 1) := by decide +kernel
theorem dL_bergs_130 : decode cL_bergs 130 = .ok (.iload 9, 2) := by decide +kernel
theorem dL_bergs_132 : decode cL_bergs 132 = .ok (.iload 10, 2) := by decide +kernel
theorem dL_bergs_134 : decode cL_bergs 134 = .ok (.iload 11, 2) := by decide +kernel
theorem dL_bergs_136 : decode cL_bergs 136 = .ok (.iload 12, 2) := by decide +kernel
theorem dL_bergs_138 : decode cL_bergs 138 = .ok (.iload 13, 2) := by decide +kernel
theorem dL_bergs_140 : decode cL_bergs 140 = .ok (.invokevirtual 24, 3) := by decide +kernel
theorem dL_bergs_143 : decode cL_bergs 143 = .ok (.istore 14, 2) := by decide +kernel
theorem dL_bergs_145 : decode cL_bergs 145 = .ok (.aload 4, 2) := by decide +kernel
theorem dL_bergs_147 : decode cL_bergs 147 = .ok (.iconst 3, 1) := by decide +kernel
theorem dL_bergs_148 : decode cL_bergs 148 = .ok (.iload 10, 2) := by decide +kernel
theorem dL_bergs_150 : decode cL_bergs 150 = .ok (.iadd, 1) := by decide +kernel
theorem dL_bergs_151 : decode cL_bergs 151 = .ok (.iaload, 1) := by decide +kernel
theorem dL_bergs_152 : decode cL_bergs 152 = .ok (.bipush 9, 2) := by decide +kernel
theorem dL_bergs_154 : decode cL_bergs 154 = .ok (.if_icmp .le 12, 3) := by decide +kernel
theorem dL_bergs_157 : decode cL_bergs 157 = .ok (.iload 14, 2) := by decide +kernel
theorem dL_bergs_159 : decode cL_bergs 159 = .ok (.bipush (-101), 2) := by decide +kernel
theorem dL_bergs_161 : decode cL_bergs 161 = .ok (.if_icmp .eq 69, 3) := by decide +kernel
theorem dL_bergs_164 : decode cL_bergs 164 = .ok (.iconst 0, 1) := by decide +kernel
theorem dL_bergs_165 : decode cL_bergs 165 = .ok (.ireturn, 1) := by decide +kernel
theorem dL_bergs_166 : decode cL_bergs 166 = .ok (.iload 14, 2) := by decide +kernel
theorem dL_bergs_168 : decode cL_bergs 168 = .ok (.aload 5, 2) := by decide +kernel
theorem dL_bergs_170 : decode cL_bergs 170 = .ok (.bipush 25, 2) := by decide +kernel
theorem dL_bergs_172 : decode cL_bergs 172 = .ok (.iaload, 1) := by decide +kernel
theorem dL_bergs_173 : decode cL_bergs 173 = .ok (.if_icmp .eq 5, 3) := by decide +kernel
theorem dL_bergs_176 : decode cL_bergs 176 = .ok (.iconst 0, 1) := by decide +kernel
theorem dL_bergs_177 : decode cL_bergs 177 = .ok (.ireturn, 1) := by decide +kernel
theorem dL_bergs_178 : decode cL_bergs 178 = .ok (.aload 5, 2) := by decide +kernel
theorem dL_bergs_180 : decode cL_bergs 180 = .ok (.iload 8, 2) := by decide +kernel
theorem dL_bergs_182 : decode cL_bergs 182 = .ok (.iload 9, 2) := by decide +kernel
theorem dL_bergs_184 : decode cL_bergs 184 = .ok (.iastore, 1) := by decide +kernel
theorem dL_bergs_185 : decode cL_bergs 185 = .ok (.aload 5, 2) := by decide +kernel
theorem dL_bergs_187 : decode cL_bergs 187 = .ok (.iload 8, 2) := by decide +kernel
theorem dL_bergs_189 : decode cL_bergs 189 = .ok (.iconst 1, 1) := by decide +kernel
theorem dL_bergs_190 : decode cL_bergs 190 = .ok (.iadd, 1) := by decide +kernel
theorem dL_bergs_191 : decode cL_bergs 191 = .ok (.iload 10, 2) := by decide +kernel
theorem dL_bergs_193 : decode cL_bergs 193 = .ok (.iastore, 1) := by decide +kernel
theorem dL_bergs_194 : decode cL_bergs 194 = .ok (.aload 5, 2) := by decide +kernel
theorem dL_bergs_196 : decode cL_bergs 196 = .ok (.iload 8, 2) := by decide +kernel
theorem dL_bergs_198 : decode cL_bergs 198 = .ok (.iconst 2, 1) := by decide +kernel
theorem dL_bergs_199 : decode cL_bergs 199 = .ok (.iadd, 1) := by decide +kernel
theorem dL_bergs_200 : decode cL_bergs 200 = .ok (.iload 11, 2) := by decide +kernel
theorem dL_bergs_202 : decode cL_bergs 202 = .ok (.iastore, 1) := by decide +kernel
theorem dL_bergs_203 : decode cL_bergs 203 = .ok (.aload 5, 2) := by decide +kernel
theorem dL_bergs_205 : decode cL_bergs 205 = .ok (.iload 8, 2) := by decide +kernel
theorem dL_bergs_207 : decode cL_bergs 207 = .ok (.iconst 3, 1) := by decide +kernel
theorem dL_bergs_208 : decode cL_bergs 208 = .ok (.iadd, 1) := by decide +kernel
theorem dL_bergs_209 : decode cL_bergs 209 = .ok (.iload 12, 2) := by decide +kernel
theorem dL_bergs_211 : decode cL_bergs 211 = .ok (.iastore, 1) := by decide +kernel
theorem dL_bergs_212 : decode cL_bergs 212 = .ok (.aload 5, 2) := by decide +kernel
theorem dL_bergs_214 : decode cL_bergs 214 = .ok (.iload 8, 2) := by decide +kernel
theorem dL_bergs_216 : decode cL_bergs 216 = .ok (.iconst 4, 1) := by decide +kernel
theorem dL_bergs_217 : decode cL_bergs 217 = .ok (.iadd, 1) := by decide +kernel
theorem dL_bergs_218 : decode cL_bergs 218 = .ok (.iload 13, 2) := by decide +kernel
theorem dL_bergs_220 : decode cL_bergs 220 = .ok (.iastore, 1) := by decide +kernel
theorem dL_bergs_221 : decode cL_bergs 221 = .ok (.aload 5, 2) := by decide +kernel
theorem dL_bergs_223 : decode cL_bergs 223 = .ok (.bipush 25, 2) := by decide +kernel
theorem dL_bergs_225 : decode cL_bergs 225 = .ok (.dup2, 1) := by decide +kernel
theorem dL_bergs_226 : decode cL_bergs 226 = .ok (.iaload, 1) := by decide +kernel
theorem dL_bergs_227 : decode cL_bergs 227 = .ok (.iconst 1, 1) := by decide +kernel
theorem dL_bergs_228 : decode cL_bergs 228 = .ok (.iadd, 1) := by decide +kernel
theorem dL_bergs_229 : decode cL_bergs 229 = .ok (.iastore, 1) := by decide +kernel
theorem dL_bergs_230 : decode cL_bergs 230 = .ok (.iinc 6 1, 3) := by decide +kernel
theorem dL_bergs_233 : decode cL_bergs 233 = .ok (.goto (-224), 3) := by decide +kernel
theorem dL_bergs_236 : decode cL_bergs 236 = .ok (.iconst 1, 1) := by decide +kernel
theorem dL_bergs_237 : decode cL_bergs 237 = .ok (.ireturn, 1) := by decide +kernel
theorem cw_L_bergs : Cw yL_bergs cL_bergs 15 (some .boolean) 6 := ⟨aw_638, aw_18, ⟨by decide, by decide⟩, by decide +kernel, by decide⟩
theorem kz_24 {K : KT} {cc : ByteArray} {nL d M pc : Nat} {ret : Option FieldType} {L : List (Option Value)} {st : List Value} {V : Wl} {σ : LwS} {b Ln : Nat} {xs : Nat → Int32} (C : CZ K cc RL nL d M ret b Ln xs) {a0 : Int32} {a1 : Int32} {a2 : Int32} {a3 : Int32} {a4 : Int32} {p : Int32 × Sg} (hd : decode cc pc = .ok (.invokevirtual 24, 3)) (e : fX9_berg a0 a1 a2 a3 a4 σ.1 = some p) (hdd : 3 + 1 ≤ d) (hLn : L.length = nL) (hr : (st.map fun v => v.category).sum ≤ 8) (k : GZ K M (pc + 3) L (.int p.1 :: st) V (cS σ p.2)) : GZ K M pc L (.int a4 :: .int a3 :: .int a2 :: .int a1 :: .int a0 :: .ref (kad K 0) :: st) V σ :=
 z_callC C (As := [.int a0, .int a1, .int a2, .int a3, .int a4]) (rest := st) hd (ct_X9_berg e) cw_X9_berg aw_639 aw_640 aw_641 rfl rfl rfl hdd hLn rfl hr (fun v τ q => by obtain ⟨rfl, rfl⟩ := q; exact k)
def fL_bergs_b230 (xs : Nat → Int32) (Ln : Nat) (x2 : Int32) (x3 : Int32) (w4 : Nat) (w5 : Nat) (x6 : Int32) (σ : LwS) : Option ((Int32 × LwS) ⊕ (((LwS) ⊕ ((LwS) ⊕ (LwS))))) :=
  some (.inl ((x6 + (1 : Int32)), σ))
def fL_bergs_b127 (xs : Nat → Int32) (Ln : Nat) (x2 : Int32) (x3 : Int32) (w4 : Nat) (w5 : Nat) (x6 : Int32) (x8 : Int32) (x9 : Int32) (x10 : Int32) (x11 : Int32) (x12 : Int32) (y0 : Int32) (σ : LwS) : Option ((Int32 × LwS) ⊕ (((LwS) ⊕ ((LwS) ⊕ (LwS))))) :=
  Option.bind (fX9_berg x9 x10 x11 x12 y0 σ.1) fun p13 => (if inb ((3 : Int32) + x10) 63 = true then (if (rT (cS σ p13.2) w4 (((3 : Int32) + x10)).toNatClampNeg) ≤ (9 : Int32) then (if p13.1 = (rT (cS σ p13.2) w5 ((25 : Int32)).toNatClampNeg) then (if inb x8 26 = true then (if inb (x8 + (1 : Int32)) 26 = true then (if inb (x8 + (2 : Int32)) 26 = true then (if inb (x8 + (3 : Int32)) 26 = true then (if inb (x8 + (4 : Int32)) 26 = true then (fL_bergs_b230 xs Ln x2 x3 w4 w5 x6 (wT (wT (wT (wT (wT (wT (cS σ p13.2) w5 (x8).toNatClampNeg x9) w5 ((x8 + (1 : Int32))).toNatClampNeg x10) w5 ((x8 + (2 : Int32))).toNatClampNeg x11) w5 ((x8 + (3 : Int32))).toNatClampNeg x12) w5 ((x8 + (4 : Int32))).toNatClampNeg y0) w5 ((25 : Int32)).toNatClampNeg ((rT (wT (wT (wT (wT (wT (cS σ p13.2) w5 (x8).toNatClampNeg x9) w5 ((x8 + (1 : Int32))).toNatClampNeg x10) w5 ((x8 + (2 : Int32))).toNatClampNeg x11) w5 ((x8 + (3 : Int32))).toNatClampNeg x12) w5 ((x8 + (4 : Int32))).toNatClampNeg y0) w5 ((25 : Int32)).toNatClampNeg) + (1 : Int32)))) else none) else none) else none) else none) else none) else (some (.inr (.inr (.inl (cS σ p13.2)))))) else (if p13.1 = (-101 : Int32) then (fL_bergs_b230 xs Ln x2 x3 w4 w5 x6 (cS σ p13.2)) else (some (.inr (.inl (cS σ p13.2)))))) else none)
def fL_bergs_b87 (xs : Nat → Int32) (Ln : Nat) (x2 : Int32) (x3 : Int32) (w4 : Nat) (w5 : Nat) (x6 : Int32) (x7 : Int32) (x8 : Int32) (x9 : Int32) (x10 : Int32) (y0 : Int32) (y1 : Int32) (y2 : Int32) (σ : LwS) : Option ((Int32 × LwS) ⊕ (((LwS) ⊕ ((LwS) ⊕ (LwS))))) :=
  Option.bind (fL_at y1 y0 (eT σ)) fun p9 => (Option.bind (fL_at (ishr x7 (18 : Int32)) (100 : Int32) (eT (uT σ p9.2 0))) fun p11 => (if x9 = (2 : Int32) then (Option.bind (fL_at (ishr x7 (25 : Int32)) (8 : Int32) (eT (uT (uT σ p9.2 0) p11.2 0))) fun p21 => (fL_bergs_b127 xs Ln x2 x3 w4 w5 x6 x8 x9 x10 (y2 + p9.1) p11.1 ((2 : Int32) + p21.1) (uT (uT (uT σ p9.2 0) p11.2 0) p21.2 0))) else (fL_bergs_b127 xs Ln x2 x3 w4 w5 x6 x8 x9 x10 (y2 + p9.1) p11.1 (0 : Int32) (uT (uT σ p9.2 0) p11.2 0))))
def fL_bergs_b9 (xs : Nat → Int32) (Ln : Nat) (x2 : Int32) (x3 : Int32) (w4 : Nat) (w5 : Nat) (x6 : Int32) (σ : LwS) : Option ((Int32 × LwS) ⊕ (((LwS) ⊕ ((LwS) ⊕ (LwS))))) :=
  if x3 ≤ x6 then (some (.inr (.inr (.inr σ)))) else (Option.bind (fL_cell xs Ln (x2 + x6) (eT σ)) fun p1 => (Option.bind (fL_at p1.1 (5 : Int32) (eT (uT σ p1.2 0))) fun p3 => (Option.bind (fL_at (ishr p1.1 (3 : Int32)) ((rT (uT (uT σ p1.2 0) p3.2 0) w4 ((0 : Int32)).toNatClampNeg) * (rT (uT (uT σ p1.2 0) p3.2 0) w4 ((1 : Int32)).toNatClampNeg)) (eT (uT (uT σ p1.2 0) p3.2 0))) fun p5 => (Option.bind (fL_at (ishr p1.1 (24 : Int32)) (2 : Int32) (eT (uT (uT (uT σ p1.2 0) p3.2 0) p5.2 0))) fun p7 => (if p7.1 = 0 then (fL_bergs_b87 xs Ln x2 x3 w4 w5 x6 p1.1 ((5 : Int32) * (rT (uT σ p1.2 0) w5 ((25 : Int32)).toNatClampNeg)) p3.1 p5.1 (990 : Int32) (ishr p1.1 (8 : Int32)) (10 : Int32) (uT (uT (uT (uT σ p1.2 0) p3.2 0) p5.2 0) p7.2 0)) else (fL_bergs_b87 xs Ln x2 x3 w4 w5 x6 p1.1 ((5 : Int32) * (rT (uT σ p1.2 0) w5 ((25 : Int32)).toNatClampNeg)) p3.1 p5.1 (90 : Int32) (ishr p1.1 (8 : Int32)) (10 : Int32) (uT (uT (uT (uT σ p1.2 0) p3.2 0) p5.2 0) p7.2 0)))))))
def fL_bergs_b0 (xs : Nat → Int32) (Ln : Nat) (x2 : Int32) (x3 : Int32) (w4 : Nat) (w5 : Nat) (σ : LwS) : Option (Int32 × LwS) :=
  Option.bind (lp (fun s => fL_bergs_b9 xs Ln x2 x3 w4 w5 s.1 s.2) FU ((0 : Int32), (wT σ w5 ((25 : Int32)).toNatClampNeg (0 : Int32)))) (el (fun t23 => some ((0 : Int32), t23)) (el (fun t23 => some ((0 : Int32), t23)) (fun t23 => some ((1 : Int32), t23))))
set_option maxRecDepth 8000 in
theorem bL_bergs_b230 {K : KT} {x2 : Int32} {x3 : Int32} {w4 : Nat} {w5 : Nat} {x6 : Int32} {r4 : Nat} {r5 : Nat} {σ : LwS} {o : (Int32 × LwS) ⊕ (((LwS) ⊕ ((LwS) ⊕ (LwS))))} {V Vc : Wl} {b Ln : Nat} {xs : Nat → Int32} (C : CZ K cL_bergs RL 15 4 0 (some .boolean) b Ln xs) (hp : Pf Vc V) (hw4 : V[w4]? = some (r4, 63)) (hw5 : V[w5]? = some (r5, 26)) (hI : ∀ s' : Int32 × LwS, o = .inl s' → GZ K 0 9 [some (.ref (kad K 0)), some (.ref b), some (.int x2), some (.int x3), some (.ref r4), some (.ref r5), some (.int s'.1), none, none, none, none, none, none, none, none] [] Vc s'.2) (hE0 : ∀ t : LwS, o = .inr (.inl t) → GZ K 0 164 [none, none, none, none, none, none, none, none, none, none, none, none, none, none, none] [] Vc t) (hE1 : ∀ t : LwS, o = .inr (.inr (.inl t)) → GZ K 0 176 [none, none, none, none, none, none, none, none, none, none, none, none, none, none, none] [] Vc t) (hE2 : ∀ t : LwS, o = .inr (.inr (.inr t)) → GZ K 0 236 [none, none, none, none, none, none, none, none, none, none, none, none, none, none, none] [] Vc t) (h : fL_bergs_b230 xs Ln x2 x3 w4 w5 x6 σ = some o) : GZ K 0 230 [some (.ref (kad K 0)), some (.ref b), some (.int x2), some (.int x3), some (.ref r4), some (.ref r5), some (.int x6), none, none, none, none, none, none, none, none] [] V σ := by
  unfold fL_bergs_b230 at h
  refine z_iinc C.c (i := 6) (y := (1 : Int32)) (L' := [some (.ref (kad K 0)), some (.ref b), some (.int x2), some (.int x3), some (.ref r4), some (.ref r5), some (.int (x6 + (1 : Int32))), none, none, none, none, none, none, none, none]) dL_bergs_230 rfl (by decide) (Nat.le_of_ble_eq_true rfl) rfl ?_
  refine z_goto C.c (tgt := 9) dL_bergs_233 (by decide) ?_
  have g9 := hI _ (Option.some.inj h).symm
  exact z_mask [true, true, true, true, true, true, true, false, false, false, false, false, false, false, false] rfl (z_drop hp g9)
set_option maxRecDepth 8000 in
theorem bL_bergs_b127 {K : KT} {x2 : Int32} {x3 : Int32} {w4 : Nat} {w5 : Nat} {x6 : Int32} {x8 : Int32} {x9 : Int32} {x10 : Int32} {x11 : Int32} {x12 : Int32} {y0 : Int32} {r4 : Nat} {r5 : Nat} {σ : LwS} {o : (Int32 × LwS) ⊕ (((LwS) ⊕ ((LwS) ⊕ (LwS))))} {V Vc : Wl} {b Ln : Nat} {xs : Nat → Int32} (C : CZ K cL_bergs RL 15 4 0 (some .boolean) b Ln xs) (hp : Pf Vc V) (hw4 : V[w4]? = some (r4, 63)) (hw5 : V[w5]? = some (r5, 26)) (hI : ∀ s' : Int32 × LwS, o = .inl s' → GZ K 0 9 [some (.ref (kad K 0)), some (.ref b), some (.int x2), some (.int x3), some (.ref r4), some (.ref r5), some (.int s'.1), none, none, none, none, none, none, none, none] [] Vc s'.2) (hE0 : ∀ t : LwS, o = .inr (.inl t) → GZ K 0 164 [none, none, none, none, none, none, none, none, none, none, none, none, none, none, none] [] Vc t) (hE1 : ∀ t : LwS, o = .inr (.inr (.inl t)) → GZ K 0 176 [none, none, none, none, none, none, none, none, none, none, none, none, none, none, none] [] Vc t) (hE2 : ∀ t : LwS, o = .inr (.inr (.inr t)) → GZ K 0 236 [none, none, none, none, none, none, none, none, none, none, none, none, none, none, none] [] Vc t) (h : fL_bergs_b127 xs Ln x2 x3 w4 w5 x6 x8 x9 x10 x11 x12 y0 σ = some o) : GZ K 0 127 [some (.ref (kad K 0)), some (.ref b), some (.int x2), some (.int x3), some (.ref r4), some (.ref r5), some (.int x6), none, some (.int x8), some (.int x9), some (.int x10), some (.int x11), some (.int x12), none, none] [.int y0] V σ := by
  unfold fL_bergs_b127 at h
  refine z_istore C.c (i := 13) (L' := [some (.ref (kad K 0)), some (.ref b), some (.int x2), some (.int x3), some (.ref r4), some (.ref r5), some (.int x6), none, some (.int x8), some (.int x9), some (.int x10), some (.int x11), some (.int x12), some (.int y0), none]) dL_bergs_127 (Nat.le_of_ble_eq_true rfl) rfl ?_
  refine z_aload_n C.c dL_bergs_129 rfl (i := 0) rfl ?_
  refine z_iload C.c dL_bergs_130 (i := 9) rfl ?_
  refine z_iload C.c dL_bergs_132 (i := 10) rfl ?_
  refine z_iload C.c dL_bergs_134 (i := 11) rfl ?_
  refine z_iload C.c dL_bergs_136 (i := 12) rfl ?_
  refine z_iload C.c dL_bergs_138 (i := 13) rfl ?_
  obtain ⟨p13, e14, h⟩ := Option.bind_eq_some_iff.mp h
  refine kz_24 C dL_bergs_140 e14 (Nat.le_of_ble_eq_true rfl) rfl (Nat.le_of_ble_eq_true rfl) ?_
  refine z_istore C.c (i := 14) (L' := [some (.ref (kad K 0)), some (.ref b), some (.int x2), some (.int x3), some (.ref r4), some (.ref r5), some (.int x6), none, some (.int x8), some (.int x9), some (.int x10), some (.int x11), some (.int x12), some (.int y0), some (.int p13.1)]) dL_bergs_143 (Nat.le_of_ble_eq_true rfl) rfl ?_
  refine z_aload C.c dL_bergs_145 (i := 4) rfl ?_
  refine z_iconst C.c dL_bergs_147 (v := (3 : Int32)) (by decide) ?_
  refine z_iload C.c dL_bergs_148 (i := 10) rfl ?_
  refine z_iadd C.c dL_bergs_150 ?_
  obtain ⟨c15, h⟩ := chk h
  refine z_iald C dL_bergs_151 hw4 c15 ?_
  refine z_bipush C.c dL_bergs_152 (v := (9 : Int32)) (by decide) ?_
  refine z_icmp_le C.c (tgt := 166) dL_bergs_154 (by decide) (fun c => ?_) (fun c => ?_)
  · replace h := ite_t c h
    refine z_iload C.c dL_bergs_166 (i := 14) rfl ?_
    refine z_aload C.c dL_bergs_168 (i := 5) rfl ?_
    refine z_bipush C.c dL_bergs_170 (v := (25 : Int32)) (by decide) ?_
    refine z_iald C dL_bergs_172 hw5 (by decide) ?_
    refine z_icmp_eq C.c (tgt := 178) dL_bergs_173 (by decide) (fun c => ?_) (fun c => ?_)
    · replace h := ite_t c h
      refine z_aload C.c dL_bergs_178 (i := 5) rfl ?_
      refine z_iload C.c dL_bergs_180 (i := 8) rfl ?_
      refine z_iload C.c dL_bergs_182 (i := 9) rfl ?_
      obtain ⟨c16, h⟩ := chk h
      refine z_iast C dL_bergs_184 hw5 c16 ?_
      refine z_aload C.c dL_bergs_185 (i := 5) rfl ?_
      refine z_iload C.c dL_bergs_187 (i := 8) rfl ?_
      refine z_iconst C.c dL_bergs_189 (v := (1 : Int32)) (by decide) ?_
      refine z_iadd C.c dL_bergs_190 ?_
      refine z_iload C.c dL_bergs_191 (i := 10) rfl ?_
      obtain ⟨c17, h⟩ := chk h
      refine z_iast C dL_bergs_193 hw5 c17 ?_
      refine z_aload C.c dL_bergs_194 (i := 5) rfl ?_
      refine z_iload C.c dL_bergs_196 (i := 8) rfl ?_
      refine z_iconst C.c dL_bergs_198 (v := (2 : Int32)) (by decide) ?_
      refine z_iadd C.c dL_bergs_199 ?_
      refine z_iload C.c dL_bergs_200 (i := 11) rfl ?_
      obtain ⟨c18, h⟩ := chk h
      refine z_iast C dL_bergs_202 hw5 c18 ?_
      refine z_aload C.c dL_bergs_203 (i := 5) rfl ?_
      refine z_iload C.c dL_bergs_205 (i := 8) rfl ?_
      refine z_iconst C.c dL_bergs_207 (v := (3 : Int32)) (by decide) ?_
      refine z_iadd C.c dL_bergs_208 ?_
      refine z_iload C.c dL_bergs_209 (i := 12) rfl ?_
      obtain ⟨c19, h⟩ := chk h
      refine z_iast C dL_bergs_211 hw5 c19 ?_
      refine z_aload C.c dL_bergs_212 (i := 5) rfl ?_
      refine z_iload C.c dL_bergs_214 (i := 8) rfl ?_
      refine z_iconst C.c dL_bergs_216 (v := (4 : Int32)) (by decide) ?_
      refine z_iadd C.c dL_bergs_217 ?_
      refine z_iload C.c dL_bergs_218 (i := 13) rfl ?_
      obtain ⟨c20, h⟩ := chk h
      refine z_iast C dL_bergs_220 hw5 c20 ?_
      refine z_aload C.c dL_bergs_221 (i := 5) rfl ?_
      refine z_bipush C.c dL_bergs_223 (v := (25 : Int32)) (by decide) ?_
      refine z_dup2 C.c dL_bergs_225 rfl rfl ?_
      refine z_iald C dL_bergs_226 hw5 (by decide) ?_
      refine z_iconst C.c dL_bergs_227 (v := (1 : Int32)) (by decide) ?_
      refine z_iadd C.c dL_bergs_228 ?_
      refine z_iast C dL_bergs_229 hw5 (by decide) ?_
      exact z_mask [true, true, true, true, true, true, true, false, false, false, false, false, false, false, false] rfl (bL_bergs_b230 C hp hw4 hw5 hI hE0 hE1 hE2 h)
    · replace h := ite_f c h
      have g9 := hE1 _ (Option.some.inj h).symm
      exact z_mask [false, false, false, false, false, false, false, false, false, false, false, false, false, false, false] rfl (z_drop hp g9)
  · replace h := ite_f c h
    refine z_iload C.c dL_bergs_157 (i := 14) rfl ?_
    refine z_bipush C.c dL_bergs_159 (v := (-101 : Int32)) (by decide) ?_
    refine z_icmp_eq C.c (tgt := 230) dL_bergs_161 (by decide) (fun c => ?_) (fun c => ?_)
    · replace h := ite_t c h
      exact z_mask [true, true, true, true, true, true, true, false, false, false, false, false, false, false, false] rfl (bL_bergs_b230 C hp hw4 hw5 hI hE0 hE1 hE2 h)
    · replace h := ite_f c h
      have g9 := hE0 _ (Option.some.inj h).symm
      exact z_mask [false, false, false, false, false, false, false, false, false, false, false, false, false, false, false] rfl (z_drop hp g9)
set_option maxRecDepth 8000 in
theorem bL_bergs_b87 {K : KT} {x2 : Int32} {x3 : Int32} {w4 : Nat} {w5 : Nat} {x6 : Int32} {x7 : Int32} {x8 : Int32} {x9 : Int32} {x10 : Int32} {y0 : Int32} {y1 : Int32} {y2 : Int32} {r4 : Nat} {r5 : Nat} {σ : LwS} {o : (Int32 × LwS) ⊕ (((LwS) ⊕ ((LwS) ⊕ (LwS))))} {V Vc : Wl} {b Ln : Nat} {xs : Nat → Int32} (C : CZ K cL_bergs RL 15 4 0 (some .boolean) b Ln xs) (hp : Pf Vc V) (hw4 : V[w4]? = some (r4, 63)) (hw5 : V[w5]? = some (r5, 26)) (hI : ∀ s' : Int32 × LwS, o = .inl s' → GZ K 0 9 [some (.ref (kad K 0)), some (.ref b), some (.int x2), some (.int x3), some (.ref r4), some (.ref r5), some (.int s'.1), none, none, none, none, none, none, none, none] [] Vc s'.2) (hE0 : ∀ t : LwS, o = .inr (.inl t) → GZ K 0 164 [none, none, none, none, none, none, none, none, none, none, none, none, none, none, none] [] Vc t) (hE1 : ∀ t : LwS, o = .inr (.inr (.inl t)) → GZ K 0 176 [none, none, none, none, none, none, none, none, none, none, none, none, none, none, none] [] Vc t) (hE2 : ∀ t : LwS, o = .inr (.inr (.inr t)) → GZ K 0 236 [none, none, none, none, none, none, none, none, none, none, none, none, none, none, none] [] Vc t) (h : fL_bergs_b87 xs Ln x2 x3 w4 w5 x6 x7 x8 x9 x10 y0 y1 y2 σ = some o) : GZ K 0 87 [some (.ref (kad K 0)), some (.ref b), some (.int x2), some (.int x3), some (.ref r4), some (.ref r5), some (.int x6), some (.int x7), some (.int x8), some (.int x9), some (.int x10), none, none, none, none] [.int y0, .int y1, .int y2] V σ := by
  unfold fL_bergs_b87 at h
  obtain ⟨p9, e10, h⟩ := Option.bind_eq_some_iff.mp h
  refine kz_14 C dL_bergs_87 e10 (Nat.le_of_ble_eq_true rfl) rfl (Nat.le_of_ble_eq_true rfl) ?_
  refine z_iadd C.c dL_bergs_90 ?_
  refine z_istore C.c (i := 11) (L' := [some (.ref (kad K 0)), some (.ref b), some (.int x2), some (.int x3), some (.ref r4), some (.ref r5), some (.int x6), some (.int x7), some (.int x8), some (.int x9), some (.int x10), some (.int (y2 + p9.1)), none, none, none]) dL_bergs_91 (Nat.le_of_ble_eq_true rfl) rfl ?_
  refine z_iload C.c dL_bergs_93 (i := 7) rfl ?_
  refine z_bipush C.c dL_bergs_95 (v := (18 : Int32)) (by decide) ?_
  refine z_ishr C.c dL_bergs_97 ?_
  refine z_bipush C.c dL_bergs_98 (v := (100 : Int32)) (by decide) ?_
  obtain ⟨p11, e12, h⟩ := Option.bind_eq_some_iff.mp h
  refine kz_14 C dL_bergs_100 e12 (Nat.le_of_ble_eq_true rfl) rfl (Nat.le_of_ble_eq_true rfl) ?_
  refine z_istore C.c (i := 12) (L' := [some (.ref (kad K 0)), some (.ref b), some (.int x2), some (.int x3), some (.ref r4), some (.ref r5), some (.int x6), some (.int x7), some (.int x8), some (.int x9), some (.int x10), some (.int (y2 + p9.1)), some (.int p11.1), none, none]) dL_bergs_103 (Nat.le_of_ble_eq_true rfl) rfl ?_
  refine z_iload C.c dL_bergs_105 (i := 9) rfl ?_
  refine z_iconst C.c dL_bergs_107 (v := (2 : Int32)) (by decide) ?_
  refine z_icmp_ne C.c (tgt := 126) dL_bergs_108 (by decide) (fun c => ?_) (fun c => ?_)
  · replace h := ite_f c h
    refine z_iconst C.c dL_bergs_126 (v := (0 : Int32)) (by decide) ?_
    exact z_mask [true, true, true, true, true, true, true, false, true, true, true, true, true, false, false] rfl (bL_bergs_b127 C hp hw4 hw5 hI hE0 hE1 hE2 h)
  · replace h := ite_t c h
    refine z_iconst C.c dL_bergs_111 (v := (2 : Int32)) (by decide) ?_
    refine z_iload C.c dL_bergs_112 (i := 7) rfl ?_
    refine z_bipush C.c dL_bergs_114 (v := (25 : Int32)) (by decide) ?_
    refine z_ishr C.c dL_bergs_116 ?_
    refine z_bipush C.c dL_bergs_117 (v := (8 : Int32)) (by decide) ?_
    obtain ⟨p21, e22, h⟩ := Option.bind_eq_some_iff.mp h
    refine kz_14 C dL_bergs_119 e22 (Nat.le_of_ble_eq_true rfl) rfl (Nat.le_of_ble_eq_true rfl) ?_
    refine z_iadd C.c dL_bergs_122 ?_
    refine z_goto C.c (tgt := 127) dL_bergs_123 (by decide) ?_
    exact z_mask [true, true, true, true, true, true, true, false, true, true, true, true, true, false, false] rfl (bL_bergs_b127 C hp hw4 hw5 hI hE0 hE1 hE2 h)
set_option maxRecDepth 8000 in
theorem bL_bergs_b9 {K : KT} {x2 : Int32} {x3 : Int32} {w4 : Nat} {w5 : Nat} {x6 : Int32} {r4 : Nat} {r5 : Nat} {σ : LwS} {o : (Int32 × LwS) ⊕ (((LwS) ⊕ ((LwS) ⊕ (LwS))))} {V Vc : Wl} {b Ln : Nat} {xs : Nat → Int32} (C : CZ K cL_bergs RL 15 4 0 (some .boolean) b Ln xs) (hp : Pf Vc V) (hw4 : V[w4]? = some (r4, 63)) (hw5 : V[w5]? = some (r5, 26)) (hI : ∀ s' : Int32 × LwS, o = .inl s' → GZ K 0 9 [some (.ref (kad K 0)), some (.ref b), some (.int x2), some (.int x3), some (.ref r4), some (.ref r5), some (.int s'.1), none, none, none, none, none, none, none, none] [] Vc s'.2) (hE0 : ∀ t : LwS, o = .inr (.inl t) → GZ K 0 164 [none, none, none, none, none, none, none, none, none, none, none, none, none, none, none] [] Vc t) (hE1 : ∀ t : LwS, o = .inr (.inr (.inl t)) → GZ K 0 176 [none, none, none, none, none, none, none, none, none, none, none, none, none, none, none] [] Vc t) (hE2 : ∀ t : LwS, o = .inr (.inr (.inr t)) → GZ K 0 236 [none, none, none, none, none, none, none, none, none, none, none, none, none, none, none] [] Vc t) (h : fL_bergs_b9 xs Ln x2 x3 w4 w5 x6 σ = some o) : GZ K 0 9 [some (.ref (kad K 0)), some (.ref b), some (.int x2), some (.int x3), some (.ref r4), some (.ref r5), some (.int x6), none, none, none, none, none, none, none, none] [] V σ := by
  unfold fL_bergs_b9 at h
  refine z_iload C.c dL_bergs_9 (i := 6) rfl ?_
  refine z_iload_n C.c dL_bergs_11 rfl (i := 3) rfl ?_
  refine z_icmp_ge C.c (tgt := 236) dL_bergs_12 (by decide) (fun c => ?_) (fun c => ?_)
  · replace h := ite_t c h
    have g9 := hE2 _ (Option.some.inj h).symm
    exact z_mask [false, false, false, false, false, false, false, false, false, false, false, false, false, false, false] rfl (z_drop hp g9)
  · replace h := ite_f c h
    refine z_aload_n C.c dL_bergs_15 rfl (i := 1) rfl ?_
    refine z_iload_n C.c dL_bergs_16 rfl (i := 2) rfl ?_
    refine z_iload C.c dL_bergs_17 (i := 6) rfl ?_
    refine z_iadd C.c dL_bergs_19 ?_
    obtain ⟨p1, e2, h⟩ := Option.bind_eq_some_iff.mp h
    refine kz_8 C dL_bergs_20 e2 (Nat.le_of_ble_eq_true rfl) rfl (Nat.le_of_ble_eq_true rfl) ?_
    refine z_istore C.c (i := 7) (L' := [some (.ref (kad K 0)), some (.ref b), some (.int x2), some (.int x3), some (.ref r4), some (.ref r5), some (.int x6), some (.int p1.1), none, none, none, none, none, none, none]) dL_bergs_23 (Nat.le_of_ble_eq_true rfl) rfl ?_
    refine z_iconst C.c dL_bergs_25 (v := (5 : Int32)) (by decide) ?_
    refine z_aload C.c dL_bergs_26 (i := 5) rfl ?_
    refine z_bipush C.c dL_bergs_28 (v := (25 : Int32)) (by decide) ?_
    refine z_iald C dL_bergs_30 hw5 (by decide) ?_
    refine z_imul C.c dL_bergs_31 ?_
    refine z_istore C.c (i := 8) (L' := [some (.ref (kad K 0)), some (.ref b), some (.int x2), some (.int x3), some (.ref r4), some (.ref r5), some (.int x6), some (.int p1.1), some (.int ((5 : Int32) * (rT (uT σ p1.2 0) w5 ((25 : Int32)).toNatClampNeg))), none, none, none, none, none, none]) dL_bergs_32 (Nat.le_of_ble_eq_true rfl) rfl ?_
    refine z_iload C.c dL_bergs_34 (i := 7) rfl ?_
    refine z_iconst C.c dL_bergs_36 (v := (5 : Int32)) (by decide) ?_
    obtain ⟨p3, e4, h⟩ := Option.bind_eq_some_iff.mp h
    refine kz_14 C dL_bergs_37 e4 (Nat.le_of_ble_eq_true rfl) rfl (Nat.le_of_ble_eq_true rfl) ?_
    refine z_istore C.c (i := 9) (L' := [some (.ref (kad K 0)), some (.ref b), some (.int x2), some (.int x3), some (.ref r4), some (.ref r5), some (.int x6), some (.int p1.1), some (.int ((5 : Int32) * (rT (uT σ p1.2 0) w5 ((25 : Int32)).toNatClampNeg))), some (.int p3.1), none, none, none, none, none]) dL_bergs_40 (Nat.le_of_ble_eq_true rfl) rfl ?_
    refine z_iload C.c dL_bergs_42 (i := 7) rfl ?_
    refine z_iconst C.c dL_bergs_44 (v := (3 : Int32)) (by decide) ?_
    refine z_ishr C.c dL_bergs_45 ?_
    refine z_aload C.c dL_bergs_46 (i := 4) rfl ?_
    refine z_iconst C.c dL_bergs_48 (v := (0 : Int32)) (by decide) ?_
    refine z_iald C dL_bergs_49 hw4 (by decide) ?_
    refine z_aload C.c dL_bergs_50 (i := 4) rfl ?_
    refine z_iconst C.c dL_bergs_52 (v := (1 : Int32)) (by decide) ?_
    refine z_iald C dL_bergs_53 hw4 (by decide) ?_
    refine z_imul C.c dL_bergs_54 ?_
    obtain ⟨p5, e6, h⟩ := Option.bind_eq_some_iff.mp h
    refine kz_14 C dL_bergs_55 e6 (Nat.le_of_ble_eq_true rfl) rfl (Nat.le_of_ble_eq_true rfl) ?_
    refine z_istore C.c (i := 10) (L' := [some (.ref (kad K 0)), some (.ref b), some (.int x2), some (.int x3), some (.ref r4), some (.ref r5), some (.int x6), some (.int p1.1), some (.int ((5 : Int32) * (rT (uT σ p1.2 0) w5 ((25 : Int32)).toNatClampNeg))), some (.int p3.1), some (.int p5.1), none, none, none, none]) dL_bergs_58 (Nat.le_of_ble_eq_true rfl) rfl ?_
    refine z_bipush C.c dL_bergs_60 (v := (10 : Int32)) (by decide) ?_
    refine z_iload C.c dL_bergs_62 (i := 7) rfl ?_
    refine z_bipush C.c dL_bergs_64 (v := (8 : Int32)) (by decide) ?_
    refine z_ishr C.c dL_bergs_66 ?_
    refine z_iload C.c dL_bergs_67 (i := 7) rfl ?_
    refine z_bipush C.c dL_bergs_69 (v := (24 : Int32)) (by decide) ?_
    refine z_ishr C.c dL_bergs_71 ?_
    refine z_iconst C.c dL_bergs_72 (v := (2 : Int32)) (by decide) ?_
    obtain ⟨p7, e8, h⟩ := Option.bind_eq_some_iff.mp h
    refine kz_14 C dL_bergs_73 e8 (Nat.le_of_ble_eq_true rfl) rfl (Nat.le_of_ble_eq_true rfl) ?_
    refine z_if_ne C.c (tgt := 85) dL_bergs_76 (by decide) (fun c => ?_) (fun c => ?_)
    · replace h := ite_f c h
      refine z_bipush C.c dL_bergs_85 (v := (90 : Int32)) (by decide) ?_
      exact z_mask [true, true, true, true, true, true, true, true, true, true, true, false, false, false, false] rfl (bL_bergs_b87 C hp hw4 hw5 hI hE0 hE1 hE2 h)
    · replace h := ite_t c h
      refine z_sipush C.c dL_bergs_79 (v := (990 : Int32)) (by decide) ?_
      refine z_goto C.c (tgt := 87) dL_bergs_82 (by decide) ?_
      exact z_mask [true, true, true, true, true, true, true, true, true, true, true, false, false, false, false] rfl (bL_bergs_b87 C hp hw4 hw5 hI hE0 hE1 hE2 h)
set_option maxRecDepth 8000 in
theorem bL_bergs_b0 {K : KT} {x2 : Int32} {x3 : Int32} {w4 : Nat} {w5 : Nat} {r4 : Nat} {r5 : Nat} {σ : LwS} {o : Int32 × LwS} {V Vc : Wl} {b Ln : Nat} {xs : Nat → Int32} (C : CZ K cL_bergs RL 15 4 0 (some .boolean) b Ln xs) (hp : Pf Vc V) (hw4 : V[w4]? = some (r4, 63)) (hw5 : V[w5]? = some (r5, 26)) (hQ : RZ K Vc 0 (ozI o)) (h : fL_bergs_b0 xs Ln x2 x3 w4 w5 σ = some o) : GZ K 0 0 [some (.ref (kad K 0)), some (.ref b), some (.int x2), some (.int x3), some (.ref r4), some (.ref r5), none, none, none, none, none, none, none, none, none] [] V σ := by
  unfold fL_bergs_b0 at h
  refine z_aload C.c dL_bergs_0 (i := 5) rfl ?_
  refine z_bipush C.c dL_bergs_2 (v := (25 : Int32)) (by decide) ?_
  refine z_iconst C.c dL_bergs_4 (v := (0 : Int32)) (by decide) ?_
  refine z_iast C dL_bergs_5 hw5 (by decide) ?_
  refine z_iconst C.c dL_bergs_6 (v := (0 : Int32)) (by decide) ?_
  refine z_istore C.c (i := 6) (L' := [some (.ref (kad K 0)), some (.ref b), some (.int x2), some (.int x3), some (.ref r4), some (.ref r5), some (.int (0 : Int32)), none, none, none, none, none, none, none, none]) dL_bergs_7 (Nat.le_of_ble_eq_true rfl) rfl ?_
  refine z_mask [true, true, true, true, true, true, true, false, false, false, false, false, false, false, false] rfl ?_
  refine lp_bind (Gh := fun s => GZ K 0 9 [some (.ref (kad K 0)), some (.ref b), some (.int x2), some (.int x3), some (.ref r4), some (.ref r5), some (.int s.1), none, none, none, none, none, none, none, none] [] V s.2) h (fun s o2 hf gI gE => ?_)
  refine bL_bergs_b9 C Pf.rf hw4 hw5 gI (fun t23 e => ?_) (fun t23 e => ?_) (fun t23 e => ?_) hf
  · have h := el_l (gE _ e)
    refine z_iconst C.c dL_bergs_164 (v := (0 : Int32)) (by decide) ?_
    obtain rfl := Option.some.inj h
    exact z_iret C hp hQ dL_bergs_165 rfl ⟨rfl, rfl⟩
  · have h := el_l (el_r (gE _ e))
    refine z_iconst C.c dL_bergs_176 (v := (0 : Int32)) (by decide) ?_
    obtain rfl := Option.some.inj h
    exact z_iret C hp hQ dL_bergs_177 rfl ⟨rfl, rfl⟩
  · have h := el_r (el_r (gE _ e))
    refine z_iconst C.c dL_bergs_236 (v := (1 : Int32)) (by decide) ?_
    obtain rfl := Option.some.inj h
    exact z_iret C hp hQ dL_bergs_237 rfl ⟨rfl, rfl⟩
def fL_bergs (xs : Nat → Int32) (Ln : Nat) (a2 : Int32) (a3 : Int32) (q4 : Nat) (q5 : Nat) (σ : LwS) : Option (Int32 × LwS) := fL_bergs_b0 xs Ln a2 a3 q4 q5 σ
theorem ct_L_bergs {a2 : Int32} {a3 : Int32} {q4 : Nat} {q5 : Nat} {r4 : Nat} {r5 : Nat} {V : Wl} {b Ln : Nat} {xs : Nat → Int32} {σ : LwS} {p : Int32 × LwS} (hq4 : V[q4]? = some (r4, 63)) (hq5 : V[q5]? = some (r5, 26)) (hs : σ.2.2 = 0) (h : fL_bergs xs Ln a2 a3 q4 q5 σ = some p) : CtZ V yL_bergs cL_bergs 15 (some .boolean) 4 0 b Ln xs (fun ad => [.ref (ad 0), .ref b, .int a2, .int a3, .ref r4, .ref r5]) σ (ozI p) :=
 ctz_of (L0 := fun ad => [some (.ref (ad 0)), some (.ref b), some (.int a2), some (.int a3), some (.ref r4), some (.ref r5), none, none, none, none, none, none, none, none, none]) (by decide) hs (fun _ => Nat.le_of_ble_eq_true rfl) (fun _ => rfl) (fun K C hQ => z_mask [true, true, true, true, true, true, false, false, false, false, false, false, false, false, false] rfl (bL_bergs_b0 C Pf.rf hq4 hq5 hQ h))
-- L_best
theorem dL_best_0 : decode cL_best 0 = .ok (.aload_n 0, 1) := by decide +kernel
theorem dL_best_1 : decode cL_best 1 = .ok (.aload_n 1, 1) := by decide +kernel
theorem dL_best_2 : decode cL_best 2 = .ok (.iload_n 2, 1) := by decide +kernel
theorem dL_best_3 : decode cL_best 3 = .ok (.iconst 1, 1) := by decide +kernel
theorem dL_best_4 : decode cL_best 4 = .ok (.iadd, 1) := by decide +kernel
theorem dL_best_5 : decode cL_best 5 = .ok (.iaload, 1) := by decide +kernel
theorem dL_best_6 : decode cL_best 6 = .ok (.invokestatic 32, 3) := by decide +kernel
theorem dL_best_9 : decode cL_best 9 = .ok (.istore 7, 2) := by decide +kernel
theorem dL_best_11 : decode cL_best 11 = .ok (.iconst 3, 1) := by decide +kernel
theorem dL_best_12 : decode cL_best 12 = .ok (.newarray .int, 2) := by decide +kernel
theorem dL_best_14 : decode cL_best 14 = .ok (.astore 8, 2) := by decide +kernel
theorem dL_best_16 : decode cL_best 16 = .ok (.aload 6, 2) := by decide +kernel
theorem dL_best_18 : decode cL_best 18 = .ok (.iconst 3, 1) := by decide +kernel
theorem dL_best_19 : decode cL_best 19 = .ok (.iload 7, 2) := by decide +kernel
theorem dL_best_21 : decode cL_best 21 = .ok (.iastore, 1) := by decide +kernel
theorem dL_best_22 : decode cL_best 22 = .ok (.aload 6, 2) := by decide +kernel
theorem dL_best_24 : decode cL_best 24 = .ok (.iconst 5, 1) := by decide +kernel
theorem dL_best_25 : decode cL_best 25 = .ok (.iconst 0, 1) := by decide +kernel
theorem dL_best_26 : decode cL_best 26 = .ok (.iastore, 1) := by decide +kernel
theorem dL_best_27 : decode cL_best 27 = .ok (.aload_n 1, 1) := by decide +kernel
theorem dL_best_28 : decode cL_best 28 = .ok (.iload_n 2, 1) := by decide +kernel
theorem dL_best_29 : decode cL_best 29 = .ok (.iconst 1, 1) := by decide +kernel
theorem dL_best_30 : decode cL_best 30 = .ok (.iadd, 1) := by decide +kernel
theorem dL_best_31 : decode cL_best 31 = .ok (.iaload, 1) := by decide +kernel
theorem dL_best_32 : decode cL_best 32 = .ok (.aload_n 0, 1) := by decide +kernel
theorem dL_best_33 : decode cL_best 33 = .ok (.iconst 1, 1) := by decide +kernel
theorem dL_best_34 : decode cL_best 34 = .ok (.iaload, 1) := by decide +kernel
theorem dL_best_35 : decode cL_best 35 = .ok (.idiv, 1) := by decide +kernel
theorem dL_best_36 : decode cL_best 36 = .ok (.aload_n 0, 1) := by decide +kernel
theorem dL_best_37 : decode cL_best 37 = .ok (.iconst 2, 1) := by decide +kernel
theorem dL_best_38 : decode cL_best 38 = .ok (.iaload, 1) := by decide +kernel
theorem dL_best_39 : decode cL_best 39 = .ok (.aload_n 0, 1) := by decide +kernel
theorem dL_best_40 : decode cL_best 40 = .ok (.iconst 1, 1) := by decide +kernel
theorem dL_best_41 : decode cL_best 41 = .ok (.iaload, 1) := by decide +kernel
theorem dL_best_42 : decode cL_best 42 = .ok (.idiv, 1) := by decide +kernel
theorem dL_best_43 : decode cL_best 43 = .ok (.if_icmp .le 7, 3) := by decide +kernel
theorem dL_best_46 : decode cL_best 46 = .ok (.iconst 0, 1) := by decide +kernel
theorem dL_best_47 : decode cL_best 47 = .ok (.goto 4, 3) := by decide +kernel
theorem dL_best_50 : decode cL_best 50 = .ok (.iconst 2, 1) := by decide +kernel
theorem dL_best_51 : decode cL_best 51 = .ok (.istore 9, 2) := by decide +kernel
theorem dL_best_53 : decode cL_best 53 = .ok (.aload_n 1, 1) := by decide +kernel
theorem dL_best_54 : decode cL_best 54 = .ok (.iload_n 2, 1) := by decide +kernel
theorem dL_best_55 : decode cL_best 55 = .ok (.iconst 1, 1) := by decide +kernel
theorem dL_best_56 : decode cL_best 56 = .ok (.iadd, 1) := by decide +kernel
theorem dL_best_57 : decode cL_best 57 = .ok (.iaload, 1) := by decide +kernel
theorem dL_best_58 : decode cL_best 58 = .ok (.aload_n 0, 1) := by decide +kernel
theorem dL_best_59 : decode cL_best 59 = .ok (.iconst 1, 1) := by decide +kernel
theorem dL_best_60 : decode cL_best 60 = .ok (.iaload, 1) := by decide +kernel
theorem dL_best_61 : decode cL_best 61 = .ok (.irem, 1) := by decide +kernel
theorem dL_best_62 : decode cL_best 62 = .ok (.aload_n 0, 1) := by decide +kernel
theorem dL_best_63 : decode cL_best 63 = .ok (.iconst 2, 1) := by decide +kernel
theorem dL_best_64 : decode cL_best 64 = .ok (.iaload, 1) := by decide +kernel
theorem dL_best_65 : decode cL_best 65 = .ok (.aload_n 0, 1) := by decide +kernel
theorem dL_best_66 : decode cL_best 66 = .ok (.iconst 1, 1) := by decide +kernel
theorem dL_best_67 : decode cL_best 67 = .ok (.iaload, 1) := by decide +kernel
theorem dL_best_68 : decode cL_best 68 = .ok (.irem, 1) := by decide +kernel
theorem dL_best_69 : decode cL_best 69 = .ok (.if_icmp .le 7, 3) := by decide +kernel
theorem dL_best_72 : decode cL_best 72 = .ok (.iconst 3, 1) := by decide +kernel
theorem dL_best_73 : decode cL_best 73 = .ok (.goto 4, 3) := by decide +kernel
theorem dL_best_76 : decode cL_best 76 = .ok (.iconst 1, 1) := by decide +kernel
theorem dL_best_77 : decode cL_best 77 = .ok (.istore 10, 2) := by decide +kernel
theorem dL_best_79 : decode cL_best 79 = .ok (.iconst 0, 1) := by decide +kernel
theorem dL_best_80 : decode cL_best 80 = .ok (.istore 11, 2) := by decide +kernel
theorem dL_best_82 : decode cL_best 82 = .ok (.iload 11, 2) := by decide +kernel
theorem dL_best_84 : decode cL_best 84 = .ok (.iconst 1, 1) := by decide +kernel
theorem dL_best_85 : decode cL_best 85 = .ok (.iload 7, 2) := by decide +kernel
theorem dL_best_87 : decode cL_best 87 = .ok (.ishl, 1) := by decide +kernel
theorem dL_best_88 : decode cL_best 88 = .ok (.if_icmp .ge 219, 3) := by decide +kernel
theorem dL_best_91 : decode cL_best 91 = .ok (.iconst 0, 1) := by decide +kernel
theorem dL_best_92 : decode cL_best 92 = .ok (.istore 12, 2) := by decide +kernel
theorem dL_best_94 : decode cL_best 94 = .ok (.iload 9, 2) := by decide +kernel
theorem dL_best_96 : decode cL_best 96 = .ok (.iload 10, 2) := by decide +kernel
theorem dL_best_98 : decode cL_best 98 = .ok (.if_icmp .ge 8, 3) := by decide +kernel
theorem dL_best_101 : decode cL_best 101 = .ok (.iload 9, 2) := by decide +kernel
theorem dL_best_103 : decode cL_best 103 = .ok (.goto 5, 3) := by decide +kernel
theorem dL_best_106 : decode cL_best 106 = .ok (.iload 10, 2) := by decide +kernel
theorem dL_best_108 : decode cL_best 108 = .ok (.istore 13, 2) := by decide +kernel
theorem dL_best_110 : decode cL_best 110 = .ok (.iload 9, 2) := by decide +kernel
theorem dL_best_112 : decode cL_best 112 = .ok (.iload 10, 2) := by decide +kernel
theorem dL_best_114 : decode cL_best 114 = .ok (.if_icmp .ge 8, 3) := by decide +kernel
theorem dL_best_117 : decode cL_best 117 = .ok (.iload 10, 2) := by decide +kernel
theorem dL_best_119 : decode cL_best 119 = .ok (.goto 5, 3) := by decide +kernel
theorem dL_best_122 : decode cL_best 122 = .ok (.iload 9, 2) := by decide +kernel
theorem dL_best_124 : decode cL_best 124 = .ok (.istore 14, 2) := by decide +kernel
theorem dL_best_126 : decode cL_best 126 = .ok (.iload 7, 2) := by decide +kernel
theorem dL_best_128 : decode cL_best 128 = .ok (.iconst 1, 1) := by decide +kernel
theorem dL_best_129 : decode cL_best 129 = .ok (.isub, 1) := by decide +kernel
theorem dL_best_130 : decode cL_best 130 = .ok (.istore 15, 2) := by decide +kernel
theorem dL_best_132 : decode cL_best 132 = .ok (.iload 15, 2) := by decide +kernel
theorem dL_best_134 : decode cL_best 134 = .ok (.ifCond .lt 33, 3) := by decide +kernel
theorem dL_best_137 : decode cL_best 137 = .ok (.iconst 4, 1) := by decide +kernel
theorem dL_best_138 : decode cL_best 138 = .ok (.iload 12, 2) := by decide +kernel
theorem dL_best_140 : decode cL_best 140 = .ok (.imul, 1) := by decide +kernel
theorem dL_best_141 : decode cL_best 141 = .ok (.iload 11, 2) := by decide +kernel
theorem dL_best_143 : decode cL_best 143 = .ok (.iload 15, 2) := by decide +kernel
theorem dL_best_145 : decode cL_best 145 = .ok (.ishr, 1) := by decide +kernel
theorem dL_best_146 : decode cL_best 146 = .ok (.iconst 1, 1) := by decide +kernel
theorem dL_best_147 : decode cL_best 147 = .ok (.iand, 1) := by decide +kernel
theorem dL_best_148 : decode cL_best 148 = .ok (.ifCond .ne 8, 3) := by decide +kernel
theorem dL_best_151 : decode cL_best 151 = .ok (.iload 13, 2) := by decide +kernel
theorem dL_best_153 : decode cL_best 153 = .ok (.goto 5, 3) := by decide +kernel
theorem dL_best_156 : decode cL_best 156 = .ok (.iload 14, 2) := by decide +kernel
theorem dL_best_158 : decode cL_best 158 = .ok (.iadd, 1) := by decide +kernel
theorem dL_best_159 : decode cL_best 159 = .ok (.istore 12, 2) := by decide +kernel
theorem dL_best_161 : decode cL_best 161 = .ok (.iinc 15 (-1), 3) := by decide +kernel
theorem dL_best_164 : decode cL_best 164 = .ok (.goto (-32), 3) := by decide +kernel
theorem dL_best_167 : decode cL_best 167 = .ok (.aload_n 0, 1) := by decide +kernel
theorem dL_best_168 : decode cL_best 168 = .ok (.aload_n 1, 1) := by decide +kernel
theorem dL_best_169 : decode cL_best 169 = .ok (.iload_n 2, 1) := by decide +kernel
theorem dL_best_170 : decode cL_best 170 = .ok (.iload_n 3, 1) := by decide +kernel
theorem dL_best_171 : decode cL_best 171 = .ok (.iload 4, 2) := by decide +kernel
theorem dL_best_173 : decode cL_best 173 = .ok (.iload 12, 2) := by decide +kernel
theorem dL_best_175 : decode cL_best 175 = .ok (.iload 7, 2) := by decide +kernel
theorem dL_best_177 : decode cL_best 177 = .ok (.aload 8, 2) := by decide +kernel
theorem dL_best_179 : decode cL_best 179 = .ok (.invokestatic 43, 3) := by decide +kernel
theorem dL_best_182 : decode cL_best 182 = .ok (.ifCond .ne 6, 3) := by decide +kernel
theorem dL_best_185 : decode cL_best 185 = .ok (.goto 116, 3) := by decide +kernel
theorem dL_best_188 : decode cL_best 188 = .ok (.aload 5, 2) := by decide +kernel
theorem dL_best_190 : decode cL_best 190 = .ok (.iconst 0, 1) := by decide +kernel
theorem dL_best_191 : decode cL_best 191 = .ok (.iaload, 1) := by decide +kernel
theorem dL_best_192 : decode cL_best 192 = .ok (.aload 8, 2) := by decide +kernel
theorem dL_best_194 : decode cL_best 194 = .ok (.iconst 0, 1) := by decide +kernel
theorem dL_best_195 : decode cL_best 195 = .ok (.iaload, 1) := by decide +kernel
theorem dL_best_196 : decode cL_best 196 = .ok (.imul, 1) := by decide +kernel
theorem dL_best_197 : decode cL_best 197 = .ok (.aload 5, 2) := by decide +kernel
theorem dL_best_199 : decode cL_best 199 = .ok (.iconst 1, 1) := by decide +kernel
theorem dL_best_200 : decode cL_best 200 = .ok (.iaload, 1) := by decide +kernel
theorem dL_best_201 : decode cL_best 201 = .ok (.iload_n 3, 1) := by decide +kernel
theorem dL_best_202 : decode cL_best 202 = .ok (.imul, 1) := by decide +kernel
theorem dL_best_203 : decode cL_best 203 = .ok (.aload 8, 2) := by decide +kernel
theorem dL_best_205 : decode cL_best 205 = .ok (.iconst 2, 1) := by decide +kernel
theorem dL_best_206 : decode cL_best 206 = .ok (.iaload, 1) := by decide +kernel
theorem dL_best_207 : decode cL_best 207 = .ok (.imul, 1) := by decide +kernel
theorem dL_best_208 : decode cL_best 208 = .ok (.isub, 1) := by decide +kernel
theorem dL_best_209 : decode cL_best 209 = .ok (.iload 4, 2) := by decide +kernel
theorem dL_best_211 : decode cL_best 211 = .ok (.ifCond .eq 10, 3) := by decide +kernel
theorem dL_best_214 : decode cL_best 214 = .ok (.aload 5, 2) := by decide +kernel
theorem dL_best_216 : decode cL_best 216 = .ok (.iconst 2, 1) := by decide +kernel
theorem dL_best_217 : decode cL_best 217 = .ok (.iaload, 1) := by decide +kernel
theorem dL_best_218 : decode cL_best 218 = .ok (.goto 4, 3) := by decide +kernel
theorem dL_best_221 : decode cL_best 221 = .ok (.iconst 0, 1) := by decide +kernel
theorem dL_best_222 : decode cL_best 222 = .ok (.isub, 1) := by decide +kernel
theorem dL_best_223 : decode cL_best 223 = .ok (.istore 15, 2) := by decide +kernel
theorem dL_best_225 : decode cL_best 225 = .ok (.aload 6, 2) := by decide +kernel
theorem dL_best_227 : decode cL_best 227 = .ok (.iconst 5, 1) := by decide +kernel
theorem dL_best_228 : decode cL_best 228 = .ok (.dup2, 1) := by decide +kernel
theorem dL_best_229 : decode cL_best 229 = .ok (.iaload, 1) := by decide +kernel
theorem dL_best_230 : decode cL_best 230 = .ok (.iconst 1, 1) := by decide +kernel
theorem dL_best_231 : decode cL_best 231 = .ok (.iadd, 1) := by decide +kernel
theorem dL_best_232 : decode cL_best 232 = .ok (.iastore, 1) := by decide +kernel
theorem dL_best_233 : decode cL_best 233 = .ok (.aload 6, 2) := by decide +kernel
theorem dL_best_235 : decode cL_best 235 = .ok (.iconst 5, 1) := by decide +kernel
theorem dL_best_236 : decode cL_best 236 = .ok (.iaload, 1) := by decide +kernel
theorem dL_best_237 : decode cL_best 237 = .ok (.iconst 1, 1) := by decide +kernel
theorem dL_best_238 : decode cL_best 238 = .ok (.if_icmp .le 35, 3) := by decide +kernel
theorem dL_best_241 : decode cL_best 241 = .ok (.iload 15, 2) := by decide +kernel
theorem dL_best_243 : decode cL_best 243 = .ok (.aload 6, 2) := by decide +kernel
theorem dL_best_245 : decode cL_best 245 = .ok (.iconst 2, 1) := by decide +kernel
theorem dL_best_246 : decode cL_best 246 = .ok (.iaload, 1) := by decide +kernel
theorem dL_best_247 : decode cL_best 247 = .ok (.if_icmp .lt 54, 3) := by decide +kernel
theorem dL_best_250 : decode cL_best 250 = .ok (.iload 15, 2) := by decide +kernel
theorem dL_best_252 : decode cL_best 252 = .ok (.aload 6, 2) := by decide +kernel
theorem dL_best_254 : decode cL_best 254 = .ok (.iconst 2, 1) := by decide +kernel
theorem dL_best_255 : decode cL_best 255 = .ok (.iaload, 1) := by decide +kernel
theorem dL_best_256 : decode cL_best 256 = .ok (.if_icmp .ne 17, 3) := by decide +kernel
theorem dL_best_259 : decode cL_best 259 = .ok (.aload 8, 2) := by decide +kernel
theorem dL_best_261 : decode cL_best 261 = .ok (.iconst 2, 1) := by decide +kernel
theorem dL_best_262 : decode cL_best 262 = .ok (.iaload, 1) := by decide +kernel
theorem dL_best_263 : decode cL_best 263 = .ok (.aload 6, 2) := by decide +kernel
theorem dL_best_265 : decode cL_best 265 = .ok (.iconst 1, 1) := by decide +kernel
theorem dL_best_266 : decode cL_best 266 = .ok (.iaload, 1) := by decide +kernel
theorem dL_best_267 : decode cL_best 267 = .ok (.if_icmp .lt 6, 3) := by decide +kernel
theorem dL_best_270 : decode cL_best 270 = .ok (.goto 31, 3) := by decide +kernel
theorem dL_best_273 : decode cL_best 273 = .ok (.aload 6, 2) := by decide +kernel
theorem dL_best_275 : decode cL_best 275 = .ok (.iconst 0, 1) := by decide +kernel
theorem dL_best_276 : decode cL_best 276 = .ok (.aload 8, 2) := by decide +kernel
theorem dL_best_278 : decode cL_best 278 = .ok (.iconst 0, 1) := by decide +kernel
theorem dL_best_279 : decode cL_best 279 = .ok (.iaload, 1) := by decide +kernel
theorem dL_best_280 : decode cL_best 280 = .ok (.iastore, 1) := by decide +kernel
theorem dL_best_281 : decode cL_best 281 = .ok (.aload 6, 2) := by decide +kernel
theorem dL_best_283 : decode cL_best 283 = .ok (.iconst 1, 1) := by decide +kernel
theorem dL_best_284 : decode cL_best 284 = .ok (.aload 8, 2) := by decide +kernel
theorem dL_best_286 : decode cL_best 286 = .ok (.iconst 2, 1) := by decide +kernel
theorem dL_best_287 : decode cL_best 287 = .ok (.iaload, 1) := by decide +kernel
theorem dL_best_288 : decode cL_best 288 = .ok (.iastore, 1) := by decide +kernel
theorem dL_best_289 : decode cL_best 289 = .ok (.aload 6, 2) := by decide +kernel
theorem dL_best_291 : decode cL_best 291 = .ok (.iconst 2, 1) := by decide +kernel
theorem dL_best_292 : decode cL_best 292 = .ok (.iload 15, 2) := by decide +kernel
theorem dL_best_294 : decode cL_best 294 = .ok (.iastore, 1) := by decide +kernel
theorem dL_best_295 : decode cL_best 295 = .ok (.aload 6, 2) := by decide +kernel
theorem dL_best_297 : decode cL_best 297 = .ok (.iconst 4, 1) := by decide +kernel
theorem dL_best_298 : decode cL_best 298 = .ok (.iload 12, 2) := by decide +kernel
theorem dL_best_300 : decode cL_best 300 = .ok (.iastore, 1) := by decide +kernel
theorem dL_best_301 : decode cL_best 301 = .ok (.iinc 11 1, 3) := by decide +kernel
theorem dL_best_304 : decode cL_best 304 = .ok (.goto (-222), 3) := by decide +kernel
theorem dL_best_307 : decode cL_best 307 = .ok (.return_, 1) := by decide +kernel
theorem cw_L_best : Cw yL_best cL_best 16 none 7 := ⟨aw_657, aw_18, ⟨by decide, by decide⟩, by decide +kernel, by decide⟩
theorem kz_43 {K : KT} {cc : ByteArray} {nL d M pc : Nat} {ret : Option FieldType} {L : List (Option Value)} {st : List Value} {V : Wl} {σ : LwS} {b Ln : Nat} {xs : Nat → Int32} (C : CZ K cc RL nL d M ret b Ln xs) {q0 : Nat} {q1 : Nat} {a2 : Int32} {a3 : Int32} {a4 : Int32} {a5 : Int32} {a6 : Int32} {q7 : Nat} {r0 : Nat} {r1 : Nat} {r7 : Nat} (hq0 : V[q0]? = some (r0, 63)) (hq1 : V[q1]? = some (r1, 26)) (hq7 : V[q7]? = some (r7, 3)) {p : Int32 × LwS} (hd : decode cc pc = .ok (.invokestatic 43, 3)) (e : fL_way q0 q1 a2 a3 a4 a5 a6 q7 (eT σ) = some p) (hdd : 2 + 1 ≤ d) (hLn : L.length = nL) (hr : (st.map fun v => v.category).sum ≤ 8) (k : GZ K M (pc + 3) L (.int p.1 :: st) V (uT σ p.2 0)) : GZ K M pc L (.ref r7 :: .int a6 :: .int a5 :: .int a4 :: .int a3 :: .int a2 :: .ref r1 :: .ref r0 :: st) V σ :=
 z_callL C (As := [.ref r0, .ref r1, .int a2, .int a3, .int a4, .int a5, .int a6, .ref r7]) (rest := st) hd (ct_L_way hq0 hq1 hq7 rfl e) cw_L_way aw_658 aw_659 rfl rfl rfl hdd hLn hr (fun h => h) (fun v τ q => by obtain ⟨rfl, rfl⟩ := q; exact k)
def fL_best_b158 (w0 : Nat) (w1 : Nat) (x2 : Int32) (x3 : Int32) (x4 : Int32) (w5 : Nat) (w6 : Nat) (x7 : Int32) (w8 : Nat) (x9 : Int32) (x10 : Int32) (x11 : Int32) (x13 : Int32) (x14 : Int32) (x15 : Int32) (y0 : Int32) (y1 : Int32) (nw : Nat) (σ : LwS) : Option ((Int32 × Int32 × LwS) ⊕ ((Int32 × LwS))) :=
  some (.inl ((y1 + y0), (x15 + (-1 : Int32)), σ))
def fL_best_b132 (w0 : Nat) (w1 : Nat) (x2 : Int32) (x3 : Int32) (x4 : Int32) (w5 : Nat) (w6 : Nat) (x7 : Int32) (w8 : Nat) (x9 : Int32) (x10 : Int32) (x11 : Int32) (x12 : Int32) (x13 : Int32) (x14 : Int32) (x15 : Int32) (nw : Nat) (σ : LwS) : Option ((Int32 × Int32 × LwS) ⊕ ((Int32 × LwS))) :=
  if x15 < 0 then (some (.inr (x12, σ))) else (if ((ishr x11 x15) &&& (1 : Int32)) = 0 then (fL_best_b158 w0 w1 x2 x3 x4 w5 w6 x7 w8 x9 x10 x11 x13 x14 x15 x13 ((4 : Int32) * x12) nw σ) else (fL_best_b158 w0 w1 x2 x3 x4 w5 w6 x7 w8 x9 x10 x11 x13 x14 x15 x14 ((4 : Int32) * x12) nw σ))
def fL_best_b301 (w0 : Nat) (w1 : Nat) (x2 : Int32) (x3 : Int32) (x4 : Int32) (w5 : Nat) (w6 : Nat) (x7 : Int32) (w8 : Nat) (x9 : Int32) (x10 : Int32) (x11 : Int32) (nw : Nat) (σ : LwS) : Option ((Int32 × LwS) ⊕ ((LwS))) :=
  some (.inl ((x11 + (1 : Int32)), σ))
def fL_best_b273 (w0 : Nat) (w1 : Nat) (x2 : Int32) (x3 : Int32) (x4 : Int32) (w5 : Nat) (w6 : Nat) (x7 : Int32) (w8 : Nat) (x9 : Int32) (x10 : Int32) (x11 : Int32) (x12 : Int32) (x15 : Int32) (nw : Nat) (σ : LwS) : Option ((Int32 × LwS) ⊕ ((LwS))) :=
  fL_best_b301 w0 w1 x2 x3 x4 w5 w6 x7 w8 x9 x10 x11 nw (wT (wT (wT (wT σ w6 ((0 : Int32)).toNatClampNeg (rT σ w8 ((0 : Int32)).toNatClampNeg)) w6 ((1 : Int32)).toNatClampNeg (rT (wT σ w6 ((0 : Int32)).toNatClampNeg (rT σ w8 ((0 : Int32)).toNatClampNeg)) w8 ((2 : Int32)).toNatClampNeg)) w6 ((2 : Int32)).toNatClampNeg x15) w6 ((4 : Int32)).toNatClampNeg x12)
def fL_best_b222 (w0 : Nat) (w1 : Nat) (x2 : Int32) (x3 : Int32) (x4 : Int32) (w5 : Nat) (w6 : Nat) (x7 : Int32) (w8 : Nat) (x9 : Int32) (x10 : Int32) (x11 : Int32) (x12 : Int32) (y0 : Int32) (y1 : Int32) (nw : Nat) (σ : LwS) : Option ((Int32 × LwS) ⊕ ((LwS))) :=
  if (rT (wT σ w6 ((5 : Int32)).toNatClampNeg ((rT σ w6 ((5 : Int32)).toNatClampNeg) + (1 : Int32))) w6 ((5 : Int32)).toNatClampNeg) ≤ (1 : Int32) then (fL_best_b273 w0 w1 x2 x3 x4 w5 w6 x7 w8 x9 x10 x11 x12 (y1 - y0) nw (wT σ w6 ((5 : Int32)).toNatClampNeg ((rT σ w6 ((5 : Int32)).toNatClampNeg) + (1 : Int32)))) else (if (y1 - y0) < (rT (wT σ w6 ((5 : Int32)).toNatClampNeg ((rT σ w6 ((5 : Int32)).toNatClampNeg) + (1 : Int32))) w6 ((2 : Int32)).toNatClampNeg) then (fL_best_b301 w0 w1 x2 x3 x4 w5 w6 x7 w8 x9 x10 x11 nw (wT σ w6 ((5 : Int32)).toNatClampNeg ((rT σ w6 ((5 : Int32)).toNatClampNeg) + (1 : Int32)))) else (if (y1 - y0) = (rT (wT σ w6 ((5 : Int32)).toNatClampNeg ((rT σ w6 ((5 : Int32)).toNatClampNeg) + (1 : Int32))) w6 ((2 : Int32)).toNatClampNeg) then (if (rT (wT σ w6 ((5 : Int32)).toNatClampNeg ((rT σ w6 ((5 : Int32)).toNatClampNeg) + (1 : Int32))) w8 ((2 : Int32)).toNatClampNeg) < (rT (wT σ w6 ((5 : Int32)).toNatClampNeg ((rT σ w6 ((5 : Int32)).toNatClampNeg) + (1 : Int32))) w6 ((1 : Int32)).toNatClampNeg) then (fL_best_b273 w0 w1 x2 x3 x4 w5 w6 x7 w8 x9 x10 x11 x12 (y1 - y0) nw (wT σ w6 ((5 : Int32)).toNatClampNeg ((rT σ w6 ((5 : Int32)).toNatClampNeg) + (1 : Int32)))) else (fL_best_b301 w0 w1 x2 x3 x4 w5 w6 x7 w8 x9 x10 x11 nw (wT σ w6 ((5 : Int32)).toNatClampNeg ((rT σ w6 ((5 : Int32)).toNatClampNeg) + (1 : Int32))))) else (fL_best_b273 w0 w1 x2 x3 x4 w5 w6 x7 w8 x9 x10 x11 x12 (y1 - y0) nw (wT σ w6 ((5 : Int32)).toNatClampNeg ((rT σ w6 ((5 : Int32)).toNatClampNeg) + (1 : Int32))))))
def fL_best_b124 (w0 : Nat) (w1 : Nat) (x2 : Int32) (x3 : Int32) (x4 : Int32) (w5 : Nat) (w6 : Nat) (x7 : Int32) (w8 : Nat) (x9 : Int32) (x10 : Int32) (x11 : Int32) (x12 : Int32) (x13 : Int32) (y0 : Int32) (nw : Nat) (σ : LwS) : Option ((Int32 × LwS) ⊕ ((LwS))) :=
  Option.bind (lp (fun s => fL_best_b132 w0 w1 x2 x3 x4 w5 w6 x7 w8 x9 x10 x11 s.1 x13 y0 s.2.1 nw s.2.2) FU (x12, (x7 - (1 : Int32)), σ)) fun t12 => Option.bind (fL_way w0 w1 x2 x3 x4 t12.1 x7 w8 (eT t12.2)) fun p14 => (if p14.1 = 0 then (fL_best_b301 w0 w1 x2 x3 x4 w5 w6 x7 w8 x9 x10 x11 nw (uT t12.2 p14.2 0)) else (if x4 = 0 then (fL_best_b222 w0 w1 x2 x3 x4 w5 w6 x7 w8 x9 x10 x11 t12.1 (0 : Int32) (((rT (uT t12.2 p14.2 0) w5 ((0 : Int32)).toNatClampNeg) * (rT (uT t12.2 p14.2 0) w8 ((0 : Int32)).toNatClampNeg)) - (((rT (uT t12.2 p14.2 0) w5 ((1 : Int32)).toNatClampNeg) * x3) * (rT (uT t12.2 p14.2 0) w8 ((2 : Int32)).toNatClampNeg))) nw (uT t12.2 p14.2 0)) else (fL_best_b222 w0 w1 x2 x3 x4 w5 w6 x7 w8 x9 x10 x11 t12.1 (rT (uT t12.2 p14.2 0) w5 ((2 : Int32)).toNatClampNeg) (((rT (uT t12.2 p14.2 0) w5 ((0 : Int32)).toNatClampNeg) * (rT (uT t12.2 p14.2 0) w8 ((0 : Int32)).toNatClampNeg)) - (((rT (uT t12.2 p14.2 0) w5 ((1 : Int32)).toNatClampNeg) * x3) * (rT (uT t12.2 p14.2 0) w8 ((2 : Int32)).toNatClampNeg))) nw (uT t12.2 p14.2 0))))
def fL_best_b108 (w0 : Nat) (w1 : Nat) (x2 : Int32) (x3 : Int32) (x4 : Int32) (w5 : Nat) (w6 : Nat) (x7 : Int32) (w8 : Nat) (x9 : Int32) (x10 : Int32) (x11 : Int32) (x12 : Int32) (y0 : Int32) (nw : Nat) (σ : LwS) : Option ((Int32 × LwS) ⊕ ((LwS))) :=
  if x10 ≤ x9 then (fL_best_b124 w0 w1 x2 x3 x4 w5 w6 x7 w8 x9 x10 x11 x12 y0 x9 nw σ) else (fL_best_b124 w0 w1 x2 x3 x4 w5 w6 x7 w8 x9 x10 x11 x12 y0 x10 nw σ)
def fL_best_b82 (w0 : Nat) (w1 : Nat) (x2 : Int32) (x3 : Int32) (x4 : Int32) (w5 : Nat) (w6 : Nat) (x7 : Int32) (w8 : Nat) (x9 : Int32) (x10 : Int32) (x11 : Int32) (nw : Nat) (σ : LwS) : Option ((Int32 × LwS) ⊕ ((LwS))) :=
  if (ishl (1 : Int32) x7) ≤ x11 then (some (.inr σ)) else (if x10 ≤ x9 then (fL_best_b108 w0 w1 x2 x3 x4 w5 w6 x7 w8 x9 x10 x11 (0 : Int32) x10 nw σ) else (fL_best_b108 w0 w1 x2 x3 x4 w5 w6 x7 w8 x9 x10 x11 (0 : Int32) x9 nw σ))
def fL_best_b77 (w0 : Nat) (w1 : Nat) (x2 : Int32) (x3 : Int32) (x4 : Int32) (w5 : Nat) (w6 : Nat) (x7 : Int32) (w8 : Nat) (x9 : Int32) (y0 : Int32) (nw : Nat) (σ : LwS) : Option (LwS) :=
  Option.bind (lp (fun s => fL_best_b82 w0 w1 x2 x3 x4 w5 w6 x7 w8 x9 y0 s.1 nw s.2) FU ((0 : Int32), σ)) fun t16 => some t16
def fL_best_b51 (w0 : Nat) (w1 : Nat) (x2 : Int32) (x3 : Int32) (x4 : Int32) (w5 : Nat) (w6 : Nat) (x7 : Int32) (w8 : Nat) (y0 : Int32) (nw : Nat) (σ : LwS) : Option (LwS) :=
  if inb (x2 + (1 : Int32)) 26 = true then (if (rT σ w0 ((1 : Int32)).toNatClampNeg) = 0 then none else if (rT σ w0 ((1 : Int32)).toNatClampNeg) = 0 then none else if ((rT σ w1 ((x2 + (1 : Int32))).toNatClampNeg) - (rT σ w1 ((x2 + (1 : Int32))).toNatClampNeg) / (rT σ w0 ((1 : Int32)).toNatClampNeg) * (rT σ w0 ((1 : Int32)).toNatClampNeg)) ≤ ((rT σ w0 ((2 : Int32)).toNatClampNeg) - (rT σ w0 ((2 : Int32)).toNatClampNeg) / (rT σ w0 ((1 : Int32)).toNatClampNeg) * (rT σ w0 ((1 : Int32)).toNatClampNeg)) then (fL_best_b77 w0 w1 x2 x3 x4 w5 w6 x7 w8 y0 (1 : Int32) nw σ) else (fL_best_b77 w0 w1 x2 x3 x4 w5 w6 x7 w8 y0 (3 : Int32) nw σ)) else none
def fL_best_b0 (w0 : Nat) (w1 : Nat) (x2 : Int32) (x3 : Int32) (x4 : Int32) (w5 : Nat) (w6 : Nat) (nw : Nat) (σ : LwS) : Option (LwS) :=
  if inb (x2 + (1 : Int32)) 26 = true then (Option.bind (fL_far w0 (rT σ w1 ((x2 + (1 : Int32))).toNatClampNeg) (eT σ)) fun p2 => (if decide ((uT σ p2.2 0).2.2 + 1 ≤ 1) = true then (if inb (x2 + (1 : Int32)) 26 = true then (if (rT (wT (wT (nT (uT σ p2.2 0) nw) w6 ((3 : Int32)).toNatClampNeg p2.1) w6 ((5 : Int32)).toNatClampNeg (0 : Int32)) w0 ((1 : Int32)).toNatClampNeg) = 0 then none else if (rT (wT (wT (nT (uT σ p2.2 0) nw) w6 ((3 : Int32)).toNatClampNeg p2.1) w6 ((5 : Int32)).toNatClampNeg (0 : Int32)) w0 ((1 : Int32)).toNatClampNeg) = 0 then none else if ((rT (wT (wT (nT (uT σ p2.2 0) nw) w6 ((3 : Int32)).toNatClampNeg p2.1) w6 ((5 : Int32)).toNatClampNeg (0 : Int32)) w1 ((x2 + (1 : Int32))).toNatClampNeg) / (rT (wT (wT (nT (uT σ p2.2 0) nw) w6 ((3 : Int32)).toNatClampNeg p2.1) w6 ((5 : Int32)).toNatClampNeg (0 : Int32)) w0 ((1 : Int32)).toNatClampNeg)) ≤ ((rT (wT (wT (nT (uT σ p2.2 0) nw) w6 ((3 : Int32)).toNatClampNeg p2.1) w6 ((5 : Int32)).toNatClampNeg (0 : Int32)) w0 ((2 : Int32)).toNatClampNeg) / (rT (wT (wT (nT (uT σ p2.2 0) nw) w6 ((3 : Int32)).toNatClampNeg p2.1) w6 ((5 : Int32)).toNatClampNeg (0 : Int32)) w0 ((1 : Int32)).toNatClampNeg)) then (fL_best_b51 w0 w1 x2 x3 x4 w5 w6 p2.1 nw (2 : Int32) (nw + 1) (wT (wT (nT (uT σ p2.2 0) nw) w6 ((3 : Int32)).toNatClampNeg p2.1) w6 ((5 : Int32)).toNatClampNeg (0 : Int32))) else (fL_best_b51 w0 w1 x2 x3 x4 w5 w6 p2.1 nw (0 : Int32) (nw + 1) (wT (wT (nT (uT σ p2.2 0) nw) w6 ((3 : Int32)).toNatClampNeg p2.1) w6 ((5 : Int32)).toNatClampNeg (0 : Int32)))) else none) else none)) else none
set_option maxRecDepth 8000 in
theorem bL_best_b158 {K : KT} {w0 : Nat} {w1 : Nat} {x2 : Int32} {x3 : Int32} {x4 : Int32} {w5 : Nat} {w6 : Nat} {x7 : Int32} {w8 : Nat} {x9 : Int32} {x10 : Int32} {x11 : Int32} {x13 : Int32} {x14 : Int32} {x15 : Int32} {y0 : Int32} {y1 : Int32} {r0 : Nat} {r1 : Nat} {r5 : Nat} {r6 : Nat} {r8 : Nat} {nw : Nat} {σ : LwS} {o : (Int32 × Int32 × LwS) ⊕ ((Int32 × LwS))} {V Vc : Wl} {b Ln : Nat} {xs : Nat → Int32} (C : CZ K cL_best RL 16 3 1 none b Ln xs) (hp : Pf Vc V) (hN : V.length = nw) (hw0 : V[w0]? = some (r0, 63)) (hw1 : V[w1]? = some (r1, 26)) (hw5 : V[w5]? = some (r5, 3)) (hw6 : V[w6]? = some (r6, 6)) (hw8 : V[w8]? = some (r8, 3)) (hI : ∀ s' : Int32 × Int32 × LwS, o = .inl s' → GZ K 1 132 [some (.ref r0), some (.ref r1), some (.int x2), some (.int x3), some (.int x4), some (.ref r5), some (.ref r6), some (.int x7), some (.ref r8), some (.int x9), some (.int x10), some (.int x11), some (.int s'.1), some (.int x13), some (.int x14), some (.int s'.2.1)] [] Vc s'.2.2) (hE0 : ∀ t : Int32 × LwS, o = .inr t → GZ K 1 167 [some (.ref r0), some (.ref r1), some (.int x2), some (.int x3), some (.int x4), some (.ref r5), some (.ref r6), some (.int x7), some (.ref r8), some (.int x9), some (.int x10), some (.int x11), some (.int t.1), none, none, none] [] Vc t.2) (h : fL_best_b158 w0 w1 x2 x3 x4 w5 w6 x7 w8 x9 x10 x11 x13 x14 x15 y0 y1 nw σ = some o) : GZ K 1 158 [some (.ref r0), some (.ref r1), some (.int x2), some (.int x3), some (.int x4), some (.ref r5), some (.ref r6), some (.int x7), some (.ref r8), some (.int x9), some (.int x10), some (.int x11), none, some (.int x13), some (.int x14), some (.int x15)] [.int y0, .int y1] V σ := by
  unfold fL_best_b158 at h
  refine z_iadd C.c dL_best_158 ?_
  refine z_istore C.c (i := 12) (L' := [some (.ref r0), some (.ref r1), some (.int x2), some (.int x3), some (.int x4), some (.ref r5), some (.ref r6), some (.int x7), some (.ref r8), some (.int x9), some (.int x10), some (.int x11), some (.int (y1 + y0)), some (.int x13), some (.int x14), some (.int x15)]) dL_best_159 (Nat.le_of_ble_eq_true rfl) rfl ?_
  refine z_iinc C.c (i := 15) (y := (-1 : Int32)) (L' := [some (.ref r0), some (.ref r1), some (.int x2), some (.int x3), some (.int x4), some (.ref r5), some (.ref r6), some (.int x7), some (.ref r8), some (.int x9), some (.int x10), some (.int x11), some (.int (y1 + y0)), some (.int x13), some (.int x14), some (.int (x15 + (-1 : Int32)))]) dL_best_161 rfl (by decide) (Nat.le_of_ble_eq_true rfl) rfl ?_
  refine z_goto C.c (tgt := 132) dL_best_164 (by decide) ?_
  have g9 := hI _ (Option.some.inj h).symm
  exact z_mask [true, true, true, true, true, true, true, true, true, true, true, true, true, true, true, true] rfl (z_drop hp g9)
set_option maxRecDepth 8000 in
theorem bL_best_b132 {K : KT} {w0 : Nat} {w1 : Nat} {x2 : Int32} {x3 : Int32} {x4 : Int32} {w5 : Nat} {w6 : Nat} {x7 : Int32} {w8 : Nat} {x9 : Int32} {x10 : Int32} {x11 : Int32} {x12 : Int32} {x13 : Int32} {x14 : Int32} {x15 : Int32} {r0 : Nat} {r1 : Nat} {r5 : Nat} {r6 : Nat} {r8 : Nat} {nw : Nat} {σ : LwS} {o : (Int32 × Int32 × LwS) ⊕ ((Int32 × LwS))} {V Vc : Wl} {b Ln : Nat} {xs : Nat → Int32} (C : CZ K cL_best RL 16 3 1 none b Ln xs) (hp : Pf Vc V) (hN : V.length = nw) (hw0 : V[w0]? = some (r0, 63)) (hw1 : V[w1]? = some (r1, 26)) (hw5 : V[w5]? = some (r5, 3)) (hw6 : V[w6]? = some (r6, 6)) (hw8 : V[w8]? = some (r8, 3)) (hI : ∀ s' : Int32 × Int32 × LwS, o = .inl s' → GZ K 1 132 [some (.ref r0), some (.ref r1), some (.int x2), some (.int x3), some (.int x4), some (.ref r5), some (.ref r6), some (.int x7), some (.ref r8), some (.int x9), some (.int x10), some (.int x11), some (.int s'.1), some (.int x13), some (.int x14), some (.int s'.2.1)] [] Vc s'.2.2) (hE0 : ∀ t : Int32 × LwS, o = .inr t → GZ K 1 167 [some (.ref r0), some (.ref r1), some (.int x2), some (.int x3), some (.int x4), some (.ref r5), some (.ref r6), some (.int x7), some (.ref r8), some (.int x9), some (.int x10), some (.int x11), some (.int t.1), none, none, none] [] Vc t.2) (h : fL_best_b132 w0 w1 x2 x3 x4 w5 w6 x7 w8 x9 x10 x11 x12 x13 x14 x15 nw σ = some o) : GZ K 1 132 [some (.ref r0), some (.ref r1), some (.int x2), some (.int x3), some (.int x4), some (.ref r5), some (.ref r6), some (.int x7), some (.ref r8), some (.int x9), some (.int x10), some (.int x11), some (.int x12), some (.int x13), some (.int x14), some (.int x15)] [] V σ := by
  unfold fL_best_b132 at h
  refine z_iload C.c dL_best_132 (i := 15) rfl ?_
  refine z_if_lt C.c (tgt := 167) dL_best_134 (by decide) (fun c => ?_) (fun c => ?_)
  · replace h := ite_t c h
    have g9 := hE0 _ (Option.some.inj h).symm
    exact z_mask [true, true, true, true, true, true, true, true, true, true, true, true, true, false, false, false] rfl (z_drop hp g9)
  · replace h := ite_f c h
    refine z_iconst C.c dL_best_137 (v := (4 : Int32)) (by decide) ?_
    refine z_iload C.c dL_best_138 (i := 12) rfl ?_
    refine z_imul C.c dL_best_140 ?_
    refine z_iload C.c dL_best_141 (i := 11) rfl ?_
    refine z_iload C.c dL_best_143 (i := 15) rfl ?_
    refine z_ishr C.c dL_best_145 ?_
    refine z_iconst C.c dL_best_146 (v := (1 : Int32)) (by decide) ?_
    refine z_iand C.c dL_best_147 ?_
    refine z_if_ne C.c (tgt := 156) dL_best_148 (by decide) (fun c => ?_) (fun c => ?_)
    · replace h := ite_f c h
      refine z_iload C.c dL_best_156 (i := 14) rfl ?_
      exact z_mask [true, true, true, true, true, true, true, true, true, true, true, true, false, true, true, true] rfl (bL_best_b158 C hp hN hw0 hw1 hw5 hw6 hw8 hI hE0 h)
    · replace h := ite_t c h
      refine z_iload C.c dL_best_151 (i := 13) rfl ?_
      refine z_goto C.c (tgt := 158) dL_best_153 (by decide) ?_
      exact z_mask [true, true, true, true, true, true, true, true, true, true, true, true, false, true, true, true] rfl (bL_best_b158 C hp hN hw0 hw1 hw5 hw6 hw8 hI hE0 h)
set_option maxRecDepth 8000 in
theorem bL_best_b301 {K : KT} {w0 : Nat} {w1 : Nat} {x2 : Int32} {x3 : Int32} {x4 : Int32} {w5 : Nat} {w6 : Nat} {x7 : Int32} {w8 : Nat} {x9 : Int32} {x10 : Int32} {x11 : Int32} {r0 : Nat} {r1 : Nat} {r5 : Nat} {r6 : Nat} {r8 : Nat} {nw : Nat} {σ : LwS} {o : (Int32 × LwS) ⊕ ((LwS))} {V Vc : Wl} {b Ln : Nat} {xs : Nat → Int32} (C : CZ K cL_best RL 16 3 1 none b Ln xs) (hp : Pf Vc V) (hN : V.length = nw) (hw0 : V[w0]? = some (r0, 63)) (hw1 : V[w1]? = some (r1, 26)) (hw5 : V[w5]? = some (r5, 3)) (hw6 : V[w6]? = some (r6, 6)) (hw8 : V[w8]? = some (r8, 3)) (hI : ∀ s' : Int32 × LwS, o = .inl s' → GZ K 1 82 [some (.ref r0), some (.ref r1), some (.int x2), some (.int x3), some (.int x4), some (.ref r5), some (.ref r6), some (.int x7), some (.ref r8), some (.int x9), some (.int x10), some (.int s'.1), none, none, none, none] [] Vc s'.2) (hE0 : ∀ t : LwS, o = .inr t → GZ K 1 307 [none, none, none, none, none, none, none, none, none, none, none, none, none, none, none, none] [] Vc t) (h : fL_best_b301 w0 w1 x2 x3 x4 w5 w6 x7 w8 x9 x10 x11 nw σ = some o) : GZ K 1 301 [some (.ref r0), some (.ref r1), some (.int x2), some (.int x3), some (.int x4), some (.ref r5), some (.ref r6), some (.int x7), some (.ref r8), some (.int x9), some (.int x10), some (.int x11), none, none, none, none] [] V σ := by
  unfold fL_best_b301 at h
  refine z_iinc C.c (i := 11) (y := (1 : Int32)) (L' := [some (.ref r0), some (.ref r1), some (.int x2), some (.int x3), some (.int x4), some (.ref r5), some (.ref r6), some (.int x7), some (.ref r8), some (.int x9), some (.int x10), some (.int (x11 + (1 : Int32))), none, none, none, none]) dL_best_301 rfl (by decide) (Nat.le_of_ble_eq_true rfl) rfl ?_
  refine z_goto C.c (tgt := 82) dL_best_304 (by decide) ?_
  have g9 := hI _ (Option.some.inj h).symm
  exact z_mask [true, true, true, true, true, true, true, true, true, true, true, true, false, false, false, false] rfl (z_drop hp g9)
set_option maxRecDepth 8000 in
theorem bL_best_b273 {K : KT} {w0 : Nat} {w1 : Nat} {x2 : Int32} {x3 : Int32} {x4 : Int32} {w5 : Nat} {w6 : Nat} {x7 : Int32} {w8 : Nat} {x9 : Int32} {x10 : Int32} {x11 : Int32} {x12 : Int32} {x15 : Int32} {r0 : Nat} {r1 : Nat} {r5 : Nat} {r6 : Nat} {r8 : Nat} {nw : Nat} {σ : LwS} {o : (Int32 × LwS) ⊕ ((LwS))} {V Vc : Wl} {b Ln : Nat} {xs : Nat → Int32} (C : CZ K cL_best RL 16 3 1 none b Ln xs) (hp : Pf Vc V) (hN : V.length = nw) (hw0 : V[w0]? = some (r0, 63)) (hw1 : V[w1]? = some (r1, 26)) (hw5 : V[w5]? = some (r5, 3)) (hw6 : V[w6]? = some (r6, 6)) (hw8 : V[w8]? = some (r8, 3)) (hI : ∀ s' : Int32 × LwS, o = .inl s' → GZ K 1 82 [some (.ref r0), some (.ref r1), some (.int x2), some (.int x3), some (.int x4), some (.ref r5), some (.ref r6), some (.int x7), some (.ref r8), some (.int x9), some (.int x10), some (.int s'.1), none, none, none, none] [] Vc s'.2) (hE0 : ∀ t : LwS, o = .inr t → GZ K 1 307 [none, none, none, none, none, none, none, none, none, none, none, none, none, none, none, none] [] Vc t) (h : fL_best_b273 w0 w1 x2 x3 x4 w5 w6 x7 w8 x9 x10 x11 x12 x15 nw σ = some o) : GZ K 1 273 [some (.ref r0), some (.ref r1), some (.int x2), some (.int x3), some (.int x4), some (.ref r5), some (.ref r6), some (.int x7), some (.ref r8), some (.int x9), some (.int x10), some (.int x11), some (.int x12), none, none, some (.int x15)] [] V σ := by
  unfold fL_best_b273 at h
  refine z_aload C.c dL_best_273 (i := 6) rfl ?_
  refine z_iconst C.c dL_best_275 (v := (0 : Int32)) (by decide) ?_
  refine z_aload C.c dL_best_276 (i := 8) rfl ?_
  refine z_iconst C.c dL_best_278 (v := (0 : Int32)) (by decide) ?_
  refine z_iald C dL_best_279 hw8 (by decide) ?_
  refine z_iast C dL_best_280 hw6 (by decide) ?_
  refine z_aload C.c dL_best_281 (i := 6) rfl ?_
  refine z_iconst C.c dL_best_283 (v := (1 : Int32)) (by decide) ?_
  refine z_aload C.c dL_best_284 (i := 8) rfl ?_
  refine z_iconst C.c dL_best_286 (v := (2 : Int32)) (by decide) ?_
  refine z_iald C dL_best_287 hw8 (by decide) ?_
  refine z_iast C dL_best_288 hw6 (by decide) ?_
  refine z_aload C.c dL_best_289 (i := 6) rfl ?_
  refine z_iconst C.c dL_best_291 (v := (2 : Int32)) (by decide) ?_
  refine z_iload C.c dL_best_292 (i := 15) rfl ?_
  refine z_iast C dL_best_294 hw6 (by decide) ?_
  refine z_aload C.c dL_best_295 (i := 6) rfl ?_
  refine z_iconst C.c dL_best_297 (v := (4 : Int32)) (by decide) ?_
  refine z_iload C.c dL_best_298 (i := 12) rfl ?_
  refine z_iast C dL_best_300 hw6 (by decide) ?_
  exact z_mask [true, true, true, true, true, true, true, true, true, true, true, true, false, false, false, false] rfl (bL_best_b301 C hp hN hw0 hw1 hw5 hw6 hw8 hI hE0 h)
set_option maxRecDepth 8000 in
theorem bL_best_b222 {K : KT} {w0 : Nat} {w1 : Nat} {x2 : Int32} {x3 : Int32} {x4 : Int32} {w5 : Nat} {w6 : Nat} {x7 : Int32} {w8 : Nat} {x9 : Int32} {x10 : Int32} {x11 : Int32} {x12 : Int32} {y0 : Int32} {y1 : Int32} {r0 : Nat} {r1 : Nat} {r5 : Nat} {r6 : Nat} {r8 : Nat} {nw : Nat} {σ : LwS} {o : (Int32 × LwS) ⊕ ((LwS))} {V Vc : Wl} {b Ln : Nat} {xs : Nat → Int32} (C : CZ K cL_best RL 16 3 1 none b Ln xs) (hp : Pf Vc V) (hN : V.length = nw) (hw0 : V[w0]? = some (r0, 63)) (hw1 : V[w1]? = some (r1, 26)) (hw5 : V[w5]? = some (r5, 3)) (hw6 : V[w6]? = some (r6, 6)) (hw8 : V[w8]? = some (r8, 3)) (hI : ∀ s' : Int32 × LwS, o = .inl s' → GZ K 1 82 [some (.ref r0), some (.ref r1), some (.int x2), some (.int x3), some (.int x4), some (.ref r5), some (.ref r6), some (.int x7), some (.ref r8), some (.int x9), some (.int x10), some (.int s'.1), none, none, none, none] [] Vc s'.2) (hE0 : ∀ t : LwS, o = .inr t → GZ K 1 307 [none, none, none, none, none, none, none, none, none, none, none, none, none, none, none, none] [] Vc t) (h : fL_best_b222 w0 w1 x2 x3 x4 w5 w6 x7 w8 x9 x10 x11 x12 y0 y1 nw σ = some o) : GZ K 1 222 [some (.ref r0), some (.ref r1), some (.int x2), some (.int x3), some (.int x4), some (.ref r5), some (.ref r6), some (.int x7), some (.ref r8), some (.int x9), some (.int x10), some (.int x11), some (.int x12), none, none, none] [.int y0, .int y1] V σ := by
  unfold fL_best_b222 at h
  refine z_isub C.c dL_best_222 ?_
  refine z_istore C.c (i := 15) (L' := [some (.ref r0), some (.ref r1), some (.int x2), some (.int x3), some (.int x4), some (.ref r5), some (.ref r6), some (.int x7), some (.ref r8), some (.int x9), some (.int x10), some (.int x11), some (.int x12), none, none, some (.int (y1 - y0))]) dL_best_223 (Nat.le_of_ble_eq_true rfl) rfl ?_
  refine z_aload C.c dL_best_225 (i := 6) rfl ?_
  refine z_iconst C.c dL_best_227 (v := (5 : Int32)) (by decide) ?_
  refine z_dup2 C.c dL_best_228 rfl rfl ?_
  refine z_iald C dL_best_229 hw6 (by decide) ?_
  refine z_iconst C.c dL_best_230 (v := (1 : Int32)) (by decide) ?_
  refine z_iadd C.c dL_best_231 ?_
  refine z_iast C dL_best_232 hw6 (by decide) ?_
  refine z_aload C.c dL_best_233 (i := 6) rfl ?_
  refine z_iconst C.c dL_best_235 (v := (5 : Int32)) (by decide) ?_
  refine z_iald C dL_best_236 hw6 (by decide) ?_
  refine z_iconst C.c dL_best_237 (v := (1 : Int32)) (by decide) ?_
  refine z_icmp_le C.c (tgt := 273) dL_best_238 (by decide) (fun c => ?_) (fun c => ?_)
  · replace h := ite_t c h
    exact z_mask [true, true, true, true, true, true, true, true, true, true, true, true, true, false, false, true] rfl (bL_best_b273 C hp hN hw0 hw1 hw5 hw6 hw8 hI hE0 h)
  · replace h := ite_f c h
    refine z_iload C.c dL_best_241 (i := 15) rfl ?_
    refine z_aload C.c dL_best_243 (i := 6) rfl ?_
    refine z_iconst C.c dL_best_245 (v := (2 : Int32)) (by decide) ?_
    refine z_iald C dL_best_246 hw6 (by decide) ?_
    refine z_icmp_lt C.c (tgt := 301) dL_best_247 (by decide) (fun c => ?_) (fun c => ?_)
    · replace h := ite_t c h
      exact z_mask [true, true, true, true, true, true, true, true, true, true, true, true, false, false, false, false] rfl (bL_best_b301 C hp hN hw0 hw1 hw5 hw6 hw8 hI hE0 h)
    · replace h := ite_f c h
      refine z_iload C.c dL_best_250 (i := 15) rfl ?_
      refine z_aload C.c dL_best_252 (i := 6) rfl ?_
      refine z_iconst C.c dL_best_254 (v := (2 : Int32)) (by decide) ?_
      refine z_iald C dL_best_255 hw6 (by decide) ?_
      refine z_icmp_ne C.c (tgt := 273) dL_best_256 (by decide) (fun c => ?_) (fun c => ?_)
      · replace h := ite_f c h
        exact z_mask [true, true, true, true, true, true, true, true, true, true, true, true, true, false, false, true] rfl (bL_best_b273 C hp hN hw0 hw1 hw5 hw6 hw8 hI hE0 h)
      · replace h := ite_t c h
        refine z_aload C.c dL_best_259 (i := 8) rfl ?_
        refine z_iconst C.c dL_best_261 (v := (2 : Int32)) (by decide) ?_
        refine z_iald C dL_best_262 hw8 (by decide) ?_
        refine z_aload C.c dL_best_263 (i := 6) rfl ?_
        refine z_iconst C.c dL_best_265 (v := (1 : Int32)) (by decide) ?_
        refine z_iald C dL_best_266 hw6 (by decide) ?_
        refine z_icmp_lt C.c (tgt := 273) dL_best_267 (by decide) (fun c => ?_) (fun c => ?_)
        · replace h := ite_t c h
          exact z_mask [true, true, true, true, true, true, true, true, true, true, true, true, true, false, false, true] rfl (bL_best_b273 C hp hN hw0 hw1 hw5 hw6 hw8 hI hE0 h)
        · replace h := ite_f c h
          refine z_goto C.c (tgt := 301) dL_best_270 (by decide) ?_
          exact z_mask [true, true, true, true, true, true, true, true, true, true, true, true, false, false, false, false] rfl (bL_best_b301 C hp hN hw0 hw1 hw5 hw6 hw8 hI hE0 h)
set_option maxRecDepth 8000 in
theorem bL_best_b124 {K : KT} {w0 : Nat} {w1 : Nat} {x2 : Int32} {x3 : Int32} {x4 : Int32} {w5 : Nat} {w6 : Nat} {x7 : Int32} {w8 : Nat} {x9 : Int32} {x10 : Int32} {x11 : Int32} {x12 : Int32} {x13 : Int32} {y0 : Int32} {r0 : Nat} {r1 : Nat} {r5 : Nat} {r6 : Nat} {r8 : Nat} {nw : Nat} {σ : LwS} {o : (Int32 × LwS) ⊕ ((LwS))} {V Vc : Wl} {b Ln : Nat} {xs : Nat → Int32} (C : CZ K cL_best RL 16 3 1 none b Ln xs) (hp : Pf Vc V) (hN : V.length = nw) (hw0 : V[w0]? = some (r0, 63)) (hw1 : V[w1]? = some (r1, 26)) (hw5 : V[w5]? = some (r5, 3)) (hw6 : V[w6]? = some (r6, 6)) (hw8 : V[w8]? = some (r8, 3)) (hI : ∀ s' : Int32 × LwS, o = .inl s' → GZ K 1 82 [some (.ref r0), some (.ref r1), some (.int x2), some (.int x3), some (.int x4), some (.ref r5), some (.ref r6), some (.int x7), some (.ref r8), some (.int x9), some (.int x10), some (.int s'.1), none, none, none, none] [] Vc s'.2) (hE0 : ∀ t : LwS, o = .inr t → GZ K 1 307 [none, none, none, none, none, none, none, none, none, none, none, none, none, none, none, none] [] Vc t) (h : fL_best_b124 w0 w1 x2 x3 x4 w5 w6 x7 w8 x9 x10 x11 x12 x13 y0 nw σ = some o) : GZ K 1 124 [some (.ref r0), some (.ref r1), some (.int x2), some (.int x3), some (.int x4), some (.ref r5), some (.ref r6), some (.int x7), some (.ref r8), some (.int x9), some (.int x10), some (.int x11), some (.int x12), some (.int x13), none, none] [.int y0] V σ := by
  unfold fL_best_b124 at h
  refine z_istore C.c (i := 14) (L' := [some (.ref r0), some (.ref r1), some (.int x2), some (.int x3), some (.int x4), some (.ref r5), some (.ref r6), some (.int x7), some (.ref r8), some (.int x9), some (.int x10), some (.int x11), some (.int x12), some (.int x13), some (.int y0), none]) dL_best_124 (Nat.le_of_ble_eq_true rfl) rfl ?_
  refine z_iload C.c dL_best_126 (i := 7) rfl ?_
  refine z_iconst C.c dL_best_128 (v := (1 : Int32)) (by decide) ?_
  refine z_isub C.c dL_best_129 ?_
  refine z_istore C.c (i := 15) (L' := [some (.ref r0), some (.ref r1), some (.int x2), some (.int x3), some (.int x4), some (.ref r5), some (.ref r6), some (.int x7), some (.ref r8), some (.int x9), some (.int x10), some (.int x11), some (.int x12), some (.int x13), some (.int y0), some (.int (x7 - (1 : Int32)))]) dL_best_130 (Nat.le_of_ble_eq_true rfl) rfl ?_
  refine z_mask [true, true, true, true, true, true, true, true, true, true, true, true, true, true, true, true] rfl ?_
  refine lp_bind (Gh := fun s => GZ K 1 132 [some (.ref r0), some (.ref r1), some (.int x2), some (.int x3), some (.int x4), some (.ref r5), some (.ref r6), some (.int x7), some (.ref r8), some (.int x9), some (.int x10), some (.int x11), some (.int s.1), some (.int x13), some (.int y0), some (.int s.2.1)] [] V s.2.2) h (fun s o2 hf gI gE => ?_)
  refine bL_best_b132 C Pf.rf hN hw0 hw1 hw5 hw6 hw8 gI (fun t12 e => ?_) hf
  · have h := gE _ e
    refine z_aload_n C.c dL_best_167 rfl (i := 0) rfl ?_
    refine z_aload_n C.c dL_best_168 rfl (i := 1) rfl ?_
    refine z_iload_n C.c dL_best_169 rfl (i := 2) rfl ?_
    refine z_iload_n C.c dL_best_170 rfl (i := 3) rfl ?_
    refine z_iload C.c dL_best_171 (i := 4) rfl ?_
    refine z_iload C.c dL_best_173 (i := 12) rfl ?_
    refine z_iload C.c dL_best_175 (i := 7) rfl ?_
    refine z_aload C.c dL_best_177 (i := 8) rfl ?_
    obtain ⟨p14, e15, h⟩ := Option.bind_eq_some_iff.mp h
    refine kz_43 C hw0 hw1 hw8 dL_best_179 e15 (Nat.le_of_ble_eq_true rfl) rfl (Nat.le_of_ble_eq_true rfl) ?_
    refine z_if_ne C.c (tgt := 188) dL_best_182 (by decide) (fun c => ?_) (fun c => ?_)
    · replace h := ite_f c h
      refine z_aload C.c dL_best_188 (i := 5) rfl ?_
      refine z_iconst C.c dL_best_190 (v := (0 : Int32)) (by decide) ?_
      refine z_iald C dL_best_191 hw5 (by decide) ?_
      refine z_aload C.c dL_best_192 (i := 8) rfl ?_
      refine z_iconst C.c dL_best_194 (v := (0 : Int32)) (by decide) ?_
      refine z_iald C dL_best_195 hw8 (by decide) ?_
      refine z_imul C.c dL_best_196 ?_
      refine z_aload C.c dL_best_197 (i := 5) rfl ?_
      refine z_iconst C.c dL_best_199 (v := (1 : Int32)) (by decide) ?_
      refine z_iald C dL_best_200 hw5 (by decide) ?_
      refine z_iload_n C.c dL_best_201 rfl (i := 3) rfl ?_
      refine z_imul C.c dL_best_202 ?_
      refine z_aload C.c dL_best_203 (i := 8) rfl ?_
      refine z_iconst C.c dL_best_205 (v := (2 : Int32)) (by decide) ?_
      refine z_iald C dL_best_206 hw8 (by decide) ?_
      refine z_imul C.c dL_best_207 ?_
      refine z_isub C.c dL_best_208 ?_
      refine z_iload C.c dL_best_209 (i := 4) rfl ?_
      refine z_if_eq C.c (tgt := 221) dL_best_211 (by decide) (fun c => ?_) (fun c => ?_)
      · replace h := ite_t c h
        refine z_iconst C.c dL_best_221 (v := (0 : Int32)) (by decide) ?_
        exact z_mask [true, true, true, true, true, true, true, true, true, true, true, true, true, false, false, false] rfl (bL_best_b222 C hp hN hw0 hw1 hw5 hw6 hw8 hI hE0 h)
      · replace h := ite_f c h
        refine z_aload C.c dL_best_214 (i := 5) rfl ?_
        refine z_iconst C.c dL_best_216 (v := (2 : Int32)) (by decide) ?_
        refine z_iald C dL_best_217 hw5 (by decide) ?_
        refine z_goto C.c (tgt := 222) dL_best_218 (by decide) ?_
        exact z_mask [true, true, true, true, true, true, true, true, true, true, true, true, true, false, false, false] rfl (bL_best_b222 C hp hN hw0 hw1 hw5 hw6 hw8 hI hE0 h)
    · replace h := ite_t c h
      refine z_goto C.c (tgt := 301) dL_best_185 (by decide) ?_
      exact z_mask [true, true, true, true, true, true, true, true, true, true, true, true, false, false, false, false] rfl (bL_best_b301 C hp hN hw0 hw1 hw5 hw6 hw8 hI hE0 h)
set_option maxRecDepth 8000 in
theorem bL_best_b108 {K : KT} {w0 : Nat} {w1 : Nat} {x2 : Int32} {x3 : Int32} {x4 : Int32} {w5 : Nat} {w6 : Nat} {x7 : Int32} {w8 : Nat} {x9 : Int32} {x10 : Int32} {x11 : Int32} {x12 : Int32} {y0 : Int32} {r0 : Nat} {r1 : Nat} {r5 : Nat} {r6 : Nat} {r8 : Nat} {nw : Nat} {σ : LwS} {o : (Int32 × LwS) ⊕ ((LwS))} {V Vc : Wl} {b Ln : Nat} {xs : Nat → Int32} (C : CZ K cL_best RL 16 3 1 none b Ln xs) (hp : Pf Vc V) (hN : V.length = nw) (hw0 : V[w0]? = some (r0, 63)) (hw1 : V[w1]? = some (r1, 26)) (hw5 : V[w5]? = some (r5, 3)) (hw6 : V[w6]? = some (r6, 6)) (hw8 : V[w8]? = some (r8, 3)) (hI : ∀ s' : Int32 × LwS, o = .inl s' → GZ K 1 82 [some (.ref r0), some (.ref r1), some (.int x2), some (.int x3), some (.int x4), some (.ref r5), some (.ref r6), some (.int x7), some (.ref r8), some (.int x9), some (.int x10), some (.int s'.1), none, none, none, none] [] Vc s'.2) (hE0 : ∀ t : LwS, o = .inr t → GZ K 1 307 [none, none, none, none, none, none, none, none, none, none, none, none, none, none, none, none] [] Vc t) (h : fL_best_b108 w0 w1 x2 x3 x4 w5 w6 x7 w8 x9 x10 x11 x12 y0 nw σ = some o) : GZ K 1 108 [some (.ref r0), some (.ref r1), some (.int x2), some (.int x3), some (.int x4), some (.ref r5), some (.ref r6), some (.int x7), some (.ref r8), some (.int x9), some (.int x10), some (.int x11), some (.int x12), none, none, none] [.int y0] V σ := by
  unfold fL_best_b108 at h
  refine z_istore C.c (i := 13) (L' := [some (.ref r0), some (.ref r1), some (.int x2), some (.int x3), some (.int x4), some (.ref r5), some (.ref r6), some (.int x7), some (.ref r8), some (.int x9), some (.int x10), some (.int x11), some (.int x12), some (.int y0), none, none]) dL_best_108 (Nat.le_of_ble_eq_true rfl) rfl ?_
  refine z_iload C.c dL_best_110 (i := 9) rfl ?_
  refine z_iload C.c dL_best_112 (i := 10) rfl ?_
  refine z_icmp_ge C.c (tgt := 122) dL_best_114 (by decide) (fun c => ?_) (fun c => ?_)
  · replace h := ite_t c h
    refine z_iload C.c dL_best_122 (i := 9) rfl ?_
    exact z_mask [true, true, true, true, true, true, true, true, true, true, true, true, true, true, false, false] rfl (bL_best_b124 C hp hN hw0 hw1 hw5 hw6 hw8 hI hE0 h)
  · replace h := ite_f c h
    refine z_iload C.c dL_best_117 (i := 10) rfl ?_
    refine z_goto C.c (tgt := 124) dL_best_119 (by decide) ?_
    exact z_mask [true, true, true, true, true, true, true, true, true, true, true, true, true, true, false, false] rfl (bL_best_b124 C hp hN hw0 hw1 hw5 hw6 hw8 hI hE0 h)
set_option maxRecDepth 8000 in
theorem bL_best_b82 {K : KT} {w0 : Nat} {w1 : Nat} {x2 : Int32} {x3 : Int32} {x4 : Int32} {w5 : Nat} {w6 : Nat} {x7 : Int32} {w8 : Nat} {x9 : Int32} {x10 : Int32} {x11 : Int32} {r0 : Nat} {r1 : Nat} {r5 : Nat} {r6 : Nat} {r8 : Nat} {nw : Nat} {σ : LwS} {o : (Int32 × LwS) ⊕ ((LwS))} {V Vc : Wl} {b Ln : Nat} {xs : Nat → Int32} (C : CZ K cL_best RL 16 3 1 none b Ln xs) (hp : Pf Vc V) (hN : V.length = nw) (hw0 : V[w0]? = some (r0, 63)) (hw1 : V[w1]? = some (r1, 26)) (hw5 : V[w5]? = some (r5, 3)) (hw6 : V[w6]? = some (r6, 6)) (hw8 : V[w8]? = some (r8, 3)) (hI : ∀ s' : Int32 × LwS, o = .inl s' → GZ K 1 82 [some (.ref r0), some (.ref r1), some (.int x2), some (.int x3), some (.int x4), some (.ref r5), some (.ref r6), some (.int x7), some (.ref r8), some (.int x9), some (.int x10), some (.int s'.1), none, none, none, none] [] Vc s'.2) (hE0 : ∀ t : LwS, o = .inr t → GZ K 1 307 [none, none, none, none, none, none, none, none, none, none, none, none, none, none, none, none] [] Vc t) (h : fL_best_b82 w0 w1 x2 x3 x4 w5 w6 x7 w8 x9 x10 x11 nw σ = some o) : GZ K 1 82 [some (.ref r0), some (.ref r1), some (.int x2), some (.int x3), some (.int x4), some (.ref r5), some (.ref r6), some (.int x7), some (.ref r8), some (.int x9), some (.int x10), some (.int x11), none, none, none, none] [] V σ := by
  unfold fL_best_b82 at h
  refine z_iload C.c dL_best_82 (i := 11) rfl ?_
  refine z_iconst C.c dL_best_84 (v := (1 : Int32)) (by decide) ?_
  refine z_iload C.c dL_best_85 (i := 7) rfl ?_
  refine z_ishl C.c dL_best_87 ?_
  refine z_icmp_ge C.c (tgt := 307) dL_best_88 (by decide) (fun c => ?_) (fun c => ?_)
  · replace h := ite_t c h
    have g9 := hE0 _ (Option.some.inj h).symm
    exact z_mask [false, false, false, false, false, false, false, false, false, false, false, false, false, false, false, false] rfl (z_drop hp g9)
  · replace h := ite_f c h
    refine z_iconst C.c dL_best_91 (v := (0 : Int32)) (by decide) ?_
    refine z_istore C.c (i := 12) (L' := [some (.ref r0), some (.ref r1), some (.int x2), some (.int x3), some (.int x4), some (.ref r5), some (.ref r6), some (.int x7), some (.ref r8), some (.int x9), some (.int x10), some (.int x11), some (.int (0 : Int32)), none, none, none]) dL_best_92 (Nat.le_of_ble_eq_true rfl) rfl ?_
    refine z_iload C.c dL_best_94 (i := 9) rfl ?_
    refine z_iload C.c dL_best_96 (i := 10) rfl ?_
    refine z_icmp_ge C.c (tgt := 106) dL_best_98 (by decide) (fun c => ?_) (fun c => ?_)
    · replace h := ite_t c h
      refine z_iload C.c dL_best_106 (i := 10) rfl ?_
      exact z_mask [true, true, true, true, true, true, true, true, true, true, true, true, true, false, false, false] rfl (bL_best_b108 C hp hN hw0 hw1 hw5 hw6 hw8 hI hE0 h)
    · replace h := ite_f c h
      refine z_iload C.c dL_best_101 (i := 9) rfl ?_
      refine z_goto C.c (tgt := 108) dL_best_103 (by decide) ?_
      exact z_mask [true, true, true, true, true, true, true, true, true, true, true, true, true, false, false, false] rfl (bL_best_b108 C hp hN hw0 hw1 hw5 hw6 hw8 hI hE0 h)
set_option maxRecDepth 8000 in
theorem bL_best_b77 {K : KT} {w0 : Nat} {w1 : Nat} {x2 : Int32} {x3 : Int32} {x4 : Int32} {w5 : Nat} {w6 : Nat} {x7 : Int32} {w8 : Nat} {x9 : Int32} {y0 : Int32} {r0 : Nat} {r1 : Nat} {r5 : Nat} {r6 : Nat} {r8 : Nat} {nw : Nat} {σ : LwS} {o : LwS} {V Vc : Wl} {b Ln : Nat} {xs : Nat → Int32} (C : CZ K cL_best RL 16 3 1 none b Ln xs) (hp : Pf Vc V) (hN : V.length = nw) (hw0 : V[w0]? = some (r0, 63)) (hw1 : V[w1]? = some (r1, 26)) (hw5 : V[w5]? = some (r5, 3)) (hw6 : V[w6]? = some (r6, 6)) (hw8 : V[w8]? = some (r8, 3)) (hQ : RZ K Vc 1 (ozV o)) (h : fL_best_b77 w0 w1 x2 x3 x4 w5 w6 x7 w8 x9 y0 nw σ = some o) : GZ K 1 77 [some (.ref r0), some (.ref r1), some (.int x2), some (.int x3), some (.int x4), some (.ref r5), some (.ref r6), some (.int x7), some (.ref r8), some (.int x9), none, none, none, none, none, none] [.int y0] V σ := by
  unfold fL_best_b77 at h
  refine z_istore C.c (i := 10) (L' := [some (.ref r0), some (.ref r1), some (.int x2), some (.int x3), some (.int x4), some (.ref r5), some (.ref r6), some (.int x7), some (.ref r8), some (.int x9), some (.int y0), none, none, none, none, none]) dL_best_77 (Nat.le_of_ble_eq_true rfl) rfl ?_
  refine z_iconst C.c dL_best_79 (v := (0 : Int32)) (by decide) ?_
  refine z_istore C.c (i := 11) (L' := [some (.ref r0), some (.ref r1), some (.int x2), some (.int x3), some (.int x4), some (.ref r5), some (.ref r6), some (.int x7), some (.ref r8), some (.int x9), some (.int y0), some (.int (0 : Int32)), none, none, none, none]) dL_best_80 (Nat.le_of_ble_eq_true rfl) rfl ?_
  refine z_mask [true, true, true, true, true, true, true, true, true, true, true, true, false, false, false, false] rfl ?_
  refine lp_bind (Gh := fun s => GZ K 1 82 [some (.ref r0), some (.ref r1), some (.int x2), some (.int x3), some (.int x4), some (.ref r5), some (.ref r6), some (.int x7), some (.ref r8), some (.int x9), some (.int y0), some (.int s.1), none, none, none, none] [] V s.2) h (fun s o2 hf gI gE => ?_)
  refine bL_best_b82 C Pf.rf hN hw0 hw1 hw5 hw6 hw8 gI (fun t16 e => ?_) hf
  · have h := gE _ e
    obtain rfl := Option.some.inj h
    exact z_vret C hp hQ dL_best_307 ⟨rfl, rfl⟩
set_option maxRecDepth 8000 in
theorem bL_best_b51 {K : KT} {w0 : Nat} {w1 : Nat} {x2 : Int32} {x3 : Int32} {x4 : Int32} {w5 : Nat} {w6 : Nat} {x7 : Int32} {w8 : Nat} {y0 : Int32} {r0 : Nat} {r1 : Nat} {r5 : Nat} {r6 : Nat} {r8 : Nat} {nw : Nat} {σ : LwS} {o : LwS} {V Vc : Wl} {b Ln : Nat} {xs : Nat → Int32} (C : CZ K cL_best RL 16 3 1 none b Ln xs) (hp : Pf Vc V) (hN : V.length = nw) (hw0 : V[w0]? = some (r0, 63)) (hw1 : V[w1]? = some (r1, 26)) (hw5 : V[w5]? = some (r5, 3)) (hw6 : V[w6]? = some (r6, 6)) (hw8 : V[w8]? = some (r8, 3)) (hQ : RZ K Vc 1 (ozV o)) (h : fL_best_b51 w0 w1 x2 x3 x4 w5 w6 x7 w8 y0 nw σ = some o) : GZ K 1 51 [some (.ref r0), some (.ref r1), some (.int x2), some (.int x3), some (.int x4), some (.ref r5), some (.ref r6), some (.int x7), some (.ref r8), none, none, none, none, none, none, none] [.int y0] V σ := by
  unfold fL_best_b51 at h
  refine z_istore C.c (i := 9) (L' := [some (.ref r0), some (.ref r1), some (.int x2), some (.int x3), some (.int x4), some (.ref r5), some (.ref r6), some (.int x7), some (.ref r8), some (.int y0), none, none, none, none, none, none]) dL_best_51 (Nat.le_of_ble_eq_true rfl) rfl ?_
  refine z_aload_n C.c dL_best_53 rfl (i := 1) rfl ?_
  refine z_iload_n C.c dL_best_54 rfl (i := 2) rfl ?_
  refine z_iconst C.c dL_best_55 (v := (1 : Int32)) (by decide) ?_
  refine z_iadd C.c dL_best_56 ?_
  obtain ⟨c9, h⟩ := chk h
  refine z_iald C dL_best_57 hw1 c9 ?_
  refine z_aload_n C.c dL_best_58 rfl (i := 0) rfl ?_
  refine z_iconst C.c dL_best_59 (v := (1 : Int32)) (by decide) ?_
  refine z_iald C dL_best_60 hw0 (by decide) ?_
  obtain ⟨c10, h⟩ := chk0 h
  refine z_irem C.c dL_best_61 c10 ?_
  refine z_aload_n C.c dL_best_62 rfl (i := 0) rfl ?_
  refine z_iconst C.c dL_best_63 (v := (2 : Int32)) (by decide) ?_
  refine z_iald C dL_best_64 hw0 (by decide) ?_
  refine z_aload_n C.c dL_best_65 rfl (i := 0) rfl ?_
  refine z_iconst C.c dL_best_66 (v := (1 : Int32)) (by decide) ?_
  refine z_iald C dL_best_67 hw0 (by decide) ?_
  obtain ⟨c11, h⟩ := chk0 h
  refine z_irem C.c dL_best_68 c11 ?_
  refine z_icmp_le C.c (tgt := 76) dL_best_69 (by decide) (fun c => ?_) (fun c => ?_)
  · replace h := ite_t c h
    refine z_iconst C.c dL_best_76 (v := (1 : Int32)) (by decide) ?_
    exact z_mask [true, true, true, true, true, true, true, true, true, true, false, false, false, false, false, false] rfl (bL_best_b77 C hp hN hw0 hw1 hw5 hw6 hw8 hQ h)
  · replace h := ite_f c h
    refine z_iconst C.c dL_best_72 (v := (3 : Int32)) (by decide) ?_
    refine z_goto C.c (tgt := 77) dL_best_73 (by decide) ?_
    exact z_mask [true, true, true, true, true, true, true, true, true, true, false, false, false, false, false, false] rfl (bL_best_b77 C hp hN hw0 hw1 hw5 hw6 hw8 hQ h)
set_option maxRecDepth 8000 in
theorem bL_best_b0 {K : KT} {w0 : Nat} {w1 : Nat} {x2 : Int32} {x3 : Int32} {x4 : Int32} {w5 : Nat} {w6 : Nat} {r0 : Nat} {r1 : Nat} {r5 : Nat} {r6 : Nat} {nw : Nat} {σ : LwS} {o : LwS} {V Vc : Wl} {b Ln : Nat} {xs : Nat → Int32} (C : CZ K cL_best RL 16 3 1 none b Ln xs) (hp : Pf Vc V) (hN : V.length = nw) (hw0 : V[w0]? = some (r0, 63)) (hw1 : V[w1]? = some (r1, 26)) (hw5 : V[w5]? = some (r5, 3)) (hw6 : V[w6]? = some (r6, 6)) (hQ : RZ K Vc 1 (ozV o)) (h : fL_best_b0 w0 w1 x2 x3 x4 w5 w6 nw σ = some o) : GZ K 1 0 [some (.ref r0), some (.ref r1), some (.int x2), some (.int x3), some (.int x4), some (.ref r5), some (.ref r6), none, none, none, none, none, none, none, none, none] [] V σ := by
  unfold fL_best_b0 at h
  refine z_aload_n C.c dL_best_0 rfl (i := 0) rfl ?_
  refine z_aload_n C.c dL_best_1 rfl (i := 1) rfl ?_
  refine z_iload_n C.c dL_best_2 rfl (i := 2) rfl ?_
  refine z_iconst C.c dL_best_3 (v := (1 : Int32)) (by decide) ?_
  refine z_iadd C.c dL_best_4 ?_
  obtain ⟨c1, h⟩ := chk h
  refine z_iald C dL_best_5 hw1 c1 ?_
  obtain ⟨p2, e3, h⟩ := Option.bind_eq_some_iff.mp h
  refine kz_32 C hw0 dL_best_6 e3 (Nat.le_of_ble_eq_true rfl) rfl (Nat.le_of_ble_eq_true rfl) ?_
  refine z_istore C.c (i := 7) (L' := [some (.ref r0), some (.ref r1), some (.int x2), some (.int x3), some (.int x4), some (.ref r5), some (.ref r6), some (.int p2.1), none, none, none, none, none, none, none, none]) dL_best_9 (Nat.le_of_ble_eq_true rfl) rfl ?_
  refine z_iconst C.c dL_best_11 (v := (3 : Int32)) (by decide) ?_
  obtain ⟨c4, h⟩ := chk h
  refine z_newI C (N := 3) dL_best_12 aw_68 (by decide) (by decide) (by decide) hN c4 (fun q5 => ?_)
  refine z_astore C.c (i := 8) (L' := [some (.ref r0), some (.ref r1), some (.int x2), some (.int x3), some (.int x4), some (.ref r5), some (.ref r6), some (.int p2.1), some (.ref q5), none, none, none, none, none, none, none]) dL_best_14 (Nat.le_of_ble_eq_true rfl) rfl ?_
  refine z_aload C.c dL_best_16 (i := 6) rfl ?_
  refine z_iconst C.c dL_best_18 (v := (3 : Int32)) (by decide) ?_
  refine z_iload C.c dL_best_19 (i := 7) rfl ?_
  refine z_iast C dL_best_21 (z_up hw6) (by decide) ?_
  refine z_aload C.c dL_best_22 (i := 6) rfl ?_
  refine z_iconst C.c dL_best_24 (v := (5 : Int32)) (by decide) ?_
  refine z_iconst C.c dL_best_25 (v := (0 : Int32)) (by decide) ?_
  refine z_iast C dL_best_26 (z_up hw6) (by decide) ?_
  refine z_aload_n C.c dL_best_27 rfl (i := 1) rfl ?_
  refine z_iload_n C.c dL_best_28 rfl (i := 2) rfl ?_
  refine z_iconst C.c dL_best_29 (v := (1 : Int32)) (by decide) ?_
  refine z_iadd C.c dL_best_30 ?_
  obtain ⟨c6, h⟩ := chk h
  refine z_iald C dL_best_31 (z_up hw1) c6 ?_
  refine z_aload_n C.c dL_best_32 rfl (i := 0) rfl ?_
  refine z_iconst C.c dL_best_33 (v := (1 : Int32)) (by decide) ?_
  refine z_iald C dL_best_34 (z_up hw0) (by decide) ?_
  obtain ⟨c7, h⟩ := chk0 h
  refine z_idiv C.c dL_best_35 c7 ?_
  refine z_aload_n C.c dL_best_36 rfl (i := 0) rfl ?_
  refine z_iconst C.c dL_best_37 (v := (2 : Int32)) (by decide) ?_
  refine z_iald C dL_best_38 (z_up hw0) (by decide) ?_
  refine z_aload_n C.c dL_best_39 rfl (i := 0) rfl ?_
  refine z_iconst C.c dL_best_40 (v := (1 : Int32)) (by decide) ?_
  refine z_iald C dL_best_41 (z_up hw0) (by decide) ?_
  obtain ⟨c8, h⟩ := chk0 h
  refine z_idiv C.c dL_best_42 c8 ?_
  refine z_icmp_le C.c (tgt := 50) dL_best_43 (by decide) (fun c => ?_) (fun c => ?_)
  · replace h := ite_t c h
    refine z_iconst C.c dL_best_50 (v := (2 : Int32)) (by decide) ?_
    exact z_mask [true, true, true, true, true, true, true, true, true, false, false, false, false, false, false, false] rfl (bL_best_b51 C (Pf.up hp) (z_len hN) (z_up hw0) (z_up hw1) (z_up hw5) (z_up hw6) (z_new hN) hQ h)
  · replace h := ite_f c h
    refine z_iconst C.c dL_best_46 (v := (0 : Int32)) (by decide) ?_
    refine z_goto C.c (tgt := 51) dL_best_47 (by decide) ?_
    exact z_mask [true, true, true, true, true, true, true, true, true, false, false, false, false, false, false, false] rfl (bL_best_b51 C (Pf.up hp) (z_len hN) (z_up hw0) (z_up hw1) (z_up hw5) (z_up hw6) (z_new hN) hQ h)
def fL_best (q0 : Nat) (q1 : Nat) (a2 : Int32) (a3 : Int32) (a4 : Int32) (q5 : Nat) (q6 : Nat) (nw : Nat) (σ : LwS) : Option (LwS) := fL_best_b0 q0 q1 a2 a3 a4 q5 q6 nw σ
theorem ct_L_best {q0 : Nat} {q1 : Nat} {a2 : Int32} {a3 : Int32} {a4 : Int32} {q5 : Nat} {q6 : Nat} {r0 : Nat} {r1 : Nat} {r5 : Nat} {r6 : Nat} {nw : Nat} {V : Wl} {b Ln : Nat} {xs : Nat → Int32} {σ : LwS} {p : LwS} (hq0 : V[q0]? = some (r0, 63)) (hq1 : V[q1]? = some (r1, 26)) (hq5 : V[q5]? = some (r5, 3)) (hq6 : V[q6]? = some (r6, 6)) (hN : V.length = nw) (hs : σ.2.2 = 0) (h : fL_best q0 q1 a2 a3 a4 q5 q6 nw σ = some p) : CtZ V yL_best cL_best 16 none 3 1 b Ln xs (fun ad => [.ref r0, .ref r1, .int a2, .int a3, .int a4, .ref r5, .ref r6]) σ (ozV p) :=
 ctz_of (L0 := fun ad => [some (.ref r0), some (.ref r1), some (.int a2), some (.int a3), some (.int a4), some (.ref r5), some (.ref r6), none, none, none, none, none, none, none, none, none]) (by decide) hs (fun _ => Nat.le_of_ble_eq_true rfl) (fun _ => rfl) (fun K C hQ => z_mask [true, true, true, true, true, true, true, false, false, false, false, false, false, false, false, false] rfl (bL_best_b0 C Pf.rf hN hq0 hq1 hq5 hq6 hQ h))
-- L_season
theorem dL_season_0 : decode cL_season 0 = .ok (.iconst 0, 1) := by decide +kernel
theorem dL_season_1 : decode cL_season 1 = .ok (.istore 5, 2) := by decide +kernel
theorem dL_season_3 : decode cL_season 3 = .ok (.iconst 3, 1) := by decide +kernel
theorem dL_season_4 : decode cL_season 4 = .ok (.newarray .int, 2) := by decide +kernel
theorem dL_season_6 : decode cL_season 6 = .ok (.astore 6, 2) := by decide +kernel
theorem dL_season_8 : decode cL_season 8 = .ok (.iconst 1, 1) := by decide +kernel
theorem dL_season_9 : decode cL_season 9 = .ok (.istore 7, 2) := by decide +kernel
theorem dL_season_11 : decode cL_season 11 = .ok (.iload 7, 2) := by decide +kernel
theorem dL_season_13 : decode cL_season 13 = .ok (.sipush 1728, 3) := by decide +kernel
theorem dL_season_16 : decode cL_season 16 = .ok (.if_icmp .ge 202, 3) := by decide +kernel
theorem dL_season_19 : decode cL_season 19 = .ok (.iconst 3, 1) := by decide +kernel
theorem dL_season_20 : decode cL_season 20 = .ok (.newarray .int, 2) := by decide +kernel
theorem dL_season_22 : decode cL_season 22 = .ok (.astore 8, 2) := by decide +kernel
theorem dL_season_24 : decode cL_season 24 = .ok (.aload 8, 2) := by decide +kernel
theorem dL_season_26 : decode cL_season 26 = .ok (.iconst 0, 1) := by decide +kernel
theorem dL_season_27 : decode cL_season 27 = .ok (.iload 7, 2) := by decide +kernel
theorem dL_season_29 : decode cL_season 29 = .ok (.sipush 144, 3) := by decide +kernel
theorem dL_season_32 : decode cL_season 32 = .ok (.idiv, 1) := by decide +kernel
theorem dL_season_33 : decode cL_season 33 = .ok (.iastore, 1) := by decide +kernel
theorem dL_season_34 : decode cL_season 34 = .ok (.aload 8, 2) := by decide +kernel
theorem dL_season_36 : decode cL_season 36 = .ok (.iconst 1, 1) := by decide +kernel
theorem dL_season_37 : decode cL_season 37 = .ok (.iload 7, 2) := by decide +kernel
theorem dL_season_39 : decode cL_season 39 = .ok (.bipush 12, 2) := by decide +kernel
theorem dL_season_41 : decode cL_season 41 = .ok (.idiv, 1) := by decide +kernel
theorem dL_season_42 : decode cL_season 42 = .ok (.bipush 12, 2) := by decide +kernel
theorem dL_season_44 : decode cL_season 44 = .ok (.irem, 1) := by decide +kernel
theorem dL_season_45 : decode cL_season 45 = .ok (.iastore, 1) := by decide +kernel
theorem dL_season_46 : decode cL_season 46 = .ok (.aload 8, 2) := by decide +kernel
theorem dL_season_48 : decode cL_season 48 = .ok (.iconst 2, 1) := by decide +kernel
theorem dL_season_49 : decode cL_season 49 = .ok (.iload 7, 2) := by decide +kernel
theorem dL_season_51 : decode cL_season 51 = .ok (.bipush 12, 2) := by decide +kernel
theorem dL_season_53 : decode cL_season 53 = .ok (.irem, 1) := by decide +kernel
theorem dL_season_54 : decode cL_season 54 = .ok (.iastore, 1) := by decide +kernel
theorem dL_season_55 : decode cL_season 55 = .ok (.iconst 0, 1) := by decide +kernel
theorem dL_season_56 : decode cL_season 56 = .ok (.istore 9, 2) := by decide +kernel
theorem dL_season_58 : decode cL_season 58 = .ok (.aload 8, 2) := by decide +kernel
theorem dL_season_60 : decode cL_season 60 = .ok (.iconst 0, 1) := by decide +kernel
theorem dL_season_61 : decode cL_season 61 = .ok (.iaload, 1) := by decide +kernel
theorem dL_season_62 : decode cL_season 62 = .ok (.aload 8, 2) := by decide +kernel
theorem dL_season_64 : decode cL_season 64 = .ok (.iconst 1, 1) := by decide +kernel
theorem dL_season_65 : decode cL_season 65 = .ok (.iaload, 1) := by decide +kernel
theorem dL_season_66 : decode cL_season 66 = .ok (.iadd, 1) := by decide +kernel
theorem dL_season_67 : decode cL_season 67 = .ok (.aload 8, 2) := by decide +kernel
theorem dL_season_69 : decode cL_season 69 = .ok (.iconst 2, 1) := by decide +kernel
theorem dL_season_70 : decode cL_season 70 = .ok (.iaload, 1) := by decide +kernel
theorem dL_season_71 : decode cL_season 71 = .ok (.iadd, 1) := by decide +kernel
theorem dL_season_72 : decode cL_season 72 = .ok (.iload_n 3, 1) := by decide +kernel
theorem dL_season_73 : decode cL_season 73 = .ok (.if_icmp .gt 7, 3) := by decide +kernel
theorem dL_season_76 : decode cL_season 76 = .ok (.iconst 1, 1) := by decide +kernel
theorem dL_season_77 : decode cL_season 77 = .ok (.goto 4, 3) := by decide +kernel
theorem dL_season_80 : decode cL_season 80 = .ok (.iconst 0, 1) := by decide +kernel
theorem dL_season_81 : decode cL_season 81 = .ok (.istore 10, 2) := by decide +kernel
theorem dL_season_83 : decode cL_season 83 = .ok (.iconst 0, 1) := by decide +kernel
theorem dL_season_84 : decode cL_season 84 = .ok (.istore 11, 2) := by decide +kernel
theorem dL_season_86 : decode cL_season 86 = .ok (.iload 11, 2) := by decide +kernel
theorem dL_season_88 : decode cL_season 88 = .ok (.iconst 3, 1) := by decide +kernel
theorem dL_season_89 : decode cL_season 89 = .ok (.if_icmp .ge 79, 3) := by decide +kernel
theorem dL_season_92 : decode cL_season 92 = .ok (.iload 10, 2) := by decide +kernel
theorem dL_season_94 : decode cL_season 94 = .ok (.ifCond .eq 74, 3) := by decide +kernel
theorem dL_season_97 : decode cL_season 97 = .ok (.aload 8, 2) := by decide +kernel
theorem dL_season_99 : decode cL_season 99 = .ok (.iload 11, 2) := by decide +kernel
theorem dL_season_101 : decode cL_season 101 = .ok (.iaload, 1) := by decide +kernel
theorem dL_season_102 : decode cL_season 102 = .ok (.ifCond .ne 6, 3) := by decide +kernel
theorem dL_season_105 : decode cL_season 105 = .ok (.goto 57, 3) := by decide +kernel
theorem dL_season_108 : decode cL_season 108 = .ok (.iload 11, 2) := by decide +kernel
theorem dL_season_110 : decode cL_season 110 = .ok (.iload_n 1, 1) := by decide +kernel
theorem dL_season_111 : decode cL_season 111 = .ok (.if_icmp .ge 25, 3) := by decide +kernel
theorem dL_season_114 : decode cL_season 114 = .ok (.aload_n 2, 1) := by decide +kernel
theorem dL_season_115 : decode cL_season 115 = .ok (.bipush 12, 2) := by decide +kernel
theorem dL_season_117 : decode cL_season 117 = .ok (.iload 11, 2) := by decide +kernel
theorem dL_season_119 : decode cL_season 119 = .ok (.imul, 1) := by decide +kernel
theorem dL_season_120 : decode cL_season 120 = .ok (.aload 8, 2) := by decide +kernel
theorem dL_season_122 : decode cL_season 122 = .ok (.iload 11, 2) := by decide +kernel
theorem dL_season_124 : decode cL_season 124 = .ok (.iaload, 1) := by decide +kernel
theorem dL_season_125 : decode cL_season 125 = .ok (.iadd, 1) := by decide +kernel
theorem dL_season_126 : decode cL_season 126 = .ok (.iaload, 1) := by decide +kernel
theorem dL_season_127 : decode cL_season 127 = .ok (.ldc 79, 2) := by decide +kernel
theorem dL_season_129 : decode cL_season 129 = .ok (.if_icmp .le 7, 3) := by decide +kernel
theorem dL_season_132 : decode cL_season 132 = .ok (.iconst 1, 1) := by decide +kernel
theorem dL_season_133 : decode cL_season 133 = .ok (.goto 4, 3) := by decide +kernel
theorem dL_season_136 : decode cL_season 136 = .ok (.iconst 0, 1) := by decide +kernel
theorem dL_season_137 : decode cL_season 137 = .ok (.istore 10, 2) := by decide +kernel
theorem dL_season_139 : decode cL_season 139 = .ok (.iload 10, 2) := by decide +kernel
theorem dL_season_141 : decode cL_season 141 = .ok (.ifCond .eq 21, 3) := by decide +kernel
theorem dL_season_144 : decode cL_season 144 = .ok (.iload 9, 2) := by decide +kernel
theorem dL_season_146 : decode cL_season 146 = .ok (.aload_n 2, 1) := by decide +kernel
theorem dL_season_147 : decode cL_season 147 = .ok (.bipush 12, 2) := by decide +kernel
theorem dL_season_149 : decode cL_season 149 = .ok (.iload 11, 2) := by decide +kernel
theorem dL_season_151 : decode cL_season 151 = .ok (.imul, 1) := by decide +kernel
theorem dL_season_152 : decode cL_season 152 = .ok (.aload 8, 2) := by decide +kernel
theorem dL_season_154 : decode cL_season 154 = .ok (.iload 11, 2) := by decide +kernel
theorem dL_season_156 : decode cL_season 156 = .ok (.iaload, 1) := by decide +kernel
theorem dL_season_157 : decode cL_season 157 = .ok (.iadd, 1) := by decide +kernel
theorem dL_season_158 : decode cL_season 158 = .ok (.iaload, 1) := by decide +kernel
theorem dL_season_159 : decode cL_season 159 = .ok (.iadd, 1) := by decide +kernel
theorem dL_season_160 : decode cL_season 160 = .ok (.istore 9, 2) := by decide +kernel
theorem dL_season_162 : decode cL_season 162 = .ok (.iinc 11 1, 3) := by decide +kernel
theorem dL_season_165 : decode cL_season 165 = .ok (.goto (-79), 3) := by decide +kernel
theorem dL_season_168 : decode cL_season 168 = .ok (.iload 10, 2) := by decide +kernel
theorem dL_season_170 : decode cL_season 170 = .ok (.ifCond .eq 42, 3) := by decide +kernel
theorem dL_season_173 : decode cL_season 173 = .ok (.iload 9, 2) := by decide +kernel
theorem dL_season_175 : decode cL_season 175 = .ok (.iload 5, 2) := by decide +kernel
theorem dL_season_177 : decode cL_season 177 = .ok (.if_icmp .gt 6, 3) := by decide +kernel
theorem dL_season_180 : decode cL_season 180 = .ok (.goto 32, 3) := by decide +kernel
theorem dL_season_183 : decode cL_season 183 = .ok (.iload 9, 2) := by decide +kernel
theorem dL_season_185 : decode cL_season 185 = .ok (.istore 5, 2) := by decide +kernel
theorem dL_season_187 : decode cL_season 187 = .ok (.iconst 0, 1) := by decide +kernel
theorem dL_season_188 : decode cL_season 188 = .ok (.istore 11, 2) := by decide +kernel
theorem dL_season_190 : decode cL_season 190 = .ok (.iload 11, 2) := by decide +kernel
theorem dL_season_192 : decode cL_season 192 = .ok (.iconst 3, 1) := by decide +kernel
theorem dL_season_193 : decode cL_season 193 = .ok (.if_icmp .ge 19, 3) := by decide +kernel
theorem dL_season_196 : decode cL_season 196 = .ok (.aload 6, 2) := by decide +kernel
theorem dL_season_198 : decode cL_season 198 = .ok (.iload 11, 2) := by decide +kernel
theorem dL_season_200 : decode cL_season 200 = .ok (.aload 8, 2) := by decide +kernel
theorem dL_season_202 : decode cL_season 202 = .ok (.iload 11, 2) := by decide +kernel
theorem dL_season_204 : decode cL_season 204 = .ok (.iaload, 1) := by decide +kernel
theorem dL_season_205 : decode cL_season 205 = .ok (.iastore, 1) := by decide +kernel
theorem dL_season_206 : decode cL_season 206 = .ok (.iinc 11 1, 3) := by decide +kernel
theorem dL_season_209 : decode cL_season 209 = .ok (.goto (-19), 3) := by decide +kernel
theorem dL_season_212 : decode cL_season 212 = .ok (.iinc 7 1, 3) := by decide +kernel
theorem dL_season_215 : decode cL_season 215 = .ok (.goto (-204), 3) := by decide +kernel
theorem dL_season_218 : decode cL_season 218 = .ok (.iload 4, 2) := by decide +kernel
theorem dL_season_220 : decode cL_season 220 = .ok (.ifCond .ne 6, 3) := by decide +kernel
theorem dL_season_223 : decode cL_season 223 = .ok (.iload 5, 2) := by decide +kernel
theorem dL_season_225 : decode cL_season 225 = .ok (.ireturn, 1) := by decide +kernel
theorem dL_season_226 : decode cL_season 226 = .ok (.aload_n 0, 1) := by decide +kernel
theorem dL_season_227 : decode cL_season 227 = .ok (.iload_n 3, 1) := by decide +kernel
theorem dL_season_228 : decode cL_season 228 = .ok (.iconst 0, 1) := by decide +kernel
theorem dL_season_229 : decode cL_season 229 = .ok (.invokevirtual 110, 3) := by decide +kernel
theorem dL_season_232 : decode cL_season 232 = .ok (.iload 5, 2) := by decide +kernel
theorem dL_season_234 : decode cL_season 234 = .ok (.if_icmp .eq 5, 3) := by decide +kernel
theorem dL_season_237 : decode cL_season 237 = .ok (.iconst (-1), 1) := by decide +kernel
theorem dL_season_238 : decode cL_season 238 = .ok (.ireturn, 1) := by decide +kernel
theorem dL_season_239 : decode cL_season 239 = .ok (.iconst 0, 1) := by decide +kernel
theorem dL_season_240 : decode cL_season 240 = .ok (.istore 7, 2) := by decide +kernel
theorem dL_season_242 : decode cL_season 242 = .ok (.iload 7, 2) := by decide +kernel
theorem dL_season_244 : decode cL_season 244 = .ok (.iconst 5, 1) := by decide +kernel
theorem dL_season_245 : decode cL_season 245 = .ok (.if_icmp .ge 38, 3) := by decide +kernel
theorem dL_season_248 : decode cL_season 248 = .ok (.aload_n 0, 1) := by decide +kernel
theorem dL_season_249 : decode cL_season 249 = .ok (.iload_n 3, 1) := by decide +kernel
theorem dL_season_250 : decode cL_season 250 = .ok (.iconst 1, 1) := by decide +kernel
theorem dL_season_251 : decode cL_season 251 = .ok (.iload 7, 2) := by decide +kernel
theorem dL_season_253 : decode cL_season 253 = .ok (.iadd, 1) := by decide +kernel
theorem dL_season_254 : decode cL_season 254 = .ok (.invokevirtual 110, 3) := by decide +kernel
theorem dL_season_257 : decode cL_season 257 = .ok (.iload 7, 2) := by decide +kernel
theorem dL_season_259 : decode cL_season 259 = .ok (.iload_n 1, 1) := by decide +kernel
theorem dL_season_260 : decode cL_season 260 = .ok (.if_icmp .ge 11, 3) := by decide +kernel
theorem dL_season_263 : decode cL_season 263 = .ok (.aload 6, 2) := by decide +kernel
theorem dL_season_265 : decode cL_season 265 = .ok (.iload 7, 2) := by decide +kernel
theorem dL_season_267 : decode cL_season 267 = .ok (.iaload, 1) := by decide +kernel
theorem dL_season_268 : decode cL_season 268 = .ok (.goto 4, 3) := by decide +kernel
theorem dL_season_271 : decode cL_season 271 = .ok (.iconst (-1), 1) := by decide +kernel
theorem dL_season_272 : decode cL_season 272 = .ok (.if_icmp .eq 5, 3) := by decide +kernel
theorem dL_season_275 : decode cL_season 275 = .ok (.iconst (-1), 1) := by decide +kernel
theorem dL_season_276 : decode cL_season 276 = .ok (.ireturn, 1) := by decide +kernel
theorem dL_season_277 : decode cL_season 277 = .ok (.iinc 7 1, 3) := by decide +kernel
theorem dL_season_280 : decode cL_season 280 = .ok (.goto (-38), 3) := by decide +kernel
theorem dL_season_283 : decode cL_season 283 = .ok (.iload 5, 2) := by decide +kernel
theorem dL_season_285 : decode cL_season 285 = .ok (.ireturn, 1) := by decide +kernel
theorem cw_L_season : Cw yL_season cL_season 12 (some .int) 5 := ⟨aw_682, aw_18, ⟨by decide, by decide⟩, by decide +kernel, by decide⟩
theorem kz_110 {K : KT} {cc : ByteArray} {nL d M pc : Nat} {ret : Option FieldType} {L : List (Option Value)} {st : List Value} {V : Wl} {σ : LwS} {b Ln : Nat} {xs : Nat → Int32} (C : CZ K cc RL nL d M ret b Ln xs) {a0 : Int32} {a1 : Int32} {p : Int32 × Sg} (hd : decode cc pc = .ok (.invokevirtual 110, 3)) (e : fX9_season a0 a1 σ.1 = some p) (hdd : 17 + 1 ≤ d) (hLn : L.length = nL) (hr : (st.map fun v => v.category).sum ≤ 8) (k : GZ K M (pc + 3) L (.int p.1 :: st) V (cS σ p.2)) : GZ K M pc L (.int a1 :: .int a0 :: .ref (kad K 0) :: st) V σ :=
 z_callC C (As := [.int a0, .int a1]) (rest := st) hd (ct_X9_season e) cw_X9_season aw_567 aw_568 aw_569 rfl rfl rfl hdd hLn rfl hr (fun v τ q => by obtain ⟨rfl, rfl⟩ := q; exact k)
def fL_season_b162 (x1 : Int32) (w2 : Nat) (x3 : Int32) (x4 : Int32) (x5 : Int32) (w6 : Nat) (x7 : Int32) (w8 : Nat) (x9 : Int32) (x10 : Int32) (x11 : Int32) (nw : Nat) (σ : LwS) : Option ((Int32 × Int32 × Int32 × LwS) ⊕ ((Int32 × Int32 × LwS))) :=
  some (.inl (x9, x10, (x11 + (1 : Int32)), σ))
def fL_season_b137 (x1 : Int32) (w2 : Nat) (x3 : Int32) (x4 : Int32) (x5 : Int32) (w6 : Nat) (x7 : Int32) (w8 : Nat) (x9 : Int32) (x11 : Int32) (y0 : Int32) (nw : Nat) (σ : LwS) : Option ((Int32 × Int32 × Int32 × LwS) ⊕ ((Int32 × Int32 × LwS))) :=
  if y0 = 0 then (fL_season_b162 x1 w2 x3 x4 x5 w6 x7 w8 x9 y0 x11 nw σ) else (if inb x11 3 = true then (if inb (((12 : Int32) * x11) + (rT σ w8 (x11).toNatClampNeg)) 60 = true then (fL_season_b162 x1 w2 x3 x4 x5 w6 x7 w8 (x9 + (rT σ w2 ((((12 : Int32) * x11) + (rT σ w8 (x11).toNatClampNeg))).toNatClampNeg)) y0 x11 nw σ) else none) else none)
def fL_season_b136 (x1 : Int32) (w2 : Nat) (x3 : Int32) (x4 : Int32) (x5 : Int32) (w6 : Nat) (x7 : Int32) (w8 : Nat) (x9 : Int32) (x11 : Int32) (nw : Nat) (σ : LwS) : Option ((Int32 × Int32 × Int32 × LwS) ⊕ ((Int32 × Int32 × LwS))) :=
  fL_season_b137 x1 w2 x3 x4 x5 w6 x7 w8 x9 x11 (0 : Int32) nw σ
def fL_season_b86 (x1 : Int32) (w2 : Nat) (x3 : Int32) (x4 : Int32) (x5 : Int32) (w6 : Nat) (x7 : Int32) (w8 : Nat) (x9 : Int32) (x10 : Int32) (x11 : Int32) (nw : Nat) (σ : LwS) : Option ((Int32 × Int32 × Int32 × LwS) ⊕ ((Int32 × Int32 × LwS))) :=
  if (3 : Int32) ≤ x11 then (some (.inr (x9, x10, σ))) else (if x10 = 0 then (some (.inr (x9, x10, σ))) else (if inb x11 3 = true then (if (rT σ w8 (x11).toNatClampNeg) = 0 then (fL_season_b162 x1 w2 x3 x4 x5 w6 x7 w8 x9 x10 x11 nw σ) else (if x1 ≤ x11 then (fL_season_b136 x1 w2 x3 x4 x5 w6 x7 w8 x9 x11 nw σ) else (if inb x11 3 = true then (if inb (((12 : Int32) * x11) + (rT σ w8 (x11).toNatClampNeg)) 60 = true then (if (rT σ w2 ((((12 : Int32) * x11) + (rT σ w8 (x11).toNatClampNeg))).toNatClampNeg) ≤ (-100001 : Int32) then (fL_season_b136 x1 w2 x3 x4 x5 w6 x7 w8 x9 x11 nw σ) else (fL_season_b137 x1 w2 x3 x4 x5 w6 x7 w8 x9 x11 (1 : Int32) nw σ)) else none) else none))) else none))
def fL_season_b212 (x1 : Int32) (w2 : Nat) (x3 : Int32) (x4 : Int32) (x5 : Int32) (w6 : Nat) (x7 : Int32) (nw : Nat) (σ : LwS) : Option ((Int32 × Int32 × LwS) ⊕ ((Int32 × LwS))) :=
  some (.inl (x5, (x7 + (1 : Int32)), σ))
def fL_season_b190 (x1 : Int32) (w2 : Nat) (x3 : Int32) (x4 : Int32) (x5 : Int32) (w6 : Nat) (x7 : Int32) (w8 : Nat) (x11 : Int32) (nw : Nat) (σ : LwS) : Option ((Int32 × LwS) ⊕ ((LwS))) :=
  if (3 : Int32) ≤ x11 then (some (.inr σ)) else (if inb x11 3 = true then (if inb x11 3 = true then (some (.inl ((x11 + (1 : Int32)), (wT σ w6 (x11).toNatClampNeg (rT σ w8 (x11).toNatClampNeg))))) else none) else none)
def fL_season_b81 (x1 : Int32) (w2 : Nat) (x3 : Int32) (x4 : Int32) (x5 : Int32) (w6 : Nat) (x7 : Int32) (w8 : Nat) (x9 : Int32) (y0 : Int32) (nw : Nat) (σ : LwS) : Option ((Int32 × Int32 × LwS) ⊕ ((Int32 × LwS))) :=
  Option.bind (lp (fun s => fL_season_b86 x1 w2 x3 x4 x5 w6 x7 w8 s.1 s.2.1 s.2.2.1 nw s.2.2.2) FU (x9, y0, (0 : Int32), σ)) fun t10 => if t10.2.1 = 0 then (fL_season_b212 x1 w2 x3 x4 x5 w6 x7 nw t10.2.2) else (if x5 < t10.1 then (Option.bind (lp (fun s => fL_season_b190 x1 w2 x3 x4 t10.1 w6 x7 w8 s.1 nw s.2) FU ((0 : Int32), t10.2.2)) fun t14 => fL_season_b212 x1 w2 x3 x4 t10.1 w6 x7 nw t14) else (fL_season_b212 x1 w2 x3 x4 x5 w6 x7 nw t10.2.2))
def fL_season_b11 (x1 : Int32) (w2 : Nat) (x3 : Int32) (x4 : Int32) (x5 : Int32) (w6 : Nat) (x7 : Int32) (nw : Nat) (σ : LwS) : Option ((Int32 × Int32 × LwS) ⊕ ((Int32 × LwS))) :=
  if (1728 : Int32) ≤ x7 then (some (.inr (x5, σ))) else (if decide (σ.2.2 + 1 ≤ 1728) = true then (if x3 < (((rT (wT (wT (wT (nT σ nw) nw ((0 : Int32)).toNatClampNeg (x7 / (144 : Int32))) nw ((1 : Int32)).toNatClampNeg ((x7 / (12 : Int32)) - (x7 / (12 : Int32)) / (12 : Int32) * (12 : Int32))) nw ((2 : Int32)).toNatClampNeg (x7 - x7 / (12 : Int32) * (12 : Int32))) nw ((0 : Int32)).toNatClampNeg) + (rT (wT (wT (wT (nT σ nw) nw ((0 : Int32)).toNatClampNeg (x7 / (144 : Int32))) nw ((1 : Int32)).toNatClampNeg ((x7 / (12 : Int32)) - (x7 / (12 : Int32)) / (12 : Int32) * (12 : Int32))) nw ((2 : Int32)).toNatClampNeg (x7 - x7 / (12 : Int32) * (12 : Int32))) nw ((1 : Int32)).toNatClampNeg)) + (rT (wT (wT (wT (nT σ nw) nw ((0 : Int32)).toNatClampNeg (x7 / (144 : Int32))) nw ((1 : Int32)).toNatClampNeg ((x7 / (12 : Int32)) - (x7 / (12 : Int32)) / (12 : Int32) * (12 : Int32))) nw ((2 : Int32)).toNatClampNeg (x7 - x7 / (12 : Int32) * (12 : Int32))) nw ((2 : Int32)).toNatClampNeg)) then (fL_season_b81 x1 w2 x3 x4 x5 w6 x7 nw (0 : Int32) (0 : Int32) (nw + 1) (wT (wT (wT (nT σ nw) nw ((0 : Int32)).toNatClampNeg (x7 / (144 : Int32))) nw ((1 : Int32)).toNatClampNeg ((x7 / (12 : Int32)) - (x7 / (12 : Int32)) / (12 : Int32) * (12 : Int32))) nw ((2 : Int32)).toNatClampNeg (x7 - x7 / (12 : Int32) * (12 : Int32)))) else (fL_season_b81 x1 w2 x3 x4 x5 w6 x7 nw (0 : Int32) (1 : Int32) (nw + 1) (wT (wT (wT (nT σ nw) nw ((0 : Int32)).toNatClampNeg (x7 / (144 : Int32))) nw ((1 : Int32)).toNatClampNeg ((x7 / (12 : Int32)) - (x7 / (12 : Int32)) / (12 : Int32) * (12 : Int32))) nw ((2 : Int32)).toNatClampNeg (x7 - x7 / (12 : Int32) * (12 : Int32))))) else none)
def fL_season_b272 (x1 : Int32) (x3 : Int32) (x5 : Int32) (w6 : Nat) (x7 : Int32) (y0 : Int32) (y1 : Int32) (nw : Nat) (σ : LwS) : Option ((Int32 × LwS) ⊕ (((LwS) ⊕ (LwS)))) :=
  if y1 = y0 then (some (.inl ((x7 + (1 : Int32)), σ))) else (some (.inr (.inl σ)))
def fL_season_b242 (x1 : Int32) (x3 : Int32) (x5 : Int32) (w6 : Nat) (x7 : Int32) (nw : Nat) (σ : LwS) : Option ((Int32 × LwS) ⊕ (((LwS) ⊕ (LwS)))) :=
  if (5 : Int32) ≤ x7 then (some (.inr (.inr σ))) else (Option.bind (fX9_season x3 ((1 : Int32) + x7) σ.1) fun p20 => (if x1 ≤ x7 then (fL_season_b272 x1 x3 x5 w6 x7 (-1 : Int32) p20.1 nw (cS σ p20.2)) else (if inb x7 3 = true then (fL_season_b272 x1 x3 x5 w6 x7 (rT (cS σ p20.2) w6 (x7).toNatClampNeg) p20.1 nw (cS σ p20.2)) else none)))
def fL_season_b0 (x1 : Int32) (w2 : Nat) (x3 : Int32) (x4 : Int32) (nw : Nat) (σ : LwS) : Option (Int32 × LwS) :=
  if decide (σ.2.2 + 1 ≤ 1728) = true then (Option.bind (lp (fun s => fL_season_b11 x1 w2 x3 x4 s.1 nw s.2.1 (nw + 1) s.2.2) FU ((0 : Int32), (1 : Int32), (nT σ nw))) fun t16 => if x4 = 0 then (some (t16.1, t16.2)) else (Option.bind (fX9_season x3 (0 : Int32) t16.2.1) fun p18 => (if p18.1 = t16.1 then (Option.bind (lp (fun s => fL_season_b242 x1 x3 t16.1 nw s.1 (nw + 1) s.2) FU ((0 : Int32), (cS t16.2 p18.2))) (el (fun t23 => some ((-1 : Int32), t23)) (fun t23 => some (t16.1, t23)))) else (some ((-1 : Int32), (cS t16.2 p18.2)))))) else none
set_option maxRecDepth 8000 in
theorem bL_season_b162 {K : KT} {x1 : Int32} {w2 : Nat} {x3 : Int32} {x4 : Int32} {x5 : Int32} {w6 : Nat} {x7 : Int32} {w8 : Nat} {x9 : Int32} {x10 : Int32} {x11 : Int32} {r2 : Nat} {r6 : Nat} {r8 : Nat} {nw : Nat} {σ : LwS} {o : (Int32 × Int32 × Int32 × LwS) ⊕ ((Int32 × Int32 × LwS))} {V Vc : Wl} {b Ln : Nat} {xs : Nat → Int32} (C : CZ K cL_season RL 12 18 1728 (some .int) b Ln xs) (hp : Pf Vc V) (hN : V.length = nw) (hw2 : V[w2]? = some (r2, 60)) (hw6 : V[w6]? = some (r6, 3)) (hw8 : V[w8]? = some (r8, 3)) (hI : ∀ s' : Int32 × Int32 × Int32 × LwS, o = .inl s' → GZ K 1728 86 [some (.ref (kad K 0)), some (.int x1), some (.ref r2), some (.int x3), some (.int x4), some (.int x5), some (.ref r6), some (.int x7), some (.ref r8), some (.int s'.1), some (.int s'.2.1), some (.int s'.2.2.1)] [] Vc s'.2.2.2) (hE0 : ∀ t : Int32 × Int32 × LwS, o = .inr t → GZ K 1728 168 [some (.ref (kad K 0)), some (.int x1), some (.ref r2), some (.int x3), some (.int x4), some (.int x5), some (.ref r6), some (.int x7), some (.ref r8), some (.int t.1), some (.int t.2.1), none] [] Vc t.2.2) (h : fL_season_b162 x1 w2 x3 x4 x5 w6 x7 w8 x9 x10 x11 nw σ = some o) : GZ K 1728 162 [some (.ref (kad K 0)), some (.int x1), some (.ref r2), some (.int x3), some (.int x4), some (.int x5), some (.ref r6), some (.int x7), some (.ref r8), some (.int x9), some (.int x10), some (.int x11)] [] V σ := by
  unfold fL_season_b162 at h
  refine z_iinc C.c (i := 11) (y := (1 : Int32)) (L' := [some (.ref (kad K 0)), some (.int x1), some (.ref r2), some (.int x3), some (.int x4), some (.int x5), some (.ref r6), some (.int x7), some (.ref r8), some (.int x9), some (.int x10), some (.int (x11 + (1 : Int32)))]) dL_season_162 rfl (by decide) (Nat.le_of_ble_eq_true rfl) rfl ?_
  refine z_goto C.c (tgt := 86) dL_season_165 (by decide) ?_
  have g9 := hI _ (Option.some.inj h).symm
  exact z_mask [true, true, true, true, true, true, true, true, true, true, true, true] rfl (z_drop hp g9)
set_option maxRecDepth 8000 in
theorem bL_season_b137 {K : KT} {x1 : Int32} {w2 : Nat} {x3 : Int32} {x4 : Int32} {x5 : Int32} {w6 : Nat} {x7 : Int32} {w8 : Nat} {x9 : Int32} {x11 : Int32} {y0 : Int32} {r2 : Nat} {r6 : Nat} {r8 : Nat} {nw : Nat} {σ : LwS} {o : (Int32 × Int32 × Int32 × LwS) ⊕ ((Int32 × Int32 × LwS))} {V Vc : Wl} {b Ln : Nat} {xs : Nat → Int32} (C : CZ K cL_season RL 12 18 1728 (some .int) b Ln xs) (hp : Pf Vc V) (hN : V.length = nw) (hw2 : V[w2]? = some (r2, 60)) (hw6 : V[w6]? = some (r6, 3)) (hw8 : V[w8]? = some (r8, 3)) (hI : ∀ s' : Int32 × Int32 × Int32 × LwS, o = .inl s' → GZ K 1728 86 [some (.ref (kad K 0)), some (.int x1), some (.ref r2), some (.int x3), some (.int x4), some (.int x5), some (.ref r6), some (.int x7), some (.ref r8), some (.int s'.1), some (.int s'.2.1), some (.int s'.2.2.1)] [] Vc s'.2.2.2) (hE0 : ∀ t : Int32 × Int32 × LwS, o = .inr t → GZ K 1728 168 [some (.ref (kad K 0)), some (.int x1), some (.ref r2), some (.int x3), some (.int x4), some (.int x5), some (.ref r6), some (.int x7), some (.ref r8), some (.int t.1), some (.int t.2.1), none] [] Vc t.2.2) (h : fL_season_b137 x1 w2 x3 x4 x5 w6 x7 w8 x9 x11 y0 nw σ = some o) : GZ K 1728 137 [some (.ref (kad K 0)), some (.int x1), some (.ref r2), some (.int x3), some (.int x4), some (.int x5), some (.ref r6), some (.int x7), some (.ref r8), some (.int x9), none, some (.int x11)] [.int y0] V σ := by
  unfold fL_season_b137 at h
  refine z_istore C.c (i := 10) (L' := [some (.ref (kad K 0)), some (.int x1), some (.ref r2), some (.int x3), some (.int x4), some (.int x5), some (.ref r6), some (.int x7), some (.ref r8), some (.int x9), some (.int y0), some (.int x11)]) dL_season_137 (Nat.le_of_ble_eq_true rfl) rfl ?_
  refine z_iload C.c dL_season_139 (i := 10) rfl ?_
  refine z_if_eq C.c (tgt := 162) dL_season_141 (by decide) (fun c => ?_) (fun c => ?_)
  · replace h := ite_t c h
    exact z_mask [true, true, true, true, true, true, true, true, true, true, true, true] rfl (bL_season_b162 C hp hN hw2 hw6 hw8 hI hE0 h)
  · replace h := ite_f c h
    refine z_iload C.c dL_season_144 (i := 9) rfl ?_
    refine z_aload_n C.c dL_season_146 rfl (i := 2) rfl ?_
    refine z_bipush C.c dL_season_147 (v := (12 : Int32)) (by decide) ?_
    refine z_iload C.c dL_season_149 (i := 11) rfl ?_
    refine z_imul C.c dL_season_151 ?_
    refine z_aload C.c dL_season_152 (i := 8) rfl ?_
    refine z_iload C.c dL_season_154 (i := 11) rfl ?_
    obtain ⟨c6, h⟩ := chk h
    refine z_iald C dL_season_156 hw8 c6 ?_
    refine z_iadd C.c dL_season_157 ?_
    obtain ⟨c7, h⟩ := chk h
    refine z_iald C dL_season_158 hw2 c7 ?_
    refine z_iadd C.c dL_season_159 ?_
    refine z_istore C.c (i := 9) (L' := [some (.ref (kad K 0)), some (.int x1), some (.ref r2), some (.int x3), some (.int x4), some (.int x5), some (.ref r6), some (.int x7), some (.ref r8), some (.int (x9 + (rT σ w2 ((((12 : Int32) * x11) + (rT σ w8 (x11).toNatClampNeg))).toNatClampNeg))), some (.int y0), some (.int x11)]) dL_season_160 (Nat.le_of_ble_eq_true rfl) rfl ?_
    exact z_mask [true, true, true, true, true, true, true, true, true, true, true, true] rfl (bL_season_b162 C hp hN hw2 hw6 hw8 hI hE0 h)
set_option maxRecDepth 8000 in
theorem bL_season_b136 {K : KT} {x1 : Int32} {w2 : Nat} {x3 : Int32} {x4 : Int32} {x5 : Int32} {w6 : Nat} {x7 : Int32} {w8 : Nat} {x9 : Int32} {x11 : Int32} {r2 : Nat} {r6 : Nat} {r8 : Nat} {nw : Nat} {σ : LwS} {o : (Int32 × Int32 × Int32 × LwS) ⊕ ((Int32 × Int32 × LwS))} {V Vc : Wl} {b Ln : Nat} {xs : Nat → Int32} (C : CZ K cL_season RL 12 18 1728 (some .int) b Ln xs) (hp : Pf Vc V) (hN : V.length = nw) (hw2 : V[w2]? = some (r2, 60)) (hw6 : V[w6]? = some (r6, 3)) (hw8 : V[w8]? = some (r8, 3)) (hI : ∀ s' : Int32 × Int32 × Int32 × LwS, o = .inl s' → GZ K 1728 86 [some (.ref (kad K 0)), some (.int x1), some (.ref r2), some (.int x3), some (.int x4), some (.int x5), some (.ref r6), some (.int x7), some (.ref r8), some (.int s'.1), some (.int s'.2.1), some (.int s'.2.2.1)] [] Vc s'.2.2.2) (hE0 : ∀ t : Int32 × Int32 × LwS, o = .inr t → GZ K 1728 168 [some (.ref (kad K 0)), some (.int x1), some (.ref r2), some (.int x3), some (.int x4), some (.int x5), some (.ref r6), some (.int x7), some (.ref r8), some (.int t.1), some (.int t.2.1), none] [] Vc t.2.2) (h : fL_season_b136 x1 w2 x3 x4 x5 w6 x7 w8 x9 x11 nw σ = some o) : GZ K 1728 136 [some (.ref (kad K 0)), some (.int x1), some (.ref r2), some (.int x3), some (.int x4), some (.int x5), some (.ref r6), some (.int x7), some (.ref r8), some (.int x9), none, some (.int x11)] [] V σ := by
  unfold fL_season_b136 at h
  refine z_iconst C.c dL_season_136 (v := (0 : Int32)) (by decide) ?_
  exact z_mask [true, true, true, true, true, true, true, true, true, true, false, true] rfl (bL_season_b137 C hp hN hw2 hw6 hw8 hI hE0 h)
set_option maxRecDepth 8000 in
theorem bL_season_b86 {K : KT} {x1 : Int32} {w2 : Nat} {x3 : Int32} {x4 : Int32} {x5 : Int32} {w6 : Nat} {x7 : Int32} {w8 : Nat} {x9 : Int32} {x10 : Int32} {x11 : Int32} {r2 : Nat} {r6 : Nat} {r8 : Nat} {nw : Nat} {σ : LwS} {o : (Int32 × Int32 × Int32 × LwS) ⊕ ((Int32 × Int32 × LwS))} {V Vc : Wl} {b Ln : Nat} {xs : Nat → Int32} (C : CZ K cL_season RL 12 18 1728 (some .int) b Ln xs) (hp : Pf Vc V) (hN : V.length = nw) (hw2 : V[w2]? = some (r2, 60)) (hw6 : V[w6]? = some (r6, 3)) (hw8 : V[w8]? = some (r8, 3)) (hI : ∀ s' : Int32 × Int32 × Int32 × LwS, o = .inl s' → GZ K 1728 86 [some (.ref (kad K 0)), some (.int x1), some (.ref r2), some (.int x3), some (.int x4), some (.int x5), some (.ref r6), some (.int x7), some (.ref r8), some (.int s'.1), some (.int s'.2.1), some (.int s'.2.2.1)] [] Vc s'.2.2.2) (hE0 : ∀ t : Int32 × Int32 × LwS, o = .inr t → GZ K 1728 168 [some (.ref (kad K 0)), some (.int x1), some (.ref r2), some (.int x3), some (.int x4), some (.int x5), some (.ref r6), some (.int x7), some (.ref r8), some (.int t.1), some (.int t.2.1), none] [] Vc t.2.2) (h : fL_season_b86 x1 w2 x3 x4 x5 w6 x7 w8 x9 x10 x11 nw σ = some o) : GZ K 1728 86 [some (.ref (kad K 0)), some (.int x1), some (.ref r2), some (.int x3), some (.int x4), some (.int x5), some (.ref r6), some (.int x7), some (.ref r8), some (.int x9), some (.int x10), some (.int x11)] [] V σ := by
  unfold fL_season_b86 at h
  refine z_iload C.c dL_season_86 (i := 11) rfl ?_
  refine z_iconst C.c dL_season_88 (v := (3 : Int32)) (by decide) ?_
  refine z_icmp_ge C.c (tgt := 168) dL_season_89 (by decide) (fun c => ?_) (fun c => ?_)
  · replace h := ite_t c h
    have g9 := hE0 _ (Option.some.inj h).symm
    exact z_mask [true, true, true, true, true, true, true, true, true, true, true, false] rfl (z_drop hp g9)
  · replace h := ite_f c h
    refine z_iload C.c dL_season_92 (i := 10) rfl ?_
    refine z_if_eq C.c (tgt := 168) dL_season_94 (by decide) (fun c => ?_) (fun c => ?_)
    · replace h := ite_t c h
      have g9 := hE0 _ (Option.some.inj h).symm
      exact z_mask [true, true, true, true, true, true, true, true, true, true, true, false] rfl (z_drop hp g9)
    · replace h := ite_f c h
      refine z_aload C.c dL_season_97 (i := 8) rfl ?_
      refine z_iload C.c dL_season_99 (i := 11) rfl ?_
      obtain ⟨c5, h⟩ := chk h
      refine z_iald C dL_season_101 hw8 c5 ?_
      refine z_if_ne C.c (tgt := 108) dL_season_102 (by decide) (fun c => ?_) (fun c => ?_)
      · replace h := ite_f c h
        refine z_iload C.c dL_season_108 (i := 11) rfl ?_
        refine z_iload_n C.c dL_season_110 rfl (i := 1) rfl ?_
        refine z_icmp_ge C.c (tgt := 136) dL_season_111 (by decide) (fun c => ?_) (fun c => ?_)
        · replace h := ite_t c h
          exact z_mask [true, true, true, true, true, true, true, true, true, true, false, true] rfl (bL_season_b136 C hp hN hw2 hw6 hw8 hI hE0 h)
        · replace h := ite_f c h
          refine z_aload_n C.c dL_season_114 rfl (i := 2) rfl ?_
          refine z_bipush C.c dL_season_115 (v := (12 : Int32)) (by decide) ?_
          refine z_iload C.c dL_season_117 (i := 11) rfl ?_
          refine z_imul C.c dL_season_119 ?_
          refine z_aload C.c dL_season_120 (i := 8) rfl ?_
          refine z_iload C.c dL_season_122 (i := 11) rfl ?_
          obtain ⟨c8, h⟩ := chk h
          refine z_iald C dL_season_124 hw8 c8 ?_
          refine z_iadd C.c dL_season_125 ?_
          obtain ⟨c9, h⟩ := chk h
          refine z_iald C dL_season_126 hw2 c9 ?_
          refine z_ldc C.c (v := (-100001 : Int32)) aw_674 dL_season_127 ?_
          refine z_icmp_le C.c (tgt := 136) dL_season_129 (by decide) (fun c => ?_) (fun c => ?_)
          · replace h := ite_t c h
            exact z_mask [true, true, true, true, true, true, true, true, true, true, false, true] rfl (bL_season_b136 C hp hN hw2 hw6 hw8 hI hE0 h)
          · replace h := ite_f c h
            refine z_iconst C.c dL_season_132 (v := (1 : Int32)) (by decide) ?_
            refine z_goto C.c (tgt := 137) dL_season_133 (by decide) ?_
            exact z_mask [true, true, true, true, true, true, true, true, true, true, false, true] rfl (bL_season_b137 C hp hN hw2 hw6 hw8 hI hE0 h)
      · replace h := ite_t c h
        refine z_goto C.c (tgt := 162) dL_season_105 (by decide) ?_
        exact z_mask [true, true, true, true, true, true, true, true, true, true, true, true] rfl (bL_season_b162 C hp hN hw2 hw6 hw8 hI hE0 h)
set_option maxRecDepth 8000 in
theorem bL_season_b212 {K : KT} {x1 : Int32} {w2 : Nat} {x3 : Int32} {x4 : Int32} {x5 : Int32} {w6 : Nat} {x7 : Int32} {r2 : Nat} {r6 : Nat} {nw : Nat} {σ : LwS} {o : (Int32 × Int32 × LwS) ⊕ ((Int32 × LwS))} {V Vc : Wl} {b Ln : Nat} {xs : Nat → Int32} (C : CZ K cL_season RL 12 18 1728 (some .int) b Ln xs) (hp : Pf Vc V) (hN : V.length = nw) (hw2 : V[w2]? = some (r2, 60)) (hw6 : V[w6]? = some (r6, 3)) (hI : ∀ s' : Int32 × Int32 × LwS, o = .inl s' → GZ K 1728 11 [some (.ref (kad K 0)), some (.int x1), some (.ref r2), some (.int x3), some (.int x4), some (.int s'.1), some (.ref r6), some (.int s'.2.1), none, none, none, none] [] Vc s'.2.2) (hE0 : ∀ t : Int32 × LwS, o = .inr t → GZ K 1728 218 [some (.ref (kad K 0)), some (.int x1), none, some (.int x3), some (.int x4), some (.int t.1), some (.ref r6), none, none, none, none, none] [] Vc t.2) (h : fL_season_b212 x1 w2 x3 x4 x5 w6 x7 nw σ = some o) : GZ K 1728 212 [some (.ref (kad K 0)), some (.int x1), some (.ref r2), some (.int x3), some (.int x4), some (.int x5), some (.ref r6), some (.int x7), none, none, none, none] [] V σ := by
  unfold fL_season_b212 at h
  refine z_iinc C.c (i := 7) (y := (1 : Int32)) (L' := [some (.ref (kad K 0)), some (.int x1), some (.ref r2), some (.int x3), some (.int x4), some (.int x5), some (.ref r6), some (.int (x7 + (1 : Int32))), none, none, none, none]) dL_season_212 rfl (by decide) (Nat.le_of_ble_eq_true rfl) rfl ?_
  refine z_goto C.c (tgt := 11) dL_season_215 (by decide) ?_
  have g9 := hI _ (Option.some.inj h).symm
  exact z_mask [true, true, true, true, true, true, true, true, false, false, false, false] rfl (z_drop hp g9)
set_option maxRecDepth 8000 in
theorem bL_season_b190 {K : KT} {x1 : Int32} {w2 : Nat} {x3 : Int32} {x4 : Int32} {x5 : Int32} {w6 : Nat} {x7 : Int32} {w8 : Nat} {x11 : Int32} {r2 : Nat} {r6 : Nat} {r8 : Nat} {nw : Nat} {σ : LwS} {o : (Int32 × LwS) ⊕ ((LwS))} {V Vc : Wl} {b Ln : Nat} {xs : Nat → Int32} (C : CZ K cL_season RL 12 18 1728 (some .int) b Ln xs) (hp : Pf Vc V) (hN : V.length = nw) (hw2 : V[w2]? = some (r2, 60)) (hw6 : V[w6]? = some (r6, 3)) (hw8 : V[w8]? = some (r8, 3)) (hI : ∀ s' : Int32 × LwS, o = .inl s' → GZ K 1728 190 [some (.ref (kad K 0)), some (.int x1), some (.ref r2), some (.int x3), some (.int x4), some (.int x5), some (.ref r6), some (.int x7), some (.ref r8), none, none, some (.int s'.1)] [] Vc s'.2) (hE0 : ∀ t : LwS, o = .inr t → GZ K 1728 212 [some (.ref (kad K 0)), some (.int x1), some (.ref r2), some (.int x3), some (.int x4), some (.int x5), some (.ref r6), some (.int x7), none, none, none, none] [] Vc t) (h : fL_season_b190 x1 w2 x3 x4 x5 w6 x7 w8 x11 nw σ = some o) : GZ K 1728 190 [some (.ref (kad K 0)), some (.int x1), some (.ref r2), some (.int x3), some (.int x4), some (.int x5), some (.ref r6), some (.int x7), some (.ref r8), none, none, some (.int x11)] [] V σ := by
  unfold fL_season_b190 at h
  refine z_iload C.c dL_season_190 (i := 11) rfl ?_
  refine z_iconst C.c dL_season_192 (v := (3 : Int32)) (by decide) ?_
  refine z_icmp_ge C.c (tgt := 212) dL_season_193 (by decide) (fun c => ?_) (fun c => ?_)
  · replace h := ite_t c h
    have g9 := hE0 _ (Option.some.inj h).symm
    exact z_mask [true, true, true, true, true, true, true, true, false, false, false, false] rfl (z_drop hp g9)
  · replace h := ite_f c h
    refine z_aload C.c dL_season_196 (i := 6) rfl ?_
    refine z_iload C.c dL_season_198 (i := 11) rfl ?_
    refine z_aload C.c dL_season_200 (i := 8) rfl ?_
    refine z_iload C.c dL_season_202 (i := 11) rfl ?_
    obtain ⟨c12, h⟩ := chk h
    refine z_iald C dL_season_204 hw8 c12 ?_
    obtain ⟨c13, h⟩ := chk h
    refine z_iast C dL_season_205 hw6 c13 ?_
    refine z_iinc C.c (i := 11) (y := (1 : Int32)) (L' := [some (.ref (kad K 0)), some (.int x1), some (.ref r2), some (.int x3), some (.int x4), some (.int x5), some (.ref r6), some (.int x7), some (.ref r8), none, none, some (.int (x11 + (1 : Int32)))]) dL_season_206 rfl (by decide) (Nat.le_of_ble_eq_true rfl) rfl ?_
    refine z_goto C.c (tgt := 190) dL_season_209 (by decide) ?_
    have g9 := hI _ (Option.some.inj h).symm
    exact z_mask [true, true, true, true, true, true, true, true, true, false, false, true] rfl (z_drop hp g9)
set_option maxRecDepth 8000 in
theorem bL_season_b81 {K : KT} {x1 : Int32} {w2 : Nat} {x3 : Int32} {x4 : Int32} {x5 : Int32} {w6 : Nat} {x7 : Int32} {w8 : Nat} {x9 : Int32} {y0 : Int32} {r2 : Nat} {r6 : Nat} {r8 : Nat} {nw : Nat} {σ : LwS} {o : (Int32 × Int32 × LwS) ⊕ ((Int32 × LwS))} {V Vc : Wl} {b Ln : Nat} {xs : Nat → Int32} (C : CZ K cL_season RL 12 18 1728 (some .int) b Ln xs) (hp : Pf Vc V) (hN : V.length = nw) (hw2 : V[w2]? = some (r2, 60)) (hw6 : V[w6]? = some (r6, 3)) (hw8 : V[w8]? = some (r8, 3)) (hI : ∀ s' : Int32 × Int32 × LwS, o = .inl s' → GZ K 1728 11 [some (.ref (kad K 0)), some (.int x1), some (.ref r2), some (.int x3), some (.int x4), some (.int s'.1), some (.ref r6), some (.int s'.2.1), none, none, none, none] [] Vc s'.2.2) (hE0 : ∀ t : Int32 × LwS, o = .inr t → GZ K 1728 218 [some (.ref (kad K 0)), some (.int x1), none, some (.int x3), some (.int x4), some (.int t.1), some (.ref r6), none, none, none, none, none] [] Vc t.2) (h : fL_season_b81 x1 w2 x3 x4 x5 w6 x7 w8 x9 y0 nw σ = some o) : GZ K 1728 81 [some (.ref (kad K 0)), some (.int x1), some (.ref r2), some (.int x3), some (.int x4), some (.int x5), some (.ref r6), some (.int x7), some (.ref r8), some (.int x9), none, none] [.int y0] V σ := by
  unfold fL_season_b81 at h
  refine z_istore C.c (i := 10) (L' := [some (.ref (kad K 0)), some (.int x1), some (.ref r2), some (.int x3), some (.int x4), some (.int x5), some (.ref r6), some (.int x7), some (.ref r8), some (.int x9), some (.int y0), none]) dL_season_81 (Nat.le_of_ble_eq_true rfl) rfl ?_
  refine z_iconst C.c dL_season_83 (v := (0 : Int32)) (by decide) ?_
  refine z_istore C.c (i := 11) (L' := [some (.ref (kad K 0)), some (.int x1), some (.ref r2), some (.int x3), some (.int x4), some (.int x5), some (.ref r6), some (.int x7), some (.ref r8), some (.int x9), some (.int y0), some (.int (0 : Int32))]) dL_season_84 (Nat.le_of_ble_eq_true rfl) rfl ?_
  refine z_mask [true, true, true, true, true, true, true, true, true, true, true, true] rfl ?_
  refine lp_bind (Gh := fun s => GZ K 1728 86 [some (.ref (kad K 0)), some (.int x1), some (.ref r2), some (.int x3), some (.int x4), some (.int x5), some (.ref r6), some (.int x7), some (.ref r8), some (.int s.1), some (.int s.2.1), some (.int s.2.2.1)] [] V s.2.2.2) h (fun s o2 hf gI gE => ?_)
  refine bL_season_b86 C Pf.rf hN hw2 hw6 hw8 gI (fun t10 e => ?_) hf
  · have h := gE _ e
    refine z_iload C.c dL_season_168 (i := 10) rfl ?_
    refine z_if_eq C.c (tgt := 212) dL_season_170 (by decide) (fun c => ?_) (fun c => ?_)
    · replace h := ite_t c h
      exact z_mask [true, true, true, true, true, true, true, true, false, false, false, false] rfl (bL_season_b212 C hp hN hw2 hw6 hI hE0 h)
    · replace h := ite_f c h
      refine z_iload C.c dL_season_173 (i := 9) rfl ?_
      refine z_iload C.c dL_season_175 (i := 5) rfl ?_
      refine z_icmp_gt C.c (tgt := 183) dL_season_177 (by decide) (fun c => ?_) (fun c => ?_)
      · replace h := ite_t c h
        refine z_iload C.c dL_season_183 (i := 9) rfl ?_
        refine z_istore C.c (i := 5) (L' := [some (.ref (kad K 0)), some (.int x1), some (.ref r2), some (.int x3), some (.int x4), some (.int t10.1), some (.ref r6), some (.int x7), some (.ref r8), some (.int t10.1), some (.int t10.2.1), none]) dL_season_185 (Nat.le_of_ble_eq_true rfl) rfl ?_
        refine z_iconst C.c dL_season_187 (v := (0 : Int32)) (by decide) ?_
        refine z_istore C.c (i := 11) (L' := [some (.ref (kad K 0)), some (.int x1), some (.ref r2), some (.int x3), some (.int x4), some (.int t10.1), some (.ref r6), some (.int x7), some (.ref r8), some (.int t10.1), some (.int t10.2.1), some (.int (0 : Int32))]) dL_season_188 (Nat.le_of_ble_eq_true rfl) rfl ?_
        refine z_mask [true, true, true, true, true, true, true, true, true, false, false, true] rfl ?_
        refine lp_bind (Gh := fun s => GZ K 1728 190 [some (.ref (kad K 0)), some (.int x1), some (.ref r2), some (.int x3), some (.int x4), some (.int t10.1), some (.ref r6), some (.int x7), some (.ref r8), none, none, some (.int s.1)] [] V s.2) h (fun s o2 hf gI gE => ?_)
        refine bL_season_b190 C Pf.rf hN hw2 hw6 hw8 gI (fun t14 e => ?_) hf
        · have h := gE _ e
          exact z_mask [true, true, true, true, true, true, true, true, false, false, false, false] rfl (bL_season_b212 C hp hN hw2 hw6 hI hE0 h)
      · replace h := ite_f c h
        refine z_goto C.c (tgt := 212) dL_season_180 (by decide) ?_
        exact z_mask [true, true, true, true, true, true, true, true, false, false, false, false] rfl (bL_season_b212 C hp hN hw2 hw6 hI hE0 h)
set_option maxRecDepth 8000 in
theorem bL_season_b11 {K : KT} {x1 : Int32} {w2 : Nat} {x3 : Int32} {x4 : Int32} {x5 : Int32} {w6 : Nat} {x7 : Int32} {r2 : Nat} {r6 : Nat} {nw : Nat} {σ : LwS} {o : (Int32 × Int32 × LwS) ⊕ ((Int32 × LwS))} {V Vc : Wl} {b Ln : Nat} {xs : Nat → Int32} (C : CZ K cL_season RL 12 18 1728 (some .int) b Ln xs) (hp : Pf Vc V) (hN : V.length = nw) (hw2 : V[w2]? = some (r2, 60)) (hw6 : V[w6]? = some (r6, 3)) (hI : ∀ s' : Int32 × Int32 × LwS, o = .inl s' → GZ K 1728 11 [some (.ref (kad K 0)), some (.int x1), some (.ref r2), some (.int x3), some (.int x4), some (.int s'.1), some (.ref r6), some (.int s'.2.1), none, none, none, none] [] Vc s'.2.2) (hE0 : ∀ t : Int32 × LwS, o = .inr t → GZ K 1728 218 [some (.ref (kad K 0)), some (.int x1), none, some (.int x3), some (.int x4), some (.int t.1), some (.ref r6), none, none, none, none, none] [] Vc t.2) (h : fL_season_b11 x1 w2 x3 x4 x5 w6 x7 nw σ = some o) : GZ K 1728 11 [some (.ref (kad K 0)), some (.int x1), some (.ref r2), some (.int x3), some (.int x4), some (.int x5), some (.ref r6), some (.int x7), none, none, none, none] [] V σ := by
  unfold fL_season_b11 at h
  refine z_iload C.c dL_season_11 (i := 7) rfl ?_
  refine z_sipush C.c dL_season_13 (v := (1728 : Int32)) (by decide) ?_
  refine z_icmp_ge C.c (tgt := 218) dL_season_16 (by decide) (fun c => ?_) (fun c => ?_)
  · replace h := ite_t c h
    have g9 := hE0 _ (Option.some.inj h).symm
    exact z_mask [true, true, false, true, true, true, true, false, false, false, false, false] rfl (z_drop hp g9)
  · replace h := ite_f c h
    refine z_iconst C.c dL_season_19 (v := (3 : Int32)) (by decide) ?_
    obtain ⟨c3, h⟩ := chk h
    refine z_newI C (N := 3) dL_season_20 aw_68 (by decide) (by decide) (by decide) hN c3 (fun q4 => ?_)
    refine z_astore C.c (i := 8) (L' := [some (.ref (kad K 0)), some (.int x1), some (.ref r2), some (.int x3), some (.int x4), some (.int x5), some (.ref r6), some (.int x7), some (.ref q4), none, none, none]) dL_season_22 (Nat.le_of_ble_eq_true rfl) rfl ?_
    refine z_aload C.c dL_season_24 (i := 8) rfl ?_
    refine z_iconst C.c dL_season_26 (v := (0 : Int32)) (by decide) ?_
    refine z_iload C.c dL_season_27 (i := 7) rfl ?_
    refine z_sipush C.c dL_season_29 (v := (144 : Int32)) (by decide) ?_
    refine z_idiv C.c dL_season_32 (by decide) ?_
    refine z_iast C dL_season_33 (z_new hN) (by decide) ?_
    refine z_aload C.c dL_season_34 (i := 8) rfl ?_
    refine z_iconst C.c dL_season_36 (v := (1 : Int32)) (by decide) ?_
    refine z_iload C.c dL_season_37 (i := 7) rfl ?_
    refine z_bipush C.c dL_season_39 (v := (12 : Int32)) (by decide) ?_
    refine z_idiv C.c dL_season_41 (by decide) ?_
    refine z_bipush C.c dL_season_42 (v := (12 : Int32)) (by decide) ?_
    refine z_irem C.c dL_season_44 (by decide) ?_
    refine z_iast C dL_season_45 (z_new hN) (by decide) ?_
    refine z_aload C.c dL_season_46 (i := 8) rfl ?_
    refine z_iconst C.c dL_season_48 (v := (2 : Int32)) (by decide) ?_
    refine z_iload C.c dL_season_49 (i := 7) rfl ?_
    refine z_bipush C.c dL_season_51 (v := (12 : Int32)) (by decide) ?_
    refine z_irem C.c dL_season_53 (by decide) ?_
    refine z_iast C dL_season_54 (z_new hN) (by decide) ?_
    refine z_iconst C.c dL_season_55 (v := (0 : Int32)) (by decide) ?_
    refine z_istore C.c (i := 9) (L' := [some (.ref (kad K 0)), some (.int x1), some (.ref r2), some (.int x3), some (.int x4), some (.int x5), some (.ref r6), some (.int x7), some (.ref q4), some (.int (0 : Int32)), none, none]) dL_season_56 (Nat.le_of_ble_eq_true rfl) rfl ?_
    refine z_aload C.c dL_season_58 (i := 8) rfl ?_
    refine z_iconst C.c dL_season_60 (v := (0 : Int32)) (by decide) ?_
    refine z_iald C dL_season_61 (z_new hN) (by decide) ?_
    refine z_aload C.c dL_season_62 (i := 8) rfl ?_
    refine z_iconst C.c dL_season_64 (v := (1 : Int32)) (by decide) ?_
    refine z_iald C dL_season_65 (z_new hN) (by decide) ?_
    refine z_iadd C.c dL_season_66 ?_
    refine z_aload C.c dL_season_67 (i := 8) rfl ?_
    refine z_iconst C.c dL_season_69 (v := (2 : Int32)) (by decide) ?_
    refine z_iald C dL_season_70 (z_new hN) (by decide) ?_
    refine z_iadd C.c dL_season_71 ?_
    refine z_iload_n C.c dL_season_72 rfl (i := 3) rfl ?_
    refine z_icmp_gt C.c (tgt := 80) dL_season_73 (by decide) (fun c => ?_) (fun c => ?_)
    · replace h := ite_t c h
      refine z_iconst C.c dL_season_80 (v := (0 : Int32)) (by decide) ?_
      exact z_mask [true, true, true, true, true, true, true, true, true, true, false, false] rfl (bL_season_b81 C (Pf.up hp) (z_len hN) (z_up hw2) (z_up hw6) (z_new hN) hI hE0 h)
    · replace h := ite_f c h
      refine z_iconst C.c dL_season_76 (v := (1 : Int32)) (by decide) ?_
      refine z_goto C.c (tgt := 81) dL_season_77 (by decide) ?_
      exact z_mask [true, true, true, true, true, true, true, true, true, true, false, false] rfl (bL_season_b81 C (Pf.up hp) (z_len hN) (z_up hw2) (z_up hw6) (z_new hN) hI hE0 h)
set_option maxRecDepth 8000 in
theorem bL_season_b272 {K : KT} {x1 : Int32} {x3 : Int32} {x5 : Int32} {w6 : Nat} {x7 : Int32} {y0 : Int32} {y1 : Int32} {r6 : Nat} {nw : Nat} {σ : LwS} {o : (Int32 × LwS) ⊕ (((LwS) ⊕ (LwS)))} {V Vc : Wl} {b Ln : Nat} {xs : Nat → Int32} (C : CZ K cL_season RL 12 18 1728 (some .int) b Ln xs) (hp : Pf Vc V) (hN : V.length = nw) (hw6 : V[w6]? = some (r6, 3)) (hI : ∀ s' : Int32 × LwS, o = .inl s' → GZ K 1728 242 [some (.ref (kad K 0)), some (.int x1), none, some (.int x3), none, some (.int x5), some (.ref r6), some (.int s'.1), none, none, none, none] [] Vc s'.2) (hE0 : ∀ t : LwS, o = .inr (.inl t) → GZ K 1728 275 [none, none, none, none, none, none, none, none, none, none, none, none] [] Vc t) (hE1 : ∀ t : LwS, o = .inr (.inr t) → GZ K 1728 283 [none, none, none, none, none, some (.int x5), none, none, none, none, none, none] [] Vc t) (h : fL_season_b272 x1 x3 x5 w6 x7 y0 y1 nw σ = some o) : GZ K 1728 272 [some (.ref (kad K 0)), some (.int x1), none, some (.int x3), none, some (.int x5), some (.ref r6), some (.int x7), none, none, none, none] [.int y0, .int y1] V σ := by
  unfold fL_season_b272 at h
  refine z_icmp_eq C.c (tgt := 277) dL_season_272 (by decide) (fun c => ?_) (fun c => ?_)
  · replace h := ite_t c h
    refine z_iinc C.c (i := 7) (y := (1 : Int32)) (L' := [some (.ref (kad K 0)), some (.int x1), none, some (.int x3), none, some (.int x5), some (.ref r6), some (.int (x7 + (1 : Int32))), none, none, none, none]) dL_season_277 rfl (by decide) (Nat.le_of_ble_eq_true rfl) rfl ?_
    refine z_goto C.c (tgt := 242) dL_season_280 (by decide) ?_
    have g9 := hI _ (Option.some.inj h).symm
    exact z_mask [true, true, false, true, false, true, true, true, false, false, false, false] rfl (z_drop hp g9)
  · replace h := ite_f c h
    have g9 := hE0 _ (Option.some.inj h).symm
    exact z_mask [false, false, false, false, false, false, false, false, false, false, false, false] rfl (z_drop hp g9)
set_option maxRecDepth 8000 in
theorem bL_season_b242 {K : KT} {x1 : Int32} {x3 : Int32} {x5 : Int32} {w6 : Nat} {x7 : Int32} {r6 : Nat} {nw : Nat} {σ : LwS} {o : (Int32 × LwS) ⊕ (((LwS) ⊕ (LwS)))} {V Vc : Wl} {b Ln : Nat} {xs : Nat → Int32} (C : CZ K cL_season RL 12 18 1728 (some .int) b Ln xs) (hp : Pf Vc V) (hN : V.length = nw) (hw6 : V[w6]? = some (r6, 3)) (hI : ∀ s' : Int32 × LwS, o = .inl s' → GZ K 1728 242 [some (.ref (kad K 0)), some (.int x1), none, some (.int x3), none, some (.int x5), some (.ref r6), some (.int s'.1), none, none, none, none] [] Vc s'.2) (hE0 : ∀ t : LwS, o = .inr (.inl t) → GZ K 1728 275 [none, none, none, none, none, none, none, none, none, none, none, none] [] Vc t) (hE1 : ∀ t : LwS, o = .inr (.inr t) → GZ K 1728 283 [none, none, none, none, none, some (.int x5), none, none, none, none, none, none] [] Vc t) (h : fL_season_b242 x1 x3 x5 w6 x7 nw σ = some o) : GZ K 1728 242 [some (.ref (kad K 0)), some (.int x1), none, some (.int x3), none, some (.int x5), some (.ref r6), some (.int x7), none, none, none, none] [] V σ := by
  unfold fL_season_b242 at h
  refine z_iload C.c dL_season_242 (i := 7) rfl ?_
  refine z_iconst C.c dL_season_244 (v := (5 : Int32)) (by decide) ?_
  refine z_icmp_ge C.c (tgt := 283) dL_season_245 (by decide) (fun c => ?_) (fun c => ?_)
  · replace h := ite_t c h
    have g9 := hE1 _ (Option.some.inj h).symm
    exact z_mask [false, false, false, false, false, true, false, false, false, false, false, false] rfl (z_drop hp g9)
  · replace h := ite_f c h
    refine z_aload_n C.c dL_season_248 rfl (i := 0) rfl ?_
    refine z_iload_n C.c dL_season_249 rfl (i := 3) rfl ?_
    refine z_iconst C.c dL_season_250 (v := (1 : Int32)) (by decide) ?_
    refine z_iload C.c dL_season_251 (i := 7) rfl ?_
    refine z_iadd C.c dL_season_253 ?_
    obtain ⟨p20, e21, h⟩ := Option.bind_eq_some_iff.mp h
    refine kz_110 C dL_season_254 e21 (Nat.le_of_ble_eq_true rfl) rfl (Nat.le_of_ble_eq_true rfl) ?_
    refine z_iload C.c dL_season_257 (i := 7) rfl ?_
    refine z_iload_n C.c dL_season_259 rfl (i := 1) rfl ?_
    refine z_icmp_ge C.c (tgt := 271) dL_season_260 (by decide) (fun c => ?_) (fun c => ?_)
    · replace h := ite_t c h
      refine z_iconst C.c dL_season_271 (v := (-1 : Int32)) (by decide) ?_
      exact z_mask [true, true, false, true, false, true, true, true, false, false, false, false] rfl (bL_season_b272 C hp hN hw6 hI hE0 hE1 h)
    · replace h := ite_f c h
      refine z_aload C.c dL_season_263 (i := 6) rfl ?_
      refine z_iload C.c dL_season_265 (i := 7) rfl ?_
      obtain ⟨c22, h⟩ := chk h
      refine z_iald C dL_season_267 hw6 c22 ?_
      refine z_goto C.c (tgt := 272) dL_season_268 (by decide) ?_
      exact z_mask [true, true, false, true, false, true, true, true, false, false, false, false] rfl (bL_season_b272 C hp hN hw6 hI hE0 hE1 h)
set_option maxRecDepth 8000 in
theorem bL_season_b0 {K : KT} {x1 : Int32} {w2 : Nat} {x3 : Int32} {x4 : Int32} {r2 : Nat} {nw : Nat} {σ : LwS} {o : Int32 × LwS} {V Vc : Wl} {b Ln : Nat} {xs : Nat → Int32} (C : CZ K cL_season RL 12 18 1728 (some .int) b Ln xs) (hp : Pf Vc V) (hN : V.length = nw) (hw2 : V[w2]? = some (r2, 60)) (hQ : RZ K Vc 1728 (ozI o)) (h : fL_season_b0 x1 w2 x3 x4 nw σ = some o) : GZ K 1728 0 [some (.ref (kad K 0)), some (.int x1), some (.ref r2), some (.int x3), some (.int x4), none, none, none, none, none, none, none] [] V σ := by
  unfold fL_season_b0 at h
  refine z_iconst C.c dL_season_0 (v := (0 : Int32)) (by decide) ?_
  refine z_istore C.c (i := 5) (L' := [some (.ref (kad K 0)), some (.int x1), some (.ref r2), some (.int x3), some (.int x4), some (.int (0 : Int32)), none, none, none, none, none, none]) dL_season_1 (Nat.le_of_ble_eq_true rfl) rfl ?_
  refine z_iconst C.c dL_season_3 (v := (3 : Int32)) (by decide) ?_
  obtain ⟨c1, h⟩ := chk h
  refine z_newI C (N := 3) dL_season_4 aw_68 (by decide) (by decide) (by decide) hN c1 (fun q2 => ?_)
  refine z_astore C.c (i := 6) (L' := [some (.ref (kad K 0)), some (.int x1), some (.ref r2), some (.int x3), some (.int x4), some (.int (0 : Int32)), some (.ref q2), none, none, none, none, none]) dL_season_6 (Nat.le_of_ble_eq_true rfl) rfl ?_
  refine z_iconst C.c dL_season_8 (v := (1 : Int32)) (by decide) ?_
  refine z_istore C.c (i := 7) (L' := [some (.ref (kad K 0)), some (.int x1), some (.ref r2), some (.int x3), some (.int x4), some (.int (0 : Int32)), some (.ref q2), some (.int (1 : Int32)), none, none, none, none]) dL_season_9 (Nat.le_of_ble_eq_true rfl) rfl ?_
  refine z_mask [true, true, true, true, true, true, true, true, false, false, false, false] rfl ?_
  refine lp_bind (Gh := fun s => GZ K 1728 11 [some (.ref (kad K 0)), some (.int x1), some (.ref r2), some (.int x3), some (.int x4), some (.int s.1), some (.ref q2), some (.int s.2.1), none, none, none, none] [] (V ++ [(q2, 3)]) s.2.2) h (fun s o2 hf gI gE => ?_)
  refine bL_season_b11 C Pf.rf (z_len hN) (z_up hw2) (z_new hN) gI (fun t16 e => ?_) hf
  · have h := gE _ e
    refine z_iload C.c dL_season_218 (i := 4) rfl ?_
    refine z_if_ne C.c (tgt := 226) dL_season_220 (by decide) (fun c => ?_) (fun c => ?_)
    · replace h := ite_f c h
      refine z_aload_n C.c dL_season_226 rfl (i := 0) rfl ?_
      refine z_iload_n C.c dL_season_227 rfl (i := 3) rfl ?_
      refine z_iconst C.c dL_season_228 (v := (0 : Int32)) (by decide) ?_
      obtain ⟨p18, e19, h⟩ := Option.bind_eq_some_iff.mp h
      refine kz_110 C dL_season_229 e19 (Nat.le_of_ble_eq_true rfl) rfl (Nat.le_of_ble_eq_true rfl) ?_
      refine z_iload C.c dL_season_232 (i := 5) rfl ?_
      refine z_icmp_eq C.c (tgt := 239) dL_season_234 (by decide) (fun c => ?_) (fun c => ?_)
      · replace h := ite_t c h
        refine z_iconst C.c dL_season_239 (v := (0 : Int32)) (by decide) ?_
        refine z_istore C.c (i := 7) (L' := [some (.ref (kad K 0)), some (.int x1), none, some (.int x3), some (.int x4), some (.int t16.1), some (.ref q2), some (.int (0 : Int32)), none, none, none, none]) dL_season_240 (Nat.le_of_ble_eq_true rfl) rfl ?_
        refine z_mask [true, true, false, true, false, true, true, true, false, false, false, false] rfl ?_
        refine lp_bind (Gh := fun s => GZ K 1728 242 [some (.ref (kad K 0)), some (.int x1), none, some (.int x3), none, some (.int t16.1), some (.ref q2), some (.int s.1), none, none, none, none] [] (V ++ [(q2, 3)]) s.2) h (fun s o2 hf gI gE => ?_)
        refine bL_season_b242 C Pf.rf (z_len hN) (z_new hN) gI (fun t23 e => ?_) (fun t23 e => ?_) hf
        · have h := el_l (gE _ e)
          refine z_iconst C.c dL_season_275 (v := (-1 : Int32)) (by decide) ?_
          obtain rfl := Option.some.inj h
          exact z_iret C (Pf.up hp) hQ dL_season_276 rfl ⟨rfl, rfl⟩
        · have h := el_r (gE _ e)
          refine z_iload C.c dL_season_283 (i := 5) rfl ?_
          obtain rfl := Option.some.inj h
          exact z_iret C (Pf.up hp) hQ dL_season_285 rfl ⟨rfl, rfl⟩
      · replace h := ite_f c h
        refine z_iconst C.c dL_season_237 (v := (-1 : Int32)) (by decide) ?_
        obtain rfl := Option.some.inj h
        exact z_iret C (Pf.up hp) hQ dL_season_238 rfl ⟨rfl, rfl⟩
    · replace h := ite_t c h
      refine z_iload C.c dL_season_223 (i := 5) rfl ?_
      obtain rfl := Option.some.inj h
      exact z_iret C (Pf.up hp) hQ dL_season_225 rfl ⟨rfl, rfl⟩
def fL_season (a1 : Int32) (q2 : Nat) (a3 : Int32) (a4 : Int32) (nw : Nat) (σ : LwS) : Option (Int32 × LwS) := fL_season_b0 a1 q2 a3 a4 nw σ
theorem ct_L_season {a1 : Int32} {q2 : Nat} {a3 : Int32} {a4 : Int32} {r2 : Nat} {nw : Nat} {V : Wl} {b Ln : Nat} {xs : Nat → Int32} {σ : LwS} {p : Int32 × LwS} (hq2 : V[q2]? = some (r2, 60)) (hN : V.length = nw) (hs : σ.2.2 = 0) (h : fL_season a1 q2 a3 a4 nw σ = some p) : CtZ V yL_season cL_season 12 (some .int) 18 1728 b Ln xs (fun ad => [.ref (ad 0), .int a1, .ref r2, .int a3, .int a4]) σ (ozI p) :=
 ctz_of (L0 := fun ad => [some (.ref (ad 0)), some (.int a1), some (.ref r2), some (.int a3), some (.int a4), none, none, none, none, none, none, none]) (by decide) hs (fun _ => Nat.le_of_ble_eq_true rfl) (fun _ => rfl) (fun K C hQ => z_mask [true, true, true, true, true, false, false, false, false, false, false, false] rfl (bL_season_b0 C Pf.rf hN hq2 hQ h))
