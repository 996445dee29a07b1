-- L_law
theorem dL_law_0 : decode cL_law 0 = .ok (.new 19, 3) := by decide +kernel
theorem dL_law_3 : decode cL_law 3 = .ok (.dup, 1) := by decide +kernel
theorem dL_law_4 : decode cL_law 4 = .ok (.invokespecial 47, 3) := by decide +kernel
theorem dL_law_7 : decode cL_law 7 = .ok (.astore_n 1, 1) := by decide +kernel
theorem dL_law_8 : decode cL_law 8 = .ok (.bipush 63, 2) := by decide +kernel
theorem dL_law_10 : decode cL_law 10 = .ok (.newarray .int, 2) := by decide +kernel
theorem dL_law_12 : decode cL_law 12 = .ok (.astore_n 2, 1) := by decide +kernel
theorem dL_law_13 : decode cL_law 13 = .ok (.bipush 64, 2) := by decide +kernel
theorem dL_law_15 : decode cL_law 15 = .ok (.newarray .int, 2) := by decide +kernel
theorem dL_law_17 : decode cL_law 17 = .ok (.astore_n 3, 1) := by decide +kernel
theorem dL_law_18 : decode cL_law 18 = .ok (.bipush 26, 2) := by decide +kernel
theorem dL_law_20 : decode cL_law 20 = .ok (.newarray .int, 2) := by decide +kernel
theorem dL_law_22 : decode cL_law 22 = .ok (.astore 4, 2) := by decide +kernel
theorem dL_law_24 : decode cL_law 24 = .ok (.iconst 3, 1) := by decide +kernel
theorem dL_law_25 : decode cL_law 25 = .ok (.newarray .int, 2) := by decide +kernel
theorem dL_law_27 : decode cL_law 27 = .ok (.astore 5, 2) := by decide +kernel
theorem dL_law_29 : decode cL_law 29 = .ok (.bipush 6, 2) := by decide +kernel
theorem dL_law_31 : decode cL_law 31 = .ok (.newarray .int, 2) := by decide +kernel
theorem dL_law_33 : decode cL_law 33 = .ok (.astore 6, 2) := by decide +kernel
theorem dL_law_35 : decode cL_law 35 = .ok (.aload_n 0, 1) := by decide +kernel
theorem dL_law_36 : decode cL_law 36 = .ok (.iconst 0, 1) := by decide +kernel
theorem dL_law_37 : decode cL_law 37 = .ok (.aload_n 2, 1) := by decide +kernel
theorem dL_law_38 : decode cL_law 38 = .ok (.aload_n 3, 1) := by decide +kernel
theorem dL_law_39 : decode cL_law 39 = .ok (.invokestatic 48, 3) := by decide +kernel
theorem dL_law_42 : decode cL_law 42 = .ok (.istore 7, 2) := by decide +kernel
theorem dL_law_44 : decode cL_law 44 = .ok (.aload_n 1, 1) := by decide +kernel
theorem dL_law_45 : decode cL_law 45 = .ok (.aload_n 3, 1) := by decide +kernel
theorem dL_law_46 : decode cL_law 46 = .ok (.iload 7, 2) := by decide +kernel
theorem dL_law_48 : decode cL_law 48 = .ok (.invokestatic 52, 3) := by decide +kernel
theorem dL_law_51 : decode cL_law 51 = .ok (.ifCond .eq 26, 3) := by decide +kernel
theorem dL_law_54 : decode cL_law 54 = .ok (.aload_n 1, 1) := by decide +kernel
theorem dL_law_55 : decode cL_law 55 = .ok (.invokevirtual 56, 3) := by decide +kernel
theorem dL_law_58 : decode cL_law 58 = .ok (.iload 7, 2) := by decide +kernel
theorem dL_law_60 : decode cL_law 60 = .ok (.if_icmp .ne 17, 3) := by decide +kernel
theorem dL_law_63 : decode cL_law 63 = .ok (.aload_n 1, 1) := by decide +kernel
theorem dL_law_64 : decode cL_law 64 = .ok (.invokevirtual 60, 3) := by decide +kernel
theorem dL_law_67 : decode cL_law 67 = .ok (.aload_n 2, 1) := by decide +kernel
theorem dL_law_68 : decode cL_law 68 = .ok (.iconst 0, 1) := by decide +kernel
theorem dL_law_69 : decode cL_law 69 = .ok (.iaload, 1) := by decide +kernel
theorem dL_law_70 : decode cL_law 70 = .ok (.aload_n 2, 1) := by decide +kernel
theorem dL_law_71 : decode cL_law 71 = .ok (.iconst 1, 1) := by decide +kernel
theorem dL_law_72 : decode cL_law 72 = .ok (.iaload, 1) := by decide +kernel
theorem dL_law_73 : decode cL_law 73 = .ok (.imul, 1) := by decide +kernel
theorem dL_law_74 : decode cL_law 74 = .ok (.if_icmp .eq 5, 3) := by decide +kernel
theorem dL_law_77 : decode cL_law 77 = .ok (.iconst 0, 1) := by decide +kernel
theorem dL_law_78 : decode cL_law 78 = .ok (.ireturn, 1) := by decide +kernel
theorem dL_law_79 : decode cL_law 79 = .ok (.iconst 0, 1) := by decide +kernel
theorem dL_law_80 : decode cL_law 80 = .ok (.istore 8, 2) := by decide +kernel
theorem dL_law_82 : decode cL_law 82 = .ok (.iload 8, 2) := by decide +kernel
theorem dL_law_84 : decode cL_law 84 = .ok (.aload_n 2, 1) := by decide +kernel
theorem dL_law_85 : decode cL_law 85 = .ok (.iconst 0, 1) := by decide +kernel
theorem dL_law_86 : decode cL_law 86 = .ok (.iaload, 1) := by decide +kernel
theorem dL_law_87 : decode cL_law 87 = .ok (.aload_n 2, 1) := by decide +kernel
theorem dL_law_88 : decode cL_law 88 = .ok (.iconst 1, 1) := by decide +kernel
theorem dL_law_89 : decode cL_law 89 = .ok (.iaload, 1) := by decide +kernel
theorem dL_law_90 : decode cL_law 90 = .ok (.imul, 1) := by decide +kernel
theorem dL_law_91 : decode cL_law 91 = .ok (.if_icmp .ge 60, 3) := by decide +kernel
theorem dL_law_94 : decode cL_law 94 = .ok (.aload_n 1, 1) := by decide +kernel
theorem dL_law_95 : decode cL_law 95 = .ok (.iload 8, 2) := by decide +kernel
theorem dL_law_97 : decode cL_law 97 = .ok (.iconst 0, 1) := by decide +kernel
theorem dL_law_98 : decode cL_law 98 = .ok (.invokevirtual 63, 3) := by decide +kernel
theorem dL_law_101 : decode cL_law 101 = .ok (.aload_n 2, 1) := by decide +kernel
theorem dL_law_102 : decode cL_law 102 = .ok (.iconst 3, 1) := by decide +kernel
theorem dL_law_103 : decode cL_law 103 = .ok (.iload 8, 2) := by decide +kernel
theorem dL_law_105 : decode cL_law 105 = .ok (.iadd, 1) := by decide +kernel
theorem dL_law_106 : decode cL_law 106 = .ok (.iaload, 1) := by decide +kernel
theorem dL_law_107 : decode cL_law 107 = .ok (.if_icmp .ne 36, 3) := by decide +kernel
theorem dL_law_110 : decode cL_law 110 = .ok (.aload_n 1, 1) := by decide +kernel
theorem dL_law_111 : decode cL_law 111 = .ok (.iload 8, 2) := by decide +kernel
theorem dL_law_113 : decode cL_law 113 = .ok (.iconst 1, 1) := by decide +kernel
theorem dL_law_114 : decode cL_law 114 = .ok (.invokevirtual 63, 3) := by decide +kernel
theorem dL_law_117 : decode cL_law 117 = .ok (.aload_n 2, 1) := by decide +kernel
theorem dL_law_118 : decode cL_law 118 = .ok (.bipush 33, 2) := by decide +kernel
theorem dL_law_120 : decode cL_law 120 = .ok (.iload 8, 2) := by decide +kernel
theorem dL_law_122 : decode cL_law 122 = .ok (.iadd, 1) := by decide +kernel
theorem dL_law_123 : decode cL_law 123 = .ok (.iaload, 1) := by decide +kernel
theorem dL_law_124 : decode cL_law 124 = .ok (.if_icmp .ne 19, 3) := by decide +kernel
theorem dL_law_127 : decode cL_law 127 = .ok (.aload_n 1, 1) := by decide +kernel
theorem dL_law_128 : decode cL_law 128 = .ok (.iload 8, 2) := by decide +kernel
theorem dL_law_130 : decode cL_law 130 = .ok (.iconst 2, 1) := by decide +kernel
theorem dL_law_131 : decode cL_law 131 = .ok (.invokevirtual 63, 3) := by decide +kernel
theorem dL_law_134 : decode cL_law 134 = .ok (.aload_n 2, 1) := by decide +kernel
theorem dL_law_135 : decode cL_law 135 = .ok (.iload 8, 2) := by decide +kernel
theorem dL_law_137 : decode cL_law 137 = .ok (.invokestatic 32, 3) := by decide +kernel
theorem dL_law_140 : decode cL_law 140 = .ok (.if_icmp .eq 5, 3) := by decide +kernel
theorem dL_law_143 : decode cL_law 143 = .ok (.iconst 0, 1) := by decide +kernel
theorem dL_law_144 : decode cL_law 144 = .ok (.ireturn, 1) := by decide +kernel
theorem dL_law_145 : decode cL_law 145 = .ok (.iinc 8 1, 3) := by decide +kernel
theorem dL_law_148 : decode cL_law 148 = .ok (.goto (-66), 3) := by decide +kernel
theorem dL_law_151 : decode cL_law 151 = .ok (.aload_n 1, 1) := by decide +kernel
theorem dL_law_152 : decode cL_law 152 = .ok (.aload_n 0, 1) := by decide +kernel
theorem dL_law_153 : decode cL_law 153 = .ok (.bipush 7, 2) := by decide +kernel
theorem dL_law_155 : decode cL_law 155 = .ok (.iconst 3, 1) := by decide +kernel
theorem dL_law_156 : decode cL_law 156 = .ok (.aload_n 2, 1) := by decide +kernel
theorem dL_law_157 : decode cL_law 157 = .ok (.aload 4, 2) := by decide +kernel
theorem dL_law_159 : decode cL_law 159 = .ok (.invokestatic 66, 3) := by decide +kernel
theorem dL_law_162 : decode cL_law 162 = .ok (.ifCond .ne 5, 3) := by decide +kernel
theorem dL_law_165 : decode cL_law 165 = .ok (.iconst 0, 1) := by decide +kernel
theorem dL_law_166 : decode cL_law 166 = .ok (.ireturn, 1) := by decide +kernel
theorem dL_law_167 : decode cL_law 167 = .ok (.aload 5, 2) := by decide +kernel
theorem dL_law_169 : decode cL_law 169 = .ok (.iconst 0, 1) := by decide +kernel
theorem dL_law_170 : decode cL_law 170 = .ok (.iconst 1, 1) := by decide +kernel
theorem dL_law_171 : decode cL_law 171 = .ok (.aload_n 0, 1) := by decide +kernel
theorem dL_law_172 : decode cL_law 172 = .ok (.bipush 10, 2) := by decide +kernel
theorem dL_law_174 : decode cL_law 174 = .ok (.invokestatic 8, 3) := by decide +kernel
theorem dL_law_177 : decode cL_law 177 = .ok (.bipush 9, 2) := by decide +kernel
theorem dL_law_179 : decode cL_law 179 = .ok (.invokestatic 14, 3) := by decide +kernel
theorem dL_law_182 : decode cL_law 182 = .ok (.iadd, 1) := by decide +kernel
theorem dL_law_183 : decode cL_law 183 = .ok (.iastore, 1) := by decide +kernel
theorem dL_law_184 : decode cL_law 184 = .ok (.aload 5, 2) := by decide +kernel
theorem dL_law_186 : decode cL_law 186 = .ok (.iconst 1, 1) := by decide +kernel
theorem dL_law_187 : decode cL_law 187 = .ok (.aload_n 0, 1) := by decide +kernel
theorem dL_law_188 : decode cL_law 188 = .ok (.bipush 10, 2) := by decide +kernel
theorem dL_law_190 : decode cL_law 190 = .ok (.invokestatic 8, 3) := by decide +kernel
theorem dL_law_193 : decode cL_law 193 = .ok (.iconst 4, 1) := by decide +kernel
theorem dL_law_194 : decode cL_law 194 = .ok (.ishr, 1) := by decide +kernel
theorem dL_law_195 : decode cL_law 195 = .ok (.aload_n 0, 1) := by decide +kernel
theorem dL_law_196 : decode cL_law 196 = .ok (.bipush 10, 2) := by decide +kernel
theorem dL_law_198 : decode cL_law 198 = .ok (.invokestatic 8, 3) := by decide +kernel
theorem dL_law_201 : decode cL_law 201 = .ok (.bipush 20, 2) := by decide +kernel
theorem dL_law_203 : decode cL_law 203 = .ok (.ishr, 1) := by decide +kernel
theorem dL_law_204 : decode cL_law 204 = .ok (.iconst 2, 1) := by decide +kernel
theorem dL_law_205 : decode cL_law 205 = .ok (.invokestatic 14, 3) := by decide +kernel
theorem dL_law_208 : decode cL_law 208 = .ok (.ifCond .ne 8, 3) := by decide +kernel
theorem dL_law_211 : decode cL_law 211 = .ok (.bipush 10, 2) := by decide +kernel
theorem dL_law_213 : decode cL_law 213 = .ok (.goto 4, 3) := by decide +kernel
theorem dL_law_216 : decode cL_law 216 = .ok (.iconst 2, 1) := by decide +kernel
theorem dL_law_217 : decode cL_law 217 = .ok (.invokestatic 14, 3) := by decide +kernel
theorem dL_law_220 : decode cL_law 220 = .ok (.iastore, 1) := by decide +kernel
theorem dL_law_221 : decode cL_law 221 = .ok (.aload 5, 2) := by decide +kernel
theorem dL_law_223 : decode cL_law 223 = .ok (.iconst 2, 1) := by decide +kernel
theorem dL_law_224 : decode cL_law 224 = .ok (.aload_n 0, 1) := by decide +kernel
theorem dL_law_225 : decode cL_law 225 = .ok (.bipush 10, 2) := by decide +kernel
theorem dL_law_227 : decode cL_law 227 = .ok (.invokestatic 8, 3) := by decide +kernel
theorem dL_law_230 : decode cL_law 230 = .ok (.bipush 8, 2) := by decide +kernel
theorem dL_law_232 : decode cL_law 232 = .ok (.ishr, 1) := by decide +kernel
theorem dL_law_233 : decode cL_law 233 = .ok (.bipush 100, 2) := by decide +kernel
theorem dL_law_235 : decode cL_law 235 = .ok (.invokestatic 14, 3) := by decide +kernel
theorem dL_law_238 : decode cL_law 238 = .ok (.iastore, 1) := by decide +kernel
theorem dL_law_239 : decode cL_law 239 = .ok (.aload_n 1, 1) := by decide +kernel
theorem dL_law_240 : decode cL_law 240 = .ok (.iconst 0, 1) := by decide +kernel
theorem dL_law_241 : decode cL_law 241 = .ok (.aload 5, 2) := by decide +kernel
theorem dL_law_243 : decode cL_law 243 = .ok (.iconst 0, 1) := by decide +kernel
theorem dL_law_244 : decode cL_law 244 = .ok (.iaload, 1) := by decide +kernel
theorem dL_law_245 : decode cL_law 245 = .ok (.invokevirtual 70, 3) := by decide +kernel
theorem dL_law_248 : decode cL_law 248 = .ok (.iconst 3, 1) := by decide +kernel
theorem dL_law_249 : decode cL_law 249 = .ok (.if_icmp .ne 30, 3) := by decide +kernel
theorem dL_law_252 : decode cL_law 252 = .ok (.aload_n 1, 1) := by decide +kernel
theorem dL_law_253 : decode cL_law 253 = .ok (.iconst 1, 1) := by decide +kernel
theorem dL_law_254 : decode cL_law 254 = .ok (.aload 5, 2) := by decide +kernel
theorem dL_law_256 : decode cL_law 256 = .ok (.iconst 1, 1) := by decide +kernel
theorem dL_law_257 : decode cL_law 257 = .ok (.iaload, 1) := by decide +kernel
theorem dL_law_258 : decode cL_law 258 = .ok (.invokevirtual 70, 3) := by decide +kernel
theorem dL_law_261 : decode cL_law 261 = .ok (.iconst 1, 1) := by decide +kernel
theorem dL_law_262 : decode cL_law 262 = .ok (.if_icmp .ne 17, 3) := by decide +kernel
theorem dL_law_265 : decode cL_law 265 = .ok (.aload_n 1, 1) := by decide +kernel
theorem dL_law_266 : decode cL_law 266 = .ok (.iconst 2, 1) := by decide +kernel
theorem dL_law_267 : decode cL_law 267 = .ok (.aload 5, 2) := by decide +kernel
theorem dL_law_269 : decode cL_law 269 = .ok (.iconst 2, 1) := by decide +kernel
theorem dL_law_270 : decode cL_law 270 = .ok (.iaload, 1) := by decide +kernel
theorem dL_law_271 : decode cL_law 271 = .ok (.invokevirtual 70, 3) := by decide +kernel
theorem dL_law_274 : decode cL_law 274 = .ok (.bipush 20, 2) := by decide +kernel
theorem dL_law_276 : decode cL_law 276 = .ok (.if_icmp .eq 5, 3) := by decide +kernel
theorem dL_law_279 : decode cL_law 279 = .ok (.iconst 0, 1) := by decide +kernel
theorem dL_law_280 : decode cL_law 280 = .ok (.ireturn, 1) := by decide +kernel
theorem dL_law_281 : decode cL_law 281 = .ok (.bipush 60, 2) := by decide +kernel
theorem dL_law_283 : decode cL_law 283 = .ok (.newarray .int, 2) := by decide +kernel
theorem dL_law_285 : decode cL_law 285 = .ok (.astore 8, 2) := by decide +kernel
theorem dL_law_287 : decode cL_law 287 = .ok (.iconst 0, 1) := by decide +kernel
theorem dL_law_288 : decode cL_law 288 = .ok (.istore 9, 2) := by decide +kernel
theorem dL_law_290 : decode cL_law 290 = .ok (.iload 9, 2) := by decide +kernel
theorem dL_law_292 : decode cL_law 292 = .ok (.aload 4, 2) := by decide +kernel
theorem dL_law_294 : decode cL_law 294 = .ok (.bipush 25, 2) := by decide +kernel
theorem dL_law_296 : decode cL_law 296 = .ok (.iaload, 1) := by decide +kernel
theorem dL_law_297 : decode cL_law 297 = .ok (.if_icmp .ge 367, 3) := by decide +kernel
theorem dL_law_300 : decode cL_law 300 = .ok (.iconst 5, 1) := by decide +kernel
theorem dL_law_301 : decode cL_law 301 = .ok (.iload 9, 2) := by decide +kernel
theorem dL_law_303 : decode cL_law 303 = .ok (.imul, 1) := by decide +kernel
theorem dL_law_304 : decode cL_law 304 = .ok (.istore 10, 2) := by decide +kernel
theorem dL_law_306 : decode cL_law 306 = .ok (.iconst 0, 1) := by decide +kernel
theorem dL_law_307 : decode cL_law 307 = .ok (.istore 11, 2) := by decide +kernel
theorem dL_law_309 : decode cL_law 309 = .ok (.iload 11, 2) := by decide +kernel
theorem dL_law_311 : decode cL_law 311 = .ok (.iconst 5, 1) := by decide +kernel
theorem dL_law_312 : decode cL_law 312 = .ok (.if_icmp .ge 30, 3) := by decide +kernel
theorem dL_law_315 : decode cL_law 315 = .ok (.aload_n 1, 1) := by decide +kernel
theorem dL_law_316 : decode cL_law 316 = .ok (.iload 9, 2) := by decide +kernel
theorem dL_law_318 : decode cL_law 318 = .ok (.iload 11, 2) := by decide +kernel
theorem dL_law_320 : decode cL_law 320 = .ok (.invokevirtual 73, 3) := by decide +kernel
theorem dL_law_323 : decode cL_law 323 = .ok (.aload 4, 2) := by decide +kernel
theorem dL_law_325 : decode cL_law 325 = .ok (.iload 10, 2) := by decide +kernel
theorem dL_law_327 : decode cL_law 327 = .ok (.iload 11, 2) := by decide +kernel
theorem dL_law_329 : decode cL_law 329 = .ok (.iadd, 1) := by decide +kernel
theorem dL_law_330 : decode cL_law 330 = .ok (.iaload, 1) := by decide +kernel
theorem dL_law_331 : decode cL_law 331 = .ok (.if_icmp .eq 5, 3) := by decide +kernel
theorem dL_law_334 : decode cL_law 334 = .ok (.iconst 0, 1) := by decide +kernel
theorem dL_law_335 : decode cL_law 335 = .ok (.ireturn, 1) := by decide +kernel
theorem dL_law_336 : decode cL_law 336 = .ok (.iinc 11 1, 3) := by decide +kernel
theorem dL_law_339 : decode cL_law 339 = .ok (.goto (-30), 3) := by decide +kernel
theorem dL_law_342 : decode cL_law 342 = .ok (.iconst 0, 1) := by decide +kernel
theorem dL_law_343 : decode cL_law 343 = .ok (.istore 11, 2) := by decide +kernel
theorem dL_law_345 : decode cL_law 345 = .ok (.iload 11, 2) := by decide +kernel
theorem dL_law_347 : decode cL_law 347 = .ok (.iconst 5, 1) := by decide +kernel
theorem dL_law_348 : decode cL_law 348 = .ok (.if_icmp .ge 58, 3) := by decide +kernel
theorem dL_law_351 : decode cL_law 351 = .ok (.aload_n 1, 1) := by decide +kernel
theorem dL_law_352 : decode cL_law 352 = .ok (.iload 9, 2) := by decide +kernel
theorem dL_law_354 : decode cL_law 354 = .ok (.iload 11, 2) := by decide +kernel
theorem dL_law_356 : decode cL_law 356 = .ok (.invokevirtual 76, 3) := by decide +kernel
theorem dL_law_359 : decode cL_law 359 = .ok (.iload 11, 2) := by decide +kernel
theorem dL_law_361 : decode cL_law 361 = .ok (.ifCond .eq 28, 3) := by decide +kernel
theorem dL_law_364 : decode cL_law 364 = .ok (.iload 11, 2) := by decide +kernel
theorem dL_law_366 : decode cL_law 366 = .ok (.aload 4, 2) := by decide +kernel
theorem dL_law_368 : decode cL_law 368 = .ok (.iload 10, 2) := by decide +kernel
theorem dL_law_370 : decode cL_law 370 = .ok (.iaload, 1) := by decide +kernel
theorem dL_law_371 : decode cL_law 371 = .ok (.if_icmp .eq 18, 3) := by decide +kernel
theorem dL_law_374 : decode cL_law 374 = .ok (.iload 11, 2) := by decide +kernel
theorem dL_law_376 : decode cL_law 376 = .ok (.iconst 1, 1) := by decide +kernel
theorem dL_law_377 : decode cL_law 377 = .ok (.if_icmp .ne 17, 3) := by decide +kernel
theorem dL_law_380 : decode cL_law 380 = .ok (.aload 4, 2) := by decide +kernel
theorem dL_law_382 : decode cL_law 382 = .ok (.iload 10, 2) := by decide +kernel
theorem dL_law_384 : decode cL_law 384 = .ok (.iaload, 1) := by decide +kernel
theorem dL_law_385 : decode cL_law 385 = .ok (.iconst 4, 1) := by decide +kernel
theorem dL_law_386 : decode cL_law 386 = .ok (.if_icmp .ne 8, 3) := by decide +kernel
theorem dL_law_389 : decode cL_law 389 = .ok (.iload 9, 2) := by decide +kernel
theorem dL_law_391 : decode cL_law 391 = .ok (.goto 4, 3) := by decide +kernel
theorem dL_law_394 : decode cL_law 394 = .ok (.iconst (-1), 1) := by decide +kernel
theorem dL_law_395 : decode cL_law 395 = .ok (.if_icmp .eq 5, 3) := by decide +kernel
theorem dL_law_398 : decode cL_law 398 = .ok (.iconst 0, 1) := by decide +kernel
theorem dL_law_399 : decode cL_law 399 = .ok (.ireturn, 1) := by decide +kernel
theorem dL_law_400 : decode cL_law 400 = .ok (.iinc 11 1, 3) := by decide +kernel
theorem dL_law_403 : decode cL_law 403 = .ok (.goto (-58), 3) := by decide +kernel
theorem dL_law_406 : decode cL_law 406 = .ok (.iconst 0, 1) := by decide +kernel
theorem dL_law_407 : decode cL_law 407 = .ok (.istore 11, 2) := by decide +kernel
theorem dL_law_409 : decode cL_law 409 = .ok (.iconst 0, 1) := by decide +kernel
theorem dL_law_410 : decode cL_law 410 = .ok (.istore 12, 2) := by decide +kernel
theorem dL_law_412 : decode cL_law 412 = .ok (.ldc 79, 2) := by decide +kernel
theorem dL_law_414 : decode cL_law 414 = .ok (.istore 13, 2) := by decide +kernel
theorem dL_law_416 : decode cL_law 416 = .ok (.iconst 1, 1) := by decide +kernel
theorem dL_law_417 : decode cL_law 417 = .ok (.istore 14, 2) := by decide +kernel
theorem dL_law_419 : decode cL_law 419 = .ok (.iload 14, 2) := by decide +kernel
theorem dL_law_421 : decode cL_law 421 = .ok (.bipush 12, 2) := by decide +kernel
theorem dL_law_423 : decode cL_law 423 = .ok (.if_icmp .ge 154, 3) := by decide +kernel
theorem dL_law_426 : decode cL_law 426 = .ok (.aload 8, 2) := by decide +kernel
theorem dL_law_428 : decode cL_law 428 = .ok (.bipush 12, 2) := by decide +kernel
theorem dL_law_430 : decode cL_law 430 = .ok (.iload 9, 2) := by decide +kernel
theorem dL_law_432 : decode cL_law 432 = .ok (.imul, 1) := by decide +kernel
theorem dL_law_433 : decode cL_law 433 = .ok (.iload 14, 2) := by decide +kernel
theorem dL_law_435 : decode cL_law 435 = .ok (.iadd, 1) := by decide +kernel
theorem dL_law_436 : decode cL_law 436 = .ok (.ldc 79, 2) := by decide +kernel
theorem dL_law_438 : decode cL_law 438 = .ok (.iastore, 1) := by decide +kernel
theorem dL_law_439 : decode cL_law 439 = .ok (.iconst 0, 1) := by decide +kernel
theorem dL_law_440 : decode cL_law 440 = .ok (.istore 15, 2) := by decide +kernel
theorem dL_law_442 : decode cL_law 442 = .ok (.iload 15, 2) := by decide +kernel
theorem dL_law_444 : decode cL_law 444 = .ok (.iconst 2, 1) := by decide +kernel
theorem dL_law_445 : decode cL_law 445 = .ok (.if_icmp .ge 126, 3) := by decide +kernel
theorem dL_law_448 : decode cL_law 448 = .ok (.aload_n 2, 1) := by decide +kernel
theorem dL_law_449 : decode cL_law 449 = .ok (.aload 4, 2) := by decide +kernel
theorem dL_law_451 : decode cL_law 451 = .ok (.iload 10, 2) := by decide +kernel
theorem dL_law_453 : decode cL_law 453 = .ok (.iload 14, 2) := by decide +kernel
theorem dL_law_455 : decode cL_law 455 = .ok (.iload 15, 2) := by decide +kernel
theorem dL_law_457 : decode cL_law 457 = .ok (.iconst 1, 1) := by decide +kernel
theorem dL_law_458 : decode cL_law 458 = .ok (.if_icmp .ne 7, 3) := by decide +kernel
theorem dL_law_461 : decode cL_law 461 = .ok (.iconst 1, 1) := by decide +kernel
theorem dL_law_462 : decode cL_law 462 = .ok (.goto 4, 3) := by decide +kernel
theorem dL_law_465 : decode cL_law 465 = .ok (.iconst 0, 1) := by decide +kernel
theorem dL_law_466 : decode cL_law 466 = .ok (.aload 5, 2) := by decide +kernel
theorem dL_law_468 : decode cL_law 468 = .ok (.aload 6, 2) := by decide +kernel
theorem dL_law_470 : decode cL_law 470 = .ok (.invokestatic 80, 3) := by decide +kernel
theorem dL_law_473 : decode cL_law 473 = .ok (.iload 14, 2) := by decide +kernel
theorem dL_law_475 : decode cL_law 475 = .ok (.iconst 1, 1) := by decide +kernel
theorem dL_law_476 : decode cL_law 476 = .ok (.if_icmp .ne 23, 3) := by decide +kernel
theorem dL_law_479 : decode cL_law 479 = .ok (.iload 15, 2) := by decide +kernel
theorem dL_law_481 : decode cL_law 481 = .ok (.ifCond .ne 18, 3) := by decide +kernel
theorem dL_law_484 : decode cL_law 484 = .ok (.aload_n 1, 1) := by decide +kernel
theorem dL_law_485 : decode cL_law 485 = .ok (.iload 9, 2) := by decide +kernel
theorem dL_law_487 : decode cL_law 487 = .ok (.invokevirtual 84, 3) := by decide +kernel
theorem dL_law_490 : decode cL_law 490 = .ok (.aload 6, 2) := by decide +kernel
theorem dL_law_492 : decode cL_law 492 = .ok (.iconst 5, 1) := by decide +kernel
theorem dL_law_493 : decode cL_law 493 = .ok (.iaload, 1) := by decide +kernel
theorem dL_law_494 : decode cL_law 494 = .ok (.if_icmp .eq 5, 3) := by decide +kernel
theorem dL_law_497 : decode cL_law 497 = .ok (.iconst 0, 1) := by decide +kernel
theorem dL_law_498 : decode cL_law 498 = .ok (.ireturn, 1) := by decide +kernel
theorem dL_law_499 : decode cL_law 499 = .ok (.aload 6, 2) := by decide +kernel
theorem dL_law_501 : decode cL_law 501 = .ok (.iconst 5, 1) := by decide +kernel
theorem dL_law_502 : decode cL_law 502 = .ok (.iaload, 1) := by decide +kernel
theorem dL_law_503 : decode cL_law 503 = .ok (.ifCond .ne 6, 3) := by decide +kernel
theorem dL_law_506 : decode cL_law 506 = .ok (.goto 59, 3) := by decide +kernel
theorem dL_law_509 : decode cL_law 509 = .ok (.aload 6, 2) := by decide +kernel
theorem dL_law_511 : decode cL_law 511 = .ok (.iconst 2, 1) := by decide +kernel
theorem dL_law_512 : decode cL_law 512 = .ok (.iaload, 1) := by decide +kernel
theorem dL_law_513 : decode cL_law 513 = .ok (.aload 8, 2) := by decide +kernel
theorem dL_law_515 : decode cL_law 515 = .ok (.bipush 12, 2) := by decide +kernel
theorem dL_law_517 : decode cL_law 517 = .ok (.iload 9, 2) := by decide +kernel
theorem dL_law_519 : decode cL_law 519 = .ok (.imul, 1) := by decide +kernel
theorem dL_law_520 : decode cL_law 520 = .ok (.iload 14, 2) := by decide +kernel
theorem dL_law_522 : decode cL_law 522 = .ok (.iadd, 1) := by decide +kernel
theorem dL_law_523 : decode cL_law 523 = .ok (.iaload, 1) := by decide +kernel
theorem dL_law_524 : decode cL_law 524 = .ok (.if_icmp .le 18, 3) := by decide +kernel
theorem dL_law_527 : decode cL_law 527 = .ok (.aload 8, 2) := by decide +kernel
theorem dL_law_529 : decode cL_law 529 = .ok (.bipush 12, 2) := by decide +kernel
theorem dL_law_531 : decode cL_law 531 = .ok (.iload 9, 2) := by decide +kernel
theorem dL_law_533 : decode cL_law 533 = .ok (.imul, 1) := by decide +kernel
theorem dL_law_534 : decode cL_law 534 = .ok (.iload 14, 2) := by decide +kernel
theorem dL_law_536 : decode cL_law 536 = .ok (.iadd, 1) := by decide +kernel
theorem dL_law_537 : decode cL_law 537 = .ok (.aload 6, 2) := by decide +kernel
theorem dL_law_539 : decode cL_law 539 = .ok (.iconst 2, 1) := by decide +kernel
theorem dL_law_540 : decode cL_law 540 = .ok (.iaload, 1) := by decide +kernel
theorem dL_law_541 : decode cL_law 541 = .ok (.iastore, 1) := by decide +kernel
theorem dL_law_542 : decode cL_law 542 = .ok (.aload 6, 2) := by decide +kernel
theorem dL_law_544 : decode cL_law 544 = .ok (.iconst 2, 1) := by decide +kernel
theorem dL_law_545 : decode cL_law 545 = .ok (.iaload, 1) := by decide +kernel
theorem dL_law_546 : decode cL_law 546 = .ok (.iload 13, 2) := by decide +kernel
theorem dL_law_548 : decode cL_law 548 = .ok (.if_icmp .le 17, 3) := by decide +kernel
theorem dL_law_551 : decode cL_law 551 = .ok (.aload 6, 2) := by decide +kernel
theorem dL_law_553 : decode cL_law 553 = .ok (.iconst 2, 1) := by decide +kernel
theorem dL_law_554 : decode cL_law 554 = .ok (.iaload, 1) := by decide +kernel
theorem dL_law_555 : decode cL_law 555 = .ok (.istore 13, 2) := by decide +kernel
theorem dL_law_557 : decode cL_law 557 = .ok (.iload 14, 2) := by decide +kernel
theorem dL_law_559 : decode cL_law 559 = .ok (.istore 11, 2) := by decide +kernel
theorem dL_law_561 : decode cL_law 561 = .ok (.iload 15, 2) := by decide +kernel
theorem dL_law_563 : decode cL_law 563 = .ok (.istore 12, 2) := by decide +kernel
theorem dL_law_565 : decode cL_law 565 = .ok (.iinc 15 1, 3) := by decide +kernel
theorem dL_law_568 : decode cL_law 568 = .ok (.goto (-126), 3) := by decide +kernel
theorem dL_law_571 : decode cL_law 571 = .ok (.iinc 14 1, 3) := by decide +kernel
theorem dL_law_574 : decode cL_law 574 = .ok (.goto (-155), 3) := by decide +kernel
theorem dL_law_577 : decode cL_law 577 = .ok (.aload_n 1, 1) := by decide +kernel
theorem dL_law_578 : decode cL_law 578 = .ok (.iload 9, 2) := by decide +kernel
theorem dL_law_580 : decode cL_law 580 = .ok (.iconst 2, 1) := by decide +kernel
theorem dL_law_581 : decode cL_law 581 = .ok (.invokevirtual 88, 3) := by decide +kernel
theorem dL_law_584 : decode cL_law 584 = .ok (.iload 13, 2) := by decide +kernel
theorem dL_law_586 : decode cL_law 586 = .ok (.if_icmp .ne 53, 3) := by decide +kernel
theorem dL_law_589 : decode cL_law 589 = .ok (.iload 13, 2) := by decide +kernel
theorem dL_law_591 : decode cL_law 591 = .ok (.ldc 79, 2) := by decide +kernel
theorem dL_law_593 : decode cL_law 593 = .ok (.if_icmp .le 27, 3) := by decide +kernel
theorem dL_law_596 : decode cL_law 596 = .ok (.aload_n 1, 1) := by decide +kernel
theorem dL_law_597 : decode cL_law 597 = .ok (.iload 9, 2) := by decide +kernel
theorem dL_law_599 : decode cL_law 599 = .ok (.iconst 0, 1) := by decide +kernel
theorem dL_law_600 : decode cL_law 600 = .ok (.invokevirtual 88, 3) := by decide +kernel
theorem dL_law_603 : decode cL_law 603 = .ok (.iload 11, 2) := by decide +kernel
theorem dL_law_605 : decode cL_law 605 = .ok (.if_icmp .ne 34, 3) := by decide +kernel
theorem dL_law_608 : decode cL_law 608 = .ok (.aload_n 1, 1) := by decide +kernel
theorem dL_law_609 : decode cL_law 609 = .ok (.iload 9, 2) := by decide +kernel
theorem dL_law_611 : decode cL_law 611 = .ok (.iconst 1, 1) := by decide +kernel
theorem dL_law_612 : decode cL_law 612 = .ok (.invokevirtual 88, 3) := by decide +kernel
theorem dL_law_615 : decode cL_law 615 = .ok (.iload 12, 2) := by decide +kernel
theorem dL_law_617 : decode cL_law 617 = .ok (.if_icmp .ne 22, 3) := by decide +kernel
theorem dL_law_620 : decode cL_law 620 = .ok (.iload 13, 2) := by decide +kernel
theorem dL_law_622 : decode cL_law 622 = .ok (.ldc 79, 2) := by decide +kernel
theorem dL_law_624 : decode cL_law 624 = .ok (.if_icmp .ne 17, 3) := by decide +kernel
theorem dL_law_627 : decode cL_law 627 = .ok (.aload_n 1, 1) := by decide +kernel
theorem dL_law_628 : decode cL_law 628 = .ok (.iload 9, 2) := by decide +kernel
theorem dL_law_630 : decode cL_law 630 = .ok (.iconst 0, 1) := by decide +kernel
theorem dL_law_631 : decode cL_law 631 = .ok (.invokevirtual 88, 3) := by decide +kernel
theorem dL_law_634 : decode cL_law 634 = .ok (.iload 13, 2) := by decide +kernel
theorem dL_law_636 : decode cL_law 636 = .ok (.if_icmp .eq 5, 3) := by decide +kernel
theorem dL_law_639 : decode cL_law 639 = .ok (.iconst 0, 1) := by decide +kernel
theorem dL_law_640 : decode cL_law 640 = .ok (.ireturn, 1) := by decide +kernel
theorem dL_law_641 : decode cL_law 641 = .ok (.aload_n 1, 1) := by decide +kernel
theorem dL_law_642 : decode cL_law 642 = .ok (.aload_n 0, 1) := by decide +kernel
theorem dL_law_643 : decode cL_law 643 = .ok (.aload_n 2, 1) := by decide +kernel
theorem dL_law_644 : decode cL_law 644 = .ok (.aload 4, 2) := by decide +kernel
theorem dL_law_646 : decode cL_law 646 = .ok (.aload 5, 2) := by decide +kernel
theorem dL_law_648 : decode cL_law 648 = .ok (.iload 9, 2) := by decide +kernel
theorem dL_law_650 : decode cL_law 650 = .ok (.invokestatic 90, 3) := by decide +kernel
theorem dL_law_653 : decode cL_law 653 = .ok (.ifCond .ne 5, 3) := by decide +kernel
theorem dL_law_656 : decode cL_law 656 = .ok (.iconst 0, 1) := by decide +kernel
theorem dL_law_657 : decode cL_law 657 = .ok (.ireturn, 1) := by decide +kernel
theorem dL_law_658 : decode cL_law 658 = .ok (.iinc 9 1, 3) := by decide +kernel
theorem dL_law_661 : decode cL_law 661 = .ok (.goto (-371), 3) := by decide +kernel
theorem dL_law_664 : decode cL_law 664 = .ok (.iconst 0, 1) := by decide +kernel
theorem dL_law_665 : decode cL_law 665 = .ok (.istore 9, 2) := by decide +kernel
theorem dL_law_667 : decode cL_law 667 = .ok (.iload 9, 2) := by decide +kernel
theorem dL_law_669 : decode cL_law 669 = .ok (.iconst 2, 1) := by decide +kernel
theorem dL_law_670 : decode cL_law 670 = .ok (.if_icmp .ge 87, 3) := by decide +kernel
theorem dL_law_673 : decode cL_law 673 = .ok (.iconst 1, 1) := by decide +kernel
theorem dL_law_674 : decode cL_law 674 = .ok (.aload_n 0, 1) := by decide +kernel
theorem dL_law_675 : decode cL_law 675 = .ok (.bipush 11, 2) := by decide +kernel
theorem dL_law_677 : decode cL_law 677 = .ok (.iload 9, 2) := by decide +kernel
theorem dL_law_679 : decode cL_law 679 = .ok (.iadd, 1) := by decide +kernel
theorem dL_law_680 : decode cL_law 680 = .ok (.invokestatic 8, 3) := by decide +kernel
theorem dL_law_683 : decode cL_law 683 = .ok (.bipush 11, 2) := by decide +kernel
theorem dL_law_685 : decode cL_law 685 = .ok (.iload 9, 2) := by decide +kernel
theorem dL_law_687 : decode cL_law 687 = .ok (.isub, 1) := by decide +kernel
theorem dL_law_688 : decode cL_law 688 = .ok (.invokestatic 14, 3) := by decide +kernel
theorem dL_law_691 : decode cL_law 691 = .ok (.iadd, 1) := by decide +kernel
theorem dL_law_692 : decode cL_law 692 = .ok (.istore 10, 2) := by decide +kernel
theorem dL_law_694 : decode cL_law 694 = .ok (.aload_n 1, 1) := by decide +kernel
theorem dL_law_695 : decode cL_law 695 = .ok (.aload 4, 2) := by decide +kernel
theorem dL_law_697 : decode cL_law 697 = .ok (.bipush 25, 2) := by decide +kernel
theorem dL_law_699 : decode cL_law 699 = .ok (.iaload, 1) := by decide +kernel
theorem dL_law_700 : decode cL_law 700 = .ok (.aload 8, 2) := by decide +kernel
theorem dL_law_702 : decode cL_law 702 = .ok (.iload 10, 2) := by decide +kernel
theorem dL_law_704 : decode cL_law 704 = .ok (.iconst 1, 1) := by decide +kernel
theorem dL_law_705 : decode cL_law 705 = .ok (.invokestatic 94, 3) := by decide +kernel
theorem dL_law_708 : decode cL_law 708 = .ok (.istore 11, 2) := by decide +kernel
theorem dL_law_710 : decode cL_law 710 = .ok (.iload 11, 2) := by decide +kernel
theorem dL_law_712 : decode cL_law 712 = .ok (.ifCond .lt 37, 3) := by decide +kernel
theorem dL_law_715 : decode cL_law 715 = .ok (.iload 9, 2) := by decide +kernel
theorem dL_law_717 : decode cL_law 717 = .ok (.iconst 1, 1) := by decide +kernel
theorem dL_law_718 : decode cL_law 718 = .ok (.if_icmp .ne 33, 3) := by decide +kernel
theorem dL_law_721 : decode cL_law 721 = .ok (.aload_n 1, 1) := by decide +kernel
theorem dL_law_722 : decode cL_law 722 = .ok (.iload 10, 2) := by decide +kernel
theorem dL_law_724 : decode cL_law 724 = .ok (.invokevirtual 98, 3) := by decide +kernel
theorem dL_law_727 : decode cL_law 727 = .ok (.aload_n 1, 1) := by decide +kernel
theorem dL_law_728 : decode cL_law 728 = .ok (.aload 4, 2) := by decide +kernel
theorem dL_law_730 : decode cL_law 730 = .ok (.bipush 25, 2) := by decide +kernel
theorem dL_law_732 : decode cL_law 732 = .ok (.iaload, 1) := by decide +kernel
theorem dL_law_733 : decode cL_law 733 = .ok (.aload 8, 2) := by decide +kernel
theorem dL_law_735 : decode cL_law 735 = .ok (.iload 10, 2) := by decide +kernel
theorem dL_law_737 : decode cL_law 737 = .ok (.iconst 1, 1) := by decide +kernel
theorem dL_law_738 : decode cL_law 738 = .ok (.iadd, 1) := by decide +kernel
theorem dL_law_739 : decode cL_law 739 = .ok (.iconst 0, 1) := by decide +kernel
theorem dL_law_740 : decode cL_law 740 = .ok (.invokestatic 94, 3) := by decide +kernel
theorem dL_law_743 : decode cL_law 743 = .ok (.iload 11, 2) := by decide +kernel
theorem dL_law_745 : decode cL_law 745 = .ok (.isub, 1) := by decide +kernel
theorem dL_law_746 : decode cL_law 746 = .ok (.if_icmp .eq 5, 3) := by decide +kernel
theorem dL_law_749 : decode cL_law 749 = .ok (.iconst 0, 1) := by decide +kernel
theorem dL_law_750 : decode cL_law 750 = .ok (.ireturn, 1) := by decide +kernel
theorem dL_law_751 : decode cL_law 751 = .ok (.iinc 9 1, 3) := by decide +kernel
theorem dL_law_754 : decode cL_law 754 = .ok (.goto (-87), 3) := by decide +kernel
theorem dL_law_757 : decode cL_law 757 = .ok (.aload_n 1, 1) := by decide +kernel
theorem dL_law_758 : decode cL_law 758 = .ok (.aload_n 2, 1) := by decide +kernel
theorem dL_law_759 : decode cL_law 759 = .ok (.iconst 0, 1) := by decide +kernel
theorem dL_law_760 : decode cL_law 760 = .ok (.iaload, 1) := by decide +kernel
theorem dL_law_761 : decode cL_law 761 = .ok (.aload_n 2, 1) := by decide +kernel
theorem dL_law_762 : decode cL_law 762 = .ok (.iconst 1, 1) := by decide +kernel
theorem dL_law_763 : decode cL_law 763 = .ok (.iaload, 1) := by decide +kernel
theorem dL_law_764 : decode cL_law 764 = .ok (.imul, 1) := by decide +kernel
theorem dL_law_765 : decode cL_law 765 = .ok (.iconst 0, 1) := by decide +kernel
theorem dL_law_766 : decode cL_law 766 = .ok (.invokevirtual 63, 3) := by decide +kernel
theorem dL_law_769 : decode cL_law 769 = .ok (.bipush (-101), 2) := by decide +kernel
theorem dL_law_771 : decode cL_law 771 = .ok (.if_icmp .ne 311, 3) := by decide +kernel
theorem dL_law_774 : decode cL_law 774 = .ok (.aload_n 1, 1) := by decide +kernel
theorem dL_law_775 : decode cL_law 775 = .ok (.iconst 0, 1) := by decide +kernel
theorem dL_law_776 : decode cL_law 776 = .ok (.iconst 3, 1) := by decide +kernel
theorem dL_law_777 : decode cL_law 777 = .ok (.invokevirtual 63, 3) := by decide +kernel
theorem dL_law_780 : decode cL_law 780 = .ok (.bipush (-102), 2) := by decide +kernel
theorem dL_law_782 : decode cL_law 782 = .ok (.if_icmp .ne 300, 3) := by decide +kernel
theorem dL_law_785 : decode cL_law 785 = .ok (.aload_n 1, 1) := by decide +kernel
theorem dL_law_786 : decode cL_law 786 = .ok (.aload 4, 2) := by decide +kernel
theorem dL_law_788 : decode cL_law 788 = .ok (.bipush 25, 2) := by decide +kernel
theorem dL_law_790 : decode cL_law 790 = .ok (.iaload, 1) := by decide +kernel
theorem dL_law_791 : decode cL_law 791 = .ok (.iconst 0, 1) := by decide +kernel
theorem dL_law_792 : decode cL_law 792 = .ok (.invokevirtual 76, 3) := by decide +kernel
theorem dL_law_795 : decode cL_law 795 = .ok (.bipush (-101), 2) := by decide +kernel
theorem dL_law_797 : decode cL_law 797 = .ok (.if_icmp .ne 285, 3) := by decide +kernel
theorem dL_law_800 : decode cL_law 800 = .ok (.aload_n 1, 1) := by decide +kernel
theorem dL_law_801 : decode cL_law 801 = .ok (.aload 4, 2) := by decide +kernel
theorem dL_law_803 : decode cL_law 803 = .ok (.bipush 25, 2) := by decide +kernel
theorem dL_law_805 : decode cL_law 805 = .ok (.iaload, 1) := by decide +kernel
theorem dL_law_806 : decode cL_law 806 = .ok (.iconst 0, 1) := by decide +kernel
theorem dL_law_807 : decode cL_law 807 = .ok (.invokevirtual 73, 3) := by decide +kernel
theorem dL_law_810 : decode cL_law 810 = .ok (.bipush (-101), 2) := by decide +kernel
theorem dL_law_812 : decode cL_law 812 = .ok (.if_icmp .ne 270, 3) := by decide +kernel
theorem dL_law_815 : decode cL_law 815 = .ok (.aload_n 1, 1) := by decide +kernel
theorem dL_law_816 : decode cL_law 816 = .ok (.aload 4, 2) := by decide +kernel
theorem dL_law_818 : decode cL_law 818 = .ok (.bipush 25, 2) := by decide +kernel
theorem dL_law_820 : decode cL_law 820 = .ok (.iaload, 1) := by decide +kernel
theorem dL_law_821 : decode cL_law 821 = .ok (.iconst 2, 1) := by decide +kernel
theorem dL_law_822 : decode cL_law 822 = .ok (.bipush 10, 2) := by decide +kernel
theorem dL_law_824 : decode cL_law 824 = .ok (.invokevirtual 101, 3) := by decide +kernel
theorem dL_law_827 : decode cL_law 827 = .ok (.bipush (-101), 2) := by decide +kernel
theorem dL_law_829 : decode cL_law 829 = .ok (.if_icmp .ne 253, 3) := by decide +kernel
theorem dL_law_832 : decode cL_law 832 = .ok (.aload_n 1, 1) := by decide +kernel
theorem dL_law_833 : decode cL_law 833 = .ok (.iconst 3, 1) := by decide +kernel
theorem dL_law_834 : decode cL_law 834 = .ok (.iconst 1, 1) := by decide +kernel
theorem dL_law_835 : decode cL_law 835 = .ok (.invokevirtual 70, 3) := by decide +kernel
theorem dL_law_838 : decode cL_law 838 = .ok (.bipush (-102), 2) := by decide +kernel
theorem dL_law_840 : decode cL_law 840 = .ok (.if_icmp .ne 242, 3) := by decide +kernel
theorem dL_law_843 : decode cL_law 843 = .ok (.aload_n 1, 1) := by decide +kernel
theorem dL_law_844 : decode cL_law 844 = .ok (.iconst 0, 1) := by decide +kernel
theorem dL_law_845 : decode cL_law 845 = .ok (.iconst 0, 1) := by decide +kernel
theorem dL_law_846 : decode cL_law 846 = .ok (.invokevirtual 70, 3) := by decide +kernel
theorem dL_law_849 : decode cL_law 849 = .ok (.bipush (-102), 2) := by decide +kernel
theorem dL_law_851 : decode cL_law 851 = .ok (.if_icmp .ne 231, 3) := by decide +kernel
theorem dL_law_854 : decode cL_law 854 = .ok (.aload_n 1, 1) := by decide +kernel
theorem dL_law_855 : decode cL_law 855 = .ok (.iconst 1, 1) := by decide +kernel
theorem dL_law_856 : decode cL_law 856 = .ok (.bipush 10, 2) := by decide +kernel
theorem dL_law_858 : decode cL_law 858 = .ok (.invokevirtual 70, 3) := by decide +kernel
theorem dL_law_861 : decode cL_law 861 = .ok (.bipush (-102), 2) := by decide +kernel
theorem dL_law_863 : decode cL_law 863 = .ok (.if_icmp .ne 219, 3) := by decide +kernel
theorem dL_law_866 : decode cL_law 866 = .ok (.aload_n 1, 1) := by decide +kernel
theorem dL_law_867 : decode cL_law 867 = .ok (.aload 4, 2) := by decide +kernel
theorem dL_law_869 : decode cL_law 869 = .ok (.bipush 25, 2) := by decide +kernel
theorem dL_law_871 : decode cL_law 871 = .ok (.iaload, 1) := by decide +kernel
theorem dL_law_872 : decode cL_law 872 = .ok (.iconst 1, 1) := by decide +kernel
theorem dL_law_873 : decode cL_law 873 = .ok (.iconst 0, 1) := by decide +kernel
theorem dL_law_874 : decode cL_law 874 = .ok (.iconst 0, 1) := by decide +kernel
theorem dL_law_875 : decode cL_law 875 = .ok (.invokevirtual 105, 3) := by decide +kernel
theorem dL_law_878 : decode cL_law 878 = .ok (.ldc 109, 2) := by decide +kernel
theorem dL_law_880 : decode cL_law 880 = .ok (.if_icmp .ne 202, 3) := by decide +kernel
theorem dL_law_883 : decode cL_law 883 = .ok (.aload_n 1, 1) := by decide +kernel
theorem dL_law_884 : decode cL_law 884 = .ok (.iconst (-1), 1) := by decide +kernel
theorem dL_law_885 : decode cL_law 885 = .ok (.invokevirtual 84, 3) := by decide +kernel
theorem dL_law_888 : decode cL_law 888 = .ok (.bipush (-101), 2) := by decide +kernel
theorem dL_law_890 : decode cL_law 890 = .ok (.if_icmp .ne 192, 3) := by decide +kernel
theorem dL_law_893 : decode cL_law 893 = .ok (.aload_n 1, 1) := by decide +kernel
theorem dL_law_894 : decode cL_law 894 = .ok (.aload 4, 2) := by decide +kernel
theorem dL_law_896 : decode cL_law 896 = .ok (.bipush 25, 2) := by decide +kernel
theorem dL_law_898 : decode cL_law 898 = .ok (.iaload, 1) := by decide +kernel
theorem dL_law_899 : decode cL_law 899 = .ok (.iconst 0, 1) := by decide +kernel
theorem dL_law_900 : decode cL_law 900 = .ok (.invokevirtual 88, 3) := by decide +kernel
theorem dL_law_903 : decode cL_law 903 = .ok (.ldc 109, 2) := by decide +kernel
theorem dL_law_905 : decode cL_law 905 = .ok (.if_icmp .ne 177, 3) := by decide +kernel
theorem dL_law_908 : decode cL_law 908 = .ok (.aload_n 1, 1) := by decide +kernel
theorem dL_law_909 : decode cL_law 909 = .ok (.iconst 0, 1) := by decide +kernel
theorem dL_law_910 : decode cL_law 910 = .ok (.iconst 0, 1) := by decide +kernel
theorem dL_law_911 : decode cL_law 911 = .ok (.invokevirtual 110, 3) := by decide +kernel
theorem dL_law_914 : decode cL_law 914 = .ok (.bipush (-102), 2) := by decide +kernel
theorem dL_law_916 : decode cL_law 916 = .ok (.if_icmp .ne 166, 3) := by decide +kernel
theorem dL_law_919 : decode cL_law 919 = .ok (.aload_n 1, 1) := by decide +kernel
theorem dL_law_920 : decode cL_law 920 = .ok (.bipush 12, 2) := by decide +kernel
theorem dL_law_922 : decode cL_law 922 = .ok (.iconst 0, 1) := by decide +kernel
theorem dL_law_923 : decode cL_law 923 = .ok (.invokevirtual 110, 3) := by decide +kernel
theorem dL_law_926 : decode cL_law 926 = .ok (.bipush (-102), 2) := by decide +kernel
theorem dL_law_928 : decode cL_law 928 = .ok (.if_icmp .ne 154, 3) := by decide +kernel
theorem dL_law_931 : decode cL_law 931 = .ok (.aload_n 1, 1) := by decide +kernel
theorem dL_law_932 : decode cL_law 932 = .ok (.iconst 1, 1) := by decide +kernel
theorem dL_law_933 : decode cL_law 933 = .ok (.bipush 6, 2) := by decide +kernel
theorem dL_law_935 : decode cL_law 935 = .ok (.invokevirtual 110, 3) := by decide +kernel
theorem dL_law_938 : decode cL_law 938 = .ok (.bipush (-102), 2) := by decide +kernel
theorem dL_law_940 : decode cL_law 940 = .ok (.if_icmp .ne 142, 3) := by decide +kernel
theorem dL_law_943 : decode cL_law 943 = .ok (.aload_n 1, 1) := by decide +kernel
theorem dL_law_944 : decode cL_law 944 = .ok (.bipush 11, 2) := by decide +kernel
theorem dL_law_946 : decode cL_law 946 = .ok (.invokevirtual 98, 3) := by decide +kernel
theorem dL_law_949 : decode cL_law 949 = .ok (.bipush (-102), 2) := by decide +kernel
theorem dL_law_951 : decode cL_law 951 = .ok (.if_icmp .ne 131, 3) := by decide +kernel
theorem dL_law_954 : decode cL_law 954 = .ok (.aload_n 1, 1) := by decide +kernel
theorem dL_law_955 : decode cL_law 955 = .ok (.aload 4, 2) := by decide +kernel
theorem dL_law_957 : decode cL_law 957 = .ok (.bipush 25, 2) := by decide +kernel
theorem dL_law_959 : decode cL_law 959 = .ok (.iaload, 1) := by decide +kernel
theorem dL_law_960 : decode cL_law 960 = .ok (.iconst 1, 1) := by decide +kernel
theorem dL_law_961 : decode cL_law 961 = .ok (.iconst 0, 1) := by decide +kernel
theorem dL_law_962 : decode cL_law 962 = .ok (.iconst 0, 1) := by decide +kernel
theorem dL_law_963 : decode cL_law 963 = .ok (.iconst 0, 1) := by decide +kernel
theorem dL_law_964 : decode cL_law 964 = .ok (.invokevirtual 112, 3) := by decide +kernel
theorem dL_law_967 : decode cL_law 967 = .ok (.bipush (-101), 2) := by decide +kernel
theorem dL_law_969 : decode cL_law 969 = .ok (.if_icmp .ne 113, 3) := by decide +kernel
theorem dL_law_972 : decode cL_law 972 = .ok (.aload_n 1, 1) := by decide +kernel
theorem dL_law_973 : decode cL_law 973 = .ok (.aload 4, 2) := by decide +kernel
theorem dL_law_975 : decode cL_law 975 = .ok (.bipush 25, 2) := by decide +kernel
theorem dL_law_977 : decode cL_law 977 = .ok (.iaload, 1) := by decide +kernel
theorem dL_law_978 : decode cL_law 978 = .ok (.iconst 1, 1) := by decide +kernel
theorem dL_law_979 : decode cL_law 979 = .ok (.iconst 0, 1) := by decide +kernel
theorem dL_law_980 : decode cL_law 980 = .ok (.iconst 0, 1) := by decide +kernel
theorem dL_law_981 : decode cL_law 981 = .ok (.iconst 0, 1) := by decide +kernel
theorem dL_law_982 : decode cL_law 982 = .ok (.invokevirtual 116, 3) := by decide +kernel
theorem dL_law_985 : decode cL_law 985 = .ok (.bipush (-101), 2) := by decide +kernel
theorem dL_law_987 : decode cL_law 987 = .ok (.if_icmp .ne 95, 3) := by decide +kernel
theorem dL_law_990 : decode cL_law 990 = .ok (.aload 4, 2) := by decide +kernel
theorem dL_law_992 : decode cL_law 992 = .ok (.bipush 25, 2) := by decide +kernel
theorem dL_law_994 : decode cL_law 994 = .ok (.iaload, 1) := by decide +kernel
theorem dL_law_995 : decode cL_law 995 = .ok (.ifCond .eq 83, 3) := by decide +kernel
theorem dL_law_998 : decode cL_law 998 = .ok (.aload_n 1, 1) := by decide +kernel
theorem dL_law_999 : decode cL_law 999 = .ok (.iconst 0, 1) := by decide +kernel
theorem dL_law_1000 : decode cL_law 1000 = .ok (.bipush 12, 2) := by decide +kernel
theorem dL_law_1002 : decode cL_law 1002 = .ok (.iconst 0, 1) := by decide +kernel
theorem dL_law_1003 : decode cL_law 1003 = .ok (.iconst 0, 1) := by decide +kernel
theorem dL_law_1004 : decode cL_law 1004 = .ok (.invokevirtual 105, 3) := by decide +kernel
theorem dL_law_1007 : decode cL_law 1007 = .ok (.ldc 119, 2) := by decide +kernel
theorem dL_law_1009 : decode cL_law 1009 = .ok (.if_icmp .ne 73, 3) := by decide +kernel
theorem dL_law_1012 : decode cL_law 1012 = .ok (.aload_n 1, 1) := by decide +kernel
theorem dL_law_1013 : decode cL_law 1013 = .ok (.iconst 0, 1) := by decide +kernel
theorem dL_law_1014 : decode cL_law 1014 = .ok (.iconst 1, 1) := by decide +kernel
theorem dL_law_1015 : decode cL_law 1015 = .ok (.iconst 0, 1) := by decide +kernel
theorem dL_law_1016 : decode cL_law 1016 = .ok (.iconst 4, 1) := by decide +kernel
theorem dL_law_1017 : decode cL_law 1017 = .ok (.invokevirtual 105, 3) := by decide +kernel
theorem dL_law_1020 : decode cL_law 1020 = .ok (.ldc 119, 2) := by decide +kernel
theorem dL_law_1022 : decode cL_law 1022 = .ok (.if_icmp .ne 60, 3) := by decide +kernel
theorem dL_law_1025 : decode cL_law 1025 = .ok (.aload_n 1, 1) := by decide +kernel
theorem dL_law_1026 : decode cL_law 1026 = .ok (.iconst 0, 1) := by decide +kernel
theorem dL_law_1027 : decode cL_law 1027 = .ok (.iconst 1, 1) := by decide +kernel
theorem dL_law_1028 : decode cL_law 1028 = .ok (.iconst 1, 1) := by decide +kernel
theorem dL_law_1029 : decode cL_law 1029 = .ok (.bipush 19, 2) := by decide +kernel
theorem dL_law_1031 : decode cL_law 1031 = .ok (.invokevirtual 105, 3) := by decide +kernel
theorem dL_law_1034 : decode cL_law 1034 = .ok (.ldc 119, 2) := by decide +kernel
theorem dL_law_1036 : decode cL_law 1036 = .ok (.if_icmp .ne 46, 3) := by decide +kernel
theorem dL_law_1039 : decode cL_law 1039 = .ok (.aload_n 1, 1) := by decide +kernel
theorem dL_law_1040 : decode cL_law 1040 = .ok (.iconst 0, 1) := by decide +kernel
theorem dL_law_1041 : decode cL_law 1041 = .ok (.iconst 3, 1) := by decide +kernel
theorem dL_law_1042 : decode cL_law 1042 = .ok (.invokevirtual 88, 3) := by decide +kernel
theorem dL_law_1045 : decode cL_law 1045 = .ok (.ldc 119, 2) := by decide +kernel
theorem dL_law_1047 : decode cL_law 1047 = .ok (.if_icmp .ne 35, 3) := by decide +kernel
theorem dL_law_1050 : decode cL_law 1050 = .ok (.aload_n 1, 1) := by decide +kernel
theorem dL_law_1051 : decode cL_law 1051 = .ok (.iconst 0, 1) := by decide +kernel
theorem dL_law_1052 : decode cL_law 1052 = .ok (.iconst 1, 1) := by decide +kernel
theorem dL_law_1053 : decode cL_law 1053 = .ok (.iconst 0, 1) := by decide +kernel
theorem dL_law_1054 : decode cL_law 1054 = .ok (.iconst (-1), 1) := by decide +kernel
theorem dL_law_1055 : decode cL_law 1055 = .ok (.iconst 0, 1) := by decide +kernel
theorem dL_law_1056 : decode cL_law 1056 = .ok (.invokevirtual 112, 3) := by decide +kernel
theorem dL_law_1059 : decode cL_law 1059 = .ok (.bipush (-102), 2) := by decide +kernel
theorem dL_law_1061 : decode cL_law 1061 = .ok (.if_icmp .ne 21, 3) := by decide +kernel
theorem dL_law_1064 : decode cL_law 1064 = .ok (.aload_n 1, 1) := by decide +kernel
theorem dL_law_1065 : decode cL_law 1065 = .ok (.iconst 0, 1) := by decide +kernel
theorem dL_law_1066 : decode cL_law 1066 = .ok (.iconst 1, 1) := by decide +kernel
theorem dL_law_1067 : decode cL_law 1067 = .ok (.iconst 0, 1) := by decide +kernel
theorem dL_law_1068 : decode cL_law 1068 = .ok (.iconst 0, 1) := by decide +kernel
theorem dL_law_1069 : decode cL_law 1069 = .ok (.iconst 3, 1) := by decide +kernel
theorem dL_law_1070 : decode cL_law 1070 = .ok (.invokevirtual 112, 3) := by decide +kernel
theorem dL_law_1073 : decode cL_law 1073 = .ok (.bipush (-102), 2) := by decide +kernel
theorem dL_law_1075 : decode cL_law 1075 = .ok (.if_icmp .ne 7, 3) := by decide +kernel
theorem dL_law_1078 : decode cL_law 1078 = .ok (.iconst 1, 1) := by decide +kernel
theorem dL_law_1079 : decode cL_law 1079 = .ok (.goto 4, 3) := by decide +kernel
theorem dL_law_1082 : decode cL_law 1082 = .ok (.iconst 0, 1) := by decide +kernel
theorem dL_law_1083 : decode cL_law 1083 = .ok (.ireturn, 1) := by decide +kernel
theorem kz_48 {K : KT} {cc : ByteArray} {nL d M pc : Nat} {ret : Option FieldType} {L : List (Option Value)} {st : List Value} {V : Wl} {σ : LwS} {b Ln : Nat} {xs : Nat → Int32} (C : CZ K cc RL nL d M ret b Ln xs) {a1 : Int32} {q2 : Nat} {q3 : Nat} {r2 : Nat} {r3 : Nat} (hq2 : V[q2]? = some (r2, 63)) (hq3 : V[q3]? = some (r3, 64)) {p : Int32 × LwS} (hd : decode cc pc = .ok (.invokestatic 48, 3)) (e : fL_seaText xs Ln a1 q2 q3 (eT σ) = some p) (hdd : 2 + 1 ≤ d) (hLn : L.length = nL) (hr : (st.map fun v => v.category).sum ≤ 8) (k : GZ K M (pc + 3) L (.int p.1 :: st) V (uT σ p.2 0)) : GZ K M pc L (.ref r3 :: .ref r2 :: .int a1 :: .ref b :: st) V σ :=
 z_callL C (As := [.ref b, .int a1, .ref r2, .ref r3]) (rest := st) hd (ct_L_seaText hq2 hq3 rfl e) cw_L_seaText aw_616 aw_617 rfl rfl rfl hdd hLn hr (fun h => h) (fun v τ q => by obtain ⟨rfl, rfl⟩ := q; exact k)
theorem kz_52 {K : KT} {cc : ByteArray} {nL d M pc : Nat} {ret : Option FieldType} {L : List (Option Value)} {st : List Value} {V : Wl} {σ : LwS} {b Ln : Nat} {xs : Nat → Int32} (C : CZ K cc RL nL d M ret b Ln xs) {q1 : Nat} {a2 : Int32} {r1 : Nat} (hq1 : V[q1]? = some (r1, 64)) {p : Int32 × LwS} (hd : decode cc pc = .ok (.invokestatic 52, 3)) (e : fL_write q1 a2 (eT σ) = some p) (hdd : 4 + 1 ≤ d) (hLn : L.length = nL) (hr : (st.map fun v => v.category).sum ≤ 8) (k : GZ K M (pc + 3) L (.int p.1 :: st) V (uT σ p.2 0)) : GZ K M pc L (.int a2 :: .ref r1 :: .ref (kad K 0) :: st) V σ :=
 z_callL C (As := [.ref (kad K 0), .ref r1, .int a2]) (rest := st) hd (ct_L_write hq1 rfl e) cw_L_write aw_619 aw_620 rfl rfl rfl hdd hLn hr (fun h => h) (fun v τ q => by obtain ⟨rfl, rfl⟩ := q; exact k)
theorem kz_56 {K : KT} {cc : ByteArray} {nL d M pc : Nat} {ret : Option FieldType} {L : List (Option Value)} {st : List Value} {V : Wl} {σ : LwS} {b Ln : Nat} {xs : Nat → Int32} (C : CZ K cc RL nL d M ret b Ln xs) {p : Int32 × Sg} (hd : decode cc pc = .ok (.invokevirtual 56, 3)) (e : fX9_fault σ.1 = some p) (hdd : 4 + 1 ≤ d) (hLn : L.length = nL) (hr : (st.map fun v => v.category).sum ≤ 8) (k : GZ K M (pc + 3) L (.int p.1 :: st) V (cS σ p.2)) : GZ K M pc L (.ref (kad K 0) :: st) V σ :=
 z_callC C (As := []) (rest := st) hd (ct_X9_fault e) cw_X9_fault aw_344 aw_345 aw_346 rfl rfl rfl hdd hLn rfl hr (fun v τ q => by obtain ⟨rfl, rfl⟩ := q; exact k)
theorem kz_60 {K : KT} {cc : ByteArray} {nL d M pc : Nat} {ret : Option FieldType} {L : List (Option Value)} {st : List Value} {V : Wl} {σ : LwS} {b Ln : Nat} {xs : Nat → Int32} (C : CZ K cc RL nL d M ret b Ln xs) {p : Int32 × Sg} (hd : decode cc pc = .ok (.invokevirtual 60, 3)) (e : fX9_sea σ.1 = some p) (hdd : 5 + 1 ≤ d) (hLn : L.length = nL) (hr : (st.map fun v => v.category).sum ≤ 8) (k : GZ K M (pc + 3) L (.int p.1 :: st) V (cS σ p.2)) : GZ K M pc L (.ref (kad K 0) :: st) V σ :=
 z_callC C (As := []) (rest := st) hd (ct_X9_sea e) cw_X9_sea aw_367 aw_368 aw_369 rfl rfl rfl hdd hLn rfl hr (fun v τ q => by obtain ⟨rfl, rfl⟩ := q; exact k)
theorem kz_63 {K : KT} {cc : ByteArray} {nL d M pc : Nat} {ret : Option FieldType} {L : List (Option Value)} {st : List Value} {V : Wl} {σ : LwS} {b Ln : Nat} {xs : Nat → Int32} (C : CZ K cc RL nL d M ret b Ln xs) {a0 : Int32} {a1 : Int32} {p : Int32 × Sg} (hd : decode cc pc = .ok (.invokevirtual 63, 3)) (e : fX9_square a0 a1 σ.1 = some p) (hdd : 2 + 1 ≤ d) (hLn : L.length = nL) (hr : (st.map fun v => v.category).sum ≤ 8) (k : GZ K M (pc + 3) L (.int p.1 :: st) V (cS σ p.2)) : GZ K M pc L (.int a1 :: .int a0 :: .ref (kad K 0) :: st) V σ :=
 z_callC C (As := [.int a0, .int a1]) (rest := st) hd (ct_X9_square e) cw_X9_square aw_418 aw_419 aw_420 rfl rfl rfl hdd hLn rfl hr (fun v τ q => by obtain ⟨rfl, rfl⟩ := q; exact k)
theorem kz_66 {K : KT} {cc : ByteArray} {nL d M pc : Nat} {ret : Option FieldType} {L : List (Option Value)} {st : List Value} {V : Wl} {σ : LwS} {b Ln : Nat} {xs : Nat → Int32} (C : CZ K cc RL nL d M ret b Ln xs) {a2 : Int32} {a3 : Int32} {q4 : Nat} {q5 : Nat} {r4 : Nat} {r5 : Nat} (hq4 : V[q4]? = some (r4, 63)) (hq5 : V[q5]? = some (r5, 26)) {p : Int32 × LwS} (hd : decode cc pc = .ok (.invokestatic 66, 3)) (e : fL_bergs xs Ln a2 a3 q4 q5 (eT σ) = some p) (hdd : 4 + 1 ≤ d) (hLn : L.length = nL) (hr : (st.map fun v => v.category).sum ≤ 8) (k : GZ K M (pc + 3) L (.int p.1 :: st) V (uT σ p.2 0)) : GZ K M pc L (.ref r5 :: .ref r4 :: .int a3 :: .int a2 :: .ref b :: .ref (kad K 0) :: st) V σ :=
 z_callL C (As := [.ref (kad K 0), .ref b, .int a2, .int a3, .ref r4, .ref r5]) (rest := st) hd (ct_L_bergs hq4 hq5 rfl e) cw_L_bergs aw_636 aw_637 rfl rfl rfl hdd hLn hr (fun h => h) (fun v τ q => by obtain ⟨rfl, rfl⟩ := q; exact k)
theorem kz_70 {K : KT} {cc : ByteArray} {nL d M pc : Nat} {ret : Option FieldType} {L : List (Option Value)} {st : List Value} {V : Wl} {σ : LwS} {b Ln : Nat} {xs : Nat → Int32} (C : CZ K cc RL nL d M ret b Ln xs) {a0 : Int32} {a1 : Int32} {p : Int32 × Sg} (hd : decode cc pc = .ok (.invokevirtual 70, 3)) (e : fX9_coin a0 a1 σ.1 = some p) (hdd : 2 + 1 ≤ d) (hLn : L.length = nL) (hr : (st.map fun v => v.category).sum ≤ 8) (k : GZ K M (pc + 3) L (.int p.1 :: st) V (cS σ p.2)) : GZ K M pc L (.int a1 :: .int a0 :: .ref (kad K 0) :: st) V σ :=
 z_callC C (As := [.int a0, .int a1]) (rest := st) hd (ct_X9_coin e) cw_X9_coin aw_459 aw_460 aw_461 rfl rfl rfl hdd hLn rfl hr (fun v τ q => by obtain ⟨rfl, rfl⟩ := q; exact k)
theorem kz_73 {K : KT} {cc : ByteArray} {nL d M pc : Nat} {ret : Option FieldType} {L : List (Option Value)} {st : List Value} {V : Wl} {σ : LwS} {b Ln : Nat} {xs : Nat → Int32} (C : CZ K cc RL nL d M ret b Ln xs) {a0 : Int32} {a1 : Int32} {p : Int32 × Sg} (hd : decode cc pc = .ok (.invokevirtual 73, 3)) (e : fX9_about a0 a1 σ.1 = some p) (hdd : 2 + 1 ≤ d) (hLn : L.length = nL) (hr : (st.map fun v => v.category).sum ≤ 8) (k : GZ K M (pc + 3) L (.int p.1 :: st) V (cS σ p.2)) : GZ K M pc L (.int a1 :: .int a0 :: .ref (kad K 0) :: st) V σ :=
 z_callC C (As := [.int a0, .int a1]) (rest := st) hd (ct_X9_about e) cw_X9_about aw_441 aw_442 aw_443 rfl rfl rfl hdd hLn rfl hr (fun v τ q => by obtain ⟨rfl, rfl⟩ := q; exact k)
theorem kz_76 {K : KT} {cc : ByteArray} {nL d M pc : Nat} {ret : Option FieldType} {L : List (Option Value)} {st : List Value} {V : Wl} {σ : LwS} {b Ln : Nat} {xs : Nat → Int32} (C : CZ K cc RL nL d M ret b Ln xs) {a0 : Int32} {a1 : Int32} {p : Int32 × Sg} (hd : decode cc pc = .ok (.invokevirtual 76, 3)) (e : fX9_as a0 a1 σ.1 = some p) (hdd : 2 + 1 ≤ d) (hLn : L.length = nL) (hr : (st.map fun v => v.category).sum ≤ 8) (k : GZ K M (pc + 3) L (.int p.1 :: st) V (cS σ p.2)) : GZ K M pc L (.int a1 :: .int a0 :: .ref (kad K 0) :: st) V σ :=
 z_callC C (As := [.int a0, .int a1]) (rest := st) hd (ct_X9_as e) cw_X9_as aw_426 aw_427 aw_428 rfl rfl rfl hdd hLn rfl hr (fun v τ q => by obtain ⟨rfl, rfl⟩ := q; exact k)
theorem kz_84 {K : KT} {cc : ByteArray} {nL d M pc : Nat} {ret : Option FieldType} {L : List (Option Value)} {st : List Value} {V : Wl} {σ : LwS} {b Ln : Nat} {xs : Nat → Int32} (C : CZ K cc RL nL d M ret b Ln xs) {a0 : Int32} {p : Int32 × Sg} (hd : decode cc pc = .ok (.invokevirtual 84, 3)) (e : fX9_ways a0 σ.1 = some p) (hdd : 2 + 1 ≤ d) (hLn : L.length = nL) (hr : (st.map fun v => v.category).sum ≤ 8) (k : GZ K M (pc + 3) L (.int p.1 :: st) V (cS σ p.2)) : GZ K M pc L (.int a0 :: .ref (kad K 0) :: st) V σ :=
 z_callC C (As := [.int a0]) (rest := st) hd (ct_X9_ways e) cw_X9_ways aw_545 aw_546 aw_547 rfl rfl rfl hdd hLn rfl hr (fun v τ q => by obtain ⟨rfl, rfl⟩ := q; exact k)
theorem kz_88 {K : KT} {cc : ByteArray} {nL d M pc : Nat} {ret : Option FieldType} {L : List (Option Value)} {st : List Value} {V : Wl} {σ : LwS} {b Ln : Nat} {xs : Nat → Int32} (C : CZ K cc RL nL d M ret b Ln xs) {a0 : Int32} {a1 : Int32} {p : Int32 × Sg} (hd : decode cc pc = .ok (.invokevirtual 88, 3)) (e : fX9_best a0 a1 σ.1 = some p) (hdd : 17 + 1 ≤ d) (hLn : L.length = nL) (hr : (st.map fun v => v.category).sum ≤ 8) (k : GZ K M (pc + 3) L (.int p.1 :: st) V (cS σ p.2)) : GZ K M pc L (.int a1 :: .int a0 :: .ref (kad K 0) :: st) V σ :=
 z_callC C (As := [.int a0, .int a1]) (rest := st) hd (ct_X9_best e) cw_X9_best aw_549 aw_550 aw_551 rfl rfl rfl hdd hLn rfl hr (fun v τ q => by obtain ⟨rfl, rfl⟩ := q; exact k)
theorem kz_90 {K : KT} {cc : ByteArray} {nL d M pc : Nat} {ret : Option FieldType} {L : List (Option Value)} {st : List Value} {V : Wl} {σ : LwS} {b Ln : Nat} {xs : Nat → Int32} (C : CZ K cc RL nL d M ret b Ln xs) {q2 : Nat} {q3 : Nat} {q4 : Nat} {a5 : Int32} {r2 : Nat} {r3 : Nat} {r4 : Nat} {nw : Nat} (hq2 : V[q2]? = some (r2, 63)) (hq3 : V[q3]? = some (r3, 26)) (hq4 : V[q4]? = some (r4, 3)) (hN : V.length = nw) {p : Int32 × LwS} (hd : decode cc pc = .ok (.invokestatic 90, 3)) (e : fL_tows xs Ln q2 q3 q4 a5 nw (eT σ) = some p) (hdd : 17 + 1 ≤ d) (hLn : L.length = nL) (hr : (st.map fun v => v.category).sum ≤ 8) (hm : decide (σ.2.2 + 3 ≤ M) = true) (k : GZ K M (pc + 3) L (.int p.1 :: st) V (uT σ p.2 3)) : GZ K M pc L (.int a5 :: .ref r4 :: .ref r3 :: .ref r2 :: .ref b :: .ref (kad K 0) :: st) V σ :=
 z_callL C (As := [.ref (kad K 0), .ref b, .ref r2, .ref r3, .ref r4, .int a5]) (rest := st) hd (ct_L_tows hq2 hq3 hq4 hN rfl e) cw_L_tows aw_670 aw_671 rfl rfl rfl hdd hLn hr (fun _ => of_decide_eq_true hm) (fun v τ q => by obtain ⟨rfl, rfl⟩ := q; exact k)
theorem kz_94 {K : KT} {cc : ByteArray} {nL d M pc : Nat} {ret : Option FieldType} {L : List (Option Value)} {st : List Value} {V : Wl} {σ : LwS} {b Ln : Nat} {xs : Nat → Int32} (C : CZ K cc RL nL d M ret b Ln xs) {a1 : Int32} {q2 : Nat} {a3 : Int32} {a4 : Int32} {r2 : Nat} {nw : Nat} (hq2 : V[q2]? = some (r2, 60)) (hN : V.length = nw) {p : Int32 × LwS} (hd : decode cc pc = .ok (.invokestatic 94, 3)) (e : fL_season a1 q2 a3 a4 nw (eT σ) = some p) (hdd : 18 + 1 ≤ d) (hLn : L.length = nL) (hr : (st.map fun v => v.category).sum ≤ 8) (hm : decide (σ.2.2 + 1728 ≤ M) = true) (k : GZ K M (pc + 3) L (.int p.1 :: st) V (uT σ p.2 1728)) : GZ K M pc L (.int a4 :: .int a3 :: .ref r2 :: .int a1 :: .ref (kad K 0) :: st) V σ :=
 z_callL C (As := [.ref (kad K 0), .int a1, .ref r2, .int a3, .int a4]) (rest := st) hd (ct_L_season hq2 hN rfl e) cw_L_season aw_680 aw_681 rfl rfl rfl hdd hLn hr (fun _ => of_decide_eq_true hm) (fun v τ q => by obtain ⟨rfl, rfl⟩ := q; exact k)
theorem kz_98 {K : KT} {cc : ByteArray} {nL d M pc : Nat} {ret : Option FieldType} {L : List (Option Value)} {st : List Value} {V : Wl} {σ : LwS} {b Ln : Nat} {xs : Nat → Int32} (C : CZ K cc RL nL d M ret b Ln xs) {a0 : Int32} {p : Int32 × Sg} (hd : decode cc pc = .ok (.invokevirtual 98, 3)) (e : fX9_more a0 σ.1 = some p) (hdd : 18 + 1 ≤ d) (hLn : L.length = nL) (hr : (st.map fun v => v.category).sum ≤ 8) (k : GZ K M (pc + 3) L (.int p.1 :: st) V (cS σ p.2)) : GZ K M pc L (.int a0 :: .ref (kad K 0) :: st) V σ :=
 z_callC C (As := [.int a0]) (rest := st) hd (ct_X9_more e) cw_X9_more aw_592 aw_593 aw_594 rfl rfl rfl hdd hLn rfl hr (fun v τ q => by obtain ⟨rfl, rfl⟩ := q; exact k)
theorem kz_101 {K : KT} {cc : ByteArray} {nL d M pc : Nat} {ret : Option FieldType} {L : List (Option Value)} {st : List Value} {V : Wl} {σ : LwS} {b Ln : Nat} {xs : Nat → Int32} (C : CZ K cc RL nL d M ret b Ln xs) {a0 : Int32} {a1 : Int32} {a2 : Int32} {p : Int32 × Sg} (hd : decode cc pc = .ok (.invokevirtual 101, 3)) (e : fX9_change a0 a1 a2 σ.1 = some p) (hdd : 2 + 1 ≤ d) (hLn : L.length = nL) (hr : (st.map fun v => v.category).sum ≤ 8) (k : GZ K M (pc + 3) L (.int p.1 :: st) V (cS σ p.2)) : GZ K M pc L (.int a2 :: .int a1 :: .int a0 :: .ref (kad K 0) :: st) V σ :=
 z_callC C (As := [.int a0, .int a1, .int a2]) (rest := st) hd (ct_X9_change e) cw_X9_change aw_445 aw_446 aw_447 rfl rfl rfl hdd hLn rfl hr (fun v τ q => by obtain ⟨rfl, rfl⟩ := q; exact k)
def fL_law_b82 (xs : Nat → Int32) (Ln : Nat) (w2 : Nat) (w4 : Nat) (w5 : Nat) (w6 : Nat) (x8 : Int32) (nw : Nat) (σ : LwS) : Option ((Int32 × LwS) ⊕ (((LwS) ⊕ (LwS)))) :=
  if ((rT σ w2 ((0 : Int32)).toNatClampNeg) * (rT σ w2 ((1 : Int32)).toNatClampNeg)) ≤ x8 then (some (.inr (.inr σ))) else (Option.bind (fX9_square x8 (0 : Int32) σ.1) fun p19 => (if inb ((3 : Int32) + x8) 63 = true then (if p19.1 = (rT (cS σ p19.2) w2 (((3 : Int32) + x8)).toNatClampNeg) then (Option.bind (fX9_square x8 (1 : Int32) (cS σ p19.2).1) fun p22 => (if inb ((33 : Int32) + x8) 63 = true then (if p22.1 = (rT (cS (cS σ p19.2) p22.2) w2 (((33 : Int32) + x8)).toNatClampNeg) then (Option.bind (fX9_square x8 (2 : Int32) (cS (cS σ p19.2) p22.2).1) fun p25 => (Option.bind (fL_far w2 x8 (eT (cS (cS (cS σ p19.2) p22.2) p25.2))) fun p27 => (if p25.1 = p27.1 then (some (.inl ((x8 + (1 : Int32)), (uT (cS (cS (cS σ p19.2) p22.2) p25.2) p27.2 0)))) else (some (.inr (.inl (uT (cS (cS (cS σ p19.2) p22.2) p25.2) p27.2 0))))))) else (some (.inr (.inl (cS (cS σ p19.2) p22.2))))) else none)) else (some (.inr (.inl (cS σ p19.2))))) else none))
def fL_law_b309 (xs : Nat → Int32) (Ln : Nat) (w2 : Nat) (w4 : Nat) (w5 : Nat) (w6 : Nat) (w8 : Nat) (x9 : Int32) (x10 : Int32) (x11 : Int32) (nw : Nat) (σ : LwS) : Option ((Int32 × LwS) ⊕ (((LwS) ⊕ (LwS)))) :=
  if (5 : Int32) ≤ x11 then (some (.inr (.inr σ))) else (Option.bind (fX9_about x9 x11 σ.1) fun p58 => (if inb (x10 + x11) 26 = true then (if p58.1 = (rT (cS σ p58.2) w4 ((x10 + x11)).toNatClampNeg) then (some (.inl ((x11 + (1 : Int32)), (cS σ p58.2)))) else (some (.inr (.inl (cS σ p58.2))))) else none))
def fL_law_b395 (xs : Nat → Int32) (Ln : Nat) (w2 : Nat) (w4 : Nat) (w5 : Nat) (w6 : Nat) (w8 : Nat) (x9 : Int32) (x10 : Int32) (x11 : Int32) (y0 : Int32) (y1 : Int32) (nw : Nat) (σ : LwS) : Option ((Int32 × LwS) ⊕ (((LwS) ⊕ (LwS)))) :=
  if y1 = y0 then (some (.inl ((x11 + (1 : Int32)), σ))) else (some (.inr (.inl σ)))
def fL_law_b389 (xs : Nat → Int32) (Ln : Nat) (w2 : Nat) (w4 : Nat) (w5 : Nat) (w6 : Nat) (w8 : Nat) (x9 : Int32) (x10 : Int32) (x11 : Int32) (y0 : Int32) (nw : Nat) (σ : LwS) : Option ((Int32 × LwS) ⊕ (((LwS) ⊕ (LwS)))) :=
  fL_law_b395 xs Ln w2 w4 w5 w6 w8 x9 x10 x11 x9 y0 nw σ
def fL_law_b394 (xs : Nat → Int32) (Ln : Nat) (w2 : Nat) (w4 : Nat) (w5 : Nat) (w6 : Nat) (w8 : Nat) (x9 : Int32) (x10 : Int32) (x11 : Int32) (y0 : Int32) (nw : Nat) (σ : LwS) : Option ((Int32 × LwS) ⊕ (((LwS) ⊕ (LwS)))) :=
  fL_law_b395 xs Ln w2 w4 w5 w6 w8 x9 x10 x11 (-1 : Int32) y0 nw σ
def fL_law_b345 (xs : Nat → Int32) (Ln : Nat) (w2 : Nat) (w4 : Nat) (w5 : Nat) (w6 : Nat) (w8 : Nat) (x9 : Int32) (x10 : Int32) (x11 : Int32) (nw : Nat) (σ : LwS) : Option ((Int32 × LwS) ⊕ (((LwS) ⊕ (LwS)))) :=
  if (5 : Int32) ≤ x11 then (some (.inr (.inr σ))) else (Option.bind (fX9_as x9 x11 σ.1) fun p63 => (if x11 = 0 then (fL_law_b389 xs Ln w2 w4 w5 w6 w8 x9 x10 x11 p63.1 nw (cS σ p63.2)) else (if inb x10 26 = true then (if x11 = (rT (cS σ p63.2) w4 (x10).toNatClampNeg) then (fL_law_b389 xs Ln w2 w4 w5 w6 w8 x9 x10 x11 p63.1 nw (cS σ p63.2)) else (if x11 = (1 : Int32) then (if inb x10 26 = true then (if (rT (cS σ p63.2) w4 (x10).toNatClampNeg) = (4 : Int32) then (fL_law_b389 xs Ln w2 w4 w5 w6 w8 x9 x10 x11 p63.1 nw (cS σ p63.2)) else (fL_law_b394 xs Ln w2 w4 w5 w6 w8 x9 x10 x11 p63.1 nw (cS σ p63.2))) else none) else (fL_law_b394 xs Ln w2 w4 w5 w6 w8 x9 x10 x11 p63.1 nw (cS σ p63.2)))) else none)))
def fL_law_b565 (xs : Nat → Int32) (Ln : Nat) (w2 : Nat) (w4 : Nat) (w5 : Nat) (w6 : Nat) (w8 : Nat) (x9 : Int32) (x10 : Int32) (x11 : Int32) (x12 : Int32) (x13 : Int32) (x14 : Int32) (x15 : Int32) (nw : Nat) (σ : LwS) : Option ((Int32 × Int32 × Int32 × Int32 × LwS) ⊕ (((LwS) ⊕ (Int32 × Int32 × Int32 × LwS)))) :=
  some (.inl (x11, x12, x13, (x15 + (1 : Int32)), σ))
def fL_law_b542 (xs : Nat → Int32) (Ln : Nat) (w2 : Nat) (w4 : Nat) (w5 : Nat) (w6 : Nat) (w8 : Nat) (x9 : Int32) (x10 : Int32) (x11 : Int32) (x12 : Int32) (x13 : Int32) (x14 : Int32) (x15 : Int32) (nw : Nat) (σ : LwS) : Option ((Int32 × Int32 × Int32 × Int32 × LwS) ⊕ (((LwS) ⊕ (Int32 × Int32 × Int32 × LwS)))) :=
  if (rT σ w6 ((2 : Int32)).toNatClampNeg) ≤ x13 then (fL_law_b565 xs Ln w2 w4 w5 w6 w8 x9 x10 x11 x12 x13 x14 x15 nw σ) else (fL_law_b565 xs Ln w2 w4 w5 w6 w8 x9 x10 x14 x15 (rT σ w6 ((2 : Int32)).toNatClampNeg) x14 x15 nw σ)
def fL_law_b499 (xs : Nat → Int32) (Ln : Nat) (w2 : Nat) (w4 : Nat) (w5 : Nat) (w6 : Nat) (w8 : Nat) (x9 : Int32) (x10 : Int32) (x11 : Int32) (x12 : Int32) (x13 : Int32) (x14 : Int32) (x15 : Int32) (nw : Nat) (σ : LwS) : Option ((Int32 × Int32 × Int32 × Int32 × LwS) ⊕ (((LwS) ⊕ (Int32 × Int32 × Int32 × LwS)))) :=
  if (rT σ w6 ((5 : Int32)).toNatClampNeg) = 0 then (fL_law_b565 xs Ln w2 w4 w5 w6 w8 x9 x10 x11 x12 x13 x14 x15 nw σ) else (if inb (((12 : Int32) * x9) + x14) 60 = true then (if (rT σ w6 ((2 : Int32)).toNatClampNeg) ≤ (rT σ w8 ((((12 : Int32) * x9) + x14)).toNatClampNeg) then (fL_law_b542 xs Ln w2 w4 w5 w6 w8 x9 x10 x11 x12 x13 x14 x15 nw σ) else (if inb (((12 : Int32) * x9) + x14) 60 = true then (fL_law_b542 xs Ln w2 w4 w5 w6 w8 x9 x10 x11 x12 x13 x14 x15 nw (wT σ w8 ((((12 : Int32) * x9) + x14)).toNatClampNeg (rT σ w6 ((2 : Int32)).toNatClampNeg))) else none)) else none)
def fL_law_b466 (xs : Nat → Int32) (Ln : Nat) (w2 : Nat) (w4 : Nat) (w5 : Nat) (w6 : Nat) (w8 : Nat) (x9 : Int32) (x10 : Int32) (x11 : Int32) (x12 : Int32) (x13 : Int32) (x14 : Int32) (x15 : Int32) (y0 : Int32) (y1 : Int32) (y2 : Int32) (u3 : Nat) (u4 : Nat) (nw : Nat) (σ : LwS) : Option ((Int32 × Int32 × Int32 × Int32 × LwS) ⊕ (((LwS) ⊕ (Int32 × Int32 × Int32 × LwS)))) :=
  if decide (σ.2.2 + 1 ≤ 6100) = true then (Option.bind (fL_best u4 u3 y2 y1 y0 w5 w6 nw (eT σ)) fun p70 => (if x14 = (1 : Int32) then (if x15 = 0 then (Option.bind (fX9_ways x9 (uT σ p70 1).1) fun p75 => (if p75.1 = (rT (cS (uT σ p70 1) p75.2) w6 ((5 : Int32)).toNatClampNeg) then (fL_law_b499 xs Ln w2 w4 w5 w6 w8 x9 x10 x11 x12 x13 x14 x15 nw (cS (uT σ p70 1) p75.2)) else (some (.inr (.inl (cS (uT σ p70 1) p75.2)))))) else (fL_law_b499 xs Ln w2 w4 w5 w6 w8 x9 x10 x11 x12 x13 x14 x15 nw (uT σ p70 1))) else (fL_law_b499 xs Ln w2 w4 w5 w6 w8 x9 x10 x11 x12 x13 x14 x15 nw (uT σ p70 1)))) else none
def fL_law_b442 (xs : Nat → Int32) (Ln : Nat) (w2 : Nat) (w4 : Nat) (w5 : Nat) (w6 : Nat) (w8 : Nat) (x9 : Int32) (x10 : Int32) (x11 : Int32) (x12 : Int32) (x13 : Int32) (x14 : Int32) (x15 : Int32) (nw : Nat) (σ : LwS) : Option ((Int32 × Int32 × Int32 × Int32 × LwS) ⊕ (((LwS) ⊕ (Int32 × Int32 × Int32 × LwS)))) :=
  if (2 : Int32) ≤ x15 then (some (.inr (.inr (x11, x12, x13, σ)))) else (if x15 = (1 : Int32) then (fL_law_b466 xs Ln w2 w4 w5 w6 w8 x9 x10 x11 x12 x13 x14 x15 (1 : Int32) x14 x10 w4 w2 nw σ) else (fL_law_b466 xs Ln w2 w4 w5 w6 w8 x9 x10 x11 x12 x13 x14 x15 (0 : Int32) x14 x10 w4 w2 nw σ))
def fL_law_b419 (xs : Nat → Int32) (Ln : Nat) (w2 : Nat) (w4 : Nat) (w5 : Nat) (w6 : Nat) (w8 : Nat) (x9 : Int32) (x10 : Int32) (x11 : Int32) (x12 : Int32) (x13 : Int32) (x14 : Int32) (nw : Nat) (σ : LwS) : Option ((Int32 × Int32 × Int32 × Int32 × LwS) ⊕ (((LwS) ⊕ (Int32 × Int32 × Int32 × LwS)))) :=
  if (12 : Int32) ≤ x14 then (some (.inr (.inr (x11, x12, x13, σ)))) else (if inb (((12 : Int32) * x9) + x14) 60 = true then (Option.bind (lp (fun s => fL_law_b442 xs Ln w2 w4 w5 w6 w8 x9 x10 s.1 s.2.1 s.2.2.1 x14 s.2.2.2.1 nw s.2.2.2.2) FU (x11, x12, x13, (0 : Int32), (wT σ w8 ((((12 : Int32) * x9) + x14)).toNatClampNeg (-100001 : Int32)))) (el (fun t77 => some (.inr (.inl t77))) (fun t77 => some (.inl (t77.1, t77.2.1, t77.2.2.1, (x14 + (1 : Int32)), t77.2.2.2))))) else none)
def fL_law_b641 (xs : Nat → Int32) (Ln : Nat) (w2 : Nat) (w4 : Nat) (w5 : Nat) (w6 : Nat) (w8 : Nat) (x9 : Int32) (nw : Nat) (σ : LwS) : Option ((Int32 × LwS) ⊕ (((LwS) ⊕ ((LwS) ⊕ ((LwS) ⊕ ((LwS) ⊕ ((LwS) ⊕ (LwS)))))))) :=
  if decide (σ.2.2 + 3 ≤ 6100) = true then (Option.bind (fL_tows xs Ln w2 w4 w5 x9 nw (eT σ)) fun p83 => (if p83.1 = 0 then (some (.inr (.inr (.inr (.inr (.inr (.inl (uT σ p83.2 3)))))))) else (some (.inl ((x9 + (1 : Int32)), (uT σ p83.2 3)))))) else none
def fL_law_b620 (xs : Nat → Int32) (Ln : Nat) (w2 : Nat) (w4 : Nat) (w5 : Nat) (w6 : Nat) (w8 : Nat) (x9 : Int32) (x13 : Int32) (nw : Nat) (σ : LwS) : Option ((Int32 × LwS) ⊕ (((LwS) ⊕ ((LwS) ⊕ ((LwS) ⊕ ((LwS) ⊕ ((LwS) ⊕ (LwS)))))))) :=
  if x13 = (-100001 : Int32) then (Option.bind (fX9_best x9 (0 : Int32) σ.1) fun p86 => (if p86.1 = x13 then (fL_law_b641 xs Ln w2 w4 w5 w6 w8 x9 nw (cS σ p86.2)) else (some (.inr (.inr (.inr (.inr (.inl (cS σ p86.2))))))))) else (fL_law_b641 xs Ln w2 w4 w5 w6 w8 x9 nw σ)
def fL_law_b290 (xs : Nat → Int32) (Ln : Nat) (w2 : Nat) (w4 : Nat) (w5 : Nat) (w6 : Nat) (w8 : Nat) (x9 : Int32) (nw : Nat) (σ : LwS) : Option ((Int32 × LwS) ⊕ (((LwS) ⊕ ((LwS) ⊕ ((LwS) ⊕ ((LwS) ⊕ ((LwS) ⊕ (LwS)))))))) :=
  if (rT σ w4 ((25 : Int32)).toNatClampNeg) ≤ x9 then (some (.inr (.inr (.inr (.inr (.inr (.inr σ))))))) else (Option.bind (lp (fun s => fL_law_b309 xs Ln w2 w4 w5 w6 w8 x9 ((5 : Int32) * x9) s.1 nw s.2) FU ((0 : Int32), σ)) (el (fun t61 => some (.inr (.inl t61))) (fun t61 => Option.bind (lp (fun s => fL_law_b345 xs Ln w2 w4 w5 w6 w8 x9 ((5 : Int32) * x9) s.1 nw s.2) FU ((0 : Int32), t61)) (el (fun t67 => some (.inr (.inr (.inl t67)))) (fun t67 => Option.bind (lp (fun s => fL_law_b419 xs Ln w2 w4 w5 w6 w8 x9 ((5 : Int32) * x9) s.1 s.2.1 s.2.2.1 s.2.2.2.1 nw s.2.2.2.2) FU ((0 : Int32), (0 : Int32), (-100001 : Int32), (1 : Int32), t67)) (el (fun t79 => some (.inr (.inr (.inr (.inl t79))))) (fun t79 => Option.bind (fX9_best x9 (2 : Int32) t79.2.2.2.1) fun p81 => (if p81.1 = t79.2.2.1 then (if t79.2.2.1 ≤ (-100001 : Int32) then (fL_law_b620 xs Ln w2 w4 w5 w6 w8 x9 t79.2.2.1 nw (cS t79.2.2.2 p81.2)) else (Option.bind (fX9_best x9 (0 : Int32) (cS t79.2.2.2 p81.2).1) fun p88 => (if p88.1 = t79.1 then (Option.bind (fX9_best x9 (1 : Int32) (cS (cS t79.2.2.2 p81.2) p88.2).1) fun p90 => (if p90.1 = t79.2.1 then (fL_law_b620 xs Ln w2 w4 w5 w6 w8 x9 t79.2.2.1 nw (cS (cS (cS t79.2.2.2 p81.2) p88.2) p90.2)) else (some (.inr (.inr (.inr (.inr (.inl (cS (cS (cS t79.2.2.2 p81.2) p88.2) p90.2))))))))) else (some (.inr (.inr (.inr (.inr (.inl (cS (cS t79.2.2.2 p81.2) p88.2)))))))))) else (some (.inr (.inr (.inr (.inr (.inl (cS t79.2.2.2 p81.2)))))))))))))))
def fL_law_b751 (xs : Nat → Int32) (Ln : Nat) (w2 : Nat) (w4 : Nat) (w8 : Nat) (x9 : Int32) (nw : Nat) (σ : LwS) : Option ((Int32 × LwS) ⊕ (((LwS) ⊕ (LwS)))) :=
  some (.inl ((x9 + (1 : Int32)), σ))
def fL_law_b667 (xs : Nat → Int32) (Ln : Nat) (w2 : Nat) (w4 : Nat) (w8 : Nat) (x9 : Int32) (nw : Nat) (σ : LwS) : Option ((Int32 × LwS) ⊕ (((LwS) ⊕ (LwS)))) :=
  if (2 : Int32) ≤ x9 then (some (.inr (.inr σ))) else (Option.bind (fL_cell xs Ln ((11 : Int32) + x9) (eT σ)) fun p94 => (Option.bind (fL_at p94.1 ((11 : Int32) - x9) (eT (uT σ p94.2 0))) fun p96 => (if decide ((uT (uT σ p94.2 0) p96.2 0).2.2 + 1728 ≤ 6100) = true then (Option.bind (fL_season (rT (uT (uT σ p94.2 0) p96.2 0) w4 ((25 : Int32)).toNatClampNeg) w8 ((1 : Int32) + p96.1) (1 : Int32) nw (eT (uT (uT σ p94.2 0) p96.2 0))) fun p98 => (if p98.1 < 0 then (some (.inr (.inl (uT (uT (uT σ p94.2 0) p96.2 0) p98.2 1728)))) else (if x9 = (1 : Int32) then (Option.bind (fX9_more ((1 : Int32) + p96.1) (uT (uT (uT σ p94.2 0) p96.2 0) p98.2 1728).1) fun p101 => (if decide ((cS (uT (uT (uT σ p94.2 0) p96.2 0) p98.2 1728) p101.2).2.2 + 1728 ≤ 6100) = true then (Option.bind (fL_season (rT (cS (uT (uT (uT σ p94.2 0) p96.2 0) p98.2 1728) p101.2) w4 ((25 : Int32)).toNatClampNeg) w8 (((1 : Int32) + p96.1) + (1 : Int32)) (0 : Int32) nw (eT (cS (uT (uT (uT σ p94.2 0) p96.2 0) p98.2 1728) p101.2))) fun p103 => (if p101.1 = (p103.1 - p98.1) then (fL_law_b751 xs Ln w2 w4 w8 x9 nw (uT (cS (uT (uT (uT σ p94.2 0) p96.2 0) p98.2 1728) p101.2) p103.2 1728)) else (some (.inr (.inl (uT (cS (uT (uT (uT σ p94.2 0) p96.2 0) p98.2 1728) p101.2) p103.2 1728)))))) else none)) else (fL_law_b751 xs Ln w2 w4 w8 x9 nw (uT (uT (uT σ p94.2 0) p96.2 0) p98.2 1728))))) else none)))
def fL_law_b1078 (xs : Nat → Int32) (Ln : Nat)  (nw : Nat) (σ : LwS) : Option (Int32 × LwS) :=
  some ((1 : Int32), σ)
def fL_law_b217 (xs : Nat → Int32) (Ln : Nat) (w2 : Nat) (w4 : Nat) (w5 : Nat) (w6 : Nat) (y0 : Int32) (y1 : Int32) (y2 : Int32) (u3 : Nat) (nw : Nat) (σ : LwS) : Option (Int32 × LwS) :=
  Option.bind (fL_at y1 y0 (eT σ)) fun p43 => (if inb y2 3 = true then (Option.bind (fL_cell xs Ln (10 : Int32) (eT (wT (uT σ p43.2 0) u3 (y2).toNatClampNeg p43.1))) fun p46 => (Option.bind (fL_at (ishr p46.1 (8 : Int32)) (100 : Int32) (eT (uT (wT (uT σ p43.2 0) u3 (y2).toNatClampNeg p43.1) p46.2 0))) fun p48 => (Option.bind (fX9_coin (0 : Int32) (rT (wT (uT (uT (wT (uT σ p43.2 0) u3 (y2).toNatClampNeg p43.1) p46.2 0) p48.2 0) w5 ((2 : Int32)).toNatClampNeg p48.1) w5 ((0 : Int32)).toNatClampNeg) (wT (uT (uT (wT (uT σ p43.2 0) u3 (y2).toNatClampNeg p43.1) p46.2 0) p48.2 0) w5 ((2 : Int32)).toNatClampNeg p48.1).1) fun p50 => (if p50.1 = (3 : Int32) then (Option.bind (fX9_coin (1 : Int32) (rT (cS (wT (uT (uT (wT (uT σ p43.2 0) u3 (y2).toNatClampNeg p43.1) p46.2 0) p48.2 0) w5 ((2 : Int32)).toNatClampNeg p48.1) p50.2) w5 ((1 : Int32)).toNatClampNeg) (cS (wT (uT (uT (wT (uT σ p43.2 0) u3 (y2).toNatClampNeg p43.1) p46.2 0) p48.2 0) w5 ((2 : Int32)).toNatClampNeg p48.1) p50.2).1) fun p52 => (if p52.1 = (1 : Int32) then (Option.bind (fX9_coin (2 : Int32) (rT (cS (cS (wT (uT (uT (wT (uT σ p43.2 0) u3 (y2).toNatClampNeg p43.1) p46.2 0) p48.2 0) w5 ((2 : Int32)).toNatClampNeg p48.1) p50.2) p52.2) w5 ((2 : Int32)).toNatClampNeg) (cS (cS (wT (uT (uT (wT (uT σ p43.2 0) u3 (y2).toNatClampNeg p43.1) p46.2 0) p48.2 0) w5 ((2 : Int32)).toNatClampNeg p48.1) p50.2) p52.2).1) fun p54 => (if p54.1 = (20 : Int32) then (if decide ((cS (cS (cS (wT (uT (uT (wT (uT σ p43.2 0) u3 (y2).toNatClampNeg p43.1) p46.2 0) p48.2 0) w5 ((2 : Int32)).toNatClampNeg p48.1) p50.2) p52.2) p54.2).2.2 + 1 ≤ 6100) = true then (Option.bind (lp (fun s => fL_law_b290 xs Ln w2 w4 w5 w6 nw s.1 (nw + 1) s.2) FU ((0 : Int32), (nT (cS (cS (cS (wT (uT (uT (wT (uT σ p43.2 0) u3 (y2).toNatClampNeg p43.1) p46.2 0) p48.2 0) w5 ((2 : Int32)).toNatClampNeg p48.1) p50.2) p52.2) p54.2) nw))) (el (fun t92 => some ((0 : Int32), t92)) (el (fun t92 => some ((0 : Int32), t92)) (el (fun t92 => some ((0 : Int32), t92)) (el (fun t92 => some ((0 : Int32), t92)) (el (fun t92 => some ((0 : Int32), t92)) (fun t92 => Option.bind (lp (fun s => fL_law_b667 xs Ln w2 w4 nw s.1 (nw + 1) s.2) FU ((0 : Int32), t92)) (el (fun t106 => some ((0 : Int32), t106)) (fun t106 => Option.bind (fX9_square ((rT t106 w2 ((0 : Int32)).toNatClampNeg) * (rT t106 w2 ((1 : Int32)).toNatClampNeg)) (0 : Int32) t106.1) fun p108 => (if p108.1 = (-101 : Int32) then (Option.bind (fX9_square (0 : Int32) (3 : Int32) (cS t106 p108.2).1) fun p110 => (if p110.1 = (-102 : Int32) then (Option.bind (fX9_as (rT (cS (cS t106 p108.2) p110.2) w4 ((25 : Int32)).toNatClampNeg) (0 : Int32) (cS (cS t106 p108.2) p110.2).1) fun p112 => (if p112.1 = (-101 : Int32) then (Option.bind (fX9_about (rT (cS (cS (cS t106 p108.2) p110.2) p112.2) w4 ((25 : Int32)).toNatClampNeg) (0 : Int32) (cS (cS (cS t106 p108.2) p110.2) p112.2).1) fun p114 => (if p114.1 = (-101 : Int32) then (Option.bind (fX9_change (rT (cS (cS (cS (cS t106 p108.2) p110.2) p112.2) p114.2) w4 ((25 : Int32)).toNatClampNeg) (2 : Int32) (10 : Int32) (cS (cS (cS (cS t106 p108.2) p110.2) p112.2) p114.2).1) fun p116 => (if p116.1 = (-101 : Int32) then (Option.bind (fX9_coin (3 : Int32) (1 : Int32) (cS (cS (cS (cS (cS t106 p108.2) p110.2) p112.2) p114.2) p116.2).1) fun p118 => (if p118.1 = (-102 : Int32) then (Option.bind (fX9_coin (0 : Int32) (0 : Int32) (cS (cS (cS (cS (cS (cS t106 p108.2) p110.2) p112.2) p114.2) p116.2) p118.2).1) fun p120 => (if p120.1 = (-102 : Int32) then (Option.bind (fX9_coin (1 : Int32) (10 : Int32) (cS (cS (cS (cS (cS (cS (cS t106 p108.2) p110.2) p112.2) p114.2) p116.2) p118.2) p120.2).1) fun p122 => (if p122.1 = (-102 : Int32) then (Option.bind (fX9_tow (rT (cS (cS (cS (cS (cS (cS (cS (cS t106 p108.2) p110.2) p112.2) p114.2) p116.2) p118.2) p120.2) p122.2) w4 ((25 : Int32)).toNatClampNeg) (1 : Int32) (0 : Int32) (0 : Int32) (cS (cS (cS (cS (cS (cS (cS (cS t106 p108.2) p110.2) p112.2) p114.2) p116.2) p118.2) p120.2) p122.2).1) fun p124 => (if p124.1 = (-100101 : Int32) then (Option.bind (fX9_ways (-1 : Int32) (cS (cS (cS (cS (cS (cS (cS (cS (cS t106 p108.2) p110.2) p112.2) p114.2) p116.2) p118.2) p120.2) p122.2) p124.2).1) fun p126 => (if p126.1 = (-101 : Int32) then (Option.bind (fX9_best (rT (cS (cS (cS (cS (cS (cS (cS (cS (cS (cS t106 p108.2) p110.2) p112.2) p114.2) p116.2) p118.2) p120.2) p122.2) p124.2) p126.2) w4 ((25 : Int32)).toNatClampNeg) (0 : Int32) (cS (cS (cS (cS (cS (cS (cS (cS (cS (cS t106 p108.2) p110.2) p112.2) p114.2) p116.2) p118.2) p120.2) p122.2) p124.2) p126.2).1) fun p128 => (if p128.1 = (-100101 : Int32) then (Option.bind (fX9_season (0 : Int32) (0 : Int32) (cS (cS (cS (cS (cS (cS (cS (cS (cS (cS (cS t106 p108.2) p110.2) p112.2) p114.2) p116.2) p118.2) p120.2) p122.2) p124.2) p126.2) p128.2).1) fun p130 => (if p130.1 = (-102 : Int32) then (Option.bind (fX9_season (12 : Int32) (0 : Int32) (cS (cS (cS (cS (cS (cS (cS (cS (cS (cS (cS (cS t106 p108.2) p110.2) p112.2) p114.2) p116.2) p118.2) p120.2) p122.2) p124.2) p126.2) p128.2) p130.2).1) fun p132 => (if p132.1 = (-102 : Int32) then (Option.bind (fX9_season (1 : Int32) (6 : Int32) (cS (cS (cS (cS (cS (cS (cS (cS (cS (cS (cS (cS (cS t106 p108.2) p110.2) p112.2) p114.2) p116.2) p118.2) p120.2) p122.2) p124.2) p126.2) p128.2) p130.2) p132.2).1) fun p134 => (if p134.1 = (-102 : Int32) then (Option.bind (fX9_more (11 : Int32) (cS (cS (cS (cS (cS (cS (cS (cS (cS (cS (cS (cS (cS (cS t106 p108.2) p110.2) p112.2) p114.2) p116.2) p118.2) p120.2) p122.2) p124.2) p126.2) p128.2) p130.2) p132.2) p134.2).1) fun p136 => (if p136.1 = (-102 : Int32) then (Option.bind (fX9_drawn (rT (cS (cS (cS (cS (cS (cS (cS (cS (cS (cS (cS (cS (cS (cS (cS t106 p108.2) p110.2) p112.2) p114.2) p116.2) p118.2) p120.2) p122.2) p124.2) p126.2) p128.2) p130.2) p132.2) p134.2) p136.2) w4 ((25 : Int32)).toNatClampNeg) (1 : Int32) (0 : Int32) (0 : Int32) (0 : Int32) (cS (cS (cS (cS (cS (cS (cS (cS (cS (cS (cS (cS (cS (cS (cS t106 p108.2) p110.2) p112.2) p114.2) p116.2) p118.2) p120.2) p122.2) p124.2) p126.2) p128.2) p130.2) p132.2) p134.2) p136.2).1) fun p138 => (if p138.1 = (-101 : Int32) then (Option.bind (fX9_came (rT (cS (cS (cS (cS (cS (cS (cS (cS (cS (cS (cS (cS (cS (cS (cS (cS t106 p108.2) p110.2) p112.2) p114.2) p116.2) p118.2) p120.2) p122.2) p124.2) p126.2) p128.2) p130.2) p132.2) p134.2) p136.2) p138.2) w4 ((25 : Int32)).toNatClampNeg) (1 : Int32) (0 : Int32) (0 : Int32) (0 : Int32) (cS (cS (cS (cS (cS (cS (cS (cS (cS (cS (cS (cS (cS (cS (cS (cS t106 p108.2) p110.2) p112.2) p114.2) p116.2) p118.2) p120.2) p122.2) p124.2) p126.2) p128.2) p130.2) p132.2) p134.2) p136.2) p138.2).1) fun p140 => (if p140.1 = (-101 : Int32) then (if (rT (cS (cS (cS (cS (cS (cS (cS (cS (cS (cS (cS (cS (cS (cS (cS (cS (cS t106 p108.2) p110.2) p112.2) p114.2) p116.2) p118.2) p120.2) p122.2) p124.2) p126.2) p128.2) p130.2) p132.2) p134.2) p136.2) p138.2) p140.2) w4 ((25 : Int32)).toNatClampNeg) = 0 then (fL_law_b1078 xs Ln (nw + 1) (cS (cS (cS (cS (cS (cS (cS (cS (cS (cS (cS (cS (cS (cS (cS (cS (cS t106 p108.2) p110.2) p112.2) p114.2) p116.2) p118.2) p120.2) p122.2) p124.2) p126.2) p128.2) p130.2) p132.2) p134.2) p136.2) p138.2) p140.2)) else (Option.bind (fX9_tow (0 : Int32) (12 : Int32) (0 : Int32) (0 : Int32) (cS (cS (cS (cS (cS (cS (cS (cS (cS (cS (cS (cS (cS (cS (cS (cS (cS t106 p108.2) p110.2) p112.2) p114.2) p116.2) p118.2) p120.2) p122.2) p124.2) p126.2) p128.2) p130.2) p132.2) p134.2) p136.2) p138.2) p140.2).1) fun p142 => (if p142.1 = (-100102 : Int32) then (Option.bind (fX9_tow (0 : Int32) (1 : Int32) (0 : Int32) (4 : Int32) (cS (cS (cS (cS (cS (cS (cS (cS (cS (cS (cS (cS (cS (cS (cS (cS (cS (cS t106 p108.2) p110.2) p112.2) p114.2) p116.2) p118.2) p120.2) p122.2) p124.2) p126.2) p128.2) p130.2) p132.2) p134.2) p136.2) p138.2) p140.2) p142.2).1) fun p144 => (if p144.1 = (-100102 : Int32) then (Option.bind (fX9_tow (0 : Int32) (1 : Int32) (1 : Int32) (19 : Int32) (cS (cS (cS (cS (cS (cS (cS (cS (cS (cS (cS (cS (cS (cS (cS (cS (cS (cS (cS t106 p108.2) p110.2) p112.2) p114.2) p116.2) p118.2) p120.2) p122.2) p124.2) p126.2) p128.2) p130.2) p132.2) p134.2) p136.2) p138.2) p140.2) p142.2) p144.2).1) fun p146 => (if p146.1 = (-100102 : Int32) then (Option.bind (fX9_best (0 : Int32) (3 : Int32) (cS (cS (cS (cS (cS (cS (cS (cS (cS (cS (cS (cS (cS (cS (cS (cS (cS (cS (cS (cS t106 p108.2) p110.2) p112.2) p114.2) p116.2) p118.2) p120.2) p122.2) p124.2) p126.2) p128.2) p130.2) p132.2) p134.2) p136.2) p138.2) p140.2) p142.2) p144.2) p146.2).1) fun p148 => (if p148.1 = (-100102 : Int32) then (Option.bind (fX9_drawn (0 : Int32) (1 : Int32) (0 : Int32) (-1 : Int32) (0 : Int32) (cS (cS (cS (cS (cS (cS (cS (cS (cS (cS (cS (cS (cS (cS (cS (cS (cS (cS (cS (cS (cS t106 p108.2) p110.2) p112.2) p114.2) p116.2) p118.2) p120.2) p122.2) p124.2) p126.2) p128.2) p130.2) p132.2) p134.2) p136.2) p138.2) p140.2) p142.2) p144.2) p146.2) p148.2).1) fun p150 => (if p150.1 = (-102 : Int32) then (Option.bind (fX9_drawn (0 : Int32) (1 : Int32) (0 : Int32) (0 : Int32) (3 : Int32) (cS (cS (cS (cS (cS (cS (cS (cS (cS (cS (cS (cS (cS (cS (cS (cS (cS (cS (cS (cS (cS (cS t106 p108.2) p110.2) p112.2) p114.2) p116.2) p118.2) p120.2) p122.2) p124.2) p126.2) p128.2) p130.2) p132.2) p134.2) p136.2) p138.2) p140.2) p142.2) p144.2) p146.2) p148.2) p150.2).1) fun p152 => (if p152.1 = (-102 : Int32) then (fL_law_b1078 xs Ln (nw + 1) (cS (cS (cS (cS (cS (cS (cS (cS (cS (cS (cS (cS (cS (cS (cS (cS (cS (cS (cS (cS (cS (cS (cS t106 p108.2) p110.2) p112.2) p114.2) p116.2) p118.2) p120.2) p122.2) p124.2) p126.2) p128.2) p130.2) p132.2) p134.2) p136.2) p138.2) p140.2) p142.2) p144.2) p146.2) p148.2) p150.2) p152.2)) else (some ((0 : Int32), (cS (cS (cS (cS (cS (cS (cS (cS (cS (cS (cS (cS (cS (cS (cS (cS (cS (cS (cS (cS (cS (cS (cS t106 p108.2) p110.2) p112.2) p114.2) p116.2) p118.2) p120.2) p122.2) p124.2) p126.2) p128.2) p130.2) p132.2) p134.2) p136.2) p138.2) p140.2) p142.2) p144.2) p146.2) p148.2) p150.2) p152.2))))) else (some ((0 : Int32), (cS (cS (cS (cS (cS (cS (cS (cS (cS (cS (cS (cS (cS (cS (cS (cS (cS (cS (cS (cS (cS (cS t106 p108.2) p110.2) p112.2) p114.2) p116.2) p118.2) p120.2) p122.2) p124.2) p126.2) p128.2) p130.2) p132.2) p134.2) p136.2) p138.2) p140.2) p142.2) p144.2) p146.2) p148.2) p150.2))))) else (some ((0 : Int32), (cS (cS (cS (cS (cS (cS (cS (cS (cS (cS (cS (cS (cS (cS (cS (cS (cS (cS (cS (cS (cS t106 p108.2) p110.2) p112.2) p114.2) p116.2) p118.2) p120.2) p122.2) p124.2) p126.2) p128.2) p130.2) p132.2) p134.2) p136.2) p138.2) p140.2) p142.2) p144.2) p146.2) p148.2))))) else (some ((0 : Int32), (cS (cS (cS (cS (cS (cS (cS (cS (cS (cS (cS (cS (cS (cS (cS (cS (cS (cS (cS (cS t106 p108.2) p110.2) p112.2) p114.2) p116.2) p118.2) p120.2) p122.2) p124.2) p126.2) p128.2) p130.2) p132.2) p134.2) p136.2) p138.2) p140.2) p142.2) p144.2) p146.2))))) else (some ((0 : Int32), (cS (cS (cS (cS (cS (cS (cS (cS (cS (cS (cS (cS (cS (cS (cS (cS (cS (cS (cS t106 p108.2) p110.2) p112.2) p114.2) p116.2) p118.2) p120.2) p122.2) p124.2) p126.2) p128.2) p130.2) p132.2) p134.2) p136.2) p138.2) p140.2) p142.2) p144.2))))) else (some ((0 : Int32), (cS (cS (cS (cS (cS (cS (cS (cS (cS (cS (cS (cS (cS (cS (cS (cS (cS (cS t106 p108.2) p110.2) p112.2) p114.2) p116.2) p118.2) p120.2) p122.2) p124.2) p126.2) p128.2) p130.2) p132.2) p134.2) p136.2) p138.2) p140.2) p142.2)))))) else (some ((0 : Int32), (cS (cS (cS (cS (cS (cS (cS (cS (cS (cS (cS (cS (cS (cS (cS (cS (cS t106 p108.2) p110.2) p112.2) p114.2) p116.2) p118.2) p120.2) p122.2) p124.2) p126.2) p128.2) p130.2) p132.2) p134.2) p136.2) p138.2) p140.2))))) else (some ((0 : Int32), (cS (cS (cS (cS (cS (cS (cS (cS (cS (cS (cS (cS (cS (cS (cS (cS t106 p108.2) p110.2) p112.2) p114.2) p116.2) p118.2) p120.2) p122.2) p124.2) p126.2) p128.2) p130.2) p132.2) p134.2) p136.2) p138.2))))) else (some ((0 : Int32), (cS (cS (cS (cS (cS (cS (cS (cS (cS (cS (cS (cS (cS (cS (cS t106 p108.2) p110.2) p112.2) p114.2) p116.2) p118.2) p120.2) p122.2) p124.2) p126.2) p128.2) p130.2) p132.2) p134.2) p136.2))))) else (some ((0 : Int32), (cS (cS (cS (cS (cS (cS (cS (cS (cS (cS (cS (cS (cS (cS t106 p108.2) p110.2) p112.2) p114.2) p116.2) p118.2) p120.2) p122.2) p124.2) p126.2) p128.2) p130.2) p132.2) p134.2))))) else (some ((0 : Int32), (cS (cS (cS (cS (cS (cS (cS (cS (cS (cS (cS (cS (cS t106 p108.2) p110.2) p112.2) p114.2) p116.2) p118.2) p120.2) p122.2) p124.2) p126.2) p128.2) p130.2) p132.2))))) else (some ((0 : Int32), (cS (cS (cS (cS (cS (cS (cS (cS (cS (cS (cS (cS t106 p108.2) p110.2) p112.2) p114.2) p116.2) p118.2) p120.2) p122.2) p124.2) p126.2) p128.2) p130.2))))) else (some ((0 : Int32), (cS (cS (cS (cS (cS (cS (cS (cS (cS (cS (cS t106 p108.2) p110.2) p112.2) p114.2) p116.2) p118.2) p120.2) p122.2) p124.2) p126.2) p128.2))))) else (some ((0 : Int32), (cS (cS (cS (cS (cS (cS (cS (cS (cS (cS t106 p108.2) p110.2) p112.2) p114.2) p116.2) p118.2) p120.2) p122.2) p124.2) p126.2))))) else (some ((0 : Int32), (cS (cS (cS (cS (cS (cS (cS (cS (cS t106 p108.2) p110.2) p112.2) p114.2) p116.2) p118.2) p120.2) p122.2) p124.2))))) else (some ((0 : Int32), (cS (cS (cS (cS (cS (cS (cS (cS t106 p108.2) p110.2) p112.2) p114.2) p116.2) p118.2) p120.2) p122.2))))) else (some ((0 : Int32), (cS (cS (cS (cS (cS (cS (cS t106 p108.2) p110.2) p112.2) p114.2) p116.2) p118.2) p120.2))))) else (some ((0 : Int32), (cS (cS (cS (cS (cS (cS t106 p108.2) p110.2) p112.2) p114.2) p116.2) p118.2))))) else (some ((0 : Int32), (cS (cS (cS (cS (cS t106 p108.2) p110.2) p112.2) p114.2) p116.2))))) else (some ((0 : Int32), (cS (cS (cS (cS t106 p108.2) p110.2) p112.2) p114.2))))) else (some ((0 : Int32), (cS (cS (cS t106 p108.2) p110.2) p112.2))))) else (some ((0 : Int32), (cS (cS t106 p108.2) p110.2))))) else (some ((0 : Int32), (cS t106 p108.2))))))))))))) else none) else (some ((0 : Int32), (cS (cS (cS (wT (uT (uT (wT (uT σ p43.2 0) u3 (y2).toNatClampNeg p43.1) p46.2 0) p48.2 0) w5 ((2 : Int32)).toNatClampNeg p48.1) p50.2) p52.2) p54.2))))) else (some ((0 : Int32), (cS (cS (wT (uT (uT (wT (uT σ p43.2 0) u3 (y2).toNatClampNeg p43.1) p46.2 0) p48.2 0) w5 ((2 : Int32)).toNatClampNeg p48.1) p50.2) p52.2))))) else (some ((0 : Int32), (cS (wT (uT (uT (wT (uT σ p43.2 0) u3 (y2).toNatClampNeg p43.1) p46.2 0) p48.2 0) w5 ((2 : Int32)).toNatClampNeg p48.1) p50.2))))))) else none)
def fL_law_b8 (xs : Nat → Int32) (Ln : Nat)  (nw : Nat) (σ : LwS) : Option (Int32 × LwS) :=
  if decide (σ.2.2 + 1 ≤ 6100) = true then (if decide ((nT σ nw).2.2 + 1 ≤ 6100) = true then (if decide ((nT (nT σ nw) (nw + 1)).2.2 + 1 ≤ 6100) = true then (if decide ((nT (nT (nT σ nw) (nw + 1)) ((nw + 1) + 1)).2.2 + 1 ≤ 6100) = true then (if decide ((nT (nT (nT (nT σ nw) (nw + 1)) ((nw + 1) + 1)) (((nw + 1) + 1) + 1)).2.2 + 1 ≤ 6100) = true then (Option.bind (fL_seaText xs Ln (0 : Int32) nw (nw + 1) (eT (nT (nT (nT (nT (nT σ nw) (nw + 1)) ((nw + 1) + 1)) (((nw + 1) + 1) + 1)) ((((nw + 1) + 1) + 1) + 1)))) fun p11 => (Option.bind (fL_write (nw + 1) p11.1 (eT (uT (nT (nT (nT (nT (nT σ nw) (nw + 1)) ((nw + 1) + 1)) (((nw + 1) + 1) + 1)) ((((nw + 1) + 1) + 1) + 1)) p11.2 0))) fun p13 => (if p13.1 = 0 then (some ((0 : Int32), (uT (uT (nT (nT (nT (nT (nT σ nw) (nw + 1)) ((nw + 1) + 1)) (((nw + 1) + 1) + 1)) ((((nw + 1) + 1) + 1) + 1)) p11.2 0) p13.2 0))) else (Option.bind (fX9_fault (uT (uT (nT (nT (nT (nT (nT σ nw) (nw + 1)) ((nw + 1) + 1)) (((nw + 1) + 1) + 1)) ((((nw + 1) + 1) + 1) + 1)) p11.2 0) p13.2 0).1) fun p15 => (if p15.1 = p11.1 then (Option.bind (fX9_sea (cS (uT (uT (nT (nT (nT (nT (nT σ nw) (nw + 1)) ((nw + 1) + 1)) (((nw + 1) + 1) + 1)) ((((nw + 1) + 1) + 1) + 1)) p11.2 0) p13.2 0) p15.2).1) fun p17 => (if p17.1 = ((rT (cS (cS (uT (uT (nT (nT (nT (nT (nT σ nw) (nw + 1)) ((nw + 1) + 1)) (((nw + 1) + 1) + 1)) ((((nw + 1) + 1) + 1) + 1)) p11.2 0) p13.2 0) p15.2) p17.2) nw ((0 : Int32)).toNatClampNeg) * (rT (cS (cS (uT (uT (nT (nT (nT (nT (nT σ nw) (nw + 1)) ((nw + 1) + 1)) (((nw + 1) + 1) + 1)) ((((nw + 1) + 1) + 1) + 1)) p11.2 0) p13.2 0) p15.2) p17.2) nw ((1 : Int32)).toNatClampNeg)) then (Option.bind (lp (fun s => fL_law_b82 xs Ln nw ((nw + 1) + 1) (((nw + 1) + 1) + 1) ((((nw + 1) + 1) + 1) + 1) s.1 (((((nw + 1) + 1) + 1) + 1) + 1) s.2) FU ((0 : Int32), (cS (cS (uT (uT (nT (nT (nT (nT (nT σ nw) (nw + 1)) ((nw + 1) + 1)) (((nw + 1) + 1) + 1)) ((((nw + 1) + 1) + 1) + 1)) p11.2 0) p13.2 0) p15.2) p17.2))) (el (fun t29 => some ((0 : Int32), t29)) (fun t29 => Option.bind (fL_bergs xs Ln (7 : Int32) (3 : Int32) nw ((nw + 1) + 1) (eT t29)) fun p31 => (if p31.1 = 0 then (some ((0 : Int32), (uT t29 p31.2 0))) else (Option.bind (fL_cell xs Ln (10 : Int32) (eT (uT t29 p31.2 0))) fun p33 => (Option.bind (fL_at p33.1 (9 : Int32) (eT (uT (uT t29 p31.2 0) p33.2 0))) fun p35 => (Option.bind (fL_cell xs Ln (10 : Int32) (eT (wT (uT (uT (uT t29 p31.2 0) p33.2 0) p35.2 0) (((nw + 1) + 1) + 1) ((0 : Int32)).toNatClampNeg ((1 : Int32) + p35.1)))) fun p37 => (Option.bind (fL_cell xs Ln (10 : Int32) (eT (uT (wT (uT (uT (uT t29 p31.2 0) p33.2 0) p35.2 0) (((nw + 1) + 1) + 1) ((0 : Int32)).toNatClampNeg ((1 : Int32) + p35.1)) p37.2 0))) fun p39 => (Option.bind (fL_at (ishr p39.1 (20 : Int32)) (2 : Int32) (eT (uT (uT (wT (uT (uT (uT t29 p31.2 0) p33.2 0) p35.2 0) (((nw + 1) + 1) + 1) ((0 : Int32)).toNatClampNeg ((1 : Int32) + p35.1)) p37.2 0) p39.2 0))) fun p41 => (if p41.1 = 0 then (fL_law_b217 xs Ln nw ((nw + 1) + 1) (((nw + 1) + 1) + 1) ((((nw + 1) + 1) + 1) + 1) (10 : Int32) (ishr p37.1 (4 : Int32)) (1 : Int32) (((nw + 1) + 1) + 1) (((((nw + 1) + 1) + 1) + 1) + 1) (uT (uT (uT (wT (uT (uT (uT t29 p31.2 0) p33.2 0) p35.2 0) (((nw + 1) + 1) + 1) ((0 : Int32)).toNatClampNeg ((1 : Int32) + p35.1)) p37.2 0) p39.2 0) p41.2 0)) else (fL_law_b217 xs Ln nw ((nw + 1) + 1) (((nw + 1) + 1) + 1) ((((nw + 1) + 1) + 1) + 1) (2 : Int32) (ishr p37.1 (4 : Int32)) (1 : Int32) (((nw + 1) + 1) + 1) (((((nw + 1) + 1) + 1) + 1) + 1) (uT (uT (uT (wT (uT (uT (uT t29 p31.2 0) p33.2 0) p35.2 0) (((nw + 1) + 1) + 1) ((0 : Int32)).toNatClampNeg ((1 : Int32) + p35.1)) p37.2 0) p39.2 0) p41.2 0)))))))))))) else (some ((0 : Int32), (cS (cS (uT (uT (nT (nT (nT (nT (nT σ nw) (nw + 1)) ((nw + 1) + 1)) (((nw + 1) + 1) + 1)) ((((nw + 1) + 1) + 1) + 1)) p11.2 0) p13.2 0) p15.2) p17.2))))) else (some ((0 : Int32), (cS (uT (uT (nT (nT (nT (nT (nT σ nw) (nw + 1)) ((nw + 1) + 1)) (((nw + 1) + 1) + 1)) ((((nw + 1) + 1) + 1) + 1)) p11.2 0) p13.2 0) p15.2)))))))) else none) else none) else none) else none) else none
set_option maxRecDepth 8000 in
theorem bL_law_b82 {K : KT} {w2 : Nat} {w4 : Nat} {w5 : Nat} {w6 : Nat} {x8 : Int32} {r2 : Nat} {r4 : Nat} {r5 : Nat} {r6 : Nat} {nw : Nat} {σ : LwS} {o : (Int32 × LwS) ⊕ (((LwS) ⊕ (LwS)))} {V Vc : Wl} {b Ln : Nat} {xs : Nat → Int32} (C : CZ K cL_law RL 16 40 6100 ret b Ln xs) (hp : Pf Vc V) (hN : V.length = nw) (hw2 : V[w2]? = some (r2, 63)) (hw4 : V[w4]? = some (r4, 26)) (hw5 : V[w5]? = some (r5, 3)) (hw6 : V[w6]? = some (r6, 6)) (hI : ∀ s' : Int32 × LwS, o = .inl s' → GZ K 6100 82 [some (.ref b), some (.ref (kad K 0)), some (.ref r2), none, some (.ref r4), some (.ref r5), some (.ref r6), none, some (.int s'.1), none, none, none, none, none, none, none] [] Vc s'.2) (hE0 : ∀ t : LwS, o = .inr (.inl t) → GZ K 6100 143 [none, none, none, none, none, none, none, none, none, none, none, none, none, none, none, none] [] Vc t) (hE1 : ∀ t : LwS, o = .inr (.inr t) → GZ K 6100 151 [some (.ref b), some (.ref (kad K 0)), some (.ref r2), none, some (.ref r4), some (.ref r5), some (.ref r6), none, none, none, none, none, none, none, none, none] [] Vc t) (h : fL_law_b82 xs Ln w2 w4 w5 w6 x8 nw σ = some o) : GZ K 6100 82 [some (.ref b), some (.ref (kad K 0)), some (.ref r2), none, some (.ref r4), some (.ref r5), some (.ref r6), none, some (.int x8), none, none, none, none, none, none, none] [] V σ := by
  unfold fL_law_b82 at h
  refine z_iload C.c dL_law_82 (i := 8) rfl ?_
  refine z_aload_n C.c dL_law_84 rfl (i := 2) rfl ?_
  refine z_iconst C.c dL_law_85 (v := (0 : Int32)) (by decide) ?_
  refine z_iald C dL_law_86 hw2 (by decide) ?_
  refine z_aload_n C.c dL_law_87 rfl (i := 2) rfl ?_
  refine z_iconst C.c dL_law_88 (v := (1 : Int32)) (by decide) ?_
  refine z_iald C dL_law_89 hw2 (by decide) ?_
  refine z_imul C.c dL_law_90 ?_
  refine z_icmp_ge C.c (tgt := 151) dL_law_91 (by decide) (fun c => ?_) (fun c => ?_)
  · replace h := ite_t c h
    have g9 := hE1 _ (Option.some.inj h).symm
    exact z_mask [true, true, true, false, true, true, true, false, false, false, false, false, false, false, false, false] rfl (z_drop hp g9)
  · replace h := ite_f c h
    refine z_aload_n C.c dL_law_94 rfl (i := 1) rfl ?_
    refine z_iload C.c dL_law_95 (i := 8) rfl ?_
    refine z_iconst C.c dL_law_97 (v := (0 : Int32)) (by decide) ?_
    obtain ⟨p19, e20, h⟩ := Option.bind_eq_some_iff.mp h
    refine kz_63 C dL_law_98 e20 (Nat.le_of_ble_eq_true rfl) rfl (Nat.le_of_ble_eq_true rfl) ?_
    refine z_aload_n C.c dL_law_101 rfl (i := 2) rfl ?_
    refine z_iconst C.c dL_law_102 (v := (3 : Int32)) (by decide) ?_
    refine z_iload C.c dL_law_103 (i := 8) rfl ?_
    refine z_iadd C.c dL_law_105 ?_
    obtain ⟨c21, h⟩ := chk h
    refine z_iald C dL_law_106 hw2 c21 ?_
    refine z_icmp_ne C.c (tgt := 143) dL_law_107 (by decide) (fun c => ?_) (fun c => ?_)
    · replace h := ite_f c h
      have g9 := hE0 _ (Option.some.inj h).symm
      exact z_mask [false, false, false, false, false, false, false, false, false, false, false, false, false, false, false, false] rfl (z_drop hp g9)
    · replace h := ite_t c h
      refine z_aload_n C.c dL_law_110 rfl (i := 1) rfl ?_
      refine z_iload C.c dL_law_111 (i := 8) rfl ?_
      refine z_iconst C.c dL_law_113 (v := (1 : Int32)) (by decide) ?_
      obtain ⟨p22, e23, h⟩ := Option.bind_eq_some_iff.mp h
      refine kz_63 C dL_law_114 e23 (Nat.le_of_ble_eq_true rfl) rfl (Nat.le_of_ble_eq_true rfl) ?_
      refine z_aload_n C.c dL_law_117 rfl (i := 2) rfl ?_
      refine z_bipush C.c dL_law_118 (v := (33 : Int32)) (by decide) ?_
      refine z_iload C.c dL_law_120 (i := 8) rfl ?_
      refine z_iadd C.c dL_law_122 ?_
      obtain ⟨c24, h⟩ := chk h
      refine z_iald C dL_law_123 hw2 c24 ?_
      refine z_icmp_ne C.c (tgt := 143) dL_law_124 (by decide) (fun c => ?_) (fun c => ?_)
      · replace h := ite_f c h
        have g9 := hE0 _ (Option.some.inj h).symm
        exact z_mask [false, false, false, false, false, false, false, false, false, false, false, false, false, false, false, false] rfl (z_drop hp g9)
      · replace h := ite_t c h
        refine z_aload_n C.c dL_law_127 rfl (i := 1) rfl ?_
        refine z_iload C.c dL_law_128 (i := 8) rfl ?_
        refine z_iconst C.c dL_law_130 (v := (2 : Int32)) (by decide) ?_
        obtain ⟨p25, e26, h⟩ := Option.bind_eq_some_iff.mp h
        refine kz_63 C dL_law_131 e26 (Nat.le_of_ble_eq_true rfl) rfl (Nat.le_of_ble_eq_true rfl) ?_
        refine z_aload_n C.c dL_law_134 rfl (i := 2) rfl ?_
        refine z_iload C.c dL_law_135 (i := 8) rfl ?_
        obtain ⟨p27, e28, h⟩ := Option.bind_eq_some_iff.mp h
        refine kz_32 C hw2 dL_law_137 e28 (Nat.le_of_ble_eq_true rfl) rfl (Nat.le_of_ble_eq_true rfl) ?_
        refine z_icmp_eq C.c (tgt := 145) dL_law_140 (by decide) (fun c => ?_) (fun c => ?_)
        · replace h := ite_t c h
          refine z_iinc C.c (i := 8) (y := (1 : Int32)) (L' := [some (.ref b), some (.ref (kad K 0)), some (.ref r2), none, some (.ref r4), some (.ref r5), some (.ref r6), none, some (.int (x8 + (1 : Int32))), none, none, none, none, none, none, none]) dL_law_145 rfl (by decide) (Nat.le_of_ble_eq_true rfl) rfl ?_
          refine z_goto C.c (tgt := 82) dL_law_148 (by decide) ?_
          have g9 := hI _ (Option.some.inj h).symm
          exact z_mask [true, true, true, false, true, true, true, false, true, false, false, false, false, false, false, false] rfl (z_drop hp g9)
        · replace h := ite_f c h
          have g9 := hE0 _ (Option.some.inj h).symm
          exact z_mask [false, false, false, false, false, false, false, false, false, false, false, false, false, false, false, false] rfl (z_drop hp g9)
set_option maxRecDepth 8000 in
theorem bL_law_b309 {K : KT} {w2 : Nat} {w4 : Nat} {w5 : Nat} {w6 : Nat} {w8 : Nat} {x9 : Int32} {x10 : Int32} {x11 : Int32} {r2 : Nat} {r4 : Nat} {r5 : Nat} {r6 : Nat} {r8 : Nat} {nw : Nat} {σ : LwS} {o : (Int32 × LwS) ⊕ (((LwS) ⊕ (LwS)))} {V Vc : Wl} {b Ln : Nat} {xs : Nat → Int32} (C : CZ K cL_law RL 16 40 6100 ret b Ln xs) (hp : Pf Vc V) (hN : V.length = nw) (hw2 : V[w2]? = some (r2, 63)) (hw4 : V[w4]? = some (r4, 26)) (hw5 : V[w5]? = some (r5, 3)) (hw6 : V[w6]? = some (r6, 6)) (hw8 : V[w8]? = some (r8, 60)) (hI : ∀ s' : Int32 × LwS, o = .inl s' → GZ K 6100 309 [some (.ref b), some (.ref (kad K 0)), some (.ref r2), none, some (.ref r4), some (.ref r5), some (.ref r6), none, some (.ref r8), some (.int x9), some (.int x10), some (.int s'.1), none, none, none, none] [] Vc s'.2) (hE0 : ∀ t : LwS, o = .inr (.inl t) → GZ K 6100 334 [none, none, none, none, none, none, none, none, none, none, none, none, none, none, none, none] [] Vc t) (hE1 : ∀ t : LwS, o = .inr (.inr t) → GZ K 6100 342 [some (.ref b), some (.ref (kad K 0)), some (.ref r2), none, some (.ref r4), some (.ref r5), some (.ref r6), none, some (.ref r8), some (.int x9), some (.int x10), none, none, none, none, none] [] Vc t) (h : fL_law_b309 xs Ln w2 w4 w5 w6 w8 x9 x10 x11 nw σ = some o) : GZ K 6100 309 [some (.ref b), some (.ref (kad K 0)), some (.ref r2), none, some (.ref r4), some (.ref r5), some (.ref r6), none, some (.ref r8), some (.int x9), some (.int x10), some (.int x11), none, none, none, none] [] V σ := by
  unfold fL_law_b309 at h
  refine z_iload C.c dL_law_309 (i := 11) rfl ?_
  refine z_iconst C.c dL_law_311 (v := (5 : Int32)) (by decide) ?_
  refine z_icmp_ge C.c (tgt := 342) dL_law_312 (by decide) (fun c => ?_) (fun c => ?_)
  · replace h := ite_t c h
    have g9 := hE1 _ (Option.some.inj h).symm
    exact z_mask [true, true, true, false, true, true, true, false, true, true, true, false, false, false, false, false] rfl (z_drop hp g9)
  · replace h := ite_f c h
    refine z_aload_n C.c dL_law_315 rfl (i := 1) rfl ?_
    refine z_iload C.c dL_law_316 (i := 9) rfl ?_
    refine z_iload C.c dL_law_318 (i := 11) rfl ?_
    obtain ⟨p58, e59, h⟩ := Option.bind_eq_some_iff.mp h
    refine kz_73 C dL_law_320 e59 (Nat.le_of_ble_eq_true rfl) rfl (Nat.le_of_ble_eq_true rfl) ?_
    refine z_aload C.c dL_law_323 (i := 4) rfl ?_
    refine z_iload C.c dL_law_325 (i := 10) rfl ?_
    refine z_iload C.c dL_law_327 (i := 11) rfl ?_
    refine z_iadd C.c dL_law_329 ?_
    obtain ⟨c60, h⟩ := chk h
    refine z_iald C dL_law_330 hw4 c60 ?_
    refine z_icmp_eq C.c (tgt := 336) dL_law_331 (by decide) (fun c => ?_) (fun c => ?_)
    · replace h := ite_t c h
      refine z_iinc C.c (i := 11) (y := (1 : Int32)) (L' := [some (.ref b), some (.ref (kad K 0)), some (.ref r2), none, some (.ref r4), some (.ref r5), some (.ref r6), none, some (.ref r8), some (.int x9), some (.int x10), some (.int (x11 + (1 : Int32))), none, none, none, none]) dL_law_336 rfl (by decide) (Nat.le_of_ble_eq_true rfl) rfl ?_
      refine z_goto C.c (tgt := 309) dL_law_339 (by decide) ?_
      have g9 := hI _ (Option.some.inj h).symm
      exact z_mask [true, true, true, false, true, true, true, false, true, true, true, true, false, false, false, false] rfl (z_drop hp g9)
    · replace h := ite_f c h
      have g9 := hE0 _ (Option.some.inj h).symm
      exact z_mask [false, false, false, false, false, false, false, false, false, false, false, false, false, false, false, false] rfl (z_drop hp g9)
set_option maxRecDepth 8000 in
theorem bL_law_b395 {K : KT} {w2 : Nat} {w4 : Nat} {w5 : Nat} {w6 : Nat} {w8 : Nat} {x9 : Int32} {x10 : Int32} {x11 : Int32} {y0 : Int32} {y1 : Int32} {r2 : Nat} {r4 : Nat} {r5 : Nat} {r6 : Nat} {r8 : Nat} {nw : Nat} {σ : LwS} {o : (Int32 × LwS) ⊕ (((LwS) ⊕ (LwS)))} {V Vc : Wl} {b Ln : Nat} {xs : Nat → Int32} (C : CZ K cL_law RL 16 40 6100 ret b Ln xs) (hp : Pf Vc V) (hN : V.length = nw) (hw2 : V[w2]? = some (r2, 63)) (hw4 : V[w4]? = some (r4, 26)) (hw5 : V[w5]? = some (r5, 3)) (hw6 : V[w6]? = some (r6, 6)) (hw8 : V[w8]? = some (r8, 60)) (hI : ∀ s' : Int32 × LwS, o = .inl s' → GZ K 6100 345 [some (.ref b), some (.ref (kad K 0)), some (.ref r2), none, some (.ref r4), some (.ref r5), some (.ref r6), none, some (.ref r8), some (.int x9), some (.int x10), some (.int s'.1), none, none, none, none] [] Vc s'.2) (hE0 : ∀ t : LwS, o = .inr (.inl t) → GZ K 6100 398 [none, none, none, none, none, none, none, none, none, none, none, none, none, none, none, none] [] Vc t) (hE1 : ∀ t : LwS, o = .inr (.inr t) → GZ K 6100 406 [some (.ref b), some (.ref (kad K 0)), some (.ref r2), none, some (.ref r4), some (.ref r5), some (.ref r6), none, some (.ref r8), some (.int x9), some (.int x10), none, none, none, none, none] [] Vc t) (h : fL_law_b395 xs Ln w2 w4 w5 w6 w8 x9 x10 x11 y0 y1 nw σ = some o) : GZ K 6100 395 [some (.ref b), some (.ref (kad K 0)), some (.ref r2), none, some (.ref r4), some (.ref r5), some (.ref r6), none, some (.ref r8), some (.int x9), some (.int x10), some (.int x11), none, none, none, none] [.int y0, .int y1] V σ := by
  unfold fL_law_b395 at h
  refine z_icmp_eq C.c (tgt := 400) dL_law_395 (by decide) (fun c => ?_) (fun c => ?_)
  · replace h := ite_t c h
    refine z_iinc C.c (i := 11) (y := (1 : Int32)) (L' := [some (.ref b), some (.ref (kad K 0)), some (.ref r2), none, some (.ref r4), some (.ref r5), some (.ref r6), none, some (.ref r8), some (.int x9), some (.int x10), some (.int (x11 + (1 : Int32))), none, none, none, none]) dL_law_400 rfl (by decide) (Nat.le_of_ble_eq_true rfl) rfl ?_
    refine z_goto C.c (tgt := 345) dL_law_403 (by decide) ?_
    have g9 := hI _ (Option.some.inj h).symm
    exact z_mask [true, true, true, false, true, true, true, false, true, true, true, true, false, false, false, false] rfl (z_drop hp g9)
  · replace h := ite_f c h
    have g9 := hE0 _ (Option.some.inj h).symm
    exact z_mask [false, false, false, false, false, false, false, false, false, false, false, false, false, false, false, false] rfl (z_drop hp g9)
set_option maxRecDepth 8000 in
theorem bL_law_b389 {K : KT} {w2 : Nat} {w4 : Nat} {w5 : Nat} {w6 : Nat} {w8 : Nat} {x9 : Int32} {x10 : Int32} {x11 : Int32} {y0 : Int32} {r2 : Nat} {r4 : Nat} {r5 : Nat} {r6 : Nat} {r8 : Nat} {nw : Nat} {σ : LwS} {o : (Int32 × LwS) ⊕ (((LwS) ⊕ (LwS)))} {V Vc : Wl} {b Ln : Nat} {xs : Nat → Int32} (C : CZ K cL_law RL 16 40 6100 ret b Ln xs) (hp : Pf Vc V) (hN : V.length = nw) (hw2 : V[w2]? = some (r2, 63)) (hw4 : V[w4]? = some (r4, 26)) (hw5 : V[w5]? = some (r5, 3)) (hw6 : V[w6]? = some (r6, 6)) (hw8 : V[w8]? = some (r8, 60)) (hI : ∀ s' : Int32 × LwS, o = .inl s' → GZ K 6100 345 [some (.ref b), some (.ref (kad K 0)), some (.ref r2), none, some (.ref r4), some (.ref r5), some (.ref r6), none, some (.ref r8), some (.int x9), some (.int x10), some (.int s'.1), none, none, none, none] [] Vc s'.2) (hE0 : ∀ t : LwS, o = .inr (.inl t) → GZ K 6100 398 [none, none, none, none, none, none, none, none, none, none, none, none, none, none, none, none] [] Vc t) (hE1 : ∀ t : LwS, o = .inr (.inr t) → GZ K 6100 406 [some (.ref b), some (.ref (kad K 0)), some (.ref r2), none, some (.ref r4), some (.ref r5), some (.ref r6), none, some (.ref r8), some (.int x9), some (.int x10), none, none, none, none, none] [] Vc t) (h : fL_law_b389 xs Ln w2 w4 w5 w6 w8 x9 x10 x11 y0 nw σ = some o) : GZ K 6100 389 [some (.ref b), some (.ref (kad K 0)), some (.ref r2), none, some (.ref r4), some (.ref r5), some (.ref r6), none, some (.ref r8), some (.int x9), some (.int x10), some (.int x11), none, none, none, none] [.int y0] V σ := by
  unfold fL_law_b389 at h
  refine z_iload C.c dL_law_389 (i := 9) rfl ?_
  refine z_goto C.c (tgt := 395) dL_law_391 (by decide) ?_
  exact z_mask [true, true, true, false, true, true, true, false, true, true, true, true, false, false, false, false] rfl (bL_law_b395 C hp hN hw2 hw4 hw5 hw6 hw8 hI hE0 hE1 h)
set_option maxRecDepth 8000 in
theorem bL_law_b394 {K : KT} {w2 : Nat} {w4 : Nat} {w5 : Nat} {w6 : Nat} {w8 : Nat} {x9 : Int32} {x10 : Int32} {x11 : Int32} {y0 : Int32} {r2 : Nat} {r4 : Nat} {r5 : Nat} {r6 : Nat} {r8 : Nat} {nw : Nat} {σ : LwS} {o : (Int32 × LwS) ⊕ (((LwS) ⊕ (LwS)))} {V Vc : Wl} {b Ln : Nat} {xs : Nat → Int32} (C : CZ K cL_law RL 16 40 6100 ret b Ln xs) (hp : Pf Vc V) (hN : V.length = nw) (hw2 : V[w2]? = some (r2, 63)) (hw4 : V[w4]? = some (r4, 26)) (hw5 : V[w5]? = some (r5, 3)) (hw6 : V[w6]? = some (r6, 6)) (hw8 : V[w8]? = some (r8, 60)) (hI : ∀ s' : Int32 × LwS, o = .inl s' → GZ K 6100 345 [some (.ref b), some (.ref (kad K 0)), some (.ref r2), none, some (.ref r4), some (.ref r5), some (.ref r6), none, some (.ref r8), some (.int x9), some (.int x10), some (.int s'.1), none, none, none, none] [] Vc s'.2) (hE0 : ∀ t : LwS, o = .inr (.inl t) → GZ K 6100 398 [none, none, none, none, none, none, none, none, none, none, none, none, none, none, none, none] [] Vc t) (hE1 : ∀ t : LwS, o = .inr (.inr t) → GZ K 6100 406 [some (.ref b), some (.ref (kad K 0)), some (.ref r2), none, some (.ref r4), some (.ref r5), some (.ref r6), none, some (.ref r8), some (.int x9), some (.int x10), none, none, none, none, none] [] Vc t) (h : fL_law_b394 xs Ln w2 w4 w5 w6 w8 x9 x10 x11 y0 nw σ = some o) : GZ K 6100 394 [some (.ref b), some (.ref (kad K 0)), some (.ref r2), none, some (.ref r4), some (.ref r5), some (.ref r6), none, some (.ref r8), some (.int x9), some (.int x10), some (.int x11), none, none, none, none] [.int y0] V σ := by
  unfold fL_law_b394 at h
  refine z_iconst C.c dL_law_394 (v := (-1 : Int32)) (by decide) ?_
  exact z_mask [true, true, true, false, true, true, true, false, true, true, true, true, false, false, false, false] rfl (bL_law_b395 C hp hN hw2 hw4 hw5 hw6 hw8 hI hE0 hE1 h)
set_option maxRecDepth 8000 in
theorem bL_law_b345 {K : KT} {w2 : Nat} {w4 : Nat} {w5 : Nat} {w6 : Nat} {w8 : Nat} {x9 : Int32} {x10 : Int32} {x11 : Int32} {r2 : Nat} {r4 : Nat} {r5 : Nat} {r6 : Nat} {r8 : Nat} {nw : Nat} {σ : LwS} {o : (Int32 × LwS) ⊕ (((LwS) ⊕ (LwS)))} {V Vc : Wl} {b Ln : Nat} {xs : Nat → Int32} (C : CZ K cL_law RL 16 40 6100 ret b Ln xs) (hp : Pf Vc V) (hN : V.length = nw) (hw2 : V[w2]? = some (r2, 63)) (hw4 : V[w4]? = some (r4, 26)) (hw5 : V[w5]? = some (r5, 3)) (hw6 : V[w6]? = some (r6, 6)) (hw8 : V[w8]? = some (r8, 60)) (hI : ∀ s' : Int32 × LwS, o = .inl s' → GZ K 6100 345 [some (.ref b), some (.ref (kad K 0)), some (.ref r2), none, some (.ref r4), some (.ref r5), some (.ref r6), none, some (.ref r8), some (.int x9), some (.int x10), some (.int s'.1), none, none, none, none] [] Vc s'.2) (hE0 : ∀ t : LwS, o = .inr (.inl t) → GZ K 6100 398 [none, none, none, none, none, none, none, none, none, none, none, none, none, none, none, none] [] Vc t) (hE1 : ∀ t : LwS, o = .inr (.inr t) → GZ K 6100 406 [some (.ref b), some (.ref (kad K 0)), some (.ref r2), none, some (.ref r4), some (.ref r5), some (.ref r6), none, some (.ref r8), some (.int x9), some (.int x10), none, none, none, none, none] [] Vc t) (h : fL_law_b345 xs Ln w2 w4 w5 w6 w8 x9 x10 x11 nw σ = some o) : GZ K 6100 345 [some (.ref b), some (.ref (kad K 0)), some (.ref r2), none, some (.ref r4), some (.ref r5), some (.ref r6), none, some (.ref r8), some (.int x9), some (.int x10), some (.int x11), none, none, none, none] [] V σ := by
  unfold fL_law_b345 at h
  refine z_iload C.c dL_law_345 (i := 11) rfl ?_
  refine z_iconst C.c dL_law_347 (v := (5 : Int32)) (by decide) ?_
  refine z_icmp_ge C.c (tgt := 406) dL_law_348 (by decide) (fun c => ?_) (fun c => ?_)
  · replace h := ite_t c h
    have g9 := hE1 _ (Option.some.inj h).symm
    exact z_mask [true, true, true, false, true, true, true, false, true, true, true, false, false, false, false, false] rfl (z_drop hp g9)
  · replace h := ite_f c h
    refine z_aload_n C.c dL_law_351 rfl (i := 1) rfl ?_
    refine z_iload C.c dL_law_352 (i := 9) rfl ?_
    refine z_iload C.c dL_law_354 (i := 11) rfl ?_
    obtain ⟨p63, e64, h⟩ := Option.bind_eq_some_iff.mp h
    refine kz_76 C dL_law_356 e64 (Nat.le_of_ble_eq_true rfl) rfl (Nat.le_of_ble_eq_true rfl) ?_
    refine z_iload C.c dL_law_359 (i := 11) rfl ?_
    refine z_if_eq C.c (tgt := 389) dL_law_361 (by decide) (fun c => ?_) (fun c => ?_)
    · replace h := ite_t c h
      exact z_mask [true, true, true, false, true, true, true, false, true, true, true, true, false, false, false, false] rfl (bL_law_b389 C hp hN hw2 hw4 hw5 hw6 hw8 hI hE0 hE1 h)
    · replace h := ite_f c h
      refine z_iload C.c dL_law_364 (i := 11) rfl ?_
      refine z_aload C.c dL_law_366 (i := 4) rfl ?_
      refine z_iload C.c dL_law_368 (i := 10) rfl ?_
      obtain ⟨c65, h⟩ := chk h
      refine z_iald C dL_law_370 hw4 c65 ?_
      refine z_icmp_eq C.c (tgt := 389) dL_law_371 (by decide) (fun c => ?_) (fun c => ?_)
      · replace h := ite_t c h
        exact z_mask [true, true, true, false, true, true, true, false, true, true, true, true, false, false, false, false] rfl (bL_law_b389 C hp hN hw2 hw4 hw5 hw6 hw8 hI hE0 hE1 h)
      · replace h := ite_f c h
        refine z_iload C.c dL_law_374 (i := 11) rfl ?_
        refine z_iconst C.c dL_law_376 (v := (1 : Int32)) (by decide) ?_
        refine z_icmp_ne C.c (tgt := 394) dL_law_377 (by decide) (fun c => ?_) (fun c => ?_)
        · replace h := ite_f c h
          exact z_mask [true, true, true, false, true, true, true, false, true, true, true, true, false, false, false, false] rfl (bL_law_b394 C hp hN hw2 hw4 hw5 hw6 hw8 hI hE0 hE1 h)
        · replace h := ite_t c h
          refine z_aload C.c dL_law_380 (i := 4) rfl ?_
          refine z_iload C.c dL_law_382 (i := 10) rfl ?_
          obtain ⟨c66, h⟩ := chk h
          refine z_iald C dL_law_384 hw4 c66 ?_
          refine z_iconst C.c dL_law_385 (v := (4 : Int32)) (by decide) ?_
          refine z_icmp_ne C.c (tgt := 394) dL_law_386 (by decide) (fun c => ?_) (fun c => ?_)
          · replace h := ite_f c h
            exact z_mask [true, true, true, false, true, true, true, false, true, true, true, true, false, false, false, false] rfl (bL_law_b394 C hp hN hw2 hw4 hw5 hw6 hw8 hI hE0 hE1 h)
          · replace h := ite_t c h
            exact z_mask [true, true, true, false, true, true, true, false, true, true, true, true, false, false, false, false] rfl (bL_law_b389 C hp hN hw2 hw4 hw5 hw6 hw8 hI hE0 hE1 h)
set_option maxRecDepth 8000 in
theorem bL_law_b565 {K : KT} {w2 : Nat} {w4 : Nat} {w5 : Nat} {w6 : Nat} {w8 : Nat} {x9 : Int32} {x10 : Int32} {x11 : Int32} {x12 : Int32} {x13 : Int32} {x14 : Int32} {x15 : Int32} {r2 : Nat} {r4 : Nat} {r5 : Nat} {r6 : Nat} {r8 : Nat} {nw : Nat} {σ : LwS} {o : (Int32 × Int32 × Int32 × Int32 × LwS) ⊕ (((LwS) ⊕ (Int32 × Int32 × Int32 × LwS)))} {V Vc : Wl} {b Ln : Nat} {xs : Nat → Int32} (C : CZ K cL_law RL 16 40 6100 ret b Ln xs) (hp : Pf Vc V) (hN : V.length = nw) (hw2 : V[w2]? = some (r2, 63)) (hw4 : V[w4]? = some (r4, 26)) (hw5 : V[w5]? = some (r5, 3)) (hw6 : V[w6]? = some (r6, 6)) (hw8 : V[w8]? = some (r8, 60)) (hI : ∀ s' : Int32 × Int32 × Int32 × Int32 × LwS, o = .inl s' → GZ K 6100 442 [some (.ref b), some (.ref (kad K 0)), some (.ref r2), none, some (.ref r4), some (.ref r5), some (.ref r6), none, some (.ref r8), some (.int x9), some (.int x10), some (.int s'.1), some (.int s'.2.1), some (.int s'.2.2.1), some (.int x14), some (.int s'.2.2.2.1)] [] Vc s'.2.2.2.2) (hE0 : ∀ t : LwS, o = .inr (.inl t) → GZ K 6100 497 [none, none, none, none, none, none, none, none, none, none, none, none, none, none, none, none] [] Vc t) (hE1 : ∀ t : Int32 × Int32 × Int32 × LwS, o = .inr (.inr t) → GZ K 6100 571 [some (.ref b), some (.ref (kad K 0)), some (.ref r2), none, some (.ref r4), some (.ref r5), some (.ref r6), none, some (.ref r8), some (.int x9), some (.int x10), some (.int t.1), some (.int t.2.1), some (.int t.2.2.1), some (.int x14), none] [] Vc t.2.2.2) (h : fL_law_b565 xs Ln w2 w4 w5 w6 w8 x9 x10 x11 x12 x13 x14 x15 nw σ = some o) : GZ K 6100 565 [some (.ref b), some (.ref (kad K 0)), some (.ref r2), none, some (.ref r4), some (.ref r5), some (.ref r6), none, some (.ref r8), some (.int x9), some (.int x10), some (.int x11), some (.int x12), some (.int x13), some (.int x14), some (.int x15)] [] V σ := by
  unfold fL_law_b565 at h
  refine z_iinc C.c (i := 15) (y := (1 : Int32)) (L' := [some (.ref b), some (.ref (kad K 0)), some (.ref r2), none, some (.ref r4), some (.ref r5), some (.ref r6), none, some (.ref r8), some (.int x9), some (.int x10), some (.int x11), some (.int x12), some (.int x13), some (.int x14), some (.int (x15 + (1 : Int32)))]) dL_law_565 rfl (by decide) (Nat.le_of_ble_eq_true rfl) rfl ?_
  refine z_goto C.c (tgt := 442) dL_law_568 (by decide) ?_
  have g9 := hI _ (Option.some.inj h).symm
  exact z_mask [true, true, true, false, true, true, true, false, true, true, true, true, true, true, true, true] rfl (z_drop hp g9)
set_option maxRecDepth 8000 in
theorem bL_law_b542 {K : KT} {w2 : Nat} {w4 : Nat} {w5 : Nat} {w6 : Nat} {w8 : Nat} {x9 : Int32} {x10 : Int32} {x11 : Int32} {x12 : Int32} {x13 : Int32} {x14 : Int32} {x15 : Int32} {r2 : Nat} {r4 : Nat} {r5 : Nat} {r6 : Nat} {r8 : Nat} {nw : Nat} {σ : LwS} {o : (Int32 × Int32 × Int32 × Int32 × LwS) ⊕ (((LwS) ⊕ (Int32 × Int32 × Int32 × LwS)))} {V Vc : Wl} {b Ln : Nat} {xs : Nat → Int32} (C : CZ K cL_law RL 16 40 6100 ret b Ln xs) (hp : Pf Vc V) (hN : V.length = nw) (hw2 : V[w2]? = some (r2, 63)) (hw4 : V[w4]? = some (r4, 26)) (hw5 : V[w5]? = some (r5, 3)) (hw6 : V[w6]? = some (r6, 6)) (hw8 : V[w8]? = some (r8, 60)) (hI : ∀ s' : Int32 × Int32 × Int32 × Int32 × LwS, o = .inl s' → GZ K 6100 442 [some (.ref b), some (.ref (kad K 0)), some (.ref r2), none, some (.ref r4), some (.ref r5), some (.ref r6), none, some (.ref r8), some (.int x9), some (.int x10), some (.int s'.1), some (.int s'.2.1), some (.int s'.2.2.1), some (.int x14), some (.int s'.2.2.2.1)] [] Vc s'.2.2.2.2) (hE0 : ∀ t : LwS, o = .inr (.inl t) → GZ K 6100 497 [none, none, none, none, none, none, none, none, none, none, none, none, none, none, none, none] [] Vc t) (hE1 : ∀ t : Int32 × Int32 × Int32 × LwS, o = .inr (.inr t) → GZ K 6100 571 [some (.ref b), some (.ref (kad K 0)), some (.ref r2), none, some (.ref r4), some (.ref r5), some (.ref r6), none, some (.ref r8), some (.int x9), some (.int x10), some (.int t.1), some (.int t.2.1), some (.int t.2.2.1), some (.int x14), none] [] Vc t.2.2.2) (h : fL_law_b542 xs Ln w2 w4 w5 w6 w8 x9 x10 x11 x12 x13 x14 x15 nw σ = some o) : GZ K 6100 542 [some (.ref b), some (.ref (kad K 0)), some (.ref r2), none, some (.ref r4), some (.ref r5), some (.ref r6), none, some (.ref r8), some (.int x9), some (.int x10), some (.int x11), some (.int x12), some (.int x13), some (.int x14), some (.int x15)] [] V σ := by
  unfold fL_law_b542 at h
  refine z_aload C.c dL_law_542 (i := 6) rfl ?_
  refine z_iconst C.c dL_law_544 (v := (2 : Int32)) (by decide) ?_
  refine z_iald C dL_law_545 hw6 (by decide) ?_
  refine z_iload C.c dL_law_546 (i := 13) rfl ?_
  refine z_icmp_le C.c (tgt := 565) dL_law_548 (by decide) (fun c => ?_) (fun c => ?_)
  · replace h := ite_t c h
    exact z_mask [true, true, true, false, true, true, true, false, true, true, true, true, true, true, true, true] rfl (bL_law_b565 C hp hN hw2 hw4 hw5 hw6 hw8 hI hE0 hE1 h)
  · replace h := ite_f c h
    refine z_aload C.c dL_law_551 (i := 6) rfl ?_
    refine z_iconst C.c dL_law_553 (v := (2 : Int32)) (by decide) ?_
    refine z_iald C dL_law_554 hw6 (by decide) ?_
    refine z_istore C.c (i := 13) (L' := [some (.ref b), some (.ref (kad K 0)), some (.ref r2), none, some (.ref r4), some (.ref r5), some (.ref r6), none, some (.ref r8), some (.int x9), some (.int x10), some (.int x11), some (.int x12), some (.int (rT σ w6 ((2 : Int32)).toNatClampNeg)), some (.int x14), some (.int x15)]) dL_law_555 (Nat.le_of_ble_eq_true rfl) rfl ?_
    refine z_iload C.c dL_law_557 (i := 14) rfl ?_
    refine z_istore C.c (i := 11) (L' := [some (.ref b), some (.ref (kad K 0)), some (.ref r2), none, some (.ref r4), some (.ref r5), some (.ref r6), none, some (.ref r8), some (.int x9), some (.int x10), some (.int x14), some (.int x12), some (.int (rT σ w6 ((2 : Int32)).toNatClampNeg)), some (.int x14), some (.int x15)]) dL_law_559 (Nat.le_of_ble_eq_true rfl) rfl ?_
    refine z_iload C.c dL_law_561 (i := 15) rfl ?_
    refine z_istore C.c (i := 12) (L' := [some (.ref b), some (.ref (kad K 0)), some (.ref r2), none, some (.ref r4), some (.ref r5), some (.ref r6), none, some (.ref r8), some (.int x9), some (.int x10), some (.int x14), some (.int x15), some (.int (rT σ w6 ((2 : Int32)).toNatClampNeg)), some (.int x14), some (.int x15)]) dL_law_563 (Nat.le_of_ble_eq_true rfl) rfl ?_
    exact z_mask [true, true, true, false, true, true, true, false, true, true, true, true, true, true, true, true] rfl (bL_law_b565 C hp hN hw2 hw4 hw5 hw6 hw8 hI hE0 hE1 h)
set_option maxRecDepth 8000 in
theorem bL_law_b499 {K : KT} {w2 : Nat} {w4 : Nat} {w5 : Nat} {w6 : Nat} {w8 : Nat} {x9 : Int32} {x10 : Int32} {x11 : Int32} {x12 : Int32} {x13 : Int32} {x14 : Int32} {x15 : Int32} {r2 : Nat} {r4 : Nat} {r5 : Nat} {r6 : Nat} {r8 : Nat} {nw : Nat} {σ : LwS} {o : (Int32 × Int32 × Int32 × Int32 × LwS) ⊕ (((LwS) ⊕ (Int32 × Int32 × Int32 × LwS)))} {V Vc : Wl} {b Ln : Nat} {xs : Nat → Int32} (C : CZ K cL_law RL 16 40 6100 ret b Ln xs) (hp : Pf Vc V) (hN : V.length = nw) (hw2 : V[w2]? = some (r2, 63)) (hw4 : V[w4]? = some (r4, 26)) (hw5 : V[w5]? = some (r5, 3)) (hw6 : V[w6]? = some (r6, 6)) (hw8 : V[w8]? = some (r8, 60)) (hI : ∀ s' : Int32 × Int32 × Int32 × Int32 × LwS, o = .inl s' → GZ K 6100 442 [some (.ref b), some (.ref (kad K 0)), some (.ref r2), none, some (.ref r4), some (.ref r5), some (.ref r6), none, some (.ref r8), some (.int x9), some (.int x10), some (.int s'.1), some (.int s'.2.1), some (.int s'.2.2.1), some (.int x14), some (.int s'.2.2.2.1)] [] Vc s'.2.2.2.2) (hE0 : ∀ t : LwS, o = .inr (.inl t) → GZ K 6100 497 [none, none, none, none, none, none, none, none, none, none, none, none, none, none, none, none] [] Vc t) (hE1 : ∀ t : Int32 × Int32 × Int32 × LwS, o = .inr (.inr t) → GZ K 6100 571 [some (.ref b), some (.ref (kad K 0)), some (.ref r2), none, some (.ref r4), some (.ref r5), some (.ref r6), none, some (.ref r8), some (.int x9), some (.int x10), some (.int t.1), some (.int t.2.1), some (.int t.2.2.1), some (.int x14), none] [] Vc t.2.2.2) (h : fL_law_b499 xs Ln w2 w4 w5 w6 w8 x9 x10 x11 x12 x13 x14 x15 nw σ = some o) : GZ K 6100 499 [some (.ref b), some (.ref (kad K 0)), some (.ref r2), none, some (.ref r4), some (.ref r5), some (.ref r6), none, some (.ref r8), some (.int x9), some (.int x10), some (.int x11), some (.int x12), some (.int x13), some (.int x14), some (.int x15)] [] V σ := by
  unfold fL_law_b499 at h
  refine z_aload C.c dL_law_499 (i := 6) rfl ?_
  refine z_iconst C.c dL_law_501 (v := (5 : Int32)) (by decide) ?_
  refine z_iald C dL_law_502 hw6 (by decide) ?_
  refine z_if_ne C.c (tgt := 509) dL_law_503 (by decide) (fun c => ?_) (fun c => ?_)
  · replace h := ite_f c h
    refine z_aload C.c dL_law_509 (i := 6) rfl ?_
    refine z_iconst C.c dL_law_511 (v := (2 : Int32)) (by decide) ?_
    refine z_iald C dL_law_512 hw6 (by decide) ?_
    refine z_aload C.c dL_law_513 (i := 8) rfl ?_
    refine z_bipush C.c dL_law_515 (v := (12 : Int32)) (by decide) ?_
    refine z_iload C.c dL_law_517 (i := 9) rfl ?_
    refine z_imul C.c dL_law_519 ?_
    refine z_iload C.c dL_law_520 (i := 14) rfl ?_
    refine z_iadd C.c dL_law_522 ?_
    obtain ⟨c73, h⟩ := chk h
    refine z_iald C dL_law_523 hw8 c73 ?_
    refine z_icmp_le C.c (tgt := 542) dL_law_524 (by decide) (fun c => ?_) (fun c => ?_)
    · replace h := ite_t c h
      exact z_mask [true, true, true, false, true, true, true, false, true, true, true, true, true, true, true, true] rfl (bL_law_b542 C hp hN hw2 hw4 hw5 hw6 hw8 hI hE0 hE1 h)
    · replace h := ite_f c h
      refine z_aload C.c dL_law_527 (i := 8) rfl ?_
      refine z_bipush C.c dL_law_529 (v := (12 : Int32)) (by decide) ?_
      refine z_iload C.c dL_law_531 (i := 9) rfl ?_
      refine z_imul C.c dL_law_533 ?_
      refine z_iload C.c dL_law_534 (i := 14) rfl ?_
      refine z_iadd C.c dL_law_536 ?_
      refine z_aload C.c dL_law_537 (i := 6) rfl ?_
      refine z_iconst C.c dL_law_539 (v := (2 : Int32)) (by decide) ?_
      refine z_iald C dL_law_540 hw6 (by decide) ?_
      obtain ⟨c74, h⟩ := chk h
      refine z_iast C dL_law_541 hw8 c74 ?_
      exact z_mask [true, true, true, false, true, true, true, false, true, true, true, true, true, true, true, true] rfl (bL_law_b542 C hp hN hw2 hw4 hw5 hw6 hw8 hI hE0 hE1 h)
  · replace h := ite_t c h
    refine z_goto C.c (tgt := 565) dL_law_506 (by decide) ?_
    exact z_mask [true, true, true, false, true, true, true, false, true, true, true, true, true, true, true, true] rfl (bL_law_b565 C hp hN hw2 hw4 hw5 hw6 hw8 hI hE0 hE1 h)
set_option maxRecDepth 8000 in
theorem bL_law_b466 {K : KT} {w2 : Nat} {w4 : Nat} {w5 : Nat} {w6 : Nat} {w8 : Nat} {x9 : Int32} {x10 : Int32} {x11 : Int32} {x12 : Int32} {x13 : Int32} {x14 : Int32} {x15 : Int32} {y0 : Int32} {y1 : Int32} {y2 : Int32} {u3 : Nat} {u4 : Nat} {r2 : Nat} {r4 : Nat} {r5 : Nat} {r6 : Nat} {r8 : Nat} {v3 : Nat} {v4 : Nat} {nw : Nat} {σ : LwS} {o : (Int32 × Int32 × Int32 × Int32 × LwS) ⊕ (((LwS) ⊕ (Int32 × Int32 × Int32 × LwS)))} {V Vc : Wl} {b Ln : Nat} {xs : Nat → Int32} (C : CZ K cL_law RL 16 40 6100 ret b Ln xs) (hp : Pf Vc V) (hN : V.length = nw) (hw2 : V[w2]? = some (r2, 63)) (hw4 : V[w4]? = some (r4, 26)) (hw5 : V[w5]? = some (r5, 3)) (hw6 : V[w6]? = some (r6, 6)) (hw8 : V[w8]? = some (r8, 60)) (hu3 : V[u3]? = some (v3, 26)) (hu4 : V[u4]? = some (v4, 63)) (hI : ∀ s' : Int32 × Int32 × Int32 × Int32 × LwS, o = .inl s' → GZ K 6100 442 [some (.ref b), some (.ref (kad K 0)), some (.ref r2), none, some (.ref r4), some (.ref r5), some (.ref r6), none, some (.ref r8), some (.int x9), some (.int x10), some (.int s'.1), some (.int s'.2.1), some (.int s'.2.2.1), some (.int x14), some (.int s'.2.2.2.1)] [] Vc s'.2.2.2.2) (hE0 : ∀ t : LwS, o = .inr (.inl t) → GZ K 6100 497 [none, none, none, none, none, none, none, none, none, none, none, none, none, none, none, none] [] Vc t) (hE1 : ∀ t : Int32 × Int32 × Int32 × LwS, o = .inr (.inr t) → GZ K 6100 571 [some (.ref b), some (.ref (kad K 0)), some (.ref r2), none, some (.ref r4), some (.ref r5), some (.ref r6), none, some (.ref r8), some (.int x9), some (.int x10), some (.int t.1), some (.int t.2.1), some (.int t.2.2.1), some (.int x14), none] [] Vc t.2.2.2) (h : fL_law_b466 xs Ln w2 w4 w5 w6 w8 x9 x10 x11 x12 x13 x14 x15 y0 y1 y2 u3 u4 nw σ = some o) : GZ K 6100 466 [some (.ref b), some (.ref (kad K 0)), some (.ref r2), none, some (.ref r4), some (.ref r5), some (.ref r6), none, some (.ref r8), some (.int x9), some (.int x10), some (.int x11), some (.int x12), some (.int x13), some (.int x14), some (.int x15)] [.int y0, .int y1, .int y2, .ref v3, .ref v4] V σ := by
  unfold fL_law_b466 at h
  refine z_aload C.c dL_law_466 (i := 5) rfl ?_
  refine z_aload C.c dL_law_468 (i := 6) rfl ?_
  obtain ⟨c72, h⟩ := chk h
  obtain ⟨p70, e71, h⟩ := Option.bind_eq_some_iff.mp h
  refine kz_80 C hu4 hu3 hw5 hw6 hN dL_law_470 e71 (Nat.le_of_ble_eq_true rfl) rfl (Nat.le_of_ble_eq_true rfl) c72 ?_
  refine z_iload C.c dL_law_473 (i := 14) rfl ?_
  refine z_iconst C.c dL_law_475 (v := (1 : Int32)) (by decide) ?_
  refine z_icmp_ne C.c (tgt := 499) dL_law_476 (by decide) (fun c => ?_) (fun c => ?_)
  · replace h := ite_f c h
    exact z_mask [true, true, true, false, true, true, true, false, true, true, true, true, true, true, true, true] rfl (bL_law_b499 C hp hN hw2 hw4 hw5 hw6 hw8 hI hE0 hE1 h)
  · replace h := ite_t c h
    refine z_iload C.c dL_law_479 (i := 15) rfl ?_
    refine z_if_ne C.c (tgt := 499) dL_law_481 (by decide) (fun c => ?_) (fun c => ?_)
    · replace h := ite_f c h
      exact z_mask [true, true, true, false, true, true, true, false, true, true, true, true, true, true, true, true] rfl (bL_law_b499 C hp hN hw2 hw4 hw5 hw6 hw8 hI hE0 hE1 h)
    · replace h := ite_t c h
      refine z_aload_n C.c dL_law_484 rfl (i := 1) rfl ?_
      refine z_iload C.c dL_law_485 (i := 9) rfl ?_
      obtain ⟨p75, e76, h⟩ := Option.bind_eq_some_iff.mp h
      refine kz_84 C dL_law_487 e76 (Nat.le_of_ble_eq_true rfl) rfl (Nat.le_of_ble_eq_true rfl) ?_
      refine z_aload C.c dL_law_490 (i := 6) rfl ?_
      refine z_iconst C.c dL_law_492 (v := (5 : Int32)) (by decide) ?_
      refine z_iald C dL_law_493 hw6 (by decide) ?_
      refine z_icmp_eq C.c (tgt := 499) dL_law_494 (by decide) (fun c => ?_) (fun c => ?_)
      · replace h := ite_t c h
        exact z_mask [true, true, true, false, true, true, true, false, true, true, true, true, true, true, true, true] rfl (bL_law_b499 C hp hN hw2 hw4 hw5 hw6 hw8 hI hE0 hE1 h)
      · replace h := ite_f c h
        have g9 := hE0 _ (Option.some.inj h).symm
        exact z_mask [false, false, false, false, false, false, false, false, false, false, false, false, false, false, false, false] rfl (z_drop hp g9)
set_option maxRecDepth 8000 in
theorem bL_law_b442 {K : KT} {w2 : Nat} {w4 : Nat} {w5 : Nat} {w6 : Nat} {w8 : Nat} {x9 : Int32} {x10 : Int32} {x11 : Int32} {x12 : Int32} {x13 : Int32} {x14 : Int32} {x15 : Int32} {r2 : Nat} {r4 : Nat} {r5 : Nat} {r6 : Nat} {r8 : Nat} {nw : Nat} {σ : LwS} {o : (Int32 × Int32 × Int32 × Int32 × LwS) ⊕ (((LwS) ⊕ (Int32 × Int32 × Int32 × LwS)))} {V Vc : Wl} {b Ln : Nat} {xs : Nat → Int32} (C : CZ K cL_law RL 16 40 6100 ret b Ln xs) (hp : Pf Vc V) (hN : V.length = nw) (hw2 : V[w2]? = some (r2, 63)) (hw4 : V[w4]? = some (r4, 26)) (hw5 : V[w5]? = some (r5, 3)) (hw6 : V[w6]? = some (r6, 6)) (hw8 : V[w8]? = some (r8, 60)) (hI : ∀ s' : Int32 × Int32 × Int32 × Int32 × LwS, o = .inl s' → GZ K 6100 442 [some (.ref b), some (.ref (kad K 0)), some (.ref r2), none, some (.ref r4), some (.ref r5), some (.ref r6), none, some (.ref r8), some (.int x9), some (.int x10), some (.int s'.1), some (.int s'.2.1), some (.int s'.2.2.1), some (.int x14), some (.int s'.2.2.2.1)] [] Vc s'.2.2.2.2) (hE0 : ∀ t : LwS, o = .inr (.inl t) → GZ K 6100 497 [none, none, none, none, none, none, none, none, none, none, none, none, none, none, none, none] [] Vc t) (hE1 : ∀ t : Int32 × Int32 × Int32 × LwS, o = .inr (.inr t) → GZ K 6100 571 [some (.ref b), some (.ref (kad K 0)), some (.ref r2), none, some (.ref r4), some (.ref r5), some (.ref r6), none, some (.ref r8), some (.int x9), some (.int x10), some (.int t.1), some (.int t.2.1), some (.int t.2.2.1), some (.int x14), none] [] Vc t.2.2.2) (h : fL_law_b442 xs Ln w2 w4 w5 w6 w8 x9 x10 x11 x12 x13 x14 x15 nw σ = some o) : GZ K 6100 442 [some (.ref b), some (.ref (kad K 0)), some (.ref r2), none, some (.ref r4), some (.ref r5), some (.ref r6), none, some (.ref r8), some (.int x9), some (.int x10), some (.int x11), some (.int x12), some (.int x13), some (.int x14), some (.int x15)] [] V σ := by
  unfold fL_law_b442 at h
  refine z_iload C.c dL_law_442 (i := 15) rfl ?_
  refine z_iconst C.c dL_law_444 (v := (2 : Int32)) (by decide) ?_
  refine z_icmp_ge C.c (tgt := 571) dL_law_445 (by decide) (fun c => ?_) (fun c => ?_)
  · replace h := ite_t c h
    have g9 := hE1 _ (Option.some.inj h).symm
    exact z_mask [true, true, true, false, true, true, true, false, true, true, true, true, true, true, true, false] rfl (z_drop hp g9)
  · replace h := ite_f c h
    refine z_aload_n C.c dL_law_448 rfl (i := 2) rfl ?_
    refine z_aload C.c dL_law_449 (i := 4) rfl ?_
    refine z_iload C.c dL_law_451 (i := 10) rfl ?_
    refine z_iload C.c dL_law_453 (i := 14) rfl ?_
    refine z_iload C.c dL_law_455 (i := 15) rfl ?_
    refine z_iconst C.c dL_law_457 (v := (1 : Int32)) (by decide) ?_
    refine z_icmp_ne C.c (tgt := 465) dL_law_458 (by decide) (fun c => ?_) (fun c => ?_)
    · replace h := ite_f c h
      refine z_iconst C.c dL_law_465 (v := (0 : Int32)) (by decide) ?_
      exact z_mask [true, true, true, false, true, true, true, false, true, true, true, true, true, true, true, true] rfl (bL_law_b466 C hp hN hw2 hw4 hw5 hw6 hw8 hw4 hw2 hI hE0 hE1 h)
    · replace h := ite_t c h
      refine z_iconst C.c dL_law_461 (v := (1 : Int32)) (by decide) ?_
      refine z_goto C.c (tgt := 466) dL_law_462 (by decide) ?_
      exact z_mask [true, true, true, false, true, true, true, false, true, true, true, true, true, true, true, true] rfl (bL_law_b466 C hp hN hw2 hw4 hw5 hw6 hw8 hw4 hw2 hI hE0 hE1 h)
set_option maxRecDepth 8000 in
theorem bL_law_b419 {K : KT} {w2 : Nat} {w4 : Nat} {w5 : Nat} {w6 : Nat} {w8 : Nat} {x9 : Int32} {x10 : Int32} {x11 : Int32} {x12 : Int32} {x13 : Int32} {x14 : Int32} {r2 : Nat} {r4 : Nat} {r5 : Nat} {r6 : Nat} {r8 : Nat} {nw : Nat} {σ : LwS} {o : (Int32 × Int32 × Int32 × Int32 × LwS) ⊕ (((LwS) ⊕ (Int32 × Int32 × Int32 × LwS)))} {V Vc : Wl} {b Ln : Nat} {xs : Nat → Int32} (C : CZ K cL_law RL 16 40 6100 ret b Ln xs) (hp : Pf Vc V) (hN : V.length = nw) (hw2 : V[w2]? = some (r2, 63)) (hw4 : V[w4]? = some (r4, 26)) (hw5 : V[w5]? = some (r5, 3)) (hw6 : V[w6]? = some (r6, 6)) (hw8 : V[w8]? = some (r8, 60)) (hI : ∀ s' : Int32 × Int32 × Int32 × Int32 × LwS, o = .inl s' → GZ K 6100 419 [some (.ref b), some (.ref (kad K 0)), some (.ref r2), none, some (.ref r4), some (.ref r5), some (.ref r6), none, some (.ref r8), some (.int x9), some (.int x10), some (.int s'.1), some (.int s'.2.1), some (.int s'.2.2.1), some (.int s'.2.2.2.1), none] [] Vc s'.2.2.2.2) (hE0 : ∀ t : LwS, o = .inr (.inl t) → GZ K 6100 497 [none, none, none, none, none, none, none, none, none, none, none, none, none, none, none, none] [] Vc t) (hE1 : ∀ t : Int32 × Int32 × Int32 × LwS, o = .inr (.inr t) → GZ K 6100 577 [some (.ref b), some (.ref (kad K 0)), some (.ref r2), none, some (.ref r4), some (.ref r5), some (.ref r6), none, some (.ref r8), some (.int x9), none, some (.int t.1), some (.int t.2.1), some (.int t.2.2.1), none, none] [] Vc t.2.2.2) (h : fL_law_b419 xs Ln w2 w4 w5 w6 w8 x9 x10 x11 x12 x13 x14 nw σ = some o) : GZ K 6100 419 [some (.ref b), some (.ref (kad K 0)), some (.ref r2), none, some (.ref r4), some (.ref r5), some (.ref r6), none, some (.ref r8), some (.int x9), some (.int x10), some (.int x11), some (.int x12), some (.int x13), some (.int x14), none] [] V σ := by
  unfold fL_law_b419 at h
  refine z_iload C.c dL_law_419 (i := 14) rfl ?_
  refine z_bipush C.c dL_law_421 (v := (12 : Int32)) (by decide) ?_
  refine z_icmp_ge C.c (tgt := 577) dL_law_423 (by decide) (fun c => ?_) (fun c => ?_)
  · replace h := ite_t c h
    have g9 := hE1 _ (Option.some.inj h).symm
    exact z_mask [true, true, true, false, true, true, true, false, true, true, false, true, true, true, false, false] rfl (z_drop hp g9)
  · replace h := ite_f c h
    refine z_aload C.c dL_law_426 (i := 8) rfl ?_
    refine z_bipush C.c dL_law_428 (v := (12 : Int32)) (by decide) ?_
    refine z_iload C.c dL_law_430 (i := 9) rfl ?_
    refine z_imul C.c dL_law_432 ?_
    refine z_iload C.c dL_law_433 (i := 14) rfl ?_
    refine z_iadd C.c dL_law_435 ?_
    refine z_ldc C.c (v := (-100001 : Int32)) aw_674 dL_law_436 ?_
    obtain ⟨c69, h⟩ := chk h
    refine z_iast C dL_law_438 hw8 c69 ?_
    refine z_iconst C.c dL_law_439 (v := (0 : Int32)) (by decide) ?_
    refine z_istore C.c (i := 15) (L' := [some (.ref b), some (.ref (kad K 0)), some (.ref r2), none, some (.ref r4), some (.ref r5), some (.ref r6), none, some (.ref r8), some (.int x9), some (.int x10), some (.int x11), some (.int x12), some (.int x13), some (.int x14), some (.int (0 : Int32))]) dL_law_440 (Nat.le_of_ble_eq_true rfl) rfl ?_
    refine z_mask [true, true, true, false, true, true, true, false, true, true, true, true, true, true, true, true] rfl ?_
    refine lp_bind (Gh := fun s => GZ K 6100 442 [some (.ref b), some (.ref (kad K 0)), some (.ref r2), none, some (.ref r4), some (.ref r5), some (.ref r6), none, some (.ref r8), some (.int x9), some (.int x10), some (.int s.1), some (.int s.2.1), some (.int s.2.2.1), some (.int x14), some (.int s.2.2.2.1)] [] V s.2.2.2.2) h (fun s o2 hf gI gE => ?_)
    refine bL_law_b442 C Pf.rf hN hw2 hw4 hw5 hw6 hw8 gI (fun t77 e => ?_) (fun t77 e => ?_) hf
    · have h := el_l (gE _ e)
      have g9 := hE0 _ (Option.some.inj h).symm
      exact z_mask [false, false, false, false, false, false, false, false, false, false, false, false, false, false, false, false] rfl (z_drop hp g9)
    · have h := el_r (gE _ e)
      refine z_iinc C.c (i := 14) (y := (1 : Int32)) (L' := [some (.ref b), some (.ref (kad K 0)), some (.ref r2), none, some (.ref r4), some (.ref r5), some (.ref r6), none, some (.ref r8), some (.int x9), some (.int x10), some (.int t77.1), some (.int t77.2.1), some (.int t77.2.2.1), some (.int (x14 + (1 : Int32))), none]) dL_law_571 rfl (by decide) (Nat.le_of_ble_eq_true rfl) rfl ?_
      refine z_goto C.c (tgt := 419) dL_law_574 (by decide) ?_
      have g9 := hI _ (Option.some.inj h).symm
      exact z_mask [true, true, true, false, true, true, true, false, true, true, true, true, true, true, true, false] rfl (z_drop hp g9)
set_option maxRecDepth 8000 in
theorem bL_law_b641 {K : KT} {w2 : Nat} {w4 : Nat} {w5 : Nat} {w6 : Nat} {w8 : Nat} {x9 : Int32} {r2 : Nat} {r4 : Nat} {r5 : Nat} {r6 : Nat} {r8 : Nat} {nw : Nat} {σ : LwS} {o : (Int32 × LwS) ⊕ (((LwS) ⊕ ((LwS) ⊕ ((LwS) ⊕ ((LwS) ⊕ ((LwS) ⊕ (LwS)))))))} {V Vc : Wl} {b Ln : Nat} {xs : Nat → Int32} (C : CZ K cL_law RL 16 40 6100 ret b Ln xs) (hp : Pf Vc V) (hN : V.length = nw) (hw2 : V[w2]? = some (r2, 63)) (hw4 : V[w4]? = some (r4, 26)) (hw5 : V[w5]? = some (r5, 3)) (hw6 : V[w6]? = some (r6, 6)) (hw8 : V[w8]? = some (r8, 60)) (hI : ∀ s' : Int32 × LwS, o = .inl s' → GZ K 6100 290 [some (.ref b), some (.ref (kad K 0)), some (.ref r2), none, some (.ref r4), some (.ref r5), some (.ref r6), none, some (.ref r8), some (.int s'.1), none, none, none, none, none, none] [] Vc s'.2) (hE0 : ∀ t : LwS, o = .inr (.inl t) → GZ K 6100 334 [none, none, none, none, none, none, none, none, none, none, none, none, none, none, none, none] [] Vc t) (hE1 : ∀ t : LwS, o = .inr (.inr (.inl t)) → GZ K 6100 398 [none, none, none, none, none, none, none, none, none, none, none, none, none, none, none, none] [] Vc t) (hE2 : ∀ t : LwS, o = .inr (.inr (.inr (.inl t))) → GZ K 6100 497 [none, none, none, none, none, none, none, none, none, none, none, none, none, none, none, none] [] Vc t) (hE3 : ∀ t : LwS, o = .inr (.inr (.inr (.inr (.inl t)))) → GZ K 6100 639 [none, none, none, none, none, none, none, none, none, none, none, none, none, none, none, none] [] Vc t) (hE4 : ∀ t : LwS, o = .inr (.inr (.inr (.inr (.inr (.inl t))))) → GZ K 6100 656 [none, none, none, none, none, none, none, none, none, none, none, none, none, none, none, none] [] Vc t) (hE5 : ∀ t : LwS, o = .inr (.inr (.inr (.inr (.inr (.inr t))))) → GZ K 6100 664 [some (.ref b), some (.ref (kad K 0)), some (.ref r2), none, some (.ref r4), none, none, none, some (.ref r8), none, none, none, none, none, none, none] [] Vc t) (h : fL_law_b641 xs Ln w2 w4 w5 w6 w8 x9 nw σ = some o) : GZ K 6100 641 [some (.ref b), some (.ref (kad K 0)), some (.ref r2), none, some (.ref r4), some (.ref r5), some (.ref r6), none, some (.ref r8), some (.int x9), none, none, none, none, none, none] [] V σ := by
  unfold fL_law_b641 at h
  refine z_aload_n C.c dL_law_641 rfl (i := 1) rfl ?_
  refine z_aload_n C.c dL_law_642 rfl (i := 0) rfl ?_
  refine z_aload_n C.c dL_law_643 rfl (i := 2) rfl ?_
  refine z_aload C.c dL_law_644 (i := 4) rfl ?_
  refine z_aload C.c dL_law_646 (i := 5) rfl ?_
  refine z_iload C.c dL_law_648 (i := 9) rfl ?_
  obtain ⟨c85, h⟩ := chk h
  obtain ⟨p83, e84, h⟩ := Option.bind_eq_some_iff.mp h
  refine kz_90 C hw2 hw4 hw5 hN dL_law_650 e84 (Nat.le_of_ble_eq_true rfl) rfl (Nat.le_of_ble_eq_true rfl) c85 ?_
  refine z_if_ne C.c (tgt := 658) dL_law_653 (by decide) (fun c => ?_) (fun c => ?_)
  · replace h := ite_f c h
    refine z_iinc C.c (i := 9) (y := (1 : Int32)) (L' := [some (.ref b), some (.ref (kad K 0)), some (.ref r2), none, some (.ref r4), some (.ref r5), some (.ref r6), none, some (.ref r8), some (.int (x9 + (1 : Int32))), none, none, none, none, none, none]) dL_law_658 rfl (by decide) (Nat.le_of_ble_eq_true rfl) rfl ?_
    refine z_goto C.c (tgt := 290) dL_law_661 (by decide) ?_
    have g9 := hI _ (Option.some.inj h).symm
    exact z_mask [true, true, true, false, true, true, true, false, true, true, false, false, false, false, false, false] rfl (z_drop hp g9)
  · replace h := ite_t c h
    have g9 := hE4 _ (Option.some.inj h).symm
    exact z_mask [false, false, false, false, false, false, false, false, false, false, false, false, false, false, false, false] rfl (z_drop hp g9)
set_option maxRecDepth 8000 in
theorem bL_law_b620 {K : KT} {w2 : Nat} {w4 : Nat} {w5 : Nat} {w6 : Nat} {w8 : Nat} {x9 : Int32} {x13 : Int32} {r2 : Nat} {r4 : Nat} {r5 : Nat} {r6 : Nat} {r8 : Nat} {nw : Nat} {σ : LwS} {o : (Int32 × LwS) ⊕ (((LwS) ⊕ ((LwS) ⊕ ((LwS) ⊕ ((LwS) ⊕ ((LwS) ⊕ (LwS)))))))} {V Vc : Wl} {b Ln : Nat} {xs : Nat → Int32} (C : CZ K cL_law RL 16 40 6100 ret b Ln xs) (hp : Pf Vc V) (hN : V.length = nw) (hw2 : V[w2]? = some (r2, 63)) (hw4 : V[w4]? = some (r4, 26)) (hw5 : V[w5]? = some (r5, 3)) (hw6 : V[w6]? = some (r6, 6)) (hw8 : V[w8]? = some (r8, 60)) (hI : ∀ s' : Int32 × LwS, o = .inl s' → GZ K 6100 290 [some (.ref b), some (.ref (kad K 0)), some (.ref r2), none, some (.ref r4), some (.ref r5), some (.ref r6), none, some (.ref r8), some (.int s'.1), none, none, none, none, none, none] [] Vc s'.2) (hE0 : ∀ t : LwS, o = .inr (.inl t) → GZ K 6100 334 [none, none, none, none, none, none, none, none, none, none, none, none, none, none, none, none] [] Vc t) (hE1 : ∀ t : LwS, o = .inr (.inr (.inl t)) → GZ K 6100 398 [none, none, none, none, none, none, none, none, none, none, none, none, none, none, none, none] [] Vc t) (hE2 : ∀ t : LwS, o = .inr (.inr (.inr (.inl t))) → GZ K 6100 497 [none, none, none, none, none, none, none, none, none, none, none, none, none, none, none, none] [] Vc t) (hE3 : ∀ t : LwS, o = .inr (.inr (.inr (.inr (.inl t)))) → GZ K 6100 639 [none, none, none, none, none, none, none, none, none, none, none, none, none, none, none, none] [] Vc t) (hE4 : ∀ t : LwS, o = .inr (.inr (.inr (.inr (.inr (.inl t))))) → GZ K 6100 656 [none, none, none, none, none, none, none, none, none, none, none, none, none, none, none, none] [] Vc t) (hE5 : ∀ t : LwS, o = .inr (.inr (.inr (.inr (.inr (.inr t))))) → GZ K 6100 664 [some (.ref b), some (.ref (kad K 0)), some (.ref r2), none, some (.ref r4), none, none, none, some (.ref r8), none, none, none, none, none, none, none] [] Vc t) (h : fL_law_b620 xs Ln w2 w4 w5 w6 w8 x9 x13 nw σ = some o) : GZ K 6100 620 [some (.ref b), some (.ref (kad K 0)), some (.ref r2), none, some (.ref r4), some (.ref r5), some (.ref r6), none, some (.ref r8), some (.int x9), none, none, none, some (.int x13), none, none] [] V σ := by
  unfold fL_law_b620 at h
  refine z_iload C.c dL_law_620 (i := 13) rfl ?_
  refine z_ldc C.c (v := (-100001 : Int32)) aw_674 dL_law_622 ?_
  refine z_icmp_ne C.c (tgt := 641) dL_law_624 (by decide) (fun c => ?_) (fun c => ?_)
  · replace h := ite_f c h
    exact z_mask [true, true, true, false, true, true, true, false, true, true, false, false, false, false, false, false] rfl (bL_law_b641 C hp hN hw2 hw4 hw5 hw6 hw8 hI hE0 hE1 hE2 hE3 hE4 hE5 h)
  · replace h := ite_t c h
    refine z_aload_n C.c dL_law_627 rfl (i := 1) rfl ?_
    refine z_iload C.c dL_law_628 (i := 9) rfl ?_
    refine z_iconst C.c dL_law_630 (v := (0 : Int32)) (by decide) ?_
    obtain ⟨p86, e87, h⟩ := Option.bind_eq_some_iff.mp h
    refine kz_88 C dL_law_631 e87 (Nat.le_of_ble_eq_true rfl) rfl (Nat.le_of_ble_eq_true rfl) ?_
    refine z_iload C.c dL_law_634 (i := 13) rfl ?_
    refine z_icmp_eq C.c (tgt := 641) dL_law_636 (by decide) (fun c => ?_) (fun c => ?_)
    · replace h := ite_t c h
      exact z_mask [true, true, true, false, true, true, true, false, true, true, false, false, false, false, false, false] rfl (bL_law_b641 C hp hN hw2 hw4 hw5 hw6 hw8 hI hE0 hE1 hE2 hE3 hE4 hE5 h)
    · replace h := ite_f c h
      have g9 := hE3 _ (Option.some.inj h).symm
      exact z_mask [false, false, false, false, false, false, false, false, false, false, false, false, false, false, false, false] rfl (z_drop hp g9)
set_option maxRecDepth 8000 in
theorem bL_law_b290 {K : KT} {w2 : Nat} {w4 : Nat} {w5 : Nat} {w6 : Nat} {w8 : Nat} {x9 : Int32} {r2 : Nat} {r4 : Nat} {r5 : Nat} {r6 : Nat} {r8 : Nat} {nw : Nat} {σ : LwS} {o : (Int32 × LwS) ⊕ (((LwS) ⊕ ((LwS) ⊕ ((LwS) ⊕ ((LwS) ⊕ ((LwS) ⊕ (LwS)))))))} {V Vc : Wl} {b Ln : Nat} {xs : Nat → Int32} (C : CZ K cL_law RL 16 40 6100 ret b Ln xs) (hp : Pf Vc V) (hN : V.length = nw) (hw2 : V[w2]? = some (r2, 63)) (hw4 : V[w4]? = some (r4, 26)) (hw5 : V[w5]? = some (r5, 3)) (hw6 : V[w6]? = some (r6, 6)) (hw8 : V[w8]? = some (r8, 60)) (hI : ∀ s' : Int32 × LwS, o = .inl s' → GZ K 6100 290 [some (.ref b), some (.ref (kad K 0)), some (.ref r2), none, some (.ref r4), some (.ref r5), some (.ref r6), none, some (.ref r8), some (.int s'.1), none, none, none, none, none, none] [] Vc s'.2) (hE0 : ∀ t : LwS, o = .inr (.inl t) → GZ K 6100 334 [none, none, none, none, none, none, none, none, none, none, none, none, none, none, none, none] [] Vc t) (hE1 : ∀ t : LwS, o = .inr (.inr (.inl t)) → GZ K 6100 398 [none, none, none, none, none, none, none, none, none, none, none, none, none, none, none, none] [] Vc t) (hE2 : ∀ t : LwS, o = .inr (.inr (.inr (.inl t))) → GZ K 6100 497 [none, none, none, none, none, none, none, none, none, none, none, none, none, none, none, none] [] Vc t) (hE3 : ∀ t : LwS, o = .inr (.inr (.inr (.inr (.inl t)))) → GZ K 6100 639 [none, none, none, none, none, none, none, none, none, none, none, none, none, none, none, none] [] Vc t) (hE4 : ∀ t : LwS, o = .inr (.inr (.inr (.inr (.inr (.inl t))))) → GZ K 6100 656 [none, none, none, none, none, none, none, none, none, none, none, none, none, none, none, none] [] Vc t) (hE5 : ∀ t : LwS, o = .inr (.inr (.inr (.inr (.inr (.inr t))))) → GZ K 6100 664 [some (.ref b), some (.ref (kad K 0)), some (.ref r2), none, some (.ref r4), none, none, none, some (.ref r8), none, none, none, none, none, none, none] [] Vc t) (h : fL_law_b290 xs Ln w2 w4 w5 w6 w8 x9 nw σ = some o) : GZ K 6100 290 [some (.ref b), some (.ref (kad K 0)), some (.ref r2), none, some (.ref r4), some (.ref r5), some (.ref r6), none, some (.ref r8), some (.int x9), none, none, none, none, none, none] [] V σ := by
  unfold fL_law_b290 at h
  refine z_iload C.c dL_law_290 (i := 9) rfl ?_
  refine z_aload C.c dL_law_292 (i := 4) rfl ?_
  refine z_bipush C.c dL_law_294 (v := (25 : Int32)) (by decide) ?_
  refine z_iald C dL_law_296 hw4 (by decide) ?_
  refine z_icmp_ge C.c (tgt := 664) dL_law_297 (by decide) (fun c => ?_) (fun c => ?_)
  · replace h := ite_t c h
    have g9 := hE5 _ (Option.some.inj h).symm
    exact z_mask [true, true, true, false, true, false, false, false, true, false, false, false, false, false, false, false] rfl (z_drop hp g9)
  · replace h := ite_f c h
    refine z_iconst C.c dL_law_300 (v := (5 : Int32)) (by decide) ?_
    refine z_iload C.c dL_law_301 (i := 9) rfl ?_
    refine z_imul C.c dL_law_303 ?_
    refine z_istore C.c (i := 10) (L' := [some (.ref b), some (.ref (kad K 0)), some (.ref r2), none, some (.ref r4), some (.ref r5), some (.ref r6), none, some (.ref r8), some (.int x9), some (.int ((5 : Int32) * x9)), none, none, none, none, none]) dL_law_304 (Nat.le_of_ble_eq_true rfl) rfl ?_
    refine z_iconst C.c dL_law_306 (v := (0 : Int32)) (by decide) ?_
    refine z_istore C.c (i := 11) (L' := [some (.ref b), some (.ref (kad K 0)), some (.ref r2), none, some (.ref r4), some (.ref r5), some (.ref r6), none, some (.ref r8), some (.int x9), some (.int ((5 : Int32) * x9)), some (.int (0 : Int32)), none, none, none, none]) dL_law_307 (Nat.le_of_ble_eq_true rfl) rfl ?_
    refine z_mask [true, true, true, false, true, true, true, false, true, true, true, true, false, false, false, false] rfl ?_
    refine lp_bind (Gh := fun s => GZ K 6100 309 [some (.ref b), some (.ref (kad K 0)), some (.ref r2), none, some (.ref r4), some (.ref r5), some (.ref r6), none, some (.ref r8), some (.int x9), some (.int ((5 : Int32) * x9)), some (.int s.1), none, none, none, none] [] V s.2) h (fun s o2 hf gI gE => ?_)
    refine bL_law_b309 C Pf.rf hN hw2 hw4 hw5 hw6 hw8 gI (fun t61 e => ?_) (fun t61 e => ?_) hf
    · have h := el_l (gE _ e)
      have g9 := hE0 _ (Option.some.inj h).symm
      exact z_mask [false, false, false, false, false, false, false, false, false, false, false, false, false, false, false, false] rfl (z_drop hp g9)
    · have h := el_r (gE _ e)
      refine z_iconst C.c dL_law_342 (v := (0 : Int32)) (by decide) ?_
      refine z_istore C.c (i := 11) (L' := [some (.ref b), some (.ref (kad K 0)), some (.ref r2), none, some (.ref r4), some (.ref r5), some (.ref r6), none, some (.ref r8), some (.int x9), some (.int ((5 : Int32) * x9)), some (.int (0 : Int32)), none, none, none, none]) dL_law_343 (Nat.le_of_ble_eq_true rfl) rfl ?_
      refine z_mask [true, true, true, false, true, true, true, false, true, true, true, true, false, false, false, false] rfl ?_
      refine lp_bind (Gh := fun s => GZ K 6100 345 [some (.ref b), some (.ref (kad K 0)), some (.ref r2), none, some (.ref r4), some (.ref r5), some (.ref r6), none, some (.ref r8), some (.int x9), some (.int ((5 : Int32) * x9)), some (.int s.1), none, none, none, none] [] V s.2) h (fun s o2 hf gI gE => ?_)
      refine bL_law_b345 C Pf.rf hN hw2 hw4 hw5 hw6 hw8 gI (fun t67 e => ?_) (fun t67 e => ?_) hf
      · have h := el_l (gE _ e)
        have g9 := hE1 _ (Option.some.inj h).symm
        exact z_mask [false, false, false, false, false, false, false, false, false, false, false, false, false, false, false, false] rfl (z_drop hp g9)
      · have h := el_r (gE _ e)
        refine z_iconst C.c dL_law_406 (v := (0 : Int32)) (by decide) ?_
        refine z_istore C.c (i := 11) (L' := [some (.ref b), some (.ref (kad K 0)), some (.ref r2), none, some (.ref r4), some (.ref r5), some (.ref r6), none, some (.ref r8), some (.int x9), some (.int ((5 : Int32) * x9)), some (.int (0 : Int32)), none, none, none, none]) dL_law_407 (Nat.le_of_ble_eq_true rfl) rfl ?_
        refine z_iconst C.c dL_law_409 (v := (0 : Int32)) (by decide) ?_
        refine z_istore C.c (i := 12) (L' := [some (.ref b), some (.ref (kad K 0)), some (.ref r2), none, some (.ref r4), some (.ref r5), some (.ref r6), none, some (.ref r8), some (.int x9), some (.int ((5 : Int32) * x9)), some (.int (0 : Int32)), some (.int (0 : Int32)), none, none, none]) dL_law_410 (Nat.le_of_ble_eq_true rfl) rfl ?_
        refine z_ldc C.c (v := (-100001 : Int32)) aw_674 dL_law_412 ?_
        refine z_istore C.c (i := 13) (L' := [some (.ref b), some (.ref (kad K 0)), some (.ref r2), none, some (.ref r4), some (.ref r5), some (.ref r6), none, some (.ref r8), some (.int x9), some (.int ((5 : Int32) * x9)), some (.int (0 : Int32)), some (.int (0 : Int32)), some (.int (-100001 : Int32)), none, none]) dL_law_414 (Nat.le_of_ble_eq_true rfl) rfl ?_
        refine z_iconst C.c dL_law_416 (v := (1 : Int32)) (by decide) ?_
        refine z_istore C.c (i := 14) (L' := [some (.ref b), some (.ref (kad K 0)), some (.ref r2), none, some (.ref r4), some (.ref r5), some (.ref r6), none, some (.ref r8), some (.int x9), some (.int ((5 : Int32) * x9)), some (.int (0 : Int32)), some (.int (0 : Int32)), some (.int (-100001 : Int32)), some (.int (1 : Int32)), none]) dL_law_417 (Nat.le_of_ble_eq_true rfl) rfl ?_
        refine z_mask [true, true, true, false, true, true, true, false, true, true, true, true, true, true, true, false] rfl ?_
        refine lp_bind (Gh := fun s => GZ K 6100 419 [some (.ref b), some (.ref (kad K 0)), some (.ref r2), none, some (.ref r4), some (.ref r5), some (.ref r6), none, some (.ref r8), some (.int x9), some (.int ((5 : Int32) * x9)), some (.int s.1), some (.int s.2.1), some (.int s.2.2.1), some (.int s.2.2.2.1), none] [] V s.2.2.2.2) h (fun s o2 hf gI gE => ?_)
        refine bL_law_b419 C Pf.rf hN hw2 hw4 hw5 hw6 hw8 gI (fun t79 e => ?_) (fun t79 e => ?_) hf
        · have h := el_l (gE _ e)
          have g9 := hE2 _ (Option.some.inj h).symm
          exact z_mask [false, false, false, false, false, false, false, false, false, false, false, false, false, false, false, false] rfl (z_drop hp g9)
        · have h := el_r (gE _ e)
          refine z_aload_n C.c dL_law_577 rfl (i := 1) rfl ?_
          refine z_iload C.c dL_law_578 (i := 9) rfl ?_
          refine z_iconst C.c dL_law_580 (v := (2 : Int32)) (by decide) ?_
          obtain ⟨p81, e82, h⟩ := Option.bind_eq_some_iff.mp h
          refine kz_88 C dL_law_581 e82 (Nat.le_of_ble_eq_true rfl) rfl (Nat.le_of_ble_eq_true rfl) ?_
          refine z_iload C.c dL_law_584 (i := 13) rfl ?_
          refine z_icmp_ne C.c (tgt := 639) dL_law_586 (by decide) (fun c => ?_) (fun c => ?_)
          · replace h := ite_f c h
            have g9 := hE3 _ (Option.some.inj h).symm
            exact z_mask [false, false, false, false, false, false, false, false, false, false, false, false, false, false, false, false] rfl (z_drop hp g9)
          · replace h := ite_t c h
            refine z_iload C.c dL_law_589 (i := 13) rfl ?_
            refine z_ldc C.c (v := (-100001 : Int32)) aw_674 dL_law_591 ?_
            refine z_icmp_le C.c (tgt := 620) dL_law_593 (by decide) (fun c => ?_) (fun c => ?_)
            · replace h := ite_t c h
              exact z_mask [true, true, true, false, true, true, true, false, true, true, false, false, false, true, false, false] rfl (bL_law_b620 C hp hN hw2 hw4 hw5 hw6 hw8 hI hE0 hE1 hE2 hE3 hE4 hE5 h)
            · replace h := ite_f c h
              refine z_aload_n C.c dL_law_596 rfl (i := 1) rfl ?_
              refine z_iload C.c dL_law_597 (i := 9) rfl ?_
              refine z_iconst C.c dL_law_599 (v := (0 : Int32)) (by decide) ?_
              obtain ⟨p88, e89, h⟩ := Option.bind_eq_some_iff.mp h
              refine kz_88 C dL_law_600 e89 (Nat.le_of_ble_eq_true rfl) rfl (Nat.le_of_ble_eq_true rfl) ?_
              refine z_iload C.c dL_law_603 (i := 11) rfl ?_
              refine z_icmp_ne C.c (tgt := 639) dL_law_605 (by decide) (fun c => ?_) (fun c => ?_)
              · replace h := ite_f c h
                have g9 := hE3 _ (Option.some.inj h).symm
                exact z_mask [false, false, false, false, false, false, false, false, false, false, false, false, false, false, false, false] rfl (z_drop hp g9)
              · replace h := ite_t c h
                refine z_aload_n C.c dL_law_608 rfl (i := 1) rfl ?_
                refine z_iload C.c dL_law_609 (i := 9) rfl ?_
                refine z_iconst C.c dL_law_611 (v := (1 : Int32)) (by decide) ?_
                obtain ⟨p90, e91, h⟩ := Option.bind_eq_some_iff.mp h
                refine kz_88 C dL_law_612 e91 (Nat.le_of_ble_eq_true rfl) rfl (Nat.le_of_ble_eq_true rfl) ?_
                refine z_iload C.c dL_law_615 (i := 12) rfl ?_
                refine z_icmp_ne C.c (tgt := 639) dL_law_617 (by decide) (fun c => ?_) (fun c => ?_)
                · replace h := ite_f c h
                  have g9 := hE3 _ (Option.some.inj h).symm
                  exact z_mask [false, false, false, false, false, false, false, false, false, false, false, false, false, false, false, false] rfl (z_drop hp g9)
                · replace h := ite_t c h
                  exact z_mask [true, true, true, false, true, true, true, false, true, true, false, false, false, true, false, false] rfl (bL_law_b620 C hp hN hw2 hw4 hw5 hw6 hw8 hI hE0 hE1 hE2 hE3 hE4 hE5 h)
set_option maxRecDepth 8000 in
theorem bL_law_b751 {K : KT} {w2 : Nat} {w4 : Nat} {w8 : Nat} {x9 : Int32} {r2 : Nat} {r4 : Nat} {r8 : Nat} {nw : Nat} {σ : LwS} {o : (Int32 × LwS) ⊕ (((LwS) ⊕ (LwS)))} {V Vc : Wl} {b Ln : Nat} {xs : Nat → Int32} (C : CZ K cL_law RL 16 40 6100 ret b Ln xs) (hp : Pf Vc V) (hN : V.length = nw) (hw2 : V[w2]? = some (r2, 63)) (hw4 : V[w4]? = some (r4, 26)) (hw8 : V[w8]? = some (r8, 60)) (hI : ∀ s' : Int32 × LwS, o = .inl s' → GZ K 6100 667 [some (.ref b), some (.ref (kad K 0)), some (.ref r2), none, some (.ref r4), none, none, none, some (.ref r8), some (.int s'.1), none, none, none, none, none, none] [] Vc s'.2) (hE0 : ∀ t : LwS, o = .inr (.inl t) → GZ K 6100 749 [none, none, none, none, none, none, none, none, none, none, none, none, none, none, none, none] [] Vc t) (hE1 : ∀ t : LwS, o = .inr (.inr t) → GZ K 6100 757 [none, some (.ref (kad K 0)), some (.ref r2), none, some (.ref r4), none, none, none, none, none, none, none, none, none, none, none] [] Vc t) (h : fL_law_b751 xs Ln w2 w4 w8 x9 nw σ = some o) : GZ K 6100 751 [some (.ref b), some (.ref (kad K 0)), some (.ref r2), none, some (.ref r4), none, none, none, some (.ref r8), some (.int x9), none, none, none, none, none, none] [] V σ := by
  unfold fL_law_b751 at h
  refine z_iinc C.c (i := 9) (y := (1 : Int32)) (L' := [some (.ref b), some (.ref (kad K 0)), some (.ref r2), none, some (.ref r4), none, none, none, some (.ref r8), some (.int (x9 + (1 : Int32))), none, none, none, none, none, none]) dL_law_751 rfl (by decide) (Nat.le_of_ble_eq_true rfl) rfl ?_
  refine z_goto C.c (tgt := 667) dL_law_754 (by decide) ?_
  have g9 := hI _ (Option.some.inj h).symm
  exact z_mask [true, true, true, false, true, false, false, false, true, true, false, false, false, false, false, false] rfl (z_drop hp g9)
set_option maxRecDepth 8000 in
theorem bL_law_b667 {K : KT} {w2 : Nat} {w4 : Nat} {w8 : Nat} {x9 : Int32} {r2 : Nat} {r4 : Nat} {r8 : Nat} {nw : Nat} {σ : LwS} {o : (Int32 × LwS) ⊕ (((LwS) ⊕ (LwS)))} {V Vc : Wl} {b Ln : Nat} {xs : Nat → Int32} (C : CZ K cL_law RL 16 40 6100 ret b Ln xs) (hp : Pf Vc V) (hN : V.length = nw) (hw2 : V[w2]? = some (r2, 63)) (hw4 : V[w4]? = some (r4, 26)) (hw8 : V[w8]? = some (r8, 60)) (hI : ∀ s' : Int32 × LwS, o = .inl s' → GZ K 6100 667 [some (.ref b), some (.ref (kad K 0)), some (.ref r2), none, some (.ref r4), none, none, none, some (.ref r8), some (.int s'.1), none, none, none, none, none, none] [] Vc s'.2) (hE0 : ∀ t : LwS, o = .inr (.inl t) → GZ K 6100 749 [none, none, none, none, none, none, none, none, none, none, none, none, none, none, none, none] [] Vc t) (hE1 : ∀ t : LwS, o = .inr (.inr t) → GZ K 6100 757 [none, some (.ref (kad K 0)), some (.ref r2), none, some (.ref r4), none, none, none, none, none, none, none, none, none, none, none] [] Vc t) (h : fL_law_b667 xs Ln w2 w4 w8 x9 nw σ = some o) : GZ K 6100 667 [some (.ref b), some (.ref (kad K 0)), some (.ref r2), none, some (.ref r4), none, none, none, some (.ref r8), some (.int x9), none, none, none, none, none, none] [] V σ := by
  unfold fL_law_b667 at h
  refine z_iload C.c dL_law_667 (i := 9) rfl ?_
  refine z_iconst C.c dL_law_669 (v := (2 : Int32)) (by decide) ?_
  refine z_icmp_ge C.c (tgt := 757) dL_law_670 (by decide) (fun c => ?_) (fun c => ?_)
  · replace h := ite_t c h
    have g9 := hE1 _ (Option.some.inj h).symm
    exact z_mask [false, true, true, false, true, false, false, false, false, false, false, false, false, false, false, false] rfl (z_drop hp g9)
  · replace h := ite_f c h
    refine z_iconst C.c dL_law_673 (v := (1 : Int32)) (by decide) ?_
    refine z_aload_n C.c dL_law_674 rfl (i := 0) rfl ?_
    refine z_bipush C.c dL_law_675 (v := (11 : Int32)) (by decide) ?_
    refine z_iload C.c dL_law_677 (i := 9) rfl ?_
    refine z_iadd C.c dL_law_679 ?_
    obtain ⟨p94, e95, h⟩ := Option.bind_eq_some_iff.mp h
    refine kz_8 C dL_law_680 e95 (Nat.le_of_ble_eq_true rfl) rfl (Nat.le_of_ble_eq_true rfl) ?_
    refine z_bipush C.c dL_law_683 (v := (11 : Int32)) (by decide) ?_
    refine z_iload C.c dL_law_685 (i := 9) rfl ?_
    refine z_isub C.c dL_law_687 ?_
    obtain ⟨p96, e97, h⟩ := Option.bind_eq_some_iff.mp h
    refine kz_14 C dL_law_688 e97 (Nat.le_of_ble_eq_true rfl) rfl (Nat.le_of_ble_eq_true rfl) ?_
    refine z_iadd C.c dL_law_691 ?_
    refine z_istore C.c (i := 10) (L' := [some (.ref b), some (.ref (kad K 0)), some (.ref r2), none, some (.ref r4), none, none, none, some (.ref r8), some (.int x9), some (.int ((1 : Int32) + p96.1)), none, none, none, none, none]) dL_law_692 (Nat.le_of_ble_eq_true rfl) rfl ?_
    refine z_aload_n C.c dL_law_694 rfl (i := 1) rfl ?_
    refine z_aload C.c dL_law_695 (i := 4) rfl ?_
    refine z_bipush C.c dL_law_697 (v := (25 : Int32)) (by decide) ?_
    refine z_iald C dL_law_699 hw4 (by decide) ?_
    refine z_aload C.c dL_law_700 (i := 8) rfl ?_
    refine z_iload C.c dL_law_702 (i := 10) rfl ?_
    refine z_iconst C.c dL_law_704 (v := (1 : Int32)) (by decide) ?_
    obtain ⟨c100, h⟩ := chk h
    obtain ⟨p98, e99, h⟩ := Option.bind_eq_some_iff.mp h
    refine kz_94 C hw8 hN dL_law_705 e99 (Nat.le_of_ble_eq_true rfl) rfl (Nat.le_of_ble_eq_true rfl) c100 ?_
    refine z_istore C.c (i := 11) (L' := [some (.ref b), some (.ref (kad K 0)), some (.ref r2), none, some (.ref r4), none, none, none, some (.ref r8), some (.int x9), some (.int ((1 : Int32) + p96.1)), some (.int p98.1), none, none, none, none]) dL_law_708 (Nat.le_of_ble_eq_true rfl) rfl ?_
    refine z_iload C.c dL_law_710 (i := 11) rfl ?_
    refine z_if_lt C.c (tgt := 749) dL_law_712 (by decide) (fun c => ?_) (fun c => ?_)
    · replace h := ite_t c h
      have g9 := hE0 _ (Option.some.inj h).symm
      exact z_mask [false, false, false, false, false, false, false, false, false, false, false, false, false, false, false, false] rfl (z_drop hp g9)
    · replace h := ite_f c h
      refine z_iload C.c dL_law_715 (i := 9) rfl ?_
      refine z_iconst C.c dL_law_717 (v := (1 : Int32)) (by decide) ?_
      refine z_icmp_ne C.c (tgt := 751) dL_law_718 (by decide) (fun c => ?_) (fun c => ?_)
      · replace h := ite_f c h
        exact z_mask [true, true, true, false, true, false, false, false, true, true, false, false, false, false, false, false] rfl (bL_law_b751 C hp hN hw2 hw4 hw8 hI hE0 hE1 h)
      · replace h := ite_t c h
        refine z_aload_n C.c dL_law_721 rfl (i := 1) rfl ?_
        refine z_iload C.c dL_law_722 (i := 10) rfl ?_
        obtain ⟨p101, e102, h⟩ := Option.bind_eq_some_iff.mp h
        refine kz_98 C dL_law_724 e102 (Nat.le_of_ble_eq_true rfl) rfl (Nat.le_of_ble_eq_true rfl) ?_
        refine z_aload_n C.c dL_law_727 rfl (i := 1) rfl ?_
        refine z_aload C.c dL_law_728 (i := 4) rfl ?_
        refine z_bipush C.c dL_law_730 (v := (25 : Int32)) (by decide) ?_
        refine z_iald C dL_law_732 hw4 (by decide) ?_
        refine z_aload C.c dL_law_733 (i := 8) rfl ?_
        refine z_iload C.c dL_law_735 (i := 10) rfl ?_
        refine z_iconst C.c dL_law_737 (v := (1 : Int32)) (by decide) ?_
        refine z_iadd C.c dL_law_738 ?_
        refine z_iconst C.c dL_law_739 (v := (0 : Int32)) (by decide) ?_
        obtain ⟨c105, h⟩ := chk h
        obtain ⟨p103, e104, h⟩ := Option.bind_eq_some_iff.mp h
        refine kz_94 C hw8 hN dL_law_740 e104 (Nat.le_of_ble_eq_true rfl) rfl (Nat.le_of_ble_eq_true rfl) c105 ?_
        refine z_iload C.c dL_law_743 (i := 11) rfl ?_
        refine z_isub C.c dL_law_745 ?_
        refine z_icmp_eq C.c (tgt := 751) dL_law_746 (by decide) (fun c => ?_) (fun c => ?_)
        · replace h := ite_t c h
          exact z_mask [true, true, true, false, true, false, false, false, true, true, false, false, false, false, false, false] rfl (bL_law_b751 C hp hN hw2 hw4 hw8 hI hE0 hE1 h)
        · replace h := ite_f c h
          have g9 := hE0 _ (Option.some.inj h).symm
          exact z_mask [false, false, false, false, false, false, false, false, false, false, false, false, false, false, false, false] rfl (z_drop hp g9)
set_option maxRecDepth 8000 in
theorem bL_law_b1078 {K : KT} {nw : Nat} {σ : LwS} {o : Int32 × LwS} {V Vc : Wl} {b Ln : Nat} {xs : Nat → Int32} (C : CZ K cL_law RL 16 40 6100 ret b Ln xs) (hp : Pf Vc V) (hN : V.length = nw)  (hQ : ∀ (pc : Nat) (L : List (Option Value)), decode cL_law pc = .ok (.ireturn, 1) → GZ K 6100 pc L [.int o.1] Vc o.2) (h : fL_law_b1078 xs Ln  nw σ = some o) : GZ K 6100 1078 [none, none, none, none, none, none, none, none, none, none, none, none, none, none, none, none] [] V σ := by
  unfold fL_law_b1078 at h
  refine z_iconst C.c dL_law_1078 (v := (1 : Int32)) (by decide) ?_
  refine z_goto C.c (tgt := 1083) dL_law_1079 (by decide) ?_
  obtain rfl := Option.some.inj h
  exact z_drop hp (hQ _ _ dL_law_1083)
set_option maxRecDepth 8000 in
theorem bL_law_b217 {K : KT} {w2 : Nat} {w4 : Nat} {w5 : Nat} {w6 : Nat} {y0 : Int32} {y1 : Int32} {y2 : Int32} {u3 : Nat} {r2 : Nat} {r4 : Nat} {r5 : Nat} {r6 : Nat} {v3 : Nat} {nw : Nat} {σ : LwS} {o : Int32 × LwS} {V Vc : Wl} {b Ln : Nat} {xs : Nat → Int32} (C : CZ K cL_law RL 16 40 6100 ret b Ln xs) (hp : Pf Vc V) (hN : V.length = nw) (hw2 : V[w2]? = some (r2, 63)) (hw4 : V[w4]? = some (r4, 26)) (hw5 : V[w5]? = some (r5, 3)) (hw6 : V[w6]? = some (r6, 6)) (hu3 : V[u3]? = some (v3, 3)) (hQ : ∀ (pc : Nat) (L : List (Option Value)), decode cL_law pc = .ok (.ireturn, 1) → GZ K 6100 pc L [.int o.1] Vc o.2) (h : fL_law_b217 xs Ln w2 w4 w5 w6 y0 y1 y2 u3 nw σ = some o) : GZ K 6100 217 [some (.ref b), some (.ref (kad K 0)), some (.ref r2), none, some (.ref r4), some (.ref r5), some (.ref r6), none, none, none, none, none, none, none, none, none] [.int y0, .int y1, .int y2, .ref v3] V σ := by
  unfold fL_law_b217 at h
  obtain ⟨p43, e44, h⟩ := Option.bind_eq_some_iff.mp h
  refine kz_14 C dL_law_217 e44 (Nat.le_of_ble_eq_true rfl) rfl (Nat.le_of_ble_eq_true rfl) ?_
  obtain ⟨c45, h⟩ := chk h
  refine z_iast C dL_law_220 hu3 c45 ?_
  refine z_aload C.c dL_law_221 (i := 5) rfl ?_
  refine z_iconst C.c dL_law_223 (v := (2 : Int32)) (by decide) ?_
  refine z_aload_n C.c dL_law_224 rfl (i := 0) rfl ?_
  refine z_bipush C.c dL_law_225 (v := (10 : Int32)) (by decide) ?_
  obtain ⟨p46, e47, h⟩ := Option.bind_eq_some_iff.mp h
  refine kz_8 C dL_law_227 e47 (Nat.le_of_ble_eq_true rfl) rfl (Nat.le_of_ble_eq_true rfl) ?_
  refine z_bipush C.c dL_law_230 (v := (8 : Int32)) (by decide) ?_
  refine z_ishr C.c dL_law_232 ?_
  refine z_bipush C.c dL_law_233 (v := (100 : Int32)) (by decide) ?_
  obtain ⟨p48, e49, h⟩ := Option.bind_eq_some_iff.mp h
  refine kz_14 C dL_law_235 e49 (Nat.le_of_ble_eq_true rfl) rfl (Nat.le_of_ble_eq_true rfl) ?_
  refine z_iast C dL_law_238 hw5 (by decide) ?_
  refine z_aload_n C.c dL_law_239 rfl (i := 1) rfl ?_
  refine z_iconst C.c dL_law_240 (v := (0 : Int32)) (by decide) ?_
  refine z_aload C.c dL_law_241 (i := 5) rfl ?_
  refine z_iconst C.c dL_law_243 (v := (0 : Int32)) (by decide) ?_
  refine z_iald C dL_law_244 hw5 (by decide) ?_
  obtain ⟨p50, e51, h⟩ := Option.bind_eq_some_iff.mp h
  refine kz_70 C dL_law_245 e51 (Nat.le_of_ble_eq_true rfl) rfl (Nat.le_of_ble_eq_true rfl) ?_
  refine z_iconst C.c dL_law_248 (v := (3 : Int32)) (by decide) ?_
  refine z_icmp_ne C.c (tgt := 279) dL_law_249 (by decide) (fun c => ?_) (fun c => ?_)
  · replace h := ite_f c h
    refine z_iconst C.c dL_law_279 (v := (0 : Int32)) (by decide) ?_
    obtain rfl := Option.some.inj h
    exact z_drop hp (hQ _ _ dL_law_280)
  · replace h := ite_t c h
    refine z_aload_n C.c dL_law_252 rfl (i := 1) rfl ?_
    refine z_iconst C.c dL_law_253 (v := (1 : Int32)) (by decide) ?_
    refine z_aload C.c dL_law_254 (i := 5) rfl ?_
    refine z_iconst C.c dL_law_256 (v := (1 : Int32)) (by decide) ?_
    refine z_iald C dL_law_257 hw5 (by decide) ?_
    obtain ⟨p52, e53, h⟩ := Option.bind_eq_some_iff.mp h
    refine kz_70 C dL_law_258 e53 (Nat.le_of_ble_eq_true rfl) rfl (Nat.le_of_ble_eq_true rfl) ?_
    refine z_iconst C.c dL_law_261 (v := (1 : Int32)) (by decide) ?_
    refine z_icmp_ne C.c (tgt := 279) dL_law_262 (by decide) (fun c => ?_) (fun c => ?_)
    · replace h := ite_f c h
      refine z_iconst C.c dL_law_279 (v := (0 : Int32)) (by decide) ?_
      obtain rfl := Option.some.inj h
      exact z_drop hp (hQ _ _ dL_law_280)
    · replace h := ite_t c h
      refine z_aload_n C.c dL_law_265 rfl (i := 1) rfl ?_
      refine z_iconst C.c dL_law_266 (v := (2 : Int32)) (by decide) ?_
      refine z_aload C.c dL_law_267 (i := 5) rfl ?_
      refine z_iconst C.c dL_law_269 (v := (2 : Int32)) (by decide) ?_
      refine z_iald C dL_law_270 hw5 (by decide) ?_
      obtain ⟨p54, e55, h⟩ := Option.bind_eq_some_iff.mp h
      refine kz_70 C dL_law_271 e55 (Nat.le_of_ble_eq_true rfl) rfl (Nat.le_of_ble_eq_true rfl) ?_
      refine z_bipush C.c dL_law_274 (v := (20 : Int32)) (by decide) ?_
      refine z_icmp_eq C.c (tgt := 281) dL_law_276 (by decide) (fun c => ?_) (fun c => ?_)
      · replace h := ite_t c h
        refine z_bipush C.c dL_law_281 (v := (60 : Int32)) (by decide) ?_
        obtain ⟨c56, h⟩ := chk h
        refine z_newI C (N := 60) dL_law_283 aw_68 (by decide) (by decide) (by decide) hN c56 (fun q57 => ?_)
        refine z_astore C.c (i := 8) (L' := [some (.ref b), some (.ref (kad K 0)), some (.ref r2), none, some (.ref r4), some (.ref r5), some (.ref r6), none, some (.ref q57), none, none, none, none, none, none, none]) dL_law_285 (Nat.le_of_ble_eq_true rfl) rfl ?_
        refine z_iconst C.c dL_law_287 (v := (0 : Int32)) (by decide) ?_
        refine z_istore C.c (i := 9) (L' := [some (.ref b), some (.ref (kad K 0)), some (.ref r2), none, some (.ref r4), some (.ref r5), some (.ref r6), none, some (.ref q57), some (.int (0 : Int32)), none, none, none, none, none, none]) dL_law_288 (Nat.le_of_ble_eq_true rfl) rfl ?_
        refine z_mask [true, true, true, false, true, true, true, false, true, true, false, false, false, false, false, false] rfl ?_
        refine lp_bind (Gh := fun s => GZ K 6100 290 [some (.ref b), some (.ref (kad K 0)), some (.ref r2), none, some (.ref r4), some (.ref r5), some (.ref r6), none, some (.ref q57), some (.int s.1), none, none, none, none, none, none] [] (V ++ [(q57, 60)]) s.2) h (fun s o2 hf gI gE => ?_)
        refine bL_law_b290 C Pf.rf (z_len hN) (z_up hw2) (z_up hw4) (z_up hw5) (z_up hw6) (z_new hN) gI (fun t92 e => ?_) (fun t92 e => ?_) (fun t92 e => ?_) (fun t92 e => ?_) (fun t92 e => ?_) (fun t92 e => ?_) hf
        · have h := el_l (gE _ e)
          refine z_iconst C.c dL_law_334 (v := (0 : Int32)) (by decide) ?_
          obtain rfl := Option.some.inj h
          exact z_drop (Pf.up hp) (hQ _ _ dL_law_335)
        · have h := el_l (el_r (gE _ e))
          refine z_iconst C.c dL_law_398 (v := (0 : Int32)) (by decide) ?_
          obtain rfl := Option.some.inj h
          exact z_drop (Pf.up hp) (hQ _ _ dL_law_399)
        · have h := el_l (el_r (el_r (gE _ e)))
          refine z_iconst C.c dL_law_497 (v := (0 : Int32)) (by decide) ?_
          obtain rfl := Option.some.inj h
          exact z_drop (Pf.up hp) (hQ _ _ dL_law_498)
        · have h := el_l (el_r (el_r (el_r (gE _ e))))
          refine z_iconst C.c dL_law_639 (v := (0 : Int32)) (by decide) ?_
          obtain rfl := Option.some.inj h
          exact z_drop (Pf.up hp) (hQ _ _ dL_law_640)
        · have h := el_l (el_r (el_r (el_r (el_r (gE _ e)))))
          refine z_iconst C.c dL_law_656 (v := (0 : Int32)) (by decide) ?_
          obtain rfl := Option.some.inj h
          exact z_drop (Pf.up hp) (hQ _ _ dL_law_657)
        · have h := el_r (el_r (el_r (el_r (el_r (gE _ e)))))
          refine z_iconst C.c dL_law_664 (v := (0 : Int32)) (by decide) ?_
          refine z_istore C.c (i := 9) (L' := [some (.ref b), some (.ref (kad K 0)), some (.ref r2), none, some (.ref r4), none, none, none, some (.ref q57), some (.int (0 : Int32)), none, none, none, none, none, none]) dL_law_665 (Nat.le_of_ble_eq_true rfl) rfl ?_
          refine z_mask [true, true, true, false, true, false, false, false, true, true, false, false, false, false, false, false] rfl ?_
          refine lp_bind (Gh := fun s => GZ K 6100 667 [some (.ref b), some (.ref (kad K 0)), some (.ref r2), none, some (.ref r4), none, none, none, some (.ref q57), some (.int s.1), none, none, none, none, none, none] [] (V ++ [(q57, 60)]) s.2) h (fun s o2 hf gI gE => ?_)
          refine bL_law_b667 C Pf.rf (z_len hN) (z_up hw2) (z_up hw4) (z_new hN) gI (fun t106 e => ?_) (fun t106 e => ?_) hf
          · have h := el_l (gE _ e)
            refine z_iconst C.c dL_law_749 (v := (0 : Int32)) (by decide) ?_
            obtain rfl := Option.some.inj h
            exact z_drop (Pf.up hp) (hQ _ _ dL_law_750)
          · have h := el_r (gE _ e)
            refine z_aload_n C.c dL_law_757 rfl (i := 1) rfl ?_
            refine z_aload_n C.c dL_law_758 rfl (i := 2) rfl ?_
            refine z_iconst C.c dL_law_759 (v := (0 : Int32)) (by decide) ?_
            refine z_iald C dL_law_760 (z_up hw2) (by decide) ?_
            refine z_aload_n C.c dL_law_761 rfl (i := 2) rfl ?_
            refine z_iconst C.c dL_law_762 (v := (1 : Int32)) (by decide) ?_
            refine z_iald C dL_law_763 (z_up hw2) (by decide) ?_
            refine z_imul C.c dL_law_764 ?_
            refine z_iconst C.c dL_law_765 (v := (0 : Int32)) (by decide) ?_
            obtain ⟨p108, e109, h⟩ := Option.bind_eq_some_iff.mp h
            refine kz_63 C dL_law_766 e109 (Nat.le_of_ble_eq_true rfl) rfl (Nat.le_of_ble_eq_true rfl) ?_
            refine z_bipush C.c dL_law_769 (v := (-101 : Int32)) (by decide) ?_
            refine z_icmp_ne C.c (tgt := 1082) dL_law_771 (by decide) (fun c => ?_) (fun c => ?_)
            · replace h := ite_f c h
              refine z_iconst C.c dL_law_1082 (v := (0 : Int32)) (by decide) ?_
              obtain rfl := Option.some.inj h
              exact z_drop (Pf.up hp) (hQ _ _ dL_law_1083)
            · replace h := ite_t c h
              refine z_aload_n C.c dL_law_774 rfl (i := 1) rfl ?_
              refine z_iconst C.c dL_law_775 (v := (0 : Int32)) (by decide) ?_
              refine z_iconst C.c dL_law_776 (v := (3 : Int32)) (by decide) ?_
              obtain ⟨p110, e111, h⟩ := Option.bind_eq_some_iff.mp h
              refine kz_63 C dL_law_777 e111 (Nat.le_of_ble_eq_true rfl) rfl (Nat.le_of_ble_eq_true rfl) ?_
              refine z_bipush C.c dL_law_780 (v := (-102 : Int32)) (by decide) ?_
              refine z_icmp_ne C.c (tgt := 1082) dL_law_782 (by decide) (fun c => ?_) (fun c => ?_)
              · replace h := ite_f c h
                refine z_iconst C.c dL_law_1082 (v := (0 : Int32)) (by decide) ?_
                obtain rfl := Option.some.inj h
                exact z_drop (Pf.up hp) (hQ _ _ dL_law_1083)
              · replace h := ite_t c h
                refine z_aload_n C.c dL_law_785 rfl (i := 1) rfl ?_
                refine z_aload C.c dL_law_786 (i := 4) rfl ?_
                refine z_bipush C.c dL_law_788 (v := (25 : Int32)) (by decide) ?_
                refine z_iald C dL_law_790 (z_up hw4) (by decide) ?_
                refine z_iconst C.c dL_law_791 (v := (0 : Int32)) (by decide) ?_
                obtain ⟨p112, e113, h⟩ := Option.bind_eq_some_iff.mp h
                refine kz_76 C dL_law_792 e113 (Nat.le_of_ble_eq_true rfl) rfl (Nat.le_of_ble_eq_true rfl) ?_
                refine z_bipush C.c dL_law_795 (v := (-101 : Int32)) (by decide) ?_
                refine z_icmp_ne C.c (tgt := 1082) dL_law_797 (by decide) (fun c => ?_) (fun c => ?_)
                · replace h := ite_f c h
                  refine z_iconst C.c dL_law_1082 (v := (0 : Int32)) (by decide) ?_
                  obtain rfl := Option.some.inj h
                  exact z_drop (Pf.up hp) (hQ _ _ dL_law_1083)
                · replace h := ite_t c h
                  refine z_aload_n C.c dL_law_800 rfl (i := 1) rfl ?_
                  refine z_aload C.c dL_law_801 (i := 4) rfl ?_
                  refine z_bipush C.c dL_law_803 (v := (25 : Int32)) (by decide) ?_
                  refine z_iald C dL_law_805 (z_up hw4) (by decide) ?_
                  refine z_iconst C.c dL_law_806 (v := (0 : Int32)) (by decide) ?_
                  obtain ⟨p114, e115, h⟩ := Option.bind_eq_some_iff.mp h
                  refine kz_73 C dL_law_807 e115 (Nat.le_of_ble_eq_true rfl) rfl (Nat.le_of_ble_eq_true rfl) ?_
                  refine z_bipush C.c dL_law_810 (v := (-101 : Int32)) (by decide) ?_
                  refine z_icmp_ne C.c (tgt := 1082) dL_law_812 (by decide) (fun c => ?_) (fun c => ?_)
                  · replace h := ite_f c h
                    refine z_iconst C.c dL_law_1082 (v := (0 : Int32)) (by decide) ?_
                    obtain rfl := Option.some.inj h
                    exact z_drop (Pf.up hp) (hQ _ _ dL_law_1083)
                  · replace h := ite_t c h
                    refine z_aload_n C.c dL_law_815 rfl (i := 1) rfl ?_
                    refine z_aload C.c dL_law_816 (i := 4) rfl ?_
                    refine z_bipush C.c dL_law_818 (v := (25 : Int32)) (by decide) ?_
                    refine z_iald C dL_law_820 (z_up hw4) (by decide) ?_
                    refine z_iconst C.c dL_law_821 (v := (2 : Int32)) (by decide) ?_
                    refine z_bipush C.c dL_law_822 (v := (10 : Int32)) (by decide) ?_
                    obtain ⟨p116, e117, h⟩ := Option.bind_eq_some_iff.mp h
                    refine kz_101 C dL_law_824 e117 (Nat.le_of_ble_eq_true rfl) rfl (Nat.le_of_ble_eq_true rfl) ?_
                    refine z_bipush C.c dL_law_827 (v := (-101 : Int32)) (by decide) ?_
                    refine z_icmp_ne C.c (tgt := 1082) dL_law_829 (by decide) (fun c => ?_) (fun c => ?_)
                    · replace h := ite_f c h
                      refine z_iconst C.c dL_law_1082 (v := (0 : Int32)) (by decide) ?_
                      obtain rfl := Option.some.inj h
                      exact z_drop (Pf.up hp) (hQ _ _ dL_law_1083)
                    · replace h := ite_t c h
                      refine z_aload_n C.c dL_law_832 rfl (i := 1) rfl ?_
                      refine z_iconst C.c dL_law_833 (v := (3 : Int32)) (by decide) ?_
                      refine z_iconst C.c dL_law_834 (v := (1 : Int32)) (by decide) ?_
                      obtain ⟨p118, e119, h⟩ := Option.bind_eq_some_iff.mp h
                      refine kz_70 C dL_law_835 e119 (Nat.le_of_ble_eq_true rfl) rfl (Nat.le_of_ble_eq_true rfl) ?_
                      refine z_bipush C.c dL_law_838 (v := (-102 : Int32)) (by decide) ?_
                      refine z_icmp_ne C.c (tgt := 1082) dL_law_840 (by decide) (fun c => ?_) (fun c => ?_)
                      · replace h := ite_f c h
                        refine z_iconst C.c dL_law_1082 (v := (0 : Int32)) (by decide) ?_
                        obtain rfl := Option.some.inj h
                        exact z_drop (Pf.up hp) (hQ _ _ dL_law_1083)
                      · replace h := ite_t c h
                        refine z_aload_n C.c dL_law_843 rfl (i := 1) rfl ?_
                        refine z_iconst C.c dL_law_844 (v := (0 : Int32)) (by decide) ?_
                        refine z_iconst C.c dL_law_845 (v := (0 : Int32)) (by decide) ?_
                        obtain ⟨p120, e121, h⟩ := Option.bind_eq_some_iff.mp h
                        refine kz_70 C dL_law_846 e121 (Nat.le_of_ble_eq_true rfl) rfl (Nat.le_of_ble_eq_true rfl) ?_
                        refine z_bipush C.c dL_law_849 (v := (-102 : Int32)) (by decide) ?_
                        refine z_icmp_ne C.c (tgt := 1082) dL_law_851 (by decide) (fun c => ?_) (fun c => ?_)
                        · replace h := ite_f c h
                          refine z_iconst C.c dL_law_1082 (v := (0 : Int32)) (by decide) ?_
                          obtain rfl := Option.some.inj h
                          exact z_drop (Pf.up hp) (hQ _ _ dL_law_1083)
                        · replace h := ite_t c h
                          refine z_aload_n C.c dL_law_854 rfl (i := 1) rfl ?_
                          refine z_iconst C.c dL_law_855 (v := (1 : Int32)) (by decide) ?_
                          refine z_bipush C.c dL_law_856 (v := (10 : Int32)) (by decide) ?_
                          obtain ⟨p122, e123, h⟩ := Option.bind_eq_some_iff.mp h
                          refine kz_70 C dL_law_858 e123 (Nat.le_of_ble_eq_true rfl) rfl (Nat.le_of_ble_eq_true rfl) ?_
                          refine z_bipush C.c dL_law_861 (v := (-102 : Int32)) (by decide) ?_
                          refine z_icmp_ne C.c (tgt := 1082) dL_law_863 (by decide) (fun c => ?_) (fun c => ?_)
                          · replace h := ite_f c h
                            refine z_iconst C.c dL_law_1082 (v := (0 : Int32)) (by decide) ?_
                            obtain rfl := Option.some.inj h
                            exact z_drop (Pf.up hp) (hQ _ _ dL_law_1083)
                          · replace h := ite_t c h
                            refine z_aload_n C.c dL_law_866 rfl (i := 1) rfl ?_
                            refine z_aload C.c dL_law_867 (i := 4) rfl ?_
                            refine z_bipush C.c dL_law_869 (v := (25 : Int32)) (by decide) ?_
                            refine z_iald C dL_law_871 (z_up hw4) (by decide) ?_
                            refine z_iconst C.c dL_law_872 (v := (1 : Int32)) (by decide) ?_
                            refine z_iconst C.c dL_law_873 (v := (0 : Int32)) (by decide) ?_
                            refine z_iconst C.c dL_law_874 (v := (0 : Int32)) (by decide) ?_
                            obtain ⟨p124, e125, h⟩ := Option.bind_eq_some_iff.mp h
                            refine kz_105 C dL_law_875 e125 (Nat.le_of_ble_eq_true rfl) rfl (Nat.le_of_ble_eq_true rfl) ?_
                            refine z_ldc C.c (v := (-100101 : Int32)) aw_683 dL_law_878 ?_
                            refine z_icmp_ne C.c (tgt := 1082) dL_law_880 (by decide) (fun c => ?_) (fun c => ?_)
                            · replace h := ite_f c h
                              refine z_iconst C.c dL_law_1082 (v := (0 : Int32)) (by decide) ?_
                              obtain rfl := Option.some.inj h
                              exact z_drop (Pf.up hp) (hQ _ _ dL_law_1083)
                            · replace h := ite_t c h
                              refine z_aload_n C.c dL_law_883 rfl (i := 1) rfl ?_
                              refine z_iconst C.c dL_law_884 (v := (-1 : Int32)) (by decide) ?_
                              obtain ⟨p126, e127, h⟩ := Option.bind_eq_some_iff.mp h
                              refine kz_84 C dL_law_885 e127 (Nat.le_of_ble_eq_true rfl) rfl (Nat.le_of_ble_eq_true rfl) ?_
                              refine z_bipush C.c dL_law_888 (v := (-101 : Int32)) (by decide) ?_
                              refine z_icmp_ne C.c (tgt := 1082) dL_law_890 (by decide) (fun c => ?_) (fun c => ?_)
                              · replace h := ite_f c h
                                refine z_iconst C.c dL_law_1082 (v := (0 : Int32)) (by decide) ?_
                                obtain rfl := Option.some.inj h
                                exact z_drop (Pf.up hp) (hQ _ _ dL_law_1083)
                              · replace h := ite_t c h
                                refine z_aload_n C.c dL_law_893 rfl (i := 1) rfl ?_
                                refine z_aload C.c dL_law_894 (i := 4) rfl ?_
                                refine z_bipush C.c dL_law_896 (v := (25 : Int32)) (by decide) ?_
                                refine z_iald C dL_law_898 (z_up hw4) (by decide) ?_
                                refine z_iconst C.c dL_law_899 (v := (0 : Int32)) (by decide) ?_
                                obtain ⟨p128, e129, h⟩ := Option.bind_eq_some_iff.mp h
                                refine kz_88 C dL_law_900 e129 (Nat.le_of_ble_eq_true rfl) rfl (Nat.le_of_ble_eq_true rfl) ?_
                                refine z_ldc C.c (v := (-100101 : Int32)) aw_683 dL_law_903 ?_
                                refine z_icmp_ne C.c (tgt := 1082) dL_law_905 (by decide) (fun c => ?_) (fun c => ?_)
                                · replace h := ite_f c h
                                  refine z_iconst C.c dL_law_1082 (v := (0 : Int32)) (by decide) ?_
                                  obtain rfl := Option.some.inj h
                                  exact z_drop (Pf.up hp) (hQ _ _ dL_law_1083)
                                · replace h := ite_t c h
                                  refine z_aload_n C.c dL_law_908 rfl (i := 1) rfl ?_
                                  refine z_iconst C.c dL_law_909 (v := (0 : Int32)) (by decide) ?_
                                  refine z_iconst C.c dL_law_910 (v := (0 : Int32)) (by decide) ?_
                                  obtain ⟨p130, e131, h⟩ := Option.bind_eq_some_iff.mp h
                                  refine kz_110 C dL_law_911 e131 (Nat.le_of_ble_eq_true rfl) rfl (Nat.le_of_ble_eq_true rfl) ?_
                                  refine z_bipush C.c dL_law_914 (v := (-102 : Int32)) (by decide) ?_
                                  refine z_icmp_ne C.c (tgt := 1082) dL_law_916 (by decide) (fun c => ?_) (fun c => ?_)
                                  · replace h := ite_f c h
                                    refine z_iconst C.c dL_law_1082 (v := (0 : Int32)) (by decide) ?_
                                    obtain rfl := Option.some.inj h
                                    exact z_drop (Pf.up hp) (hQ _ _ dL_law_1083)
                                  · replace h := ite_t c h
                                    refine z_aload_n C.c dL_law_919 rfl (i := 1) rfl ?_
                                    refine z_bipush C.c dL_law_920 (v := (12 : Int32)) (by decide) ?_
                                    refine z_iconst C.c dL_law_922 (v := (0 : Int32)) (by decide) ?_
                                    obtain ⟨p132, e133, h⟩ := Option.bind_eq_some_iff.mp h
                                    refine kz_110 C dL_law_923 e133 (Nat.le_of_ble_eq_true rfl) rfl (Nat.le_of_ble_eq_true rfl) ?_
                                    refine z_bipush C.c dL_law_926 (v := (-102 : Int32)) (by decide) ?_
                                    refine z_icmp_ne C.c (tgt := 1082) dL_law_928 (by decide) (fun c => ?_) (fun c => ?_)
                                    · replace h := ite_f c h
                                      refine z_iconst C.c dL_law_1082 (v := (0 : Int32)) (by decide) ?_
                                      obtain rfl := Option.some.inj h
                                      exact z_drop (Pf.up hp) (hQ _ _ dL_law_1083)
                                    · replace h := ite_t c h
                                      refine z_aload_n C.c dL_law_931 rfl (i := 1) rfl ?_
                                      refine z_iconst C.c dL_law_932 (v := (1 : Int32)) (by decide) ?_
                                      refine z_bipush C.c dL_law_933 (v := (6 : Int32)) (by decide) ?_
                                      obtain ⟨p134, e135, h⟩ := Option.bind_eq_some_iff.mp h
                                      refine kz_110 C dL_law_935 e135 (Nat.le_of_ble_eq_true rfl) rfl (Nat.le_of_ble_eq_true rfl) ?_
                                      refine z_bipush C.c dL_law_938 (v := (-102 : Int32)) (by decide) ?_
                                      refine z_icmp_ne C.c (tgt := 1082) dL_law_940 (by decide) (fun c => ?_) (fun c => ?_)
                                      · replace h := ite_f c h
                                        refine z_iconst C.c dL_law_1082 (v := (0 : Int32)) (by decide) ?_
                                        obtain rfl := Option.some.inj h
                                        exact z_drop (Pf.up hp) (hQ _ _ dL_law_1083)
                                      · replace h := ite_t c h
                                        refine z_aload_n C.c dL_law_943 rfl (i := 1) rfl ?_
                                        refine z_bipush C.c dL_law_944 (v := (11 : Int32)) (by decide) ?_
                                        obtain ⟨p136, e137, h⟩ := Option.bind_eq_some_iff.mp h
                                        refine kz_98 C dL_law_946 e137 (Nat.le_of_ble_eq_true rfl) rfl (Nat.le_of_ble_eq_true rfl) ?_
                                        refine z_bipush C.c dL_law_949 (v := (-102 : Int32)) (by decide) ?_
                                        refine z_icmp_ne C.c (tgt := 1082) dL_law_951 (by decide) (fun c => ?_) (fun c => ?_)
                                        · replace h := ite_f c h
                                          refine z_iconst C.c dL_law_1082 (v := (0 : Int32)) (by decide) ?_
                                          obtain rfl := Option.some.inj h
                                          exact z_drop (Pf.up hp) (hQ _ _ dL_law_1083)
                                        · replace h := ite_t c h
                                          refine z_aload_n C.c dL_law_954 rfl (i := 1) rfl ?_
                                          refine z_aload C.c dL_law_955 (i := 4) rfl ?_
                                          refine z_bipush C.c dL_law_957 (v := (25 : Int32)) (by decide) ?_
                                          refine z_iald C dL_law_959 (z_up hw4) (by decide) ?_
                                          refine z_iconst C.c dL_law_960 (v := (1 : Int32)) (by decide) ?_
                                          refine z_iconst C.c dL_law_961 (v := (0 : Int32)) (by decide) ?_
                                          refine z_iconst C.c dL_law_962 (v := (0 : Int32)) (by decide) ?_
                                          refine z_iconst C.c dL_law_963 (v := (0 : Int32)) (by decide) ?_
                                          obtain ⟨p138, e139, h⟩ := Option.bind_eq_some_iff.mp h
                                          refine kz_112 C dL_law_964 e139 (Nat.le_of_ble_eq_true rfl) rfl (Nat.le_of_ble_eq_true rfl) ?_
                                          refine z_bipush C.c dL_law_967 (v := (-101 : Int32)) (by decide) ?_
                                          refine z_icmp_ne C.c (tgt := 1082) dL_law_969 (by decide) (fun c => ?_) (fun c => ?_)
                                          · replace h := ite_f c h
                                            refine z_iconst C.c dL_law_1082 (v := (0 : Int32)) (by decide) ?_
                                            obtain rfl := Option.some.inj h
                                            exact z_drop (Pf.up hp) (hQ _ _ dL_law_1083)
                                          · replace h := ite_t c h
                                            refine z_aload_n C.c dL_law_972 rfl (i := 1) rfl ?_
                                            refine z_aload C.c dL_law_973 (i := 4) rfl ?_
                                            refine z_bipush C.c dL_law_975 (v := (25 : Int32)) (by decide) ?_
                                            refine z_iald C dL_law_977 (z_up hw4) (by decide) ?_
                                            refine z_iconst C.c dL_law_978 (v := (1 : Int32)) (by decide) ?_
                                            refine z_iconst C.c dL_law_979 (v := (0 : Int32)) (by decide) ?_
                                            refine z_iconst C.c dL_law_980 (v := (0 : Int32)) (by decide) ?_
                                            refine z_iconst C.c dL_law_981 (v := (0 : Int32)) (by decide) ?_
                                            obtain ⟨p140, e141, h⟩ := Option.bind_eq_some_iff.mp h
                                            refine kz_116 C dL_law_982 e141 (Nat.le_of_ble_eq_true rfl) rfl (Nat.le_of_ble_eq_true rfl) ?_
                                            refine z_bipush C.c dL_law_985 (v := (-101 : Int32)) (by decide) ?_
                                            refine z_icmp_ne C.c (tgt := 1082) dL_law_987 (by decide) (fun c => ?_) (fun c => ?_)
                                            · replace h := ite_f c h
                                              refine z_iconst C.c dL_law_1082 (v := (0 : Int32)) (by decide) ?_
                                              obtain rfl := Option.some.inj h
                                              exact z_drop (Pf.up hp) (hQ _ _ dL_law_1083)
                                            · replace h := ite_t c h
                                              refine z_aload C.c dL_law_990 (i := 4) rfl ?_
                                              refine z_bipush C.c dL_law_992 (v := (25 : Int32)) (by decide) ?_
                                              refine z_iald C dL_law_994 (z_up hw4) (by decide) ?_
                                              refine z_if_eq C.c (tgt := 1078) dL_law_995 (by decide) (fun c => ?_) (fun c => ?_)
                                              · replace h := ite_t c h
                                                exact z_mask [false, false, false, false, false, false, false, false, false, false, false, false, false, false, false, false] rfl (bL_law_b1078 C (Pf.up hp) (z_len hN) hQ h)
                                              · replace h := ite_f c h
                                                refine z_aload_n C.c dL_law_998 rfl (i := 1) rfl ?_
                                                refine z_iconst C.c dL_law_999 (v := (0 : Int32)) (by decide) ?_
                                                refine z_bipush C.c dL_law_1000 (v := (12 : Int32)) (by decide) ?_
                                                refine z_iconst C.c dL_law_1002 (v := (0 : Int32)) (by decide) ?_
                                                refine z_iconst C.c dL_law_1003 (v := (0 : Int32)) (by decide) ?_
                                                obtain ⟨p142, e143, h⟩ := Option.bind_eq_some_iff.mp h
                                                refine kz_105 C dL_law_1004 e143 (Nat.le_of_ble_eq_true rfl) rfl (Nat.le_of_ble_eq_true rfl) ?_
                                                refine z_ldc C.c (v := (-100102 : Int32)) aw_684 dL_law_1007 ?_
                                                refine z_icmp_ne C.c (tgt := 1082) dL_law_1009 (by decide) (fun c => ?_) (fun c => ?_)
                                                · replace h := ite_f c h
                                                  refine z_iconst C.c dL_law_1082 (v := (0 : Int32)) (by decide) ?_
                                                  obtain rfl := Option.some.inj h
                                                  exact z_drop (Pf.up hp) (hQ _ _ dL_law_1083)
                                                · replace h := ite_t c h
                                                  refine z_aload_n C.c dL_law_1012 rfl (i := 1) rfl ?_
                                                  refine z_iconst C.c dL_law_1013 (v := (0 : Int32)) (by decide) ?_
                                                  refine z_iconst C.c dL_law_1014 (v := (1 : Int32)) (by decide) ?_
                                                  refine z_iconst C.c dL_law_1015 (v := (0 : Int32)) (by decide) ?_
                                                  refine z_iconst C.c dL_law_1016 (v := (4 : Int32)) (by decide) ?_
                                                  obtain ⟨p144, e145, h⟩ := Option.bind_eq_some_iff.mp h
                                                  refine kz_105 C dL_law_1017 e145 (Nat.le_of_ble_eq_true rfl) rfl (Nat.le_of_ble_eq_true rfl) ?_
                                                  refine z_ldc C.c (v := (-100102 : Int32)) aw_684 dL_law_1020 ?_
                                                  refine z_icmp_ne C.c (tgt := 1082) dL_law_1022 (by decide) (fun c => ?_) (fun c => ?_)
                                                  · replace h := ite_f c h
                                                    refine z_iconst C.c dL_law_1082 (v := (0 : Int32)) (by decide) ?_
                                                    obtain rfl := Option.some.inj h
                                                    exact z_drop (Pf.up hp) (hQ _ _ dL_law_1083)
                                                  · replace h := ite_t c h
                                                    refine z_aload_n C.c dL_law_1025 rfl (i := 1) rfl ?_
                                                    refine z_iconst C.c dL_law_1026 (v := (0 : Int32)) (by decide) ?_
                                                    refine z_iconst C.c dL_law_1027 (v := (1 : Int32)) (by decide) ?_
                                                    refine z_iconst C.c dL_law_1028 (v := (1 : Int32)) (by decide) ?_
                                                    refine z_bipush C.c dL_law_1029 (v := (19 : Int32)) (by decide) ?_
                                                    obtain ⟨p146, e147, h⟩ := Option.bind_eq_some_iff.mp h
                                                    refine kz_105 C dL_law_1031 e147 (Nat.le_of_ble_eq_true rfl) rfl (Nat.le_of_ble_eq_true rfl) ?_
                                                    refine z_ldc C.c (v := (-100102 : Int32)) aw_684 dL_law_1034 ?_
                                                    refine z_icmp_ne C.c (tgt := 1082) dL_law_1036 (by decide) (fun c => ?_) (fun c => ?_)
                                                    · replace h := ite_f c h
                                                      refine z_iconst C.c dL_law_1082 (v := (0 : Int32)) (by decide) ?_
                                                      obtain rfl := Option.some.inj h
                                                      exact z_drop (Pf.up hp) (hQ _ _ dL_law_1083)
                                                    · replace h := ite_t c h
                                                      refine z_aload_n C.c dL_law_1039 rfl (i := 1) rfl ?_
                                                      refine z_iconst C.c dL_law_1040 (v := (0 : Int32)) (by decide) ?_
                                                      refine z_iconst C.c dL_law_1041 (v := (3 : Int32)) (by decide) ?_
                                                      obtain ⟨p148, e149, h⟩ := Option.bind_eq_some_iff.mp h
                                                      refine kz_88 C dL_law_1042 e149 (Nat.le_of_ble_eq_true rfl) rfl (Nat.le_of_ble_eq_true rfl) ?_
                                                      refine z_ldc C.c (v := (-100102 : Int32)) aw_684 dL_law_1045 ?_
                                                      refine z_icmp_ne C.c (tgt := 1082) dL_law_1047 (by decide) (fun c => ?_) (fun c => ?_)
                                                      · replace h := ite_f c h
                                                        refine z_iconst C.c dL_law_1082 (v := (0 : Int32)) (by decide) ?_
                                                        obtain rfl := Option.some.inj h
                                                        exact z_drop (Pf.up hp) (hQ _ _ dL_law_1083)
                                                      · replace h := ite_t c h
                                                        refine z_aload_n C.c dL_law_1050 rfl (i := 1) rfl ?_
                                                        refine z_iconst C.c dL_law_1051 (v := (0 : Int32)) (by decide) ?_
                                                        refine z_iconst C.c dL_law_1052 (v := (1 : Int32)) (by decide) ?_
                                                        refine z_iconst C.c dL_law_1053 (v := (0 : Int32)) (by decide) ?_
                                                        refine z_iconst C.c dL_law_1054 (v := (-1 : Int32)) (by decide) ?_
                                                        refine z_iconst C.c dL_law_1055 (v := (0 : Int32)) (by decide) ?_
                                                        obtain ⟨p150, e151, h⟩ := Option.bind_eq_some_iff.mp h
                                                        refine kz_112 C dL_law_1056 e151 (Nat.le_of_ble_eq_true rfl) rfl (Nat.le_of_ble_eq_true rfl) ?_
                                                        refine z_bipush C.c dL_law_1059 (v := (-102 : Int32)) (by decide) ?_
                                                        refine z_icmp_ne C.c (tgt := 1082) dL_law_1061 (by decide) (fun c => ?_) (fun c => ?_)
                                                        · replace h := ite_f c h
                                                          refine z_iconst C.c dL_law_1082 (v := (0 : Int32)) (by decide) ?_
                                                          obtain rfl := Option.some.inj h
                                                          exact z_drop (Pf.up hp) (hQ _ _ dL_law_1083)
                                                        · replace h := ite_t c h
                                                          refine z_aload_n C.c dL_law_1064 rfl (i := 1) rfl ?_
                                                          refine z_iconst C.c dL_law_1065 (v := (0 : Int32)) (by decide) ?_
                                                          refine z_iconst C.c dL_law_1066 (v := (1 : Int32)) (by decide) ?_
                                                          refine z_iconst C.c dL_law_1067 (v := (0 : Int32)) (by decide) ?_
                                                          refine z_iconst C.c dL_law_1068 (v := (0 : Int32)) (by decide) ?_
                                                          refine z_iconst C.c dL_law_1069 (v := (3 : Int32)) (by decide) ?_
                                                          obtain ⟨p152, e153, h⟩ := Option.bind_eq_some_iff.mp h
                                                          refine kz_112 C dL_law_1070 e153 (Nat.le_of_ble_eq_true rfl) rfl (Nat.le_of_ble_eq_true rfl) ?_
                                                          refine z_bipush C.c dL_law_1073 (v := (-102 : Int32)) (by decide) ?_
                                                          refine z_icmp_ne C.c (tgt := 1082) dL_law_1075 (by decide) (fun c => ?_) (fun c => ?_)
                                                          · replace h := ite_f c h
                                                            refine z_iconst C.c dL_law_1082 (v := (0 : Int32)) (by decide) ?_
                                                            obtain rfl := Option.some.inj h
                                                            exact z_drop (Pf.up hp) (hQ _ _ dL_law_1083)
                                                          · replace h := ite_t c h
                                                            exact z_mask [false, false, false, false, false, false, false, false, false, false, false, false, false, false, false, false] rfl (bL_law_b1078 C (Pf.up hp) (z_len hN) hQ h)
      · replace h := ite_f c h
        refine z_iconst C.c dL_law_279 (v := (0 : Int32)) (by decide) ?_
        obtain rfl := Option.some.inj h
        exact z_drop hp (hQ _ _ dL_law_280)
set_option maxRecDepth 8000 in
theorem bL_law_b8 {K : KT} {nw : Nat} {σ : LwS} {o : Int32 × LwS} {V Vc : Wl} {b Ln : Nat} {xs : Nat → Int32} (C : CZ K cL_law RL 16 40 6100 ret b Ln xs) (hp : Pf Vc V) (hN : V.length = nw)  (hQ : ∀ (pc : Nat) (L : List (Option Value)), decode cL_law pc = .ok (.ireturn, 1) → GZ K 6100 pc L [.int o.1] Vc o.2) (h : fL_law_b8 xs Ln  nw σ = some o) : GZ K 6100 8 [some (.ref b), some (.ref (kad K 0)), none, none, none, none, none, none, none, none, none, none, none, none, none, none] [] V σ := by
  unfold fL_law_b8 at h
  refine z_bipush C.c dL_law_8 (v := (63 : Int32)) (by decide) ?_
  obtain ⟨c1, h⟩ := chk h
  refine z_newI C (N := 63) dL_law_10 aw_68 (by decide) (by decide) (by decide) hN c1 (fun q2 => ?_)
  refine z_astore_n C.c (i := 2) (L' := [some (.ref b), some (.ref (kad K 0)), some (.ref q2), none, none, none, none, none, none, none, none, none, none, none, none, none]) dL_law_12 rfl (Nat.le_of_ble_eq_true rfl) rfl ?_
  refine z_bipush C.c dL_law_13 (v := (64 : Int32)) (by decide) ?_
  obtain ⟨c3, h⟩ := chk h
  refine z_newI C (N := 64) dL_law_15 aw_68 (by decide) (by decide) (by decide) (z_len hN) c3 (fun q4 => ?_)
  refine z_astore_n C.c (i := 3) (L' := [some (.ref b), some (.ref (kad K 0)), some (.ref q2), some (.ref q4), none, none, none, none, none, none, none, none, none, none, none, none]) dL_law_17 rfl (Nat.le_of_ble_eq_true rfl) rfl ?_
  refine z_bipush C.c dL_law_18 (v := (26 : Int32)) (by decide) ?_
  obtain ⟨c5, h⟩ := chk h
  refine z_newI C (N := 26) dL_law_20 aw_68 (by decide) (by decide) (by decide) (z_len (z_len hN)) c5 (fun q6 => ?_)
  refine z_astore C.c (i := 4) (L' := [some (.ref b), some (.ref (kad K 0)), some (.ref q2), some (.ref q4), some (.ref q6), none, none, none, none, none, none, none, none, none, none, none]) dL_law_22 (Nat.le_of_ble_eq_true rfl) rfl ?_
  refine z_iconst C.c dL_law_24 (v := (3 : Int32)) (by decide) ?_
  obtain ⟨c7, h⟩ := chk h
  refine z_newI C (N := 3) dL_law_25 aw_68 (by decide) (by decide) (by decide) (z_len (z_len (z_len hN))) c7 (fun q8 => ?_)
  refine z_astore C.c (i := 5) (L' := [some (.ref b), some (.ref (kad K 0)), some (.ref q2), some (.ref q4), some (.ref q6), some (.ref q8), none, none, none, none, none, none, none, none, none, none]) dL_law_27 (Nat.le_of_ble_eq_true rfl) rfl ?_
  refine z_bipush C.c dL_law_29 (v := (6 : Int32)) (by decide) ?_
  obtain ⟨c9, h⟩ := chk h
  refine z_newI C (N := 6) dL_law_31 aw_68 (by decide) (by decide) (by decide) (z_len (z_len (z_len (z_len hN)))) c9 (fun q10 => ?_)
  refine z_astore C.c (i := 6) (L' := [some (.ref b), some (.ref (kad K 0)), some (.ref q2), some (.ref q4), some (.ref q6), some (.ref q8), some (.ref q10), none, none, none, none, none, none, none, none, none]) dL_law_33 (Nat.le_of_ble_eq_true rfl) rfl ?_
  refine z_aload_n C.c dL_law_35 rfl (i := 0) rfl ?_
  refine z_iconst C.c dL_law_36 (v := (0 : Int32)) (by decide) ?_
  refine z_aload_n C.c dL_law_37 rfl (i := 2) rfl ?_
  refine z_aload_n C.c dL_law_38 rfl (i := 3) rfl ?_
  obtain ⟨p11, e12, h⟩ := Option.bind_eq_some_iff.mp h
  refine kz_48 C (z_up (z_up (z_up (z_up (z_new hN))))) (z_up (z_up (z_up (z_new (z_len hN))))) dL_law_39 e12 (Nat.le_of_ble_eq_true rfl) rfl (Nat.le_of_ble_eq_true rfl) ?_
  refine z_istore C.c (i := 7) (L' := [some (.ref b), some (.ref (kad K 0)), some (.ref q2), some (.ref q4), some (.ref q6), some (.ref q8), some (.ref q10), some (.int p11.1), none, none, none, none, none, none, none, none]) dL_law_42 (Nat.le_of_ble_eq_true rfl) rfl ?_
  refine z_aload_n C.c dL_law_44 rfl (i := 1) rfl ?_
  refine z_aload_n C.c dL_law_45 rfl (i := 3) rfl ?_
  refine z_iload C.c dL_law_46 (i := 7) rfl ?_
  obtain ⟨p13, e14, h⟩ := Option.bind_eq_some_iff.mp h
  refine kz_52 C (z_up (z_up (z_up (z_new (z_len hN))))) dL_law_48 e14 (Nat.le_of_ble_eq_true rfl) rfl (Nat.le_of_ble_eq_true rfl) ?_
  refine z_if_eq C.c (tgt := 77) dL_law_51 (by decide) (fun c => ?_) (fun c => ?_)
  · replace h := ite_t c h
    refine z_iconst C.c dL_law_77 (v := (0 : Int32)) (by decide) ?_
    obtain rfl := Option.some.inj h
    exact z_drop (Pf.up (Pf.up (Pf.up (Pf.up (Pf.up hp))))) (hQ _ _ dL_law_78)
  · replace h := ite_f c h
    refine z_aload_n C.c dL_law_54 rfl (i := 1) rfl ?_
    obtain ⟨p15, e16, h⟩ := Option.bind_eq_some_iff.mp h
    refine kz_56 C dL_law_55 e16 (Nat.le_of_ble_eq_true rfl) rfl (Nat.le_of_ble_eq_true rfl) ?_
    refine z_iload C.c dL_law_58 (i := 7) rfl ?_
    refine z_icmp_ne C.c (tgt := 77) dL_law_60 (by decide) (fun c => ?_) (fun c => ?_)
    · replace h := ite_f c h
      refine z_iconst C.c dL_law_77 (v := (0 : Int32)) (by decide) ?_
      obtain rfl := Option.some.inj h
      exact z_drop (Pf.up (Pf.up (Pf.up (Pf.up (Pf.up hp))))) (hQ _ _ dL_law_78)
    · replace h := ite_t c h
      refine z_aload_n C.c dL_law_63 rfl (i := 1) rfl ?_
      obtain ⟨p17, e18, h⟩ := Option.bind_eq_some_iff.mp h
      refine kz_60 C dL_law_64 e18 (Nat.le_of_ble_eq_true rfl) rfl (Nat.le_of_ble_eq_true rfl) ?_
      refine z_aload_n C.c dL_law_67 rfl (i := 2) rfl ?_
      refine z_iconst C.c dL_law_68 (v := (0 : Int32)) (by decide) ?_
      refine z_iald C dL_law_69 (z_up (z_up (z_up (z_up (z_new hN))))) (by decide) ?_
      refine z_aload_n C.c dL_law_70 rfl (i := 2) rfl ?_
      refine z_iconst C.c dL_law_71 (v := (1 : Int32)) (by decide) ?_
      refine z_iald C dL_law_72 (z_up (z_up (z_up (z_up (z_new hN))))) (by decide) ?_
      refine z_imul C.c dL_law_73 ?_
      refine z_icmp_eq C.c (tgt := 79) dL_law_74 (by decide) (fun c => ?_) (fun c => ?_)
      · replace h := ite_t c h
        refine z_iconst C.c dL_law_79 (v := (0 : Int32)) (by decide) ?_
        refine z_istore C.c (i := 8) (L' := [some (.ref b), some (.ref (kad K 0)), some (.ref q2), some (.ref q4), some (.ref q6), some (.ref q8), some (.ref q10), some (.int p11.1), some (.int (0 : Int32)), none, none, none, none, none, none, none]) dL_law_80 (Nat.le_of_ble_eq_true rfl) rfl ?_
        refine z_mask [true, true, true, false, true, true, true, false, true, false, false, false, false, false, false, false] rfl ?_
        refine lp_bind (Gh := fun s => GZ K 6100 82 [some (.ref b), some (.ref (kad K 0)), some (.ref q2), none, some (.ref q6), some (.ref q8), some (.ref q10), none, some (.int s.1), none, none, none, none, none, none, none] [] (((((V ++ [(q2, 63)]) ++ [(q4, 64)]) ++ [(q6, 26)]) ++ [(q8, 3)]) ++ [(q10, 6)]) s.2) h (fun s o2 hf gI gE => ?_)
        refine bL_law_b82 C Pf.rf (z_len (z_len (z_len (z_len (z_len hN))))) (z_up (z_up (z_up (z_up (z_new hN))))) (z_up (z_up (z_new (z_len (z_len hN))))) (z_up (z_new (z_len (z_len (z_len hN))))) (z_new (z_len (z_len (z_len (z_len hN))))) gI (fun t29 e => ?_) (fun t29 e => ?_) hf
        · have h := el_l (gE _ e)
          refine z_iconst C.c dL_law_143 (v := (0 : Int32)) (by decide) ?_
          obtain rfl := Option.some.inj h
          exact z_drop (Pf.up (Pf.up (Pf.up (Pf.up (Pf.up hp))))) (hQ _ _ dL_law_144)
        · have h := el_r (gE _ e)
          refine z_aload_n C.c dL_law_151 rfl (i := 1) rfl ?_
          refine z_aload_n C.c dL_law_152 rfl (i := 0) rfl ?_
          refine z_bipush C.c dL_law_153 (v := (7 : Int32)) (by decide) ?_
          refine z_iconst C.c dL_law_155 (v := (3 : Int32)) (by decide) ?_
          refine z_aload_n C.c dL_law_156 rfl (i := 2) rfl ?_
          refine z_aload C.c dL_law_157 (i := 4) rfl ?_
          obtain ⟨p31, e32, h⟩ := Option.bind_eq_some_iff.mp h
          refine kz_66 C (z_up (z_up (z_up (z_up (z_new hN))))) (z_up (z_up (z_new (z_len (z_len hN))))) dL_law_159 e32 (Nat.le_of_ble_eq_true rfl) rfl (Nat.le_of_ble_eq_true rfl) ?_
          refine z_if_ne C.c (tgt := 167) dL_law_162 (by decide) (fun c => ?_) (fun c => ?_)
          · replace h := ite_f c h
            refine z_aload C.c dL_law_167 (i := 5) rfl ?_
            refine z_iconst C.c dL_law_169 (v := (0 : Int32)) (by decide) ?_
            refine z_iconst C.c dL_law_170 (v := (1 : Int32)) (by decide) ?_
            refine z_aload_n C.c dL_law_171 rfl (i := 0) rfl ?_
            refine z_bipush C.c dL_law_172 (v := (10 : Int32)) (by decide) ?_
            obtain ⟨p33, e34, h⟩ := Option.bind_eq_some_iff.mp h
            refine kz_8 C dL_law_174 e34 (Nat.le_of_ble_eq_true rfl) rfl (Nat.le_of_ble_eq_true rfl) ?_
            refine z_bipush C.c dL_law_177 (v := (9 : Int32)) (by decide) ?_
            obtain ⟨p35, e36, h⟩ := Option.bind_eq_some_iff.mp h
            refine kz_14 C dL_law_179 e36 (Nat.le_of_ble_eq_true rfl) rfl (Nat.le_of_ble_eq_true rfl) ?_
            refine z_iadd C.c dL_law_182 ?_
            refine z_iast C dL_law_183 (z_up (z_new (z_len (z_len (z_len hN))))) (by decide) ?_
            refine z_aload C.c dL_law_184 (i := 5) rfl ?_
            refine z_iconst C.c dL_law_186 (v := (1 : Int32)) (by decide) ?_
            refine z_aload_n C.c dL_law_187 rfl (i := 0) rfl ?_
            refine z_bipush C.c dL_law_188 (v := (10 : Int32)) (by decide) ?_
            obtain ⟨p37, e38, h⟩ := Option.bind_eq_some_iff.mp h
            refine kz_8 C dL_law_190 e38 (Nat.le_of_ble_eq_true rfl) rfl (Nat.le_of_ble_eq_true rfl) ?_
            refine z_iconst C.c dL_law_193 (v := (4 : Int32)) (by decide) ?_
            refine z_ishr C.c dL_law_194 ?_
            refine z_aload_n C.c dL_law_195 rfl (i := 0) rfl ?_
            refine z_bipush C.c dL_law_196 (v := (10 : Int32)) (by decide) ?_
            obtain ⟨p39, e40, h⟩ := Option.bind_eq_some_iff.mp h
            refine kz_8 C dL_law_198 e40 (Nat.le_of_ble_eq_true rfl) rfl (Nat.le_of_ble_eq_true rfl) ?_
            refine z_bipush C.c dL_law_201 (v := (20 : Int32)) (by decide) ?_
            refine z_ishr C.c dL_law_203 ?_
            refine z_iconst C.c dL_law_204 (v := (2 : Int32)) (by decide) ?_
            obtain ⟨p41, e42, h⟩ := Option.bind_eq_some_iff.mp h
            refine kz_14 C dL_law_205 e42 (Nat.le_of_ble_eq_true rfl) rfl (Nat.le_of_ble_eq_true rfl) ?_
            refine z_if_ne C.c (tgt := 216) dL_law_208 (by decide) (fun c => ?_) (fun c => ?_)
            · replace h := ite_f c h
              refine z_iconst C.c dL_law_216 (v := (2 : Int32)) (by decide) ?_
              exact z_mask [true, true, true, false, true, true, true, false, false, false, false, false, false, false, false, false] rfl (bL_law_b217 C (Pf.up (Pf.up (Pf.up (Pf.up (Pf.up hp))))) (z_len (z_len (z_len (z_len (z_len hN))))) (z_up (z_up (z_up (z_up (z_new hN))))) (z_up (z_up (z_new (z_len (z_len hN))))) (z_up (z_new (z_len (z_len (z_len hN))))) (z_new (z_len (z_len (z_len (z_len hN))))) (z_up (z_new (z_len (z_len (z_len hN))))) hQ h)
            · replace h := ite_t c h
              refine z_bipush C.c dL_law_211 (v := (10 : Int32)) (by decide) ?_
              refine z_goto C.c (tgt := 217) dL_law_213 (by decide) ?_
              exact z_mask [true, true, true, false, true, true, true, false, false, false, false, false, false, false, false, false] rfl (bL_law_b217 C (Pf.up (Pf.up (Pf.up (Pf.up (Pf.up hp))))) (z_len (z_len (z_len (z_len (z_len hN))))) (z_up (z_up (z_up (z_up (z_new hN))))) (z_up (z_up (z_new (z_len (z_len hN))))) (z_up (z_new (z_len (z_len (z_len hN))))) (z_new (z_len (z_len (z_len (z_len hN))))) (z_up (z_new (z_len (z_len (z_len hN))))) hQ h)
          · replace h := ite_t c h
            refine z_iconst C.c dL_law_165 (v := (0 : Int32)) (by decide) ?_
            obtain rfl := Option.some.inj h
            exact z_drop (Pf.up (Pf.up (Pf.up (Pf.up (Pf.up hp))))) (hQ _ _ dL_law_166)
      · replace h := ite_f c h
        refine z_iconst C.c dL_law_77 (v := (0 : Int32)) (by decide) ?_
        obtain rfl := Option.some.inj h
        exact z_drop (Pf.up (Pf.up (Pf.up (Pf.up (Pf.up hp))))) (hQ _ _ dL_law_78)
