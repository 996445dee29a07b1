-- L_tows
theorem dL_tows_0 : decode cL_tows 0 = .ok (.bipush 6, 2) := by decide +kernel
theorem dL_tows_2 : decode cL_tows 2 = .ok (.newarray .int, 2) := by decide +kernel
theorem dL_tows_4 : decode cL_tows 4 = .ok (.astore 6, 2) := by decide +kernel
theorem dL_tows_6 : decode cL_tows 6 = .ok (.aload_n 1, 1) := by decide +kernel
theorem dL_tows_7 : decode cL_tows 7 = .ok (.bipush 13, 2) := by decide +kernel
theorem dL_tows_9 : decode cL_tows 9 = .ok (.iload 5, 2) := by decide +kernel
theorem dL_tows_11 : decode cL_tows 11 = .ok (.iadd, 1) := by decide +kernel
theorem dL_tows_12 : decode cL_tows 12 = .ok (.invokestatic 8, 3) := by decide +kernel
theorem dL_tows_15 : decode cL_tows 15 = .ok (.istore 7, 2) := by decide +kernel
theorem dL_tows_17 : decode cL_tows 17 = .ok (.iconst 1, 1) := by decide +kernel
theorem dL_tows_18 : decode cL_tows 18 = .ok (.iload 7, 2) := by decide +kernel
theorem dL_tows_20 : decode cL_tows 20 = .ok (.bipush 11, 2) := by decide +kernel
theorem dL_tows_22 : decode cL_tows 22 = .ok (.invokestatic 14, 3) := by decide +kernel
theorem dL_tows_25 : decode cL_tows 25 = .ok (.iadd, 1) := by decide +kernel
theorem dL_tows_26 : decode cL_tows 26 = .ok (.istore 8, 2) := by decide +kernel
theorem dL_tows_28 : decode cL_tows 28 = .ok (.iload 7, 2) := by decide +kernel
theorem dL_tows_30 : decode cL_tows 30 = .ok (.iconst 4, 1) := by decide +kernel
theorem dL_tows_31 : decode cL_tows 31 = .ok (.ishr, 1) := by decide +kernel
theorem dL_tows_32 : decode cL_tows 32 = .ok (.iconst 2, 1) := by decide +kernel
theorem dL_tows_33 : decode cL_tows 33 = .ok (.invokestatic 14, 3) := by decide +kernel
theorem dL_tows_36 : decode cL_tows 36 = .ok (.ifCond .ne 7, 3) := by decide +kernel
theorem dL_tows_39 : decode cL_tows 39 = .ok (.iconst 1, 1) := by decide +kernel
theorem dL_tows_40 : decode cL_tows 40 = .ok (.goto 4, 3) := by decide +kernel
theorem dL_tows_43 : decode cL_tows 43 = .ok (.iconst 0, 1) := by decide +kernel
theorem dL_tows_44 : decode cL_tows 44 = .ok (.istore 9, 2) := by decide +kernel
theorem dL_tows_46 : decode cL_tows 46 = .ok (.aload_n 1, 1) := by decide +kernel
theorem dL_tows_47 : decode cL_tows 47 = .ok (.bipush 16, 2) := by decide +kernel
theorem dL_tows_49 : decode cL_tows 49 = .ok (.iload 5, 2) := by decide +kernel
theorem dL_tows_51 : decode cL_tows 51 = .ok (.iadd, 1) := by decide +kernel
theorem dL_tows_52 : decode cL_tows 52 = .ok (.invokestatic 8, 3) := by decide +kernel
theorem dL_tows_55 : decode cL_tows 55 = .ok (.ldc 120, 2) := by decide +kernel
theorem dL_tows_57 : decode cL_tows 57 = .ok (.iand, 1) := by decide +kernel
theorem dL_tows_58 : decode cL_tows 58 = .ok (.istore 10, 2) := by decide +kernel
theorem dL_tows_60 : decode cL_tows 60 = .ok (.aload_n 2, 1) := by decide +kernel
theorem dL_tows_61 : decode cL_tows 61 = .ok (.aload_n 3, 1) := by decide +kernel
theorem dL_tows_62 : decode cL_tows 62 = .ok (.iconst 5, 1) := by decide +kernel
theorem dL_tows_63 : decode cL_tows 63 = .ok (.iload 5, 2) := by decide +kernel
theorem dL_tows_65 : decode cL_tows 65 = .ok (.imul, 1) := by decide +kernel
theorem dL_tows_66 : decode cL_tows 66 = .ok (.iload 8, 2) := by decide +kernel
theorem dL_tows_68 : decode cL_tows 68 = .ok (.iload 9, 2) := by decide +kernel
theorem dL_tows_70 : decode cL_tows 70 = .ok (.aload 4, 2) := by decide +kernel
theorem dL_tows_72 : decode cL_tows 72 = .ok (.aload 6, 2) := by decide +kernel
theorem dL_tows_74 : decode cL_tows 74 = .ok (.invokestatic 80, 3) := by decide +kernel
theorem dL_tows_77 : decode cL_tows 77 = .ok (.aload 6, 2) := by decide +kernel
theorem dL_tows_79 : decode cL_tows 79 = .ok (.iconst 5, 1) := by decide +kernel
theorem dL_tows_80 : decode cL_tows 80 = .ok (.iaload, 1) := by decide +kernel
theorem dL_tows_81 : decode cL_tows 81 = .ok (.ifCond .ne 76, 3) := by decide +kernel
theorem dL_tows_84 : decode cL_tows 84 = .ok (.aload_n 0, 1) := by decide +kernel
theorem dL_tows_85 : decode cL_tows 85 = .ok (.iload 5, 2) := by decide +kernel
theorem dL_tows_87 : decode cL_tows 87 = .ok (.iload 8, 2) := by decide +kernel
theorem dL_tows_89 : decode cL_tows 89 = .ok (.iload 9, 2) := by decide +kernel
theorem dL_tows_91 : decode cL_tows 91 = .ok (.iconst 0, 1) := by decide +kernel
theorem dL_tows_92 : decode cL_tows 92 = .ok (.invokevirtual 105, 3) := by decide +kernel
theorem dL_tows_95 : decode cL_tows 95 = .ok (.ldc 79, 2) := by decide +kernel
theorem dL_tows_97 : decode cL_tows 97 = .ok (.if_icmp .ne 58, 3) := by decide +kernel
theorem dL_tows_100 : decode cL_tows 100 = .ok (.aload_n 0, 1) := by decide +kernel
theorem dL_tows_101 : decode cL_tows 101 = .ok (.iload 5, 2) := by decide +kernel
theorem dL_tows_103 : decode cL_tows 103 = .ok (.iload 8, 2) := by decide +kernel
theorem dL_tows_105 : decode cL_tows 105 = .ok (.iload 9, 2) := by decide +kernel
theorem dL_tows_107 : decode cL_tows 107 = .ok (.bipush 10, 2) := by decide +kernel
theorem dL_tows_109 : decode cL_tows 109 = .ok (.invokevirtual 105, 3) := by decide +kernel
theorem dL_tows_112 : decode cL_tows 112 = .ok (.ldc 79, 2) := by decide +kernel
theorem dL_tows_114 : decode cL_tows 114 = .ok (.if_icmp .ne 41, 3) := by decide +kernel
theorem dL_tows_117 : decode cL_tows 117 = .ok (.aload_n 0, 1) := by decide +kernel
theorem dL_tows_118 : decode cL_tows 118 = .ok (.iload 5, 2) := by decide +kernel
theorem dL_tows_120 : decode cL_tows 120 = .ok (.iload 8, 2) := by decide +kernel
theorem dL_tows_122 : decode cL_tows 122 = .ok (.iload 9, 2) := by decide +kernel
theorem dL_tows_124 : decode cL_tows 124 = .ok (.iload 10, 2) := by decide +kernel
theorem dL_tows_126 : decode cL_tows 126 = .ok (.iconst 0, 1) := by decide +kernel
theorem dL_tows_127 : decode cL_tows 127 = .ok (.invokevirtual 112, 3) := by decide +kernel
theorem dL_tows_130 : decode cL_tows 130 = .ok (.iconst (-1), 1) := by decide +kernel
theorem dL_tows_131 : decode cL_tows 131 = .ok (.if_icmp .ne 24, 3) := by decide +kernel
theorem dL_tows_134 : decode cL_tows 134 = .ok (.aload_n 0, 1) := by decide +kernel
theorem dL_tows_135 : decode cL_tows 135 = .ok (.iload 5, 2) := by decide +kernel
theorem dL_tows_137 : decode cL_tows 137 = .ok (.iload 8, 2) := by decide +kernel
theorem dL_tows_139 : decode cL_tows 139 = .ok (.iload 9, 2) := by decide +kernel
theorem dL_tows_141 : decode cL_tows 141 = .ok (.iconst 0, 1) := by decide +kernel
theorem dL_tows_142 : decode cL_tows 142 = .ok (.iconst 0, 1) := by decide +kernel
theorem dL_tows_143 : decode cL_tows 143 = .ok (.invokevirtual 116, 3) := by decide +kernel
theorem dL_tows_146 : decode cL_tows 146 = .ok (.bipush (-103), 2) := by decide +kernel
theorem dL_tows_148 : decode cL_tows 148 = .ok (.if_icmp .ne 7, 3) := by decide +kernel
theorem dL_tows_151 : decode cL_tows 151 = .ok (.iconst 1, 1) := by decide +kernel
theorem dL_tows_152 : decode cL_tows 152 = .ok (.goto 4, 3) := by decide +kernel
theorem dL_tows_155 : decode cL_tows 155 = .ok (.iconst 0, 1) := by decide +kernel
theorem dL_tows_156 : decode cL_tows 156 = .ok (.ireturn, 1) := by decide +kernel
theorem dL_tows_157 : decode cL_tows 157 = .ok (.iconst 0, 1) := by decide +kernel
theorem dL_tows_158 : decode cL_tows 158 = .ok (.istore 11, 2) := by decide +kernel
theorem dL_tows_160 : decode cL_tows 160 = .ok (.iload 11, 2) := by decide +kernel
theorem dL_tows_162 : decode cL_tows 162 = .ok (.iconst 4, 1) := by decide +kernel
theorem dL_tows_163 : decode cL_tows 163 = .ok (.if_icmp .ge 31, 3) := by decide +kernel
theorem dL_tows_166 : decode cL_tows 166 = .ok (.aload_n 0, 1) := by decide +kernel
theorem dL_tows_167 : decode cL_tows 167 = .ok (.iload 5, 2) := by decide +kernel
theorem dL_tows_169 : decode cL_tows 169 = .ok (.iload 8, 2) := by decide +kernel
theorem dL_tows_171 : decode cL_tows 171 = .ok (.iload 9, 2) := by decide +kernel
theorem dL_tows_173 : decode cL_tows 173 = .ok (.iload 11, 2) := by decide +kernel
theorem dL_tows_175 : decode cL_tows 175 = .ok (.invokevirtual 105, 3) := by decide +kernel
theorem dL_tows_178 : decode cL_tows 178 = .ok (.aload 6, 2) := by decide +kernel
theorem dL_tows_180 : decode cL_tows 180 = .ok (.iload 11, 2) := by decide +kernel
theorem dL_tows_182 : decode cL_tows 182 = .ok (.iaload, 1) := by decide +kernel
theorem dL_tows_183 : decode cL_tows 183 = .ok (.if_icmp .eq 5, 3) := by decide +kernel
theorem dL_tows_186 : decode cL_tows 186 = .ok (.iconst 0, 1) := by decide +kernel
theorem dL_tows_187 : decode cL_tows 187 = .ok (.ireturn, 1) := by decide +kernel
theorem dL_tows_188 : decode cL_tows 188 = .ok (.iinc 11 1, 3) := by decide +kernel
theorem dL_tows_191 : decode cL_tows 191 = .ok (.goto (-31), 3) := by decide +kernel
theorem dL_tows_194 : decode cL_tows 194 = .ok (.iconst 0, 1) := by decide +kernel
theorem dL_tows_195 : decode cL_tows 195 = .ok (.istore 11, 2) := by decide +kernel
theorem dL_tows_197 : decode cL_tows 197 = .ok (.iload 11, 2) := by decide +kernel
theorem dL_tows_199 : decode cL_tows 199 = .ok (.bipush 9, 2) := by decide +kernel
theorem dL_tows_201 : decode cL_tows 201 = .ok (.if_icmp .ge 60, 3) := by decide +kernel
theorem dL_tows_204 : decode cL_tows 204 = .ok (.aload_n 0, 1) := by decide +kernel
theorem dL_tows_205 : decode cL_tows 205 = .ok (.iload 5, 2) := by decide +kernel
theorem dL_tows_207 : decode cL_tows 207 = .ok (.iload 8, 2) := by decide +kernel
theorem dL_tows_209 : decode cL_tows 209 = .ok (.iload 9, 2) := by decide +kernel
theorem dL_tows_211 : decode cL_tows 211 = .ok (.bipush 10, 2) := by decide +kernel
theorem dL_tows_213 : decode cL_tows 213 = .ok (.iload 11, 2) := by decide +kernel
theorem dL_tows_215 : decode cL_tows 215 = .ok (.iadd, 1) := by decide +kernel
theorem dL_tows_216 : decode cL_tows 216 = .ok (.invokevirtual 105, 3) := by decide +kernel
theorem dL_tows_219 : decode cL_tows 219 = .ok (.iload 11, 2) := by decide +kernel
theorem dL_tows_221 : decode cL_tows 221 = .ok (.aload 6, 2) := by decide +kernel
theorem dL_tows_223 : decode cL_tows 223 = .ok (.iconst 3, 1) := by decide +kernel
theorem dL_tows_224 : decode cL_tows 224 = .ok (.iaload, 1) := by decide +kernel
theorem dL_tows_225 : decode cL_tows 225 = .ok (.if_icmp .ge 24, 3) := by decide +kernel
theorem dL_tows_228 : decode cL_tows 228 = .ok (.aload 6, 2) := by decide +kernel
theorem dL_tows_230 : decode cL_tows 230 = .ok (.iconst 4, 1) := by decide +kernel
theorem dL_tows_231 : decode cL_tows 231 = .ok (.iaload, 1) := by decide +kernel
theorem dL_tows_232 : decode cL_tows 232 = .ok (.iconst 2, 1) := by decide +kernel
theorem dL_tows_233 : decode cL_tows 233 = .ok (.aload 6, 2) := by decide +kernel
theorem dL_tows_235 : decode cL_tows 235 = .ok (.iconst 3, 1) := by decide +kernel
theorem dL_tows_236 : decode cL_tows 236 = .ok (.iaload, 1) := by decide +kernel
theorem dL_tows_237 : decode cL_tows 237 = .ok (.iconst 1, 1) := by decide +kernel
theorem dL_tows_238 : decode cL_tows 238 = .ok (.isub, 1) := by decide +kernel
theorem dL_tows_239 : decode cL_tows 239 = .ok (.iload 11, 2) := by decide +kernel
theorem dL_tows_241 : decode cL_tows 241 = .ok (.isub, 1) := by decide +kernel
theorem dL_tows_242 : decode cL_tows 242 = .ok (.imul, 1) := by decide +kernel
theorem dL_tows_243 : decode cL_tows 243 = .ok (.ishr, 1) := by decide +kernel
theorem dL_tows_244 : decode cL_tows 244 = .ok (.iconst 3, 1) := by decide +kernel
theorem dL_tows_245 : decode cL_tows 245 = .ok (.iand, 1) := by decide +kernel
theorem dL_tows_246 : decode cL_tows 246 = .ok (.goto 4, 3) := by decide +kernel
theorem dL_tows_249 : decode cL_tows 249 = .ok (.iconst (-1), 1) := by decide +kernel
theorem dL_tows_250 : decode cL_tows 250 = .ok (.if_icmp .eq 5, 3) := by decide +kernel
theorem dL_tows_253 : decode cL_tows 253 = .ok (.iconst 0, 1) := by decide +kernel
theorem dL_tows_254 : decode cL_tows 254 = .ok (.ireturn, 1) := by decide +kernel
theorem dL_tows_255 : decode cL_tows 255 = .ok (.iinc 11 1, 3) := by decide +kernel
theorem dL_tows_258 : decode cL_tows 258 = .ok (.goto (-61), 3) := by decide +kernel
theorem dL_tows_261 : decode cL_tows 261 = .ok (.iconst 3, 1) := by decide +kernel
theorem dL_tows_262 : decode cL_tows 262 = .ok (.newarray .int, 2) := by decide +kernel
theorem dL_tows_264 : decode cL_tows 264 = .ok (.astore 11, 2) := by decide +kernel
theorem dL_tows_266 : decode cL_tows 266 = .ok (.aload_n 3, 1) := by decide +kernel
theorem dL_tows_267 : decode cL_tows 267 = .ok (.iconst 5, 1) := by decide +kernel
theorem dL_tows_268 : decode cL_tows 268 = .ok (.iload 5, 2) := by decide +kernel
theorem dL_tows_270 : decode cL_tows 270 = .ok (.imul, 1) := by decide +kernel
theorem dL_tows_271 : decode cL_tows 271 = .ok (.iconst 1, 1) := by decide +kernel
theorem dL_tows_272 : decode cL_tows 272 = .ok (.iadd, 1) := by decide +kernel
theorem dL_tows_273 : decode cL_tows 273 = .ok (.iaload, 1) := by decide +kernel
theorem dL_tows_274 : decode cL_tows 274 = .ok (.istore 12, 2) := by decide +kernel
theorem dL_tows_276 : decode cL_tows 276 = .ok (.iload 10, 2) := by decide +kernel
theorem dL_tows_278 : decode cL_tows 278 = .ok (.i2l, 1) := by decide +kernel
theorem dL_tows_279 : decode cL_tows 279 = .ok (.lstore 13, 2) := by decide +kernel
theorem dL_tows_281 : decode cL_tows 281 = .ok (.aload 11, 2) := by decide +kernel
theorem dL_tows_283 : decode cL_tows 283 = .ok (.iconst 0, 1) := by decide +kernel
theorem dL_tows_284 : decode cL_tows 284 = .ok (.aload_n 3, 1) := by decide +kernel
theorem dL_tows_285 : decode cL_tows 285 = .ok (.iconst 5, 1) := by decide +kernel
theorem dL_tows_286 : decode cL_tows 286 = .ok (.iload 5, 2) := by decide +kernel
theorem dL_tows_288 : decode cL_tows 288 = .ok (.imul, 1) := by decide +kernel
theorem dL_tows_289 : decode cL_tows 289 = .ok (.iconst 2, 1) := by decide +kernel
theorem dL_tows_290 : decode cL_tows 290 = .ok (.iadd, 1) := by decide +kernel
theorem dL_tows_291 : decode cL_tows 291 = .ok (.iaload, 1) := by decide +kernel
theorem dL_tows_292 : decode cL_tows 292 = .ok (.iastore, 1) := by decide +kernel
theorem dL_tows_293 : decode cL_tows 293 = .ok (.aload 11, 2) := by decide +kernel
theorem dL_tows_295 : decode cL_tows 295 = .ok (.iconst 1, 1) := by decide +kernel
theorem dL_tows_296 : decode cL_tows 296 = .ok (.aload_n 3, 1) := by decide +kernel
theorem dL_tows_297 : decode cL_tows 297 = .ok (.iconst 5, 1) := by decide +kernel
theorem dL_tows_298 : decode cL_tows 298 = .ok (.iload 5, 2) := by decide +kernel
theorem dL_tows_300 : decode cL_tows 300 = .ok (.imul, 1) := by decide +kernel
theorem dL_tows_301 : decode cL_tows 301 = .ok (.iconst 3, 1) := by decide +kernel
theorem dL_tows_302 : decode cL_tows 302 = .ok (.iadd, 1) := by decide +kernel
theorem dL_tows_303 : decode cL_tows 303 = .ok (.iaload, 1) := by decide +kernel
theorem dL_tows_304 : decode cL_tows 304 = .ok (.iastore, 1) := by decide +kernel
theorem dL_tows_305 : decode cL_tows 305 = .ok (.iconst 0, 1) := by decide +kernel
theorem dL_tows_306 : decode cL_tows 306 = .ok (.istore 15, 2) := by decide +kernel
theorem dL_tows_308 : decode cL_tows 308 = .ok (.iload 15, 2) := by decide +kernel
theorem dL_tows_310 : decode cL_tows 310 = .ok (.aload 6, 2) := by decide +kernel
theorem dL_tows_312 : decode cL_tows 312 = .ok (.iconst 3, 1) := by decide +kernel
theorem dL_tows_313 : decode cL_tows 313 = .ok (.iaload, 1) := by decide +kernel
theorem dL_tows_314 : decode cL_tows 314 = .ok (.if_icmp .ge 139, 3) := by decide +kernel
theorem dL_tows_317 : decode cL_tows 317 = .ok (.aload 6, 2) := by decide +kernel
theorem dL_tows_319 : decode cL_tows 319 = .ok (.iconst 4, 1) := by decide +kernel
theorem dL_tows_320 : decode cL_tows 320 = .ok (.iaload, 1) := by decide +kernel
theorem dL_tows_321 : decode cL_tows 321 = .ok (.iconst 2, 1) := by decide +kernel
theorem dL_tows_322 : decode cL_tows 322 = .ok (.aload 6, 2) := by decide +kernel
theorem dL_tows_324 : decode cL_tows 324 = .ok (.iconst 3, 1) := by decide +kernel
theorem dL_tows_325 : decode cL_tows 325 = .ok (.iaload, 1) := by decide +kernel
theorem dL_tows_326 : decode cL_tows 326 = .ok (.iconst 1, 1) := by decide +kernel
theorem dL_tows_327 : decode cL_tows 327 = .ok (.isub, 1) := by decide +kernel
theorem dL_tows_328 : decode cL_tows 328 = .ok (.iload 15, 2) := by decide +kernel
theorem dL_tows_330 : decode cL_tows 330 = .ok (.isub, 1) := by decide +kernel
theorem dL_tows_331 : decode cL_tows 331 = .ok (.imul, 1) := by decide +kernel
theorem dL_tows_332 : decode cL_tows 332 = .ok (.ishr, 1) := by decide +kernel
theorem dL_tows_333 : decode cL_tows 333 = .ok (.iconst 3, 1) := by decide +kernel
theorem dL_tows_334 : decode cL_tows 334 = .ok (.iand, 1) := by decide +kernel
theorem dL_tows_335 : decode cL_tows 335 = .ok (.istore 16, 2) := by decide +kernel
theorem dL_tows_337 : decode cL_tows 337 = .ok (.aload_n 2, 1) := by decide +kernel
theorem dL_tows_338 : decode cL_tows 338 = .ok (.iload 12, 2) := by decide +kernel
theorem dL_tows_340 : decode cL_tows 340 = .ok (.iload 16, 2) := by decide +kernel
theorem dL_tows_342 : decode cL_tows 342 = .ok (.aload 11, 2) := by decide +kernel
theorem dL_tows_344 : decode cL_tows 344 = .ok (.iconst 0, 1) := by decide +kernel
theorem dL_tows_345 : decode cL_tows 345 = .ok (.iaload, 1) := by decide +kernel
theorem dL_tows_346 : decode cL_tows 346 = .ok (.iload 8, 2) := by decide +kernel
theorem dL_tows_348 : decode cL_tows 348 = .ok (.invokestatic 35, 3) := by decide +kernel
theorem dL_tows_351 : decode cL_tows 351 = .ok (.istore 17, 2) := by decide +kernel
theorem dL_tows_353 : decode cL_tows 353 = .ok (.iconst 0, 1) := by decide +kernel
theorem dL_tows_354 : decode cL_tows 354 = .ok (.istore 18, 2) := by decide +kernel
theorem dL_tows_356 : decode cL_tows 356 = .ok (.iload 18, 2) := by decide +kernel
theorem dL_tows_358 : decode cL_tows 358 = .ok (.iload 17, 2) := by decide +kernel
theorem dL_tows_360 : decode cL_tows 360 = .ok (.if_icmp .ge 77, 3) := by decide +kernel
theorem dL_tows_363 : decode cL_tows 363 = .ok (.aload 11, 2) := by decide +kernel
theorem dL_tows_365 : decode cL_tows 365 = .ok (.iconst 0, 1) := by decide +kernel
theorem dL_tows_366 : decode cL_tows 366 = .ok (.iaload, 1) := by decide +kernel
theorem dL_tows_367 : decode cL_tows 367 = .ok (.ifCond .le 70, 3) := by decide +kernel
theorem dL_tows_370 : decode cL_tows 370 = .ok (.lload 13, 2) := by decide +kernel
theorem dL_tows_372 : decode cL_tows 372 = .ok (.ldc2_w 121, 3) := by decide +kernel
theorem dL_tows_375 : decode cL_tows 375 = .ok (.lmul, 1) := by decide +kernel
theorem dL_tows_376 : decode cL_tows 376 = .ok (.ldc2_w 123, 3) := by decide +kernel
theorem dL_tows_379 : decode cL_tows 379 = .ok (.ladd, 1) := by decide +kernel
theorem dL_tows_380 : decode cL_tows 380 = .ok (.ldc2_w 125, 3) := by decide +kernel
theorem dL_tows_383 : decode cL_tows 383 = .ok (.lrem, 1) := by decide +kernel
theorem dL_tows_384 : decode cL_tows 384 = .ok (.lstore 13, 2) := by decide +kernel
theorem dL_tows_386 : decode cL_tows 386 = .ok (.aload_n 2, 1) := by decide +kernel
theorem dL_tows_387 : decode cL_tows 387 = .ok (.iconst 3, 1) := by decide +kernel
theorem dL_tows_388 : decode cL_tows 388 = .ok (.iload 12, 2) := by decide +kernel
theorem dL_tows_390 : decode cL_tows 390 = .ok (.iadd, 1) := by decide +kernel
theorem dL_tows_391 : decode cL_tows 391 = .ok (.iaload, 1) := by decide +kernel
theorem dL_tows_392 : decode cL_tows 392 = .ok (.lload 13, 2) := by decide +kernel
theorem dL_tows_394 : decode cL_tows 394 = .ok (.ldc2_w 127, 3) := by decide +kernel
theorem dL_tows_397 : decode cL_tows 397 = .ok (.ldiv, 1) := by decide +kernel
theorem dL_tows_398 : decode cL_tows 398 = .ok (.ldc2_w 129, 3) := by decide +kernel
theorem dL_tows_401 : decode cL_tows 401 = .ok (.lrem, 1) := by decide +kernel
theorem dL_tows_402 : decode cL_tows 402 = .ok (.l2i, 1) := by decide +kernel
theorem dL_tows_403 : decode cL_tows 403 = .ok (.iadd, 1) := by decide +kernel
theorem dL_tows_404 : decode cL_tows 404 = .ok (.iconst 1, 1) := by decide +kernel
theorem dL_tows_405 : decode cL_tows 405 = .ok (.isub, 1) := by decide +kernel
theorem dL_tows_406 : decode cL_tows 406 = .ok (.istore 19, 2) := by decide +kernel
theorem dL_tows_408 : decode cL_tows 408 = .ok (.aload_n 3, 1) := by decide +kernel
theorem dL_tows_409 : decode cL_tows 409 = .ok (.iconst 5, 1) := by decide +kernel
theorem dL_tows_410 : decode cL_tows 410 = .ok (.iload 5, 2) := by decide +kernel
theorem dL_tows_412 : decode cL_tows 412 = .ok (.imul, 1) := by decide +kernel
theorem dL_tows_413 : decode cL_tows 413 = .ok (.iload 19, 2) := by decide +kernel
theorem dL_tows_415 : decode cL_tows 415 = .ok (.ifCond .ge 7, 3) := by decide +kernel
theorem dL_tows_418 : decode cL_tows 418 = .ok (.iconst 0, 1) := by decide +kernel
theorem dL_tows_419 : decode cL_tows 419 = .ok (.goto 5, 3) := by decide +kernel
theorem dL_tows_422 : decode cL_tows 422 = .ok (.iload 19, 2) := by decide +kernel
theorem dL_tows_424 : decode cL_tows 424 = .ok (.iload 9, 2) := by decide +kernel
theorem dL_tows_426 : decode cL_tows 426 = .ok (.aload 11, 2) := by decide +kernel
theorem dL_tows_428 : decode cL_tows 428 = .ok (.invokestatic 39, 3) := by decide +kernel
theorem dL_tows_431 : decode cL_tows 431 = .ok (.iinc 18 1, 3) := by decide +kernel
theorem dL_tows_434 : decode cL_tows 434 = .ok (.goto (-78), 3) := by decide +kernel
theorem dL_tows_437 : decode cL_tows 437 = .ok (.aload_n 2, 1) := by decide +kernel
theorem dL_tows_438 : decode cL_tows 438 = .ok (.iload 12, 2) := by decide +kernel
theorem dL_tows_440 : decode cL_tows 440 = .ok (.iload 16, 2) := by decide +kernel
theorem dL_tows_442 : decode cL_tows 442 = .ok (.invokestatic 28, 3) := by decide +kernel
theorem dL_tows_445 : decode cL_tows 445 = .ok (.istore 12, 2) := by decide +kernel
theorem dL_tows_447 : decode cL_tows 447 = .ok (.iinc 15 1, 3) := by decide +kernel
theorem dL_tows_450 : decode cL_tows 450 = .ok (.goto (-142), 3) := by decide +kernel
theorem dL_tows_453 : decode cL_tows 453 = .ok (.aload_n 0, 1) := by decide +kernel
theorem dL_tows_454 : decode cL_tows 454 = .ok (.iload 5, 2) := by decide +kernel
theorem dL_tows_456 : decode cL_tows 456 = .ok (.iload 8, 2) := by decide +kernel
theorem dL_tows_458 : decode cL_tows 458 = .ok (.iload 9, 2) := by decide +kernel
theorem dL_tows_460 : decode cL_tows 460 = .ok (.iload 10, 2) := by decide +kernel
theorem dL_tows_462 : decode cL_tows 462 = .ok (.iconst 0, 1) := by decide +kernel
theorem dL_tows_463 : decode cL_tows 463 = .ok (.invokevirtual 112, 3) := by decide +kernel
theorem dL_tows_466 : decode cL_tows 466 = .ok (.aload 11, 2) := by decide +kernel
theorem dL_tows_468 : decode cL_tows 468 = .ok (.iconst 0, 1) := by decide +kernel
theorem dL_tows_469 : decode cL_tows 469 = .ok (.iaload, 1) := by decide +kernel
theorem dL_tows_470 : decode cL_tows 470 = .ok (.if_icmp .ne 47, 3) := by decide +kernel
theorem dL_tows_473 : decode cL_tows 473 = .ok (.aload_n 0, 1) := by decide +kernel
theorem dL_tows_474 : decode cL_tows 474 = .ok (.iload 5, 2) := by decide +kernel
theorem dL_tows_476 : decode cL_tows 476 = .ok (.iload 8, 2) := by decide +kernel
theorem dL_tows_478 : decode cL_tows 478 = .ok (.iload 9, 2) := by decide +kernel
theorem dL_tows_480 : decode cL_tows 480 = .ok (.iload 10, 2) := by decide +kernel
theorem dL_tows_482 : decode cL_tows 482 = .ok (.iconst 1, 1) := by decide +kernel
theorem dL_tows_483 : decode cL_tows 483 = .ok (.invokevirtual 112, 3) := by decide +kernel
theorem dL_tows_486 : decode cL_tows 486 = .ok (.aload 11, 2) := by decide +kernel
theorem dL_tows_488 : decode cL_tows 488 = .ok (.iconst 2, 1) := by decide +kernel
theorem dL_tows_489 : decode cL_tows 489 = .ok (.iaload, 1) := by decide +kernel
theorem dL_tows_490 : decode cL_tows 490 = .ok (.if_icmp .ne 27, 3) := by decide +kernel
theorem dL_tows_493 : decode cL_tows 493 = .ok (.aload_n 0, 1) := by decide +kernel
theorem dL_tows_494 : decode cL_tows 494 = .ok (.iload 5, 2) := by decide +kernel
theorem dL_tows_496 : decode cL_tows 496 = .ok (.iload 8, 2) := by decide +kernel
theorem dL_tows_498 : decode cL_tows 498 = .ok (.iload 9, 2) := by decide +kernel
theorem dL_tows_500 : decode cL_tows 500 = .ok (.iload 10, 2) := by decide +kernel
theorem dL_tows_502 : decode cL_tows 502 = .ok (.iconst 2, 1) := by decide +kernel
theorem dL_tows_503 : decode cL_tows 503 = .ok (.invokevirtual 112, 3) := by decide +kernel
theorem dL_tows_506 : decode cL_tows 506 = .ok (.i2l, 1) := by decide +kernel
theorem dL_tows_507 : decode cL_tows 507 = .ok (.lload 13, 2) := by decide +kernel
theorem dL_tows_509 : decode cL_tows 509 = .ok (.lcmp, 1) := by decide +kernel
theorem dL_tows_510 : decode cL_tows 510 = .ok (.ifCond .ne 7, 3) := by decide +kernel
theorem dL_tows_513 : decode cL_tows 513 = .ok (.iconst 1, 1) := by decide +kernel
theorem dL_tows_514 : decode cL_tows 514 = .ok (.goto 4, 3) := by decide +kernel
theorem dL_tows_517 : decode cL_tows 517 = .ok (.iconst 0, 1) := by decide +kernel
theorem dL_tows_518 : decode cL_tows 518 = .ok (.ireturn, 1) := by decide +kernel
theorem cw_L_tows : Cw yL_tows cL_tows 20 (some .boolean) 6 := ⟨aw_672, aw_18, ⟨by decide, by decide⟩, by decide +kernel, by decide⟩
theorem kz_80 {K : KT} {cc : ByteArray} {nL d M pc : Nat} {ret : Option FieldType} {L : List (Option Value)} {st : List Value} {V : Wl} {σ : LwS} {b Ln : Nat} {xs : Nat → Int32} (C : CZ K cc RL nL d M ret b Ln xs) {q0 : Nat} {q1 : Nat} {a2 : Int32} {a3 : Int32} {a4 : Int32} {q5 : Nat} {q6 : Nat} {r0 : Nat} {r1 : Nat} {r5 : Nat} {r6 : Nat} {nw : Nat} (hq0 : V[q0]? = some (r0, 63)) (hq1 : V[q1]? = some (r1, 26)) (hq5 : V[q5]? = some (r5, 3)) (hq6 : V[q6]? = some (r6, 6)) (hN : V.length = nw) {p : LwS} (hd : decode cc pc = .ok (.invokestatic 80, 3)) (e : fL_best q0 q1 a2 a3 a4 q5 q6 nw (eT σ) = some p) (hdd : 3 + 1 ≤ d) (hLn : L.length = nL) (hr : (st.map fun v => v.category).sum ≤ 8) (hm : decide (σ.2.2 + 1 ≤ M) = true) (k : GZ K M (pc + 3) L (st) V (uT σ p 1)) : GZ K M pc L (.ref r6 :: .ref r5 :: .int a4 :: .int a3 :: .int a2 :: .ref r1 :: .ref r0 :: st) V σ :=
 z_callL C (As := [.ref r0, .ref r1, .int a2, .int a3, .int a4, .ref r5, .ref r6]) (rest := st) hd (ct_L_best hq0 hq1 hq5 hq6 hN rfl e) cw_L_best aw_655 aw_656 rfl rfl rfl hdd hLn hr (fun _ => of_decide_eq_true hm) (fun v τ q => by obtain ⟨rfl, rfl⟩ := q; exact k)
theorem kz_105 {K : KT} {cc : ByteArray} {nL d M pc : Nat} {ret : Option FieldType} {L : List (Option Value)} {st : List Value} {V : Wl} {σ : LwS} {b Ln : Nat} {xs : Nat → Int32} (C : CZ K cc RL nL d M ret b Ln xs) {a0 : Int32} {a1 : Int32} {a2 : Int32} {a3 : Int32} {p : Int32 × Sg} (hd : decode cc pc = .ok (.invokevirtual 105, 3)) (e : fX9_tow a0 a1 a2 a3 σ.1 = some p) (hdd : 16 + 1 ≤ d) (hLn : L.length = nL) (hr : (st.map fun v => v.category).sum ≤ 8) (k : GZ K M (pc + 3) L (.int p.1 :: st) V (cS σ p.2)) : GZ K M pc L (.int a3 :: .int a2 :: .int a1 :: .int a0 :: .ref (kad K 0) :: st) V σ :=
 z_callC C (As := [.int a0, .int a1, .int a2, .int a3]) (rest := st) hd (ct_X9_tow e) cw_X9_tow aw_479 aw_480 aw_481 rfl rfl rfl hdd hLn rfl hr (fun v τ q => by obtain ⟨rfl, rfl⟩ := q; exact k)
theorem kz_112 {K : KT} {cc : ByteArray} {nL d M pc : Nat} {ret : Option FieldType} {L : List (Option Value)} {st : List Value} {V : Wl} {σ : LwS} {b Ln : Nat} {xs : Nat → Int32} (C : CZ K cc RL nL d M ret b Ln xs) {a0 : Int32} {a1 : Int32} {a2 : Int32} {a3 : Int32} {a4 : Int32} {p : Int32 × Sg} (hd : decode cc pc = .ok (.invokevirtual 112, 3)) (e : fX9_drawn a0 a1 a2 a3 a4 σ.1 = some p) (hdd : 16 + 1 ≤ d) (hLn : L.length = nL) (hr : (st.map fun v => v.category).sum ≤ 8) (k : GZ K M (pc + 3) L (.int p.1 :: st) V (cS σ p.2)) : GZ K M pc L (.int a4 :: .int a3 :: .int a2 :: .int a1 :: .int a0 :: .ref (kad K 0) :: st) V σ :=
 z_callC C (As := [.int a0, .int a1, .int a2, .int a3, .int a4]) (rest := st) hd (ct_X9_drawn e) cw_X9_drawn aw_597 aw_598 aw_599 rfl rfl rfl hdd hLn rfl hr (fun v τ q => by obtain ⟨rfl, rfl⟩ := q; exact k)
theorem kz_116 {K : KT} {cc : ByteArray} {nL d M pc : Nat} {ret : Option FieldType} {L : List (Option Value)} {st : List Value} {V : Wl} {σ : LwS} {b Ln : Nat} {xs : Nat → Int32} (C : CZ K cc RL nL d M ret b Ln xs) {a0 : Int32} {a1 : Int32} {a2 : Int32} {a3 : Int32} {a4 : Int32} {p : Int32 × Sg} (hd : decode cc pc = .ok (.invokevirtual 116, 3)) (e : fX9_came a0 a1 a2 a3 a4 σ.1 = some p) (hdd : 16 + 1 ≤ d) (hLn : L.length = nL) (hr : (st.map fun v => v.category).sum ≤ 8) (k : GZ K M (pc + 3) L (.int p.1 :: st) V (cS σ p.2)) : GZ K M pc L (.int a4 :: .int a3 :: .int a2 :: .int a1 :: .int a0 :: .ref (kad K 0) :: st) V σ :=
 z_callC C (As := [.int a0, .int a1, .int a2, .int a3, .int a4]) (rest := st) hd (ct_X9_came e) cw_X9_came aw_605 aw_606 aw_607 rfl rfl rfl hdd hLn rfl hr (fun v τ q => by obtain ⟨rfl, rfl⟩ := q; exact k)
def fL_tows_b160 (xs : Nat → Int32) (Ln : Nat) (w2 : Nat) (w3 : Nat) (x5 : Int32) (w6 : Nat) (x8 : Int32) (x9 : Int32) (x10 : Int32) (x11 : Int32) (nw : Nat) (σ : LwS) : Option ((Int32 × LwS) ⊕ (((LwS) ⊕ (LwS)))) :=
  if (4 : Int32) ≤ x11 then (some (.inr (.inr σ))) else (Option.bind (fX9_tow x5 x8 x9 x11 σ.1) fun p14 => (if inb x11 6 = true then (if p14.1 = (rT (cS σ p14.2) w6 (x11).toNatClampNeg) then (some (.inl ((x11 + (1 : Int32)), (cS σ p14.2)))) else (some (.inr (.inl (cS σ p14.2))))) else none))
def fL_tows_b250 (xs : Nat → Int32) (Ln : Nat) (w2 : Nat) (w3 : Nat) (x5 : Int32) (w6 : Nat) (x8 : Int32) (x9 : Int32) (x10 : Int32) (x11 : Int32) (y0 : Int32) (y1 : Int32) (nw : Nat) (σ : LwS) : Option ((Int32 × LwS) ⊕ (((LwS) ⊕ (LwS)))) :=
  if y1 = y0 then (some (.inl ((x11 + (1 : Int32)), σ))) else (some (.inr (.inl σ)))
def fL_tows_b197 (xs : Nat → Int32) (Ln : Nat) (w2 : Nat) (w3 : Nat) (x5 : Int32) (w6 : Nat) (x8 : Int32) (x9 : Int32) (x10 : Int32) (x11 : Int32) (nw : Nat) (σ : LwS) : Option ((Int32 × LwS) ⊕ (((LwS) ⊕ (LwS)))) :=
  if (9 : Int32) ≤ x11 then (some (.inr (.inr σ))) else (Option.bind (fX9_tow x5 x8 x9 ((10 : Int32) + x11) σ.1) fun p19 => (if (rT (cS σ p19.2) w6 ((3 : Int32)).toNatClampNeg) ≤ x11 then (fL_tows_b250 xs Ln w2 w3 x5 w6 x8 x9 x10 x11 (-1 : Int32) p19.1 nw (cS σ p19.2)) else (fL_tows_b250 xs Ln w2 w3 x5 w6 x8 x9 x10 x11 ((ishr (rT (cS σ p19.2) w6 ((4 : Int32)).toNatClampNeg) ((2 : Int32) * (((rT (cS σ p19.2) w6 ((3 : Int32)).toNatClampNeg) - (1 : Int32)) - x11))) &&& (3 : Int32)) p19.1 nw (cS σ p19.2))))
def fL_tows_b424 (xs : Nat → Int32) (Ln : Nat) (w2 : Nat) (w3 : Nat) (x5 : Int32) (w6 : Nat) (x8 : Int32) (x9 : Int32) (x10 : Int32) (w11 : Nat) (x12 : Int32) (x13 : Int64) (x15 : Int32) (x16 : Int32) (x17 : Int32) (x18 : Int32) (y0 : Int32) (y1 : Int32) (u2 : Nat) (nw : Nat) (σ : LwS) : Option ((Int64 × Int32 × LwS) ⊕ ((Int64 × LwS))) :=
  Option.bind (fL_day u2 y1 y0 x9 w11 (eT σ)) fun p31 => (some (.inl (x13, (x18 + (1 : Int32)), (uT σ p31 0))))
def fL_tows_b356 (xs : Nat → Int32) (Ln : Nat) (w2 : Nat) (w3 : Nat) (x5 : Int32) (w6 : Nat) (x8 : Int32) (x9 : Int32) (x10 : Int32) (w11 : Nat) (x12 : Int32) (x13 : Int64) (x15 : Int32) (x16 : Int32) (x17 : Int32) (x18 : Int32) (nw : Nat) (σ : LwS) : Option ((Int64 × Int32 × LwS) ⊕ ((Int64 × LwS))) :=
  if x17 ≤ x18 then (some (.inr (x13, σ))) else (if (rT σ w11 ((0 : Int32)).toNatClampNeg) ≤ 0 then (some (.inr (x13, σ))) else (if inb ((3 : Int32) + x12) 63 = true then (if 0 ≤ (((rT σ w2 (((3 : Int32) + x12)).toNatClampNeg) + ((((((x13 * (1103515245 : Int64)) + (12345 : Int64)) - ((x13 * (1103515245 : Int64)) + (12345 : Int64)) / (2147483648 : Int64) * (2147483648 : Int64)) / (65536 : Int64)) - ((((x13 * (1103515245 : Int64)) + (12345 : Int64)) - ((x13 * (1103515245 : Int64)) + (12345 : Int64)) / (2147483648 : Int64) * (2147483648 : Int64)) / (65536 : Int64)) / (3 : Int64) * (3 : Int64))).toInt32) - (1 : Int32)) then (fL_tows_b424 xs Ln w2 w3 x5 w6 x8 x9 x10 w11 x12 (((x13 * (1103515245 : Int64)) + (12345 : Int64)) - ((x13 * (1103515245 : Int64)) + (12345 : Int64)) / (2147483648 : Int64) * (2147483648 : Int64)) x15 x16 x17 x18 (((rT σ w2 (((3 : Int32) + x12)).toNatClampNeg) + ((((((x13 * (1103515245 : Int64)) + (12345 : Int64)) - ((x13 * (1103515245 : Int64)) + (12345 : Int64)) / (2147483648 : Int64) * (2147483648 : Int64)) / (65536 : Int64)) - ((((x13 * (1103515245 : Int64)) + (12345 : Int64)) - ((x13 * (1103515245 : Int64)) + (12345 : Int64)) / (2147483648 : Int64) * (2147483648 : Int64)) / (65536 : Int64)) / (3 : Int64) * (3 : Int64))).toInt32) - (1 : Int32)) ((5 : Int32) * x5) w3 nw σ) else (fL_tows_b424 xs Ln w2 w3 x5 w6 x8 x9 x10 w11 x12 (((x13 * (1103515245 : Int64)) + (12345 : Int64)) - ((x13 * (1103515245 : Int64)) + (12345 : Int64)) / (2147483648 : Int64) * (2147483648 : Int64)) x15 x16 x17 x18 (0 : Int32) ((5 : Int32) * x5) w3 nw σ)) else none))
def fL_tows_b308 (xs : Nat → Int32) (Ln : Nat) (w2 : Nat) (w3 : Nat) (x5 : Int32) (w6 : Nat) (x8 : Int32) (x9 : Int32) (x10 : Int32) (w11 : Nat) (x12 : Int32) (x13 : Int64) (x15 : Int32) (nw : Nat) (σ : LwS) : Option ((Int32 × Int64 × Int32 × LwS) ⊕ ((Int64 × LwS))) :=
  if (rT σ w6 ((3 : Int32)).toNatClampNeg) ≤ x15 then (some (.inr (x13, σ))) else (Option.bind (fL_daysOf w2 x12 ((ishr (rT σ w6 ((4 : Int32)).toNatClampNeg) ((2 : Int32) * (((rT σ w6 ((3 : Int32)).toNatClampNeg) - (1 : Int32)) - x15))) &&& (3 : Int32)) (rT σ w11 ((0 : Int32)).toNatClampNeg) x8 (eT σ)) fun p28 => (Option.bind (lp (fun s => fL_tows_b356 xs Ln w2 w3 x5 w6 x8 x9 x10 w11 x12 s.1 x15 ((ishr (rT σ w6 ((4 : Int32)).toNatClampNeg) ((2 : Int32) * (((rT σ w6 ((3 : Int32)).toNatClampNeg) - (1 : Int32)) - x15))) &&& (3 : Int32)) p28.1 s.2.1 nw s.2.2) FU (x13, (0 : Int32), (uT σ p28.2 0))) fun t33 => Option.bind (fL_beside w2 x12 ((ishr (rT σ w6 ((4 : Int32)).toNatClampNeg) ((2 : Int32) * (((rT σ w6 ((3 : Int32)).toNatClampNeg) - (1 : Int32)) - x15))) &&& (3 : Int32)) (eT t33.2)) fun p35 => (some (.inl (p35.1, t33.1, (x15 + (1 : Int32)), (uT t33.2 p35.2 0))))))
def fL_tows_b44 (xs : Nat → Int32) (Ln : Nat) (w2 : Nat) (w3 : Nat) (w4 : Nat) (x5 : Int32) (w6 : Nat) (x8 : Int32) (y0 : Int32) (nw : Nat) (σ : LwS) : Option (Int32 × LwS) :=
  Option.bind (fL_cell xs Ln ((16 : Int32) + x5) (eT σ)) fun p9 => (if decide ((uT σ p9.2 0).2.2 + 1 ≤ 3) = true then (Option.bind (fL_best w2 w3 ((5 : Int32) * x5) x8 y0 w4 w6 nw (eT (uT σ p9.2 0))) fun p11 => (if (rT (uT (uT σ p9.2 0) p11 1) w6 ((5 : Int32)).toNatClampNeg) = 0 then (Option.bind (fX9_tow x5 x8 y0 (0 : Int32) (uT (uT σ p9.2 0) p11 1).1) fun p45 => (if p45.1 = (-100001 : Int32) then (Option.bind (fX9_tow x5 x8 y0 (10 : Int32) (cS (uT (uT σ p9.2 0) p11 1) p45.2).1) fun p47 => (if p47.1 = (-100001 : Int32) then (Option.bind (fX9_drawn x5 x8 y0 (p9.1 &&& (2147483647 : Int32)) (0 : Int32) (cS (cS (uT (uT σ p9.2 0) p11 1) p45.2) p47.2).1) fun p49 => (if p49.1 = (-1 : Int32) then (Option.bind (fX9_came x5 x8 y0 (0 : Int32) (0 : Int32) (cS (cS (cS (uT (uT σ p9.2 0) p11 1) p45.2) p47.2) p49.2).1) fun p51 => (if p51.1 = (-103 : Int32) then (some ((1 : Int32), (cS (cS (cS (cS (uT (uT σ p9.2 0) p11 1) p45.2) p47.2) p49.2) p51.2))) else (some ((0 : Int32), (cS (cS (cS (cS (uT (uT σ p9.2 0) p11 1) p45.2) p47.2) p49.2) p51.2))))) else (some ((0 : Int32), (cS (cS (cS (uT (uT σ p9.2 0) p11 1) p45.2) p47.2) p49.2))))) else (some ((0 : Int32), (cS (cS (uT (uT σ p9.2 0) p11 1) p45.2) p47.2))))) else (some ((0 : Int32), (cS (uT (uT σ p9.2 0) p11 1) p45.2))))) else (Option.bind (lp (fun s => fL_tows_b160 xs Ln w2 w3 x5 w6 x8 y0 (p9.1 &&& (2147483647 : Int32)) s.1 nw s.2) FU ((0 : Int32), (uT (uT σ p9.2 0) p11 1))) (el (fun t17 => some ((0 : Int32), t17)) (fun t17 => Option.bind (lp (fun s => fL_tows_b197 xs Ln w2 w3 x5 w6 x8 y0 (p9.1 &&& (2147483647 : Int32)) s.1 nw s.2) FU ((0 : Int32), t17)) (el (fun t21 => some ((0 : Int32), t21)) (fun t21 => if decide (t21.2.2 + 1 ≤ 3) = true then (if inb (((5 : Int32) * x5) + (1 : Int32)) 26 = true then (if inb (((5 : Int32) * x5) + (2 : Int32)) 26 = true then (if inb (((5 : Int32) * x5) + (3 : Int32)) 26 = true then (Option.bind (lp (fun s => fL_tows_b308 xs Ln w2 w3 x5 w6 x8 y0 (p9.1 &&& (2147483647 : Int32)) nw s.1 s.2.1 s.2.2.1 (nw + 1) s.2.2.2) FU ((rT (nT t21 nw) w3 ((((5 : Int32) * x5) + (1 : Int32))).toNatClampNeg), ((p9.1 &&& (2147483647 : Int32))).toInt64, (0 : Int32), (wT (wT (nT t21 nw) nw ((0 : Int32)).toNatClampNeg (rT (nT t21 nw) w3 ((((5 : Int32) * x5) + (2 : Int32))).toNatClampNeg)) nw ((1 : Int32)).toNatClampNeg (rT (wT (nT t21 nw) nw ((0 : Int32)).toNatClampNeg (rT (nT t21 nw) w3 ((((5 : Int32) * x5) + (2 : Int32))).toNatClampNeg)) w3 ((((5 : Int32) * x5) + (3 : Int32))).toNatClampNeg)))) fun t37 => Option.bind (fX9_drawn x5 x8 y0 (p9.1 &&& (2147483647 : Int32)) (0 : Int32) t37.2.1) fun p39 => (if p39.1 = (rT (cS t37.2 p39.2) nw ((0 : Int32)).toNatClampNeg) then (Option.bind (fX9_drawn x5 x8 y0 (p9.1 &&& (2147483647 : Int32)) (1 : Int32) (cS t37.2 p39.2).1) fun p41 => (if p41.1 = (rT (cS (cS t37.2 p39.2) p41.2) nw ((2 : Int32)).toNatClampNeg) then (Option.bind (fX9_drawn x5 x8 y0 (p9.1 &&& (2147483647 : Int32)) (2 : Int32) (cS (cS t37.2 p39.2) p41.2).1) fun p43 => (if (lg_cmp ((p43.1).toInt64) t37.1) = 0 then (some ((1 : Int32), (cS (cS (cS t37.2 p39.2) p41.2) p43.2))) else (some ((0 : Int32), (cS (cS (cS t37.2 p39.2) p41.2) p43.2))))) else (some ((0 : Int32), (cS (cS t37.2 p39.2) p41.2))))) else (some ((0 : Int32), (cS t37.2 p39.2))))) else none) else none) else none) else none))))))) else none)
def fL_tows_b0 (xs : Nat → Int32) (Ln : Nat) (w2 : Nat) (w3 : Nat) (w4 : Nat) (x5 : Int32) (nw : Nat) (σ : LwS) : Option (Int32 × LwS) :=
  if decide (σ.2.2 + 1 ≤ 3) = true then (Option.bind (fL_cell xs Ln ((13 : Int32) + x5) (eT (nT σ nw))) fun p3 => (Option.bind (fL_at p3.1 (11 : Int32) (eT (uT (nT σ nw) p3.2 0))) fun p5 => (Option.bind (fL_at (ishr p3.1 (4 : Int32)) (2 : Int32) (eT (uT (uT (nT σ nw) p3.2 0) p5.2 0))) fun p7 => (if p7.1 = 0 then (fL_tows_b44 xs Ln w2 w3 w4 x5 nw ((1 : Int32) + p5.1) (1 : Int32) (nw + 1) (uT (uT (uT (nT σ nw) p3.2 0) p5.2 0) p7.2 0)) else (fL_tows_b44 xs Ln w2 w3 w4 x5 nw ((1 : Int32) + p5.1) (0 : Int32) (nw + 1) (uT (uT (uT (nT σ nw) p3.2 0) p5.2 0) p7.2 0)))))) else none
set_option maxRecDepth 8000 in
theorem bL_tows_b160 {K : KT} {w2 : Nat} {w3 : Nat} {x5 : Int32} {w6 : Nat} {x8 : Int32} {x9 : Int32} {x10 : Int32} {x11 : Int32} {r2 : Nat} {r3 : Nat} {r6 : Nat} {nw : Nat} {σ : LwS} {o : (Int32 × LwS) ⊕ (((LwS) ⊕ (LwS)))} {V Vc : Wl} {b Ln : Nat} {xs : Nat → Int32} (C : CZ K cL_tows RL 20 17 3 (some .boolean) b Ln xs) (hp : Pf Vc V) (hN : V.length = nw) (hw2 : V[w2]? = some (r2, 63)) (hw3 : V[w3]? = some (r3, 26)) (hw6 : V[w6]? = some (r6, 6)) (hI : ∀ s' : Int32 × LwS, o = .inl s' → GZ K 3 160 [some (.ref (kad K 0)), none, some (.ref r2), some (.ref r3), none, some (.int x5), some (.ref r6), none, some (.int x8), some (.int x9), some (.int x10), some (.int s'.1), none, none, none, none, none, none, none, none] [] Vc s'.2) (hE0 : ∀ t : LwS, o = .inr (.inl t) → GZ K 3 186 [none, none, none, none, none, none, none, none, none, none, none, none, none, none, none, none, none, none, none, none] [] Vc t) (hE1 : ∀ t : LwS, o = .inr (.inr t) → GZ K 3 194 [some (.ref (kad K 0)), none, some (.ref r2), some (.ref r3), none, some (.int x5), some (.ref r6), none, some (.int x8), some (.int x9), some (.int x10), none, none, none, none, none, none, none, none, none] [] Vc t) (h : fL_tows_b160 xs Ln w2 w3 x5 w6 x8 x9 x10 x11 nw σ = some o) : GZ K 3 160 [some (.ref (kad K 0)), none, some (.ref r2), some (.ref r3), none, some (.int x5), some (.ref r6), none, some (.int x8), some (.int x9), some (.int x10), some (.int x11), none, none, none, none, none, none, none, none] [] V σ := by
  unfold fL_tows_b160 at h
  refine z_iload C.c dL_tows_160 (i := 11) rfl ?_
  refine z_iconst C.c dL_tows_162 (v := (4 : Int32)) (by decide) ?_
  refine z_icmp_ge C.c (tgt := 194) dL_tows_163 (by decide) (fun c => ?_) (fun c => ?_)
  · replace h := ite_t c h
    have g9 := hE1 _ (Option.some.inj h).symm
    exact z_mask [true, false, true, true, false, true, true, false, true, true, true, false, false, false, false, false, false, false, false, false] rfl (z_drop hp g9)
  · replace h := ite_f c h
    refine z_aload_n C.c dL_tows_166 rfl (i := 0) rfl ?_
    refine z_iload C.c dL_tows_167 (i := 5) rfl ?_
    refine z_iload C.c dL_tows_169 (i := 8) rfl ?_
    refine z_iload C.c dL_tows_171 (i := 9) rfl ?_
    refine z_iload C.c dL_tows_173 (i := 11) rfl ?_
    obtain ⟨p14, e15, h⟩ := Option.bind_eq_some_iff.mp h
    refine kz_105 C dL_tows_175 e15 (Nat.le_of_ble_eq_true rfl) rfl (Nat.le_of_ble_eq_true rfl) ?_
    refine z_aload C.c dL_tows_178 (i := 6) rfl ?_
    refine z_iload C.c dL_tows_180 (i := 11) rfl ?_
    obtain ⟨c16, h⟩ := chk h
    refine z_iald C dL_tows_182 hw6 c16 ?_
    refine z_icmp_eq C.c (tgt := 188) dL_tows_183 (by decide) (fun c => ?_) (fun c => ?_)
    · replace h := ite_t c h
      refine z_iinc C.c (i := 11) (y := (1 : Int32)) (L' := [some (.ref (kad K 0)), none, some (.ref r2), some (.ref r3), none, some (.int x5), some (.ref r6), none, some (.int x8), some (.int x9), some (.int x10), some (.int (x11 + (1 : Int32))), none, none, none, none, none, none, none, none]) dL_tows_188 rfl (by decide) (Nat.le_of_ble_eq_true rfl) rfl ?_
      refine z_goto C.c (tgt := 160) dL_tows_191 (by decide) ?_
      have g9 := hI _ (Option.some.inj h).symm
      exact z_mask [true, false, true, true, false, true, true, false, true, true, true, true, false, false, false, false, false, false, false, false] rfl (z_drop hp g9)
    · replace h := ite_f c h
      have g9 := hE0 _ (Option.some.inj h).symm
      exact z_mask [false, false, false, false, false, false, false, false, false, false, false, false, false, false, false, false, false, false, false, false] rfl (z_drop hp g9)
set_option maxRecDepth 8000 in
theorem bL_tows_b250 {K : KT} {w2 : Nat} {w3 : Nat} {x5 : Int32} {w6 : Nat} {x8 : Int32} {x9 : Int32} {x10 : Int32} {x11 : Int32} {y0 : Int32} {y1 : Int32} {r2 : Nat} {r3 : Nat} {r6 : Nat} {nw : Nat} {σ : LwS} {o : (Int32 × LwS) ⊕ (((LwS) ⊕ (LwS)))} {V Vc : Wl} {b Ln : Nat} {xs : Nat → Int32} (C : CZ K cL_tows RL 20 17 3 (some .boolean) b Ln xs) (hp : Pf Vc V) (hN : V.length = nw) (hw2 : V[w2]? = some (r2, 63)) (hw3 : V[w3]? = some (r3, 26)) (hw6 : V[w6]? = some (r6, 6)) (hI : ∀ s' : Int32 × LwS, o = .inl s' → GZ K 3 197 [some (.ref (kad K 0)), none, some (.ref r2), some (.ref r3), none, some (.int x5), some (.ref r6), none, some (.int x8), some (.int x9), some (.int x10), some (.int s'.1), none, none, none, none, none, none, none, none] [] Vc s'.2) (hE0 : ∀ t : LwS, o = .inr (.inl t) → GZ K 3 253 [none, none, none, none, none, none, none, none, none, none, none, none, none, none, none, none, none, none, none, none] [] Vc t) (hE1 : ∀ t : LwS, o = .inr (.inr t) → GZ K 3 261 [some (.ref (kad K 0)), none, some (.ref r2), some (.ref r3), none, some (.int x5), some (.ref r6), none, some (.int x8), some (.int x9), some (.int x10), none, none, none, none, none, none, none, none, none] [] Vc t) (h : fL_tows_b250 xs Ln w2 w3 x5 w6 x8 x9 x10 x11 y0 y1 nw σ = some o) : GZ K 3 250 [some (.ref (kad K 0)), none, some (.ref r2), some (.ref r3), none, some (.int x5), some (.ref r6), none, some (.int x8), some (.int x9), some (.int x10), some (.int x11), none, none, none, none, none, none, none, none] [.int y0, .int y1] V σ := by
  unfold fL_tows_b250 at h
  refine z_icmp_eq C.c (tgt := 255) dL_tows_250 (by decide) (fun c => ?_) (fun c => ?_)
  · replace h := ite_t c h
    refine z_iinc C.c (i := 11) (y := (1 : Int32)) (L' := [some (.ref (kad K 0)), none, some (.ref r2), some (.ref r3), none, some (.int x5), some (.ref r6), none, some (.int x8), some (.int x9), some (.int x10), some (.int (x11 + (1 : Int32))), none, none, none, none, none, none, none, none]) dL_tows_255 rfl (by decide) (Nat.le_of_ble_eq_true rfl) rfl ?_
    refine z_goto C.c (tgt := 197) dL_tows_258 (by decide) ?_
    have g9 := hI _ (Option.some.inj h).symm
    exact z_mask [true, false, true, true, false, true, true, false, true, true, true, true, false, false, false, false, false, false, false, false] rfl (z_drop hp g9)
  · replace h := ite_f c h
    have g9 := hE0 _ (Option.some.inj h).symm
    exact z_mask [false, false, false, false, false, false, false, false, false, false, false, false, false, false, false, false, false, false, false, false] rfl (z_drop hp g9)
set_option maxRecDepth 8000 in
theorem bL_tows_b197 {K : KT} {w2 : Nat} {w3 : Nat} {x5 : Int32} {w6 : Nat} {x8 : Int32} {x9 : Int32} {x10 : Int32} {x11 : Int32} {r2 : Nat} {r3 : Nat} {r6 : Nat} {nw : Nat} {σ : LwS} {o : (Int32 × LwS) ⊕ (((LwS) ⊕ (LwS)))} {V Vc : Wl} {b Ln : Nat} {xs : Nat → Int32} (C : CZ K cL_tows RL 20 17 3 (some .boolean) b Ln xs) (hp : Pf Vc V) (hN : V.length = nw) (hw2 : V[w2]? = some (r2, 63)) (hw3 : V[w3]? = some (r3, 26)) (hw6 : V[w6]? = some (r6, 6)) (hI : ∀ s' : Int32 × LwS, o = .inl s' → GZ K 3 197 [some (.ref (kad K 0)), none, some (.ref r2), some (.ref r3), none, some (.int x5), some (.ref r6), none, some (.int x8), some (.int x9), some (.int x10), some (.int s'.1), none, none, none, none, none, none, none, none] [] Vc s'.2) (hE0 : ∀ t : LwS, o = .inr (.inl t) → GZ K 3 253 [none, none, none, none, none, none, none, none, none, none, none, none, none, none, none, none, none, none, none, none] [] Vc t) (hE1 : ∀ t : LwS, o = .inr (.inr t) → GZ K 3 261 [some (.ref (kad K 0)), none, some (.ref r2), some (.ref r3), none, some (.int x5), some (.ref r6), none, some (.int x8), some (.int x9), some (.int x10), none, none, none, none, none, none, none, none, none] [] Vc t) (h : fL_tows_b197 xs Ln w2 w3 x5 w6 x8 x9 x10 x11 nw σ = some o) : GZ K 3 197 [some (.ref (kad K 0)), none, some (.ref r2), some (.ref r3), none, some (.int x5), some (.ref r6), none, some (.int x8), some (.int x9), some (.int x10), some (.int x11), none, none, none, none, none, none, none, none] [] V σ := by
  unfold fL_tows_b197 at h
  refine z_iload C.c dL_tows_197 (i := 11) rfl ?_
  refine z_bipush C.c dL_tows_199 (v := (9 : Int32)) (by decide) ?_
  refine z_icmp_ge C.c (tgt := 261) dL_tows_201 (by decide) (fun c => ?_) (fun c => ?_)
  · replace h := ite_t c h
    have g9 := hE1 _ (Option.some.inj h).symm
    exact z_mask [true, false, true, true, false, true, true, false, true, true, true, false, false, false, false, false, false, false, false, false] rfl (z_drop hp g9)
  · replace h := ite_f c h
    refine z_aload_n C.c dL_tows_204 rfl (i := 0) rfl ?_
    refine z_iload C.c dL_tows_205 (i := 5) rfl ?_
    refine z_iload C.c dL_tows_207 (i := 8) rfl ?_
    refine z_iload C.c dL_tows_209 (i := 9) rfl ?_
    refine z_bipush C.c dL_tows_211 (v := (10 : Int32)) (by decide) ?_
    refine z_iload C.c dL_tows_213 (i := 11) rfl ?_
    refine z_iadd C.c dL_tows_215 ?_
    obtain ⟨p19, e20, h⟩ := Option.bind_eq_some_iff.mp h
    refine kz_105 C dL_tows_216 e20 (Nat.le_of_ble_eq_true rfl) rfl (Nat.le_of_ble_eq_true rfl) ?_
    refine z_iload C.c dL_tows_219 (i := 11) rfl ?_
    refine z_aload C.c dL_tows_221 (i := 6) rfl ?_
    refine z_iconst C.c dL_tows_223 (v := (3 : Int32)) (by decide) ?_
    refine z_iald C dL_tows_224 hw6 (by decide) ?_
    refine z_icmp_ge C.c (tgt := 249) dL_tows_225 (by decide) (fun c => ?_) (fun c => ?_)
    · replace h := ite_t c h
      refine z_iconst C.c dL_tows_249 (v := (-1 : Int32)) (by decide) ?_
      exact z_mask [true, false, true, true, false, true, true, false, true, true, true, true, false, false, false, false, false, false, false, false] rfl (bL_tows_b250 C hp hN hw2 hw3 hw6 hI hE0 hE1 h)
    · replace h := ite_f c h
      refine z_aload C.c dL_tows_228 (i := 6) rfl ?_
      refine z_iconst C.c dL_tows_230 (v := (4 : Int32)) (by decide) ?_
      refine z_iald C dL_tows_231 hw6 (by decide) ?_
      refine z_iconst C.c dL_tows_232 (v := (2 : Int32)) (by decide) ?_
      refine z_aload C.c dL_tows_233 (i := 6) rfl ?_
      refine z_iconst C.c dL_tows_235 (v := (3 : Int32)) (by decide) ?_
      refine z_iald C dL_tows_236 hw6 (by decide) ?_
      refine z_iconst C.c dL_tows_237 (v := (1 : Int32)) (by decide) ?_
      refine z_isub C.c dL_tows_238 ?_
      refine z_iload C.c dL_tows_239 (i := 11) rfl ?_
      refine z_isub C.c dL_tows_241 ?_
      refine z_imul C.c dL_tows_242 ?_
      refine z_ishr C.c dL_tows_243 ?_
      refine z_iconst C.c dL_tows_244 (v := (3 : Int32)) (by decide) ?_
      refine z_iand C.c dL_tows_245 ?_
      refine z_goto C.c (tgt := 250) dL_tows_246 (by decide) ?_
      exact z_mask [true, false, true, true, false, true, true, false, true, true, true, true, false, false, false, false, false, false, false, false] rfl (bL_tows_b250 C hp hN hw2 hw3 hw6 hI hE0 hE1 h)
set_option maxRecDepth 8000 in
theorem bL_tows_b424 {K : KT} {w2 : Nat} {w3 : Nat} {x5 : Int32} {w6 : Nat} {x8 : Int32} {x9 : Int32} {x10 : Int32} {w11 : Nat} {x12 : Int32} {x13 : Int64} {x15 : Int32} {x16 : Int32} {x17 : Int32} {x18 : Int32} {y0 : Int32} {y1 : Int32} {u2 : Nat} {r2 : Nat} {r3 : Nat} {r6 : Nat} {r11 : Nat} {v2 : Nat} {nw : Nat} {σ : LwS} {o : (Int64 × Int32 × LwS) ⊕ ((Int64 × LwS))} {V Vc : Wl} {b Ln : Nat} {xs : Nat → Int32} (C : CZ K cL_tows RL 20 17 3 (some .boolean) b Ln xs) (hp : Pf Vc V) (hN : V.length = nw) (hw2 : V[w2]? = some (r2, 63)) (hw3 : V[w3]? = some (r3, 26)) (hw6 : V[w6]? = some (r6, 6)) (hw11 : V[w11]? = some (r11, 3)) (hu2 : V[u2]? = some (v2, 26)) (hI : ∀ s' : Int64 × Int32 × LwS, o = .inl s' → GZ K 3 356 [some (.ref (kad K 0)), none, some (.ref r2), some (.ref r3), none, some (.int x5), some (.ref r6), none, some (.int x8), some (.int x9), some (.int x10), some (.ref r11), some (.int x12), some (.long s'.1), none, some (.int x15), some (.int x16), some (.int x17), some (.int s'.2.1), none] [] Vc s'.2.2) (hE0 : ∀ t : Int64 × LwS, o = .inr t → GZ K 3 437 [some (.ref (kad K 0)), none, some (.ref r2), some (.ref r3), none, some (.int x5), some (.ref r6), none, some (.int x8), some (.int x9), some (.int x10), some (.ref r11), some (.int x12), some (.long t.1), none, some (.int x15), some (.int x16), none, none, none] [] Vc t.2) (h : fL_tows_b424 xs Ln w2 w3 x5 w6 x8 x9 x10 w11 x12 x13 x15 x16 x17 x18 y0 y1 u2 nw σ = some o) : GZ K 3 424 [some (.ref (kad K 0)), none, some (.ref r2), some (.ref r3), none, some (.int x5), some (.ref r6), none, some (.int x8), some (.int x9), some (.int x10), some (.ref r11), some (.int x12), some (.long x13), none, some (.int x15), some (.int x16), some (.int x17), some (.int x18), none] [.int y0, .int y1, .ref v2] V σ := by
  unfold fL_tows_b424 at h
  refine z_iload C.c dL_tows_424 (i := 9) rfl ?_
  refine z_aload C.c dL_tows_426 (i := 11) rfl ?_
  obtain ⟨p31, e32, h⟩ := Option.bind_eq_some_iff.mp h
  refine kz_39 C hu2 hw11 dL_tows_428 e32 (Nat.le_of_ble_eq_true rfl) rfl (Nat.le_of_ble_eq_true rfl) ?_
  refine z_iinc C.c (i := 18) (y := (1 : Int32)) (L' := [some (.ref (kad K 0)), none, some (.ref r2), some (.ref r3), none, some (.int x5), some (.ref r6), none, some (.int x8), some (.int x9), some (.int x10), some (.ref r11), some (.int x12), some (.long x13), none, some (.int x15), some (.int x16), some (.int x17), some (.int (x18 + (1 : Int32))), none]) dL_tows_431 rfl (by decide) (Nat.le_of_ble_eq_true rfl) rfl ?_
  refine z_goto C.c (tgt := 356) dL_tows_434 (by decide) ?_
  have g9 := hI _ (Option.some.inj h).symm
  exact z_mask [true, false, true, true, false, true, true, false, true, true, true, true, true, true, false, true, true, true, true, false] rfl (z_drop hp g9)
set_option maxRecDepth 8000 in
theorem bL_tows_b356 {K : KT} {w2 : Nat} {w3 : Nat} {x5 : Int32} {w6 : Nat} {x8 : Int32} {x9 : Int32} {x10 : Int32} {w11 : Nat} {x12 : Int32} {x13 : Int64} {x15 : Int32} {x16 : Int32} {x17 : Int32} {x18 : Int32} {r2 : Nat} {r3 : Nat} {r6 : Nat} {r11 : Nat} {nw : Nat} {σ : LwS} {o : (Int64 × Int32 × LwS) ⊕ ((Int64 × LwS))} {V Vc : Wl} {b Ln : Nat} {xs : Nat → Int32} (C : CZ K cL_tows RL 20 17 3 (some .boolean) b Ln xs) (hp : Pf Vc V) (hN : V.length = nw) (hw2 : V[w2]? = some (r2, 63)) (hw3 : V[w3]? = some (r3, 26)) (hw6 : V[w6]? = some (r6, 6)) (hw11 : V[w11]? = some (r11, 3)) (hI : ∀ s' : Int64 × Int32 × LwS, o = .inl s' → GZ K 3 356 [some (.ref (kad K 0)), none, some (.ref r2), some (.ref r3), none, some (.int x5), some (.ref r6), none, some (.int x8), some (.int x9), some (.int x10), some (.ref r11), some (.int x12), some (.long s'.1), none, some (.int x15), some (.int x16), some (.int x17), some (.int s'.2.1), none] [] Vc s'.2.2) (hE0 : ∀ t : Int64 × LwS, o = .inr t → GZ K 3 437 [some (.ref (kad K 0)), none, some (.ref r2), some (.ref r3), none, some (.int x5), some (.ref r6), none, some (.int x8), some (.int x9), some (.int x10), some (.ref r11), some (.int x12), some (.long t.1), none, some (.int x15), some (.int x16), none, none, none] [] Vc t.2) (h : fL_tows_b356 xs Ln w2 w3 x5 w6 x8 x9 x10 w11 x12 x13 x15 x16 x17 x18 nw σ = some o) : GZ K 3 356 [some (.ref (kad K 0)), none, some (.ref r2), some (.ref r3), none, some (.int x5), some (.ref r6), none, some (.int x8), some (.int x9), some (.int x10), some (.ref r11), some (.int x12), some (.long x13), none, some (.int x15), some (.int x16), some (.int x17), some (.int x18), none] [] V σ := by
  unfold fL_tows_b356 at h
  refine z_iload C.c dL_tows_356 (i := 18) rfl ?_
  refine z_iload C.c dL_tows_358 (i := 17) rfl ?_
  refine z_icmp_ge C.c (tgt := 437) dL_tows_360 (by decide) (fun c => ?_) (fun c => ?_)
  · replace h := ite_t c h
    have g9 := hE0 _ (Option.some.inj h).symm
    exact z_mask [true, false, true, true, false, true, true, false, true, true, true, true, true, true, false, true, true, false, false, false] rfl (z_drop hp g9)
  · replace h := ite_f c h
    refine z_aload C.c dL_tows_363 (i := 11) rfl ?_
    refine z_iconst C.c dL_tows_365 (v := (0 : Int32)) (by decide) ?_
    refine z_iald C dL_tows_366 hw11 (by decide) ?_
    refine z_if_le C.c (tgt := 437) dL_tows_367 (by decide) (fun c => ?_) (fun c => ?_)
    · replace h := ite_t c h
      have g9 := hE0 _ (Option.some.inj h).symm
      exact z_mask [true, false, true, true, false, true, true, false, true, true, true, true, true, true, false, true, true, false, false, false] rfl (z_drop hp g9)
    · replace h := ite_f c h
      refine z_lload C.c dL_tows_370 (i := 13) rfl ?_
      refine z_ldc2 C.c (v := (1103515245 : Int64)) aw_675 dL_tows_372 ?_
      refine z_lmul C.c dL_tows_375 ?_
      refine z_ldc2 C.c (v := (12345 : Int64)) aw_676 dL_tows_376 ?_
      refine z_ladd C.c dL_tows_379 ?_
      refine z_ldc2 C.c (v := (2147483648 : Int64)) aw_677 dL_tows_380 ?_
      refine z_lrem C.c dL_tows_383 (by decide) ?_
      refine z_lstore C.c (i := 13) (L' := [some (.ref (kad K 0)), none, some (.ref r2), some (.ref r3), none, some (.int x5), some (.ref r6), none, some (.int x8), some (.int x9), some (.int x10), some (.ref r11), some (.int x12), some (.long (((x13 * (1103515245 : Int64)) + (12345 : Int64)) - ((x13 * (1103515245 : Int64)) + (12345 : Int64)) / (2147483648 : Int64) * (2147483648 : Int64))), none, some (.int x15), some (.int x16), some (.int x17), some (.int x18), none]) dL_tows_384 (Nat.le_of_ble_eq_true rfl) rfl ?_
      refine z_aload_n C.c dL_tows_386 rfl (i := 2) rfl ?_
      refine z_iconst C.c dL_tows_387 (v := (3 : Int32)) (by decide) ?_
      refine z_iload C.c dL_tows_388 (i := 12) rfl ?_
      refine z_iadd C.c dL_tows_390 ?_
      obtain ⟨c30, h⟩ := chk h
      refine z_iald C dL_tows_391 hw2 c30 ?_
      refine z_lload C.c dL_tows_392 (i := 13) rfl ?_
      refine z_ldc2 C.c (v := (65536 : Int64)) aw_678 dL_tows_394 ?_
      refine z_ldiv C.c dL_tows_397 (by decide) ?_
      refine z_ldc2 C.c (v := (3 : Int64)) aw_679 dL_tows_398 ?_
      refine z_lrem C.c dL_tows_401 (by decide) ?_
      refine z_l2i C.c dL_tows_402 ?_
      refine z_iadd C.c dL_tows_403 ?_
      refine z_iconst C.c dL_tows_404 (v := (1 : Int32)) (by decide) ?_
      refine z_isub C.c dL_tows_405 ?_
      refine z_istore C.c (i := 19) (L' := [some (.ref (kad K 0)), none, some (.ref r2), some (.ref r3), none, some (.int x5), some (.ref r6), none, some (.int x8), some (.int x9), some (.int x10), some (.ref r11), some (.int x12), some (.long (((x13 * (1103515245 : Int64)) + (12345 : Int64)) - ((x13 * (1103515245 : Int64)) + (12345 : Int64)) / (2147483648 : Int64) * (2147483648 : Int64))), none, some (.int x15), some (.int x16), some (.int x17), some (.int x18), some (.int (((rT σ w2 (((3 : Int32) + x12)).toNatClampNeg) + ((((((x13 * (1103515245 : Int64)) + (12345 : Int64)) - ((x13 * (1103515245 : Int64)) + (12345 : Int64)) / (2147483648 : Int64) * (2147483648 : Int64)) / (65536 : Int64)) - ((((x13 * (1103515245 : Int64)) + (12345 : Int64)) - ((x13 * (1103515245 : Int64)) + (12345 : Int64)) / (2147483648 : Int64) * (2147483648 : Int64)) / (65536 : Int64)) / (3 : Int64) * (3 : Int64))).toInt32) - (1 : Int32)))]) dL_tows_406 (Nat.le_of_ble_eq_true rfl) rfl ?_
      refine z_aload_n C.c dL_tows_408 rfl (i := 3) rfl ?_
      refine z_iconst C.c dL_tows_409 (v := (5 : Int32)) (by decide) ?_
      refine z_iload C.c dL_tows_410 (i := 5) rfl ?_
      refine z_imul C.c dL_tows_412 ?_
      refine z_iload C.c dL_tows_413 (i := 19) rfl ?_
      refine z_if_ge C.c (tgt := 422) dL_tows_415 (by decide) (fun c => ?_) (fun c => ?_)
      · replace h := ite_t c h
        refine z_iload C.c dL_tows_422 (i := 19) rfl ?_
        exact z_mask [true, false, true, true, false, true, true, false, true, true, true, true, true, true, false, true, true, true, true, false] rfl (bL_tows_b424 C hp hN hw2 hw3 hw6 hw11 hw3 hI hE0 h)
      · replace h := ite_f c h
        refine z_iconst C.c dL_tows_418 (v := (0 : Int32)) (by decide) ?_
        refine z_goto C.c (tgt := 424) dL_tows_419 (by decide) ?_
        exact z_mask [true, false, true, true, false, true, true, false, true, true, true, true, true, true, false, true, true, true, true, false] rfl (bL_tows_b424 C hp hN hw2 hw3 hw6 hw11 hw3 hI hE0 h)
set_option maxRecDepth 8000 in
theorem bL_tows_b308 {K : KT} {w2 : Nat} {w3 : Nat} {x5 : Int32} {w6 : Nat} {x8 : Int32} {x9 : Int32} {x10 : Int32} {w11 : Nat} {x12 : Int32} {x13 : Int64} {x15 : Int32} {r2 : Nat} {r3 : Nat} {r6 : Nat} {r11 : Nat} {nw : Nat} {σ : LwS} {o : (Int32 × Int64 × Int32 × LwS) ⊕ ((Int64 × LwS))} {V Vc : Wl} {b Ln : Nat} {xs : Nat → Int32} (C : CZ K cL_tows RL 20 17 3 (some .boolean) b Ln xs) (hp : Pf Vc V) (hN : V.length = nw) (hw2 : V[w2]? = some (r2, 63)) (hw3 : V[w3]? = some (r3, 26)) (hw6 : V[w6]? = some (r6, 6)) (hw11 : V[w11]? = some (r11, 3)) (hI : ∀ s' : Int32 × Int64 × Int32 × LwS, o = .inl s' → GZ K 3 308 [some (.ref (kad K 0)), none, some (.ref r2), some (.ref r3), none, some (.int x5), some (.ref r6), none, some (.int x8), some (.int x9), some (.int x10), some (.ref r11), some (.int s'.1), some (.long s'.2.1), none, some (.int s'.2.2.1), none, none, none, none] [] Vc s'.2.2.2) (hE0 : ∀ t : Int64 × LwS, o = .inr t → GZ K 3 453 [some (.ref (kad K 0)), none, none, none, none, some (.int x5), none, none, some (.int x8), some (.int x9), some (.int x10), some (.ref r11), none, some (.long t.1), none, none, none, none, none, none] [] Vc t.2) (h : fL_tows_b308 xs Ln w2 w3 x5 w6 x8 x9 x10 w11 x12 x13 x15 nw σ = some o) : GZ K 3 308 [some (.ref (kad K 0)), none, some (.ref r2), some (.ref r3), none, some (.int x5), some (.ref r6), none, some (.int x8), some (.int x9), some (.int x10), some (.ref r11), some (.int x12), some (.long x13), none, some (.int x15), none, none, none, none] [] V σ := by
  unfold fL_tows_b308 at h
  refine z_iload C.c dL_tows_308 (i := 15) rfl ?_
  refine z_aload C.c dL_tows_310 (i := 6) rfl ?_
  refine z_iconst C.c dL_tows_312 (v := (3 : Int32)) (by decide) ?_
  refine z_iald C dL_tows_313 hw6 (by decide) ?_
  refine z_icmp_ge C.c (tgt := 453) dL_tows_314 (by decide) (fun c => ?_) (fun c => ?_)
  · replace h := ite_t c h
    have g9 := hE0 _ (Option.some.inj h).symm
    exact z_mask [true, false, false, false, false, true, false, false, true, true, true, true, false, true, false, false, false, false, false, false] rfl (z_drop hp g9)
  · replace h := ite_f c h
    refine z_aload C.c dL_tows_317 (i := 6) rfl ?_
    refine z_iconst C.c dL_tows_319 (v := (4 : Int32)) (by decide) ?_
    refine z_iald C dL_tows_320 hw6 (by decide) ?_
    refine z_iconst C.c dL_tows_321 (v := (2 : Int32)) (by decide) ?_
    refine z_aload C.c dL_tows_322 (i := 6) rfl ?_
    refine z_iconst C.c dL_tows_324 (v := (3 : Int32)) (by decide) ?_
    refine z_iald C dL_tows_325 hw6 (by decide) ?_
    refine z_iconst C.c dL_tows_326 (v := (1 : Int32)) (by decide) ?_
    refine z_isub C.c dL_tows_327 ?_
    refine z_iload C.c dL_tows_328 (i := 15) rfl ?_
    refine z_isub C.c dL_tows_330 ?_
    refine z_imul C.c dL_tows_331 ?_
    refine z_ishr C.c dL_tows_332 ?_
    refine z_iconst C.c dL_tows_333 (v := (3 : Int32)) (by decide) ?_
    refine z_iand C.c dL_tows_334 ?_
    refine z_istore C.c (i := 16) (L' := [some (.ref (kad K 0)), none, some (.ref r2), some (.ref r3), none, some (.int x5), some (.ref r6), none, some (.int x8), some (.int x9), some (.int x10), some (.ref r11), some (.int x12), some (.long x13), none, some (.int x15), some (.int ((ishr (rT σ w6 ((4 : Int32)).toNatClampNeg) ((2 : Int32) * (((rT σ w6 ((3 : Int32)).toNatClampNeg) - (1 : Int32)) - x15))) &&& (3 : Int32))), none, none, none]) dL_tows_335 (Nat.le_of_ble_eq_true rfl) rfl ?_
    refine z_aload_n C.c dL_tows_337 rfl (i := 2) rfl ?_
    refine z_iload C.c dL_tows_338 (i := 12) rfl ?_
    refine z_iload C.c dL_tows_340 (i := 16) rfl ?_
    refine z_aload C.c dL_tows_342 (i := 11) rfl ?_
    refine z_iconst C.c dL_tows_344 (v := (0 : Int32)) (by decide) ?_
    refine z_iald C dL_tows_345 hw11 (by decide) ?_
    refine z_iload C.c dL_tows_346 (i := 8) rfl ?_
    obtain ⟨p28, e29, h⟩ := Option.bind_eq_some_iff.mp h
    refine kz_35 C hw2 dL_tows_348 e29 (Nat.le_of_ble_eq_true rfl) rfl (Nat.le_of_ble_eq_true rfl) ?_
    refine z_istore C.c (i := 17) (L' := [some (.ref (kad K 0)), none, some (.ref r2), some (.ref r3), none, some (.int x5), some (.ref r6), none, some (.int x8), some (.int x9), some (.int x10), some (.ref r11), some (.int x12), some (.long x13), none, some (.int x15), some (.int ((ishr (rT σ w6 ((4 : Int32)).toNatClampNeg) ((2 : Int32) * (((rT σ w6 ((3 : Int32)).toNatClampNeg) - (1 : Int32)) - x15))) &&& (3 : Int32))), some (.int p28.1), none, none]) dL_tows_351 (Nat.le_of_ble_eq_true rfl) rfl ?_
    refine z_iconst C.c dL_tows_353 (v := (0 : Int32)) (by decide) ?_
    refine z_istore C.c (i := 18) (L' := [some (.ref (kad K 0)), none, some (.ref r2), some (.ref r3), none, some (.int x5), some (.ref r6), none, some (.int x8), some (.int x9), some (.int x10), some (.ref r11), some (.int x12), some (.long x13), none, some (.int x15), some (.int ((ishr (rT σ w6 ((4 : Int32)).toNatClampNeg) ((2 : Int32) * (((rT σ w6 ((3 : Int32)).toNatClampNeg) - (1 : Int32)) - x15))) &&& (3 : Int32))), some (.int p28.1), some (.int (0 : Int32)), none]) dL_tows_354 (Nat.le_of_ble_eq_true rfl) rfl ?_
    refine z_mask [true, false, true, true, false, true, true, false, true, true, true, true, true, true, false, true, true, true, true, false] rfl ?_
    refine lp_bind (Gh := fun s => GZ K 3 356 [some (.ref (kad K 0)), none, some (.ref r2), some (.ref r3), none, some (.int x5), some (.ref r6), none, some (.int x8), some (.int x9), some (.int x10), some (.ref r11), some (.int x12), some (.long s.1), none, some (.int x15), some (.int ((ishr (rT σ w6 ((4 : Int32)).toNatClampNeg) ((2 : Int32) * (((rT σ w6 ((3 : Int32)).toNatClampNeg) - (1 : Int32)) - x15))) &&& (3 : Int32))), some (.int p28.1), some (.int s.2.1), none] [] V s.2.2) h (fun s o2 hf gI gE => ?_)
    refine bL_tows_b356 C Pf.rf hN hw2 hw3 hw6 hw11 gI (fun t33 e => ?_) hf
    · have h := gE _ e
      refine z_aload_n C.c dL_tows_437 rfl (i := 2) rfl ?_
      refine z_iload C.c dL_tows_438 (i := 12) rfl ?_
      refine z_iload C.c dL_tows_440 (i := 16) rfl ?_
      obtain ⟨p35, e36, h⟩ := Option.bind_eq_some_iff.mp h
      refine kz_28 C hw2 dL_tows_442 e36 (Nat.le_of_ble_eq_true rfl) rfl (Nat.le_of_ble_eq_true rfl) ?_
      refine z_istore C.c (i := 12) (L' := [some (.ref (kad K 0)), none, some (.ref r2), some (.ref r3), none, some (.int x5), some (.ref r6), none, some (.int x8), some (.int x9), some (.int x10), some (.ref r11), some (.int p35.1), some (.long t33.1), none, some (.int x15), some (.int ((ishr (rT σ w6 ((4 : Int32)).toNatClampNeg) ((2 : Int32) * (((rT σ w6 ((3 : Int32)).toNatClampNeg) - (1 : Int32)) - x15))) &&& (3 : Int32))), none, none, none]) dL_tows_445 (Nat.le_of_ble_eq_true rfl) rfl ?_
      refine z_iinc C.c (i := 15) (y := (1 : Int32)) (L' := [some (.ref (kad K 0)), none, some (.ref r2), some (.ref r3), none, some (.int x5), some (.ref r6), none, some (.int x8), some (.int x9), some (.int x10), some (.ref r11), some (.int p35.1), some (.long t33.1), none, some (.int (x15 + (1 : Int32))), some (.int ((ishr (rT σ w6 ((4 : Int32)).toNatClampNeg) ((2 : Int32) * (((rT σ w6 ((3 : Int32)).toNatClampNeg) - (1 : Int32)) - x15))) &&& (3 : Int32))), none, none, none]) dL_tows_447 rfl (by decide) (Nat.le_of_ble_eq_true rfl) rfl ?_
      refine z_goto C.c (tgt := 308) dL_tows_450 (by decide) ?_
      have g9 := hI _ (Option.some.inj h).symm
      exact z_mask [true, false, true, true, false, true, true, false, true, true, true, true, true, true, false, true, false, false, false, false] rfl (z_drop hp g9)
set_option maxRecDepth 8000 in
theorem bL_tows_b44 {K : KT} {w2 : Nat} {w3 : Nat} {w4 : Nat} {x5 : Int32} {w6 : Nat} {x8 : Int32} {y0 : Int32} {r2 : Nat} {r3 : Nat} {r4 : Nat} {r6 : Nat} {nw : Nat} {σ : LwS} {o : Int32 × LwS} {V Vc : Wl} {b Ln : Nat} {xs : Nat → Int32} (C : CZ K cL_tows RL 20 17 3 (some .boolean) b Ln xs) (hp : Pf Vc V) (hN : V.length = nw) (hw2 : V[w2]? = some (r2, 63)) (hw3 : V[w3]? = some (r3, 26)) (hw4 : V[w4]? = some (r4, 3)) (hw6 : V[w6]? = some (r6, 6)) (hQ : RZ K Vc 3 (ozI o)) (h : fL_tows_b44 xs Ln w2 w3 w4 x5 w6 x8 y0 nw σ = some o) : GZ K 3 44 [some (.ref (kad K 0)), some (.ref b), some (.ref r2), some (.ref r3), some (.ref r4), some (.int x5), some (.ref r6), none, some (.int x8), none, none, none, none, none, none, none, none, none, none, none] [.int y0] V σ := by
  unfold fL_tows_b44 at h
  refine z_istore C.c (i := 9) (L' := [some (.ref (kad K 0)), some (.ref b), some (.ref r2), some (.ref r3), some (.ref r4), some (.int x5), some (.ref r6), none, some (.int x8), some (.int y0), none, none, none, none, none, none, none, none, none, none]) dL_tows_44 (Nat.le_of_ble_eq_true rfl) rfl ?_
  refine z_aload_n C.c dL_tows_46 rfl (i := 1) rfl ?_
  refine z_bipush C.c dL_tows_47 (v := (16 : Int32)) (by decide) ?_
  refine z_iload C.c dL_tows_49 (i := 5) rfl ?_
  refine z_iadd C.c dL_tows_51 ?_
  obtain ⟨p9, e10, h⟩ := Option.bind_eq_some_iff.mp h
  refine kz_8 C dL_tows_52 e10 (Nat.le_of_ble_eq_true rfl) rfl (Nat.le_of_ble_eq_true rfl) ?_
  refine z_ldc C.c (v := (2147483647 : Int32)) aw_673 dL_tows_55 ?_
  refine z_iand C.c dL_tows_57 ?_
  refine z_istore C.c (i := 10) (L' := [some (.ref (kad K 0)), some (.ref b), some (.ref r2), some (.ref r3), some (.ref r4), some (.int x5), some (.ref r6), none, some (.int x8), some (.int y0), some (.int (p9.1 &&& (2147483647 : Int32))), none, none, none, none, none, none, none, none, none]) dL_tows_58 (Nat.le_of_ble_eq_true rfl) rfl ?_
  refine z_aload_n C.c dL_tows_60 rfl (i := 2) rfl ?_
  refine z_aload_n C.c dL_tows_61 rfl (i := 3) rfl ?_
  refine z_iconst C.c dL_tows_62 (v := (5 : Int32)) (by decide) ?_
  refine z_iload C.c dL_tows_63 (i := 5) rfl ?_
  refine z_imul C.c dL_tows_65 ?_
  refine z_iload C.c dL_tows_66 (i := 8) rfl ?_
  refine z_iload C.c dL_tows_68 (i := 9) rfl ?_
  refine z_aload C.c dL_tows_70 (i := 4) rfl ?_
  refine z_aload C.c dL_tows_72 (i := 6) rfl ?_
  obtain ⟨c13, h⟩ := chk h
  obtain ⟨p11, e12, h⟩ := Option.bind_eq_some_iff.mp h
  refine kz_80 C hw2 hw3 hw4 hw6 hN dL_tows_74 e12 (Nat.le_of_ble_eq_true rfl) rfl (Nat.le_of_ble_eq_true rfl) c13 ?_
  refine z_aload C.c dL_tows_77 (i := 6) rfl ?_
  refine z_iconst C.c dL_tows_79 (v := (5 : Int32)) (by decide) ?_
  refine z_iald C dL_tows_80 hw6 (by decide) ?_
  refine z_if_ne C.c (tgt := 157) dL_tows_81 (by decide) (fun c => ?_) (fun c => ?_)
  · replace h := ite_f c h
    refine z_iconst C.c dL_tows_157 (v := (0 : Int32)) (by decide) ?_
    refine z_istore C.c (i := 11) (L' := [some (.ref (kad K 0)), some (.ref b), some (.ref r2), some (.ref r3), some (.ref r4), some (.int x5), some (.ref r6), none, some (.int x8), some (.int y0), some (.int (p9.1 &&& (2147483647 : Int32))), some (.int (0 : Int32)), none, none, none, none, none, none, none, none]) dL_tows_158 (Nat.le_of_ble_eq_true rfl) rfl ?_
    refine z_mask [true, false, true, true, false, true, true, false, true, true, true, true, false, false, false, false, false, false, false, false] rfl ?_
    refine lp_bind (Gh := fun s => GZ K 3 160 [some (.ref (kad K 0)), none, some (.ref r2), some (.ref r3), none, some (.int x5), some (.ref r6), none, some (.int x8), some (.int y0), some (.int (p9.1 &&& (2147483647 : Int32))), some (.int s.1), none, none, none, none, none, none, none, none] [] V s.2) h (fun s o2 hf gI gE => ?_)
    refine bL_tows_b160 C Pf.rf hN hw2 hw3 hw6 gI (fun t17 e => ?_) (fun t17 e => ?_) hf
    · have h := el_l (gE _ e)
      refine z_iconst C.c dL_tows_186 (v := (0 : Int32)) (by decide) ?_
      obtain rfl := Option.some.inj h
      exact z_iret C hp hQ dL_tows_187 rfl ⟨rfl, rfl⟩
    · have h := el_r (gE _ e)
      refine z_iconst C.c dL_tows_194 (v := (0 : Int32)) (by decide) ?_
      refine z_istore C.c (i := 11) (L' := [some (.ref (kad K 0)), none, some (.ref r2), some (.ref r3), none, some (.int x5), some (.ref r6), none, some (.int x8), some (.int y0), some (.int (p9.1 &&& (2147483647 : Int32))), some (.int (0 : Int32)), none, none, none, none, none, none, none, none]) dL_tows_195 (Nat.le_of_ble_eq_true rfl) rfl ?_
      refine z_mask [true, false, true, true, false, true, true, false, true, true, true, true, false, false, false, false, false, false, false, false] rfl ?_
      refine lp_bind (Gh := fun s => GZ K 3 197 [some (.ref (kad K 0)), none, some (.ref r2), some (.ref r3), none, some (.int x5), some (.ref r6), none, some (.int x8), some (.int y0), some (.int (p9.1 &&& (2147483647 : Int32))), some (.int s.1), none, none, none, none, none, none, none, none] [] V s.2) h (fun s o2 hf gI gE => ?_)
      refine bL_tows_b197 C Pf.rf hN hw2 hw3 hw6 gI (fun t21 e => ?_) (fun t21 e => ?_) hf
      · have h := el_l (gE _ e)
        refine z_iconst C.c dL_tows_253 (v := (0 : Int32)) (by decide) ?_
        obtain rfl := Option.some.inj h
        exact z_iret C hp hQ dL_tows_254 rfl ⟨rfl, rfl⟩
      · have h := el_r (gE _ e)
        refine z_iconst C.c dL_tows_261 (v := (3 : Int32)) (by decide) ?_
        obtain ⟨c23, h⟩ := chk h
        refine z_newI C (N := 3) dL_tows_262 aw_68 (by decide) (by decide) (by decide) hN c23 (fun q24 => ?_)
        refine z_astore C.c (i := 11) (L' := [some (.ref (kad K 0)), none, some (.ref r2), some (.ref r3), none, some (.int x5), some (.ref r6), none, some (.int x8), some (.int y0), some (.int (p9.1 &&& (2147483647 : Int32))), some (.ref q24), none, none, none, none, none, none, none, none]) dL_tows_264 (Nat.le_of_ble_eq_true rfl) rfl ?_
        refine z_aload_n C.c dL_tows_266 rfl (i := 3) rfl ?_
        refine z_iconst C.c dL_tows_267 (v := (5 : Int32)) (by decide) ?_
        refine z_iload C.c dL_tows_268 (i := 5) rfl ?_
        refine z_imul C.c dL_tows_270 ?_
        refine z_iconst C.c dL_tows_271 (v := (1 : Int32)) (by decide) ?_
        refine z_iadd C.c dL_tows_272 ?_
        obtain ⟨c25, h⟩ := chk h
        refine z_iald C dL_tows_273 (z_up hw3) c25 ?_
        refine z_istore C.c (i := 12) (L' := [some (.ref (kad K 0)), none, some (.ref r2), some (.ref r3), none, some (.int x5), some (.ref r6), none, some (.int x8), some (.int y0), some (.int (p9.1 &&& (2147483647 : Int32))), some (.ref q24), some (.int (rT (nT t21 nw) w3 ((((5 : Int32) * x5) + (1 : Int32))).toNatClampNeg)), none, none, none, none, none, none, none]) dL_tows_274 (Nat.le_of_ble_eq_true rfl) rfl ?_
        refine z_iload C.c dL_tows_276 (i := 10) rfl ?_
        refine z_i2l C.c dL_tows_278 ?_
        refine z_lstore C.c (i := 13) (L' := [some (.ref (kad K 0)), none, some (.ref r2), some (.ref r3), none, some (.int x5), some (.ref r6), none, some (.int x8), some (.int y0), some (.int (p9.1 &&& (2147483647 : Int32))), some (.ref q24), some (.int (rT (nT t21 nw) w3 ((((5 : Int32) * x5) + (1 : Int32))).toNatClampNeg)), some (.long ((p9.1 &&& (2147483647 : Int32))).toInt64), none, none, none, none, none, none]) dL_tows_279 (Nat.le_of_ble_eq_true rfl) rfl ?_
        refine z_aload C.c dL_tows_281 (i := 11) rfl ?_
        refine z_iconst C.c dL_tows_283 (v := (0 : Int32)) (by decide) ?_
        refine z_aload_n C.c dL_tows_284 rfl (i := 3) rfl ?_
        refine z_iconst C.c dL_tows_285 (v := (5 : Int32)) (by decide) ?_
        refine z_iload C.c dL_tows_286 (i := 5) rfl ?_
        refine z_imul C.c dL_tows_288 ?_
        refine z_iconst C.c dL_tows_289 (v := (2 : Int32)) (by decide) ?_
        refine z_iadd C.c dL_tows_290 ?_
        obtain ⟨c26, h⟩ := chk h
        refine z_iald C dL_tows_291 (z_up hw3) c26 ?_
        refine z_iast C dL_tows_292 (z_new hN) (by decide) ?_
        refine z_aload C.c dL_tows_293 (i := 11) rfl ?_
        refine z_iconst C.c dL_tows_295 (v := (1 : Int32)) (by decide) ?_
        refine z_aload_n C.c dL_tows_296 rfl (i := 3) rfl ?_
        refine z_iconst C.c dL_tows_297 (v := (5 : Int32)) (by decide) ?_
        refine z_iload C.c dL_tows_298 (i := 5) rfl ?_
        refine z_imul C.c dL_tows_300 ?_
        refine z_iconst C.c dL_tows_301 (v := (3 : Int32)) (by decide) ?_
        refine z_iadd C.c dL_tows_302 ?_
        obtain ⟨c27, h⟩ := chk h
        refine z_iald C dL_tows_303 (z_up hw3) c27 ?_
        refine z_iast C dL_tows_304 (z_new hN) (by decide) ?_
        refine z_iconst C.c dL_tows_305 (v := (0 : Int32)) (by decide) ?_
        refine z_istore C.c (i := 15) (L' := [some (.ref (kad K 0)), none, some (.ref r2), some (.ref r3), none, some (.int x5), some (.ref r6), none, some (.int x8), some (.int y0), some (.int (p9.1 &&& (2147483647 : Int32))), some (.ref q24), some (.int (rT (nT t21 nw) w3 ((((5 : Int32) * x5) + (1 : Int32))).toNatClampNeg)), some (.long ((p9.1 &&& (2147483647 : Int32))).toInt64), none, some (.int (0 : Int32)), none, none, none, none]) dL_tows_306 (Nat.le_of_ble_eq_true rfl) rfl ?_
        refine z_mask [true, false, true, true, false, true, true, false, true, true, true, true, true, true, false, true, false, false, false, false] rfl ?_
        refine lp_bind (Gh := fun s => GZ K 3 308 [some (.ref (kad K 0)), none, some (.ref r2), some (.ref r3), none, some (.int x5), some (.ref r6), none, some (.int x8), some (.int y0), some (.int (p9.1 &&& (2147483647 : Int32))), some (.ref q24), some (.int s.1), some (.long s.2.1), none, some (.int s.2.2.1), none, none, none, none] [] (V ++ [(q24, 3)]) s.2.2.2) h (fun s o2 hf gI gE => ?_)
        refine bL_tows_b308 C Pf.rf (z_len hN) (z_up hw2) (z_up hw3) (z_up hw6) (z_new hN) gI (fun t37 e => ?_) hf
        · have h := gE _ e
          refine z_aload_n C.c dL_tows_453 rfl (i := 0) rfl ?_
          refine z_iload C.c dL_tows_454 (i := 5) rfl ?_
          refine z_iload C.c dL_tows_456 (i := 8) rfl ?_
          refine z_iload C.c dL_tows_458 (i := 9) rfl ?_
          refine z_iload C.c dL_tows_460 (i := 10) rfl ?_
          refine z_iconst C.c dL_tows_462 (v := (0 : Int32)) (by decide) ?_
          obtain ⟨p39, e40, h⟩ := Option.bind_eq_some_iff.mp h
          refine kz_112 C dL_tows_463 e40 (Nat.le_of_ble_eq_true rfl) rfl (Nat.le_of_ble_eq_true rfl) ?_
          refine z_aload C.c dL_tows_466 (i := 11) rfl ?_
          refine z_iconst C.c dL_tows_468 (v := (0 : Int32)) (by decide) ?_
          refine z_iald C dL_tows_469 (z_new hN) (by decide) ?_
          refine z_icmp_ne C.c (tgt := 517) dL_tows_470 (by decide) (fun c => ?_) (fun c => ?_)
          · replace h := ite_f c h
            refine z_iconst C.c dL_tows_517 (v := (0 : Int32)) (by decide) ?_
            obtain rfl := Option.some.inj h
            exact z_iret C (Pf.up hp) hQ dL_tows_518 rfl ⟨rfl, rfl⟩
          · replace h := ite_t c h
            refine z_aload_n C.c dL_tows_473 rfl (i := 0) rfl ?_
            refine z_iload C.c dL_tows_474 (i := 5) rfl ?_
            refine z_iload C.c dL_tows_476 (i := 8) rfl ?_
            refine z_iload C.c dL_tows_478 (i := 9) rfl ?_
            refine z_iload C.c dL_tows_480 (i := 10) rfl ?_
            refine z_iconst C.c dL_tows_482 (v := (1 : Int32)) (by decide) ?_
            obtain ⟨p41, e42, h⟩ := Option.bind_eq_some_iff.mp h
            refine kz_112 C dL_tows_483 e42 (Nat.le_of_ble_eq_true rfl) rfl (Nat.le_of_ble_eq_true rfl) ?_
            refine z_aload C.c dL_tows_486 (i := 11) rfl ?_
            refine z_iconst C.c dL_tows_488 (v := (2 : Int32)) (by decide) ?_
            refine z_iald C dL_tows_489 (z_new hN) (by decide) ?_
            refine z_icmp_ne C.c (tgt := 517) dL_tows_490 (by decide) (fun c => ?_) (fun c => ?_)
            · replace h := ite_f c h
              refine z_iconst C.c dL_tows_517 (v := (0 : Int32)) (by decide) ?_
              obtain rfl := Option.some.inj h
              exact z_iret C (Pf.up hp) hQ dL_tows_518 rfl ⟨rfl, rfl⟩
            · replace h := ite_t c h
              refine z_aload_n C.c dL_tows_493 rfl (i := 0) rfl ?_
              refine z_iload C.c dL_tows_494 (i := 5) rfl ?_
              refine z_iload C.c dL_tows_496 (i := 8) rfl ?_
              refine z_iload C.c dL_tows_498 (i := 9) rfl ?_
              refine z_iload C.c dL_tows_500 (i := 10) rfl ?_
              refine z_iconst C.c dL_tows_502 (v := (2 : Int32)) (by decide) ?_
              obtain ⟨p43, e44, h⟩ := Option.bind_eq_some_iff.mp h
              refine kz_112 C dL_tows_503 e44 (Nat.le_of_ble_eq_true rfl) rfl (Nat.le_of_ble_eq_true rfl) ?_
              refine z_i2l C.c dL_tows_506 ?_
              refine z_lload C.c dL_tows_507 (i := 13) rfl ?_
              refine z_lcmp C.c dL_tows_509 ?_
              refine z_if_ne C.c (tgt := 517) dL_tows_510 (by decide) (fun c => ?_) (fun c => ?_)
              · replace h := ite_f c h
                refine z_iconst C.c dL_tows_517 (v := (0 : Int32)) (by decide) ?_
                obtain rfl := Option.some.inj h
                exact z_iret C (Pf.up hp) hQ dL_tows_518 rfl ⟨rfl, rfl⟩
              · replace h := ite_t c h
                refine z_iconst C.c dL_tows_513 (v := (1 : Int32)) (by decide) ?_
                refine z_goto C.c (tgt := 518) dL_tows_514 (by decide) ?_
                obtain rfl := Option.some.inj h
                exact z_iret C (Pf.up hp) hQ dL_tows_518 rfl ⟨rfl, rfl⟩
  · replace h := ite_t c h
    refine z_aload_n C.c dL_tows_84 rfl (i := 0) rfl ?_
    refine z_iload C.c dL_tows_85 (i := 5) rfl ?_
    refine z_iload C.c dL_tows_87 (i := 8) rfl ?_
    refine z_iload C.c dL_tows_89 (i := 9) rfl ?_
    refine z_iconst C.c dL_tows_91 (v := (0 : Int32)) (by decide) ?_
    obtain ⟨p45, e46, h⟩ := Option.bind_eq_some_iff.mp h
    refine kz_105 C dL_tows_92 e46 (Nat.le_of_ble_eq_true rfl) rfl (Nat.le_of_ble_eq_true rfl) ?_
    refine z_ldc C.c (v := (-100001 : Int32)) aw_674 dL_tows_95 ?_
    refine z_icmp_ne C.c (tgt := 155) dL_tows_97 (by decide) (fun c => ?_) (fun c => ?_)
    · replace h := ite_f c h
      refine z_iconst C.c dL_tows_155 (v := (0 : Int32)) (by decide) ?_
      obtain rfl := Option.some.inj h
      exact z_iret C hp hQ dL_tows_156 rfl ⟨rfl, rfl⟩
    · replace h := ite_t c h
      refine z_aload_n C.c dL_tows_100 rfl (i := 0) rfl ?_
      refine z_iload C.c dL_tows_101 (i := 5) rfl ?_
      refine z_iload C.c dL_tows_103 (i := 8) rfl ?_
      refine z_iload C.c dL_tows_105 (i := 9) rfl ?_
      refine z_bipush C.c dL_tows_107 (v := (10 : Int32)) (by decide) ?_
      obtain ⟨p47, e48, h⟩ := Option.bind_eq_some_iff.mp h
      refine kz_105 C dL_tows_109 e48 (Nat.le_of_ble_eq_true rfl) rfl (Nat.le_of_ble_eq_true rfl) ?_
      refine z_ldc C.c (v := (-100001 : Int32)) aw_674 dL_tows_112 ?_
      refine z_icmp_ne C.c (tgt := 155) dL_tows_114 (by decide) (fun c => ?_) (fun c => ?_)
      · replace h := ite_f c h
        refine z_iconst C.c dL_tows_155 (v := (0 : Int32)) (by decide) ?_
        obtain rfl := Option.some.inj h
        exact z_iret C hp hQ dL_tows_156 rfl ⟨rfl, rfl⟩
      · replace h := ite_t c h
        refine z_aload_n C.c dL_tows_117 rfl (i := 0) rfl ?_
        refine z_iload C.c dL_tows_118 (i := 5) rfl ?_
        refine z_iload C.c dL_tows_120 (i := 8) rfl ?_
        refine z_iload C.c dL_tows_122 (i := 9) rfl ?_
        refine z_iload C.c dL_tows_124 (i := 10) rfl ?_
        refine z_iconst C.c dL_tows_126 (v := (0 : Int32)) (by decide) ?_
        obtain ⟨p49, e50, h⟩ := Option.bind_eq_some_iff.mp h
        refine kz_112 C dL_tows_127 e50 (Nat.le_of_ble_eq_true rfl) rfl (Nat.le_of_ble_eq_true rfl) ?_
        refine z_iconst C.c dL_tows_130 (v := (-1 : Int32)) (by decide) ?_
        refine z_icmp_ne C.c (tgt := 155) dL_tows_131 (by decide) (fun c => ?_) (fun c => ?_)
        · replace h := ite_f c h
          refine z_iconst C.c dL_tows_155 (v := (0 : Int32)) (by decide) ?_
          obtain rfl := Option.some.inj h
          exact z_iret C hp hQ dL_tows_156 rfl ⟨rfl, rfl⟩
        · replace h := ite_t c h
          refine z_aload_n C.c dL_tows_134 rfl (i := 0) rfl ?_
          refine z_iload C.c dL_tows_135 (i := 5) rfl ?_
          refine z_iload C.c dL_tows_137 (i := 8) rfl ?_
          refine z_iload C.c dL_tows_139 (i := 9) rfl ?_
          refine z_iconst C.c dL_tows_141 (v := (0 : Int32)) (by decide) ?_
          refine z_iconst C.c dL_tows_142 (v := (0 : Int32)) (by decide) ?_
          obtain ⟨p51, e52, h⟩ := Option.bind_eq_some_iff.mp h
          refine kz_116 C dL_tows_143 e52 (Nat.le_of_ble_eq_true rfl) rfl (Nat.le_of_ble_eq_true rfl) ?_
          refine z_bipush C.c dL_tows_146 (v := (-103 : Int32)) (by decide) ?_
          refine z_icmp_ne C.c (tgt := 155) dL_tows_148 (by decide) (fun c => ?_) (fun c => ?_)
          · replace h := ite_f c h
            refine z_iconst C.c dL_tows_155 (v := (0 : Int32)) (by decide) ?_
            obtain rfl := Option.some.inj h
            exact z_iret C hp hQ dL_tows_156 rfl ⟨rfl, rfl⟩
          · replace h := ite_t c h
            refine z_iconst C.c dL_tows_151 (v := (1 : Int32)) (by decide) ?_
            refine z_goto C.c (tgt := 156) dL_tows_152 (by decide) ?_
            obtain rfl := Option.some.inj h
            exact z_iret C hp hQ dL_tows_156 rfl ⟨rfl, rfl⟩
set_option maxRecDepth 8000 in
theorem bL_tows_b0 {K : KT} {w2 : Nat} {w3 : Nat} {w4 : Nat} {x5 : Int32} {r2 : Nat} {r3 : Nat} {r4 : Nat} {nw : Nat} {σ : LwS} {o : Int32 × LwS} {V Vc : Wl} {b Ln : Nat} {xs : Nat → Int32} (C : CZ K cL_tows RL 20 17 3 (some .boolean) b Ln xs) (hp : Pf Vc V) (hN : V.length = nw) (hw2 : V[w2]? = some (r2, 63)) (hw3 : V[w3]? = some (r3, 26)) (hw4 : V[w4]? = some (r4, 3)) (hQ : RZ K Vc 3 (ozI o)) (h : fL_tows_b0 xs Ln w2 w3 w4 x5 nw σ = some o) : GZ K 3 0 [some (.ref (kad K 0)), some (.ref b), some (.ref r2), some (.ref r3), some (.ref r4), some (.int x5), none, none, none, none, none, none, none, none, none, none, none, none, none, none] [] V σ := by
  unfold fL_tows_b0 at h
  refine z_bipush C.c dL_tows_0 (v := (6 : Int32)) (by decide) ?_
  obtain ⟨c1, h⟩ := chk h
  refine z_newI C (N := 6) dL_tows_2 aw_68 (by decide) (by decide) (by decide) hN c1 (fun q2 => ?_)
  refine z_astore C.c (i := 6) (L' := [some (.ref (kad K 0)), some (.ref b), some (.ref r2), some (.ref r3), some (.ref r4), some (.int x5), some (.ref q2), none, none, none, none, none, none, none, none, none, none, none, none, none]) dL_tows_4 (Nat.le_of_ble_eq_true rfl) rfl ?_
  refine z_aload_n C.c dL_tows_6 rfl (i := 1) rfl ?_
  refine z_bipush C.c dL_tows_7 (v := (13 : Int32)) (by decide) ?_
  refine z_iload C.c dL_tows_9 (i := 5) rfl ?_
  refine z_iadd C.c dL_tows_11 ?_
  obtain ⟨p3, e4, h⟩ := Option.bind_eq_some_iff.mp h
  refine kz_8 C dL_tows_12 e4 (Nat.le_of_ble_eq_true rfl) rfl (Nat.le_of_ble_eq_true rfl) ?_
  refine z_istore C.c (i := 7) (L' := [some (.ref (kad K 0)), some (.ref b), some (.ref r2), some (.ref r3), some (.ref r4), some (.int x5), some (.ref q2), some (.int p3.1), none, none, none, none, none, none, none, none, none, none, none, none]) dL_tows_15 (Nat.le_of_ble_eq_true rfl) rfl ?_
  refine z_iconst C.c dL_tows_17 (v := (1 : Int32)) (by decide) ?_
  refine z_iload C.c dL_tows_18 (i := 7) rfl ?_
  refine z_bipush C.c dL_tows_20 (v := (11 : Int32)) (by decide) ?_
  obtain ⟨p5, e6, h⟩ := Option.bind_eq_some_iff.mp h
  refine kz_14 C dL_tows_22 e6 (Nat.le_of_ble_eq_true rfl) rfl (Nat.le_of_ble_eq_true rfl) ?_
  refine z_iadd C.c dL_tows_25 ?_
  refine z_istore C.c (i := 8) (L' := [some (.ref (kad K 0)), some (.ref b), some (.ref r2), some (.ref r3), some (.ref r4), some (.int x5), some (.ref q2), some (.int p3.1), some (.int ((1 : Int32) + p5.1)), none, none, none, none, none, none, none, none, none, none, none]) dL_tows_26 (Nat.le_of_ble_eq_true rfl) rfl ?_
  refine z_iload C.c dL_tows_28 (i := 7) rfl ?_
  refine z_iconst C.c dL_tows_30 (v := (4 : Int32)) (by decide) ?_
  refine z_ishr C.c dL_tows_31 ?_
  refine z_iconst C.c dL_tows_32 (v := (2 : Int32)) (by decide) ?_
  obtain ⟨p7, e8, h⟩ := Option.bind_eq_some_iff.mp h
  refine kz_14 C dL_tows_33 e8 (Nat.le_of_ble_eq_true rfl) rfl (Nat.le_of_ble_eq_true rfl) ?_
  refine z_if_ne C.c (tgt := 43) dL_tows_36 (by decide) (fun c => ?_) (fun c => ?_)
  · replace h := ite_f c h
    refine z_iconst C.c dL_tows_43 (v := (0 : Int32)) (by decide) ?_
    exact z_mask [true, true, true, true, true, true, true, false, true, false, false, false, false, false, false, false, false, false, false, false] rfl (bL_tows_b44 C (Pf.up hp) (z_len hN) (z_up hw2) (z_up hw3) (z_up hw4) (z_new hN) hQ h)
  · replace h := ite_t c h
    refine z_iconst C.c dL_tows_39 (v := (1 : Int32)) (by decide) ?_
    refine z_goto C.c (tgt := 44) dL_tows_40 (by decide) ?_
    exact z_mask [true, true, true, true, true, true, true, false, true, false, false, false, false, false, false, false, false, false, false, false] rfl (bL_tows_b44 C (Pf.up hp) (z_len hN) (z_up hw2) (z_up hw3) (z_up hw4) (z_new hN) hQ h)
def fL_tows (xs : Nat → Int32) (Ln : Nat) (q2 : Nat) (q3 : Nat) (q4 : Nat) (a5 : Int32) (nw : Nat) (σ : LwS) : Option (Int32 × LwS) := fL_tows_b0 xs Ln q2 q3 q4 a5 nw σ
theorem ct_L_tows {q2 : Nat} {q3 : Nat} {q4 : Nat} {a5 : Int32} {r2 : Nat} {r3 : Nat} {r4 : Nat} {nw : Nat} {V : Wl} {b Ln : Nat} {xs : Nat → Int32} {σ : LwS} {p : Int32 × LwS} (hq2 : V[q2]? = some (r2, 63)) (hq3 : V[q3]? = some (r3, 26)) (hq4 : V[q4]? = some (r4, 3)) (hN : V.length = nw) (hs : σ.2.2 = 0) (h : fL_tows xs Ln q2 q3 q4 a5 nw σ = some p) : CtZ V yL_tows cL_tows 20 (some .boolean) 17 3 b Ln xs (fun ad => [.ref (ad 0), .ref b, .ref r2, .ref r3, .ref r4, .int a5]) σ (ozI p) :=
 ctz_of (L0 := fun ad => [some (.ref (ad 0)), some (.ref b), some (.ref r2), some (.ref r3), some (.ref r4), some (.int a5), none, none, none, none, none, none, none, none, none, none, none, none, none, none]) (by decide) hs (fun _ => Nat.le_of_ble_eq_true rfl) (fun _ => rfl) (fun K C hQ => z_mask [true, true, true, true, true, true, false, false, false, false, false, false, false, false, false, false, false, false, false, false] rfl (bL_tows_b0 C Pf.rf hN hq2 hq3 hq4 hQ h))
