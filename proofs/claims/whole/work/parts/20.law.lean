/-! THE CLAIM OUT OF ONE WALK OF THE LAW'S BODY. Your part is whole_start (and what it stands on); all else here is the same for every law, but numbers. -/
def R_law : String := "IceForCoastLaw"
def lw_P (b : Addr) (xs : List Int32) (args : Array Value) (s : State) : Prop := args = #[.ref b] ∧ s.IntsAt b xs ∧ xs.length ≤ 3072 ∧ (Jvm.Cond.and given_1 narrow_1).before args s = true
def lw_Q (_ : Array Value) (s : State) (o : Outcome) (t : State) : Prop := o = .returned (some (.int 1)) ∧ Framed s o t [] 600000 7302250
def lw_Z (below : List Frame) (a : Array Value) (s : State) : State → Prop := fun t => ∃ o, t.status = .running ∧ Ended t below o ∧ lw_Q a s o t
/-- the law's own end, with 1 on the stack, nothing written that was there before, its room as the claim has it -/
theorem lw_ret {p : Program} {l : Launch} {e : Env} {s : State} {m : MethodId} {below : List Frame} {meth : Method} {c : Code} {b : Nat} (hx : p.tables.exec = Jvm.exec) (hb : c.code = code) (hr : meth.sig.returnType = ret) (hlocks : meth.locks = false) {pc : Nat} {H : Heap} {ls : Array Slot} (hdg : decode code pc = .ok (.ireturn, 1)) : W p l e room_1 s m #[Value.ref b] below meth c H [] 600000 7302250 (lw_Z below #[Value.ref b] s) (F0 m pc ls [.int 1]) := by
  intro T hT X
  obtain ⟨fs, hret, hrun, hended, hW, hframe⟩ := X.leave (v := some (.int 1)) (hlocks := hlocks) (fun h => by rw [hr] at h; cases h)
  have hmeth' : T.vm.method? m = some meth := X.method'
  refine ⟨T.setFrames fs, ?_, .returned (some (.int 1)), hrun, hended, rfl, ⟨_, rfl⟩, hW, hframe⟩
  jvm_step X.here [X.here.top, hx, hb, hdg, hmeth', hr, ret, narrow_b1]
  (try refine ⟨rfl, ?_⟩); (try refine ⟨rfl, ?_⟩)
  first | (intro acts; rw [hret _ acts rfl rfl rfl]) | rw [hret _ _ rfl rfl rfl]
  exact Steps.refl _
/-- what holds at the law's entry: the machine, the code, the tables' words (any of lw_tbl by 'hts w (by decide +kernel)'), the script of L ints xs at the cell b, what the Statement gives of the start (any of its parts by flat_of_before) -/
def lw_At (p : Program) (s : State) (m : MethodId) (meth : Method) (c : Code) (b L : Nat) (xs : Nat → Int32) : Prop :=
  p.tables.exec = Jvm.exec ∧ c.code = code ∧ meth.sig.returnType = ret ∧ c.maxLocals = 4 ∧ s.vm.findClass R_law = some m.cls ∧ (∀ w ∈ lw_tbl, w.before #[Value.ref b] s = true) ∧ va_X b L xs s s.heap ∧ b < s.heap.size ∧ meth.locks = false ∧ (Jvm.Cond.and given_1 narrow_1).before #[Value.ref b] s = true
theorem dL_law_0 : decode cL_law 0 = .ok (.new 7, 3) := by decide +kernel
theorem dL_law_3 : decode cL_law 3 = .ok (.dup, 1) := by decide +kernel
theorem dL_law_4 : decode cL_law 4 = .ok (.invokespecial 9, 3) := by decide +kernel
theorem dL_law_7 : decode cL_law 7 = .ok (.astore_n 1, 1) := by decide +kernel
theorem dL_law_8 : decode cL_law 8 = .ok (.new 10, 3) := by decide +kernel
theorem dL_law_11 : decode cL_law 11 = .ok (.dup, 1) := by decide +kernel
theorem dL_law_12 : decode cL_law 12 = .ok (.invokespecial 12, 3) := by decide +kernel
theorem dL_law_15 : decode cL_law 15 = .ok (.astore_n 2, 1) := by decide +kernel
theorem dL_law_16 : decode cL_law 16 = .ok (.iconst 0, 1) := by decide +kernel
theorem dL_law_17 : decode cL_law 17 = .ok (.istore_n 3, 1) := by decide +kernel
theorem dL_law_18 : decode cL_law 18 = .ok (.iload_n 3, 1) := by decide +kernel
theorem dL_law_19 : decode cL_law 19 = .ok (.aload_n 0, 1) := by decide +kernel
theorem dL_law_20 : decode cL_law 20 = .ok (.arraylength, 1) := by decide +kernel
theorem dL_law_21 : decode cL_law 21 = .ok (.bipush 6, 2) := by decide +kernel
theorem dL_law_23 : decode cL_law 23 = .ok (.isub, 1) := by decide +kernel
theorem dL_law_24 : decode cL_law 24 = .ok (.if_icmp .gt 1028, 3) := by decide +kernel
theorem dL_law_27 : decode cL_law 27 = .ok (.aload_n 0, 1) := by decide +kernel
theorem dL_law_28 : decode cL_law 28 = .ok (.iload_n 3, 1) := by decide +kernel
theorem dL_law_29 : decode cL_law 29 = .ok (.iaload, 1) := by decide +kernel
theorem dL_law_30 : decode cL_law 30 = .ok (.bipush 31, 2) := by decide +kernel
theorem dL_law_32 : decode cL_law 32 = .ok (.iand, 1) := by decide +kernel
theorem dL_law_33 : decode cL_law 33 = .ok (.tableswitch 1013 0 23 #[111, 164, 177, 190, 203, 236, 299, 332, 365, 408, 441, 510, 533, 566, 599, 622, 701, 780, 844, 887, 950, 963, 976, 999], 111) := by decide +kernel
theorem dL_law_144 : decode cL_law 144 = .ok (.aload_n 1, 1) := by decide +kernel
theorem dL_law_145 : decode cL_law 145 = .ok (.aload_n 0, 1) := by decide +kernel
theorem dL_law_146 : decode cL_law 146 = .ok (.iload_n 3, 1) := by decide +kernel
theorem dL_law_147 : decode cL_law 147 = .ok (.iconst 1, 1) := by decide +kernel
theorem dL_law_148 : decode cL_law 148 = .ok (.iadd, 1) := by decide +kernel
theorem dL_law_149 : decode cL_law 149 = .ok (.iaload, 1) := by decide +kernel
theorem dL_law_150 : decode cL_law 150 = .ok (.i2l, 1) := by decide +kernel
theorem dL_law_151 : decode cL_law 151 = .ok (.bipush 32, 2) := by decide +kernel
theorem dL_law_153 : decode cL_law 153 = .ok (.lshl, 1) := by decide +kernel
theorem dL_law_154 : decode cL_law 154 = .ok (.aload_n 0, 1) := by decide +kernel
theorem dL_law_155 : decode cL_law 155 = .ok (.iload_n 3, 1) := by decide +kernel
theorem dL_law_156 : decode cL_law 156 = .ok (.iconst 2, 1) := by decide +kernel
theorem dL_law_157 : decode cL_law 157 = .ok (.iadd, 1) := by decide +kernel
theorem dL_law_158 : decode cL_law 158 = .ok (.iaload, 1) := by decide +kernel
theorem dL_law_159 : decode cL_law 159 = .ok (.i2l, 1) := by decide +kernel
theorem dL_law_160 : decode cL_law 160 = .ok (.ldc2_w 13, 3) := by decide +kernel
theorem dL_law_163 : decode cL_law 163 = .ok (.land, 1) := by decide +kernel
theorem dL_law_164 : decode cL_law 164 = .ok (.lor, 1) := by decide +kernel
theorem dL_law_165 : decode cL_law 165 = .ok (.invokevirtual 15, 3) := by decide +kernel
theorem dL_law_168 : decode cL_law 168 = .ok (.aload_n 2, 1) := by decide +kernel
theorem dL_law_169 : decode cL_law 169 = .ok (.aload_n 0, 1) := by decide +kernel
theorem dL_law_170 : decode cL_law 170 = .ok (.iload_n 3, 1) := by decide +kernel
theorem dL_law_171 : decode cL_law 171 = .ok (.iconst 1, 1) := by decide +kernel
theorem dL_law_172 : decode cL_law 172 = .ok (.iadd, 1) := by decide +kernel
theorem dL_law_173 : decode cL_law 173 = .ok (.iaload, 1) := by decide +kernel
theorem dL_law_174 : decode cL_law 174 = .ok (.i2l, 1) := by decide +kernel
theorem dL_law_175 : decode cL_law 175 = .ok (.bipush 32, 2) := by decide +kernel
theorem dL_law_177 : decode cL_law 177 = .ok (.lshl, 1) := by decide +kernel
theorem dL_law_178 : decode cL_law 178 = .ok (.aload_n 0, 1) := by decide +kernel
theorem dL_law_179 : decode cL_law 179 = .ok (.iload_n 3, 1) := by decide +kernel
theorem dL_law_180 : decode cL_law 180 = .ok (.iconst 2, 1) := by decide +kernel
theorem dL_law_181 : decode cL_law 181 = .ok (.iadd, 1) := by decide +kernel
theorem dL_law_182 : decode cL_law 182 = .ok (.iaload, 1) := by decide +kernel
theorem dL_law_183 : decode cL_law 183 = .ok (.i2l, 1) := by decide +kernel
theorem dL_law_184 : decode cL_law 184 = .ok (.ldc2_w 13, 3) := by decide +kernel
theorem dL_law_187 : decode cL_law 187 = .ok (.land, 1) := by decide +kernel
theorem dL_law_188 : decode cL_law 188 = .ok (.lor, 1) := by decide +kernel
theorem dL_law_189 : decode cL_law 189 = .ok (.invokevirtual 19, 3) := by decide +kernel
theorem dL_law_192 : decode cL_law 192 = .ok (.if_icmp .eq 854, 3) := by decide +kernel
theorem dL_law_195 : decode cL_law 195 = .ok (.iconst 0, 1) := by decide +kernel
theorem dL_law_196 : decode cL_law 196 = .ok (.ireturn, 1) := by decide +kernel
theorem dL_law_197 : decode cL_law 197 = .ok (.aload_n 1, 1) := by decide +kernel
theorem dL_law_198 : decode cL_law 198 = .ok (.invokevirtual 20, 3) := by decide +kernel
theorem dL_law_201 : decode cL_law 201 = .ok (.aload_n 2, 1) := by decide +kernel
theorem dL_law_202 : decode cL_law 202 = .ok (.invokevirtual 24, 3) := by decide +kernel
theorem dL_law_205 : decode cL_law 205 = .ok (.if_icmp .eq 841, 3) := by decide +kernel
theorem dL_law_208 : decode cL_law 208 = .ok (.iconst 0, 1) := by decide +kernel
theorem dL_law_209 : decode cL_law 209 = .ok (.ireturn, 1) := by decide +kernel
theorem dL_law_210 : decode cL_law 210 = .ok (.aload_n 1, 1) := by decide +kernel
theorem dL_law_211 : decode cL_law 211 = .ok (.invokevirtual 25, 3) := by decide +kernel
theorem dL_law_214 : decode cL_law 214 = .ok (.aload_n 2, 1) := by decide +kernel
theorem dL_law_215 : decode cL_law 215 = .ok (.invokevirtual 28, 3) := by decide +kernel
theorem dL_law_218 : decode cL_law 218 = .ok (.if_icmp .eq 828, 3) := by decide +kernel
theorem dL_law_221 : decode cL_law 221 = .ok (.iconst 0, 1) := by decide +kernel
theorem dL_law_222 : decode cL_law 222 = .ok (.ireturn, 1) := by decide +kernel
theorem dL_law_223 : decode cL_law 223 = .ok (.aload_n 1, 1) := by decide +kernel
theorem dL_law_224 : decode cL_law 224 = .ok (.invokevirtual 29, 3) := by decide +kernel
theorem dL_law_227 : decode cL_law 227 = .ok (.aload_n 2, 1) := by decide +kernel
theorem dL_law_228 : decode cL_law 228 = .ok (.invokevirtual 32, 3) := by decide +kernel
theorem dL_law_231 : decode cL_law 231 = .ok (.if_icmp .eq 815, 3) := by decide +kernel
theorem dL_law_234 : decode cL_law 234 = .ok (.iconst 0, 1) := by decide +kernel
theorem dL_law_235 : decode cL_law 235 = .ok (.ireturn, 1) := by decide +kernel
theorem dL_law_236 : decode cL_law 236 = .ok (.aload_n 1, 1) := by decide +kernel
theorem dL_law_237 : decode cL_law 237 = .ok (.aload_n 0, 1) := by decide +kernel
theorem dL_law_238 : decode cL_law 238 = .ok (.iload_n 3, 1) := by decide +kernel
theorem dL_law_239 : decode cL_law 239 = .ok (.iconst 1, 1) := by decide +kernel
theorem dL_law_240 : decode cL_law 240 = .ok (.iadd, 1) := by decide +kernel
theorem dL_law_241 : decode cL_law 241 = .ok (.iaload, 1) := by decide +kernel
theorem dL_law_242 : decode cL_law 242 = .ok (.aload_n 0, 1) := by decide +kernel
theorem dL_law_243 : decode cL_law 243 = .ok (.iload_n 3, 1) := by decide +kernel
theorem dL_law_244 : decode cL_law 244 = .ok (.iconst 2, 1) := by decide +kernel
theorem dL_law_245 : decode cL_law 245 = .ok (.iadd, 1) := by decide +kernel
theorem dL_law_246 : decode cL_law 246 = .ok (.iaload, 1) := by decide +kernel
theorem dL_law_247 : decode cL_law 247 = .ok (.invokevirtual 33, 3) := by decide +kernel
theorem dL_law_250 : decode cL_law 250 = .ok (.aload_n 2, 1) := by decide +kernel
theorem dL_law_251 : decode cL_law 251 = .ok (.aload_n 0, 1) := by decide +kernel
theorem dL_law_252 : decode cL_law 252 = .ok (.iload_n 3, 1) := by decide +kernel
theorem dL_law_253 : decode cL_law 253 = .ok (.iconst 1, 1) := by decide +kernel
theorem dL_law_254 : decode cL_law 254 = .ok (.iadd, 1) := by decide +kernel
theorem dL_law_255 : decode cL_law 255 = .ok (.iaload, 1) := by decide +kernel
theorem dL_law_256 : decode cL_law 256 = .ok (.aload_n 0, 1) := by decide +kernel
theorem dL_law_257 : decode cL_law 257 = .ok (.iload_n 3, 1) := by decide +kernel
theorem dL_law_258 : decode cL_law 258 = .ok (.iconst 2, 1) := by decide +kernel
theorem dL_law_259 : decode cL_law 259 = .ok (.iadd, 1) := by decide +kernel
theorem dL_law_260 : decode cL_law 260 = .ok (.iaload, 1) := by decide +kernel
theorem dL_law_261 : decode cL_law 261 = .ok (.invokevirtual 37, 3) := by decide +kernel
theorem dL_law_264 : decode cL_law 264 = .ok (.if_icmp .eq 782, 3) := by decide +kernel
theorem dL_law_267 : decode cL_law 267 = .ok (.iconst 0, 1) := by decide +kernel
theorem dL_law_268 : decode cL_law 268 = .ok (.ireturn, 1) := by decide +kernel
theorem dL_law_269 : decode cL_law 269 = .ok (.aload_n 1, 1) := by decide +kernel
theorem dL_law_270 : decode cL_law 270 = .ok (.aload_n 0, 1) := by decide +kernel
theorem dL_law_271 : decode cL_law 271 = .ok (.iload_n 3, 1) := by decide +kernel
theorem dL_law_272 : decode cL_law 272 = .ok (.iconst 1, 1) := by decide +kernel
theorem dL_law_273 : decode cL_law 273 = .ok (.iadd, 1) := by decide +kernel
theorem dL_law_274 : decode cL_law 274 = .ok (.iaload, 1) := by decide +kernel
theorem dL_law_275 : decode cL_law 275 = .ok (.aload_n 0, 1) := by decide +kernel
theorem dL_law_276 : decode cL_law 276 = .ok (.iload_n 3, 1) := by decide +kernel
theorem dL_law_277 : decode cL_law 277 = .ok (.iconst 2, 1) := by decide +kernel
theorem dL_law_278 : decode cL_law 278 = .ok (.iadd, 1) := by decide +kernel
theorem dL_law_279 : decode cL_law 279 = .ok (.iaload, 1) := by decide +kernel
theorem dL_law_280 : decode cL_law 280 = .ok (.aload_n 0, 1) := by decide +kernel
theorem dL_law_281 : decode cL_law 281 = .ok (.iload_n 3, 1) := by decide +kernel
theorem dL_law_282 : decode cL_law 282 = .ok (.iconst 3, 1) := by decide +kernel
theorem dL_law_283 : decode cL_law 283 = .ok (.iadd, 1) := by decide +kernel
theorem dL_law_284 : decode cL_law 284 = .ok (.iaload, 1) := by decide +kernel
theorem dL_law_285 : decode cL_law 285 = .ok (.aload_n 0, 1) := by decide +kernel
theorem dL_law_286 : decode cL_law 286 = .ok (.iload_n 3, 1) := by decide +kernel
theorem dL_law_287 : decode cL_law 287 = .ok (.iconst 4, 1) := by decide +kernel
theorem dL_law_288 : decode cL_law 288 = .ok (.iadd, 1) := by decide +kernel
theorem dL_law_289 : decode cL_law 289 = .ok (.iaload, 1) := by decide +kernel
theorem dL_law_290 : decode cL_law 290 = .ok (.aload_n 0, 1) := by decide +kernel
theorem dL_law_291 : decode cL_law 291 = .ok (.iload_n 3, 1) := by decide +kernel
theorem dL_law_292 : decode cL_law 292 = .ok (.iconst 5, 1) := by decide +kernel
theorem dL_law_293 : decode cL_law 293 = .ok (.iadd, 1) := by decide +kernel
theorem dL_law_294 : decode cL_law 294 = .ok (.iaload, 1) := by decide +kernel
theorem dL_law_295 : decode cL_law 295 = .ok (.invokevirtual 38, 3) := by decide +kernel
theorem dL_law_298 : decode cL_law 298 = .ok (.aload_n 2, 1) := by decide +kernel
theorem dL_law_299 : decode cL_law 299 = .ok (.aload_n 0, 1) := by decide +kernel
theorem dL_law_300 : decode cL_law 300 = .ok (.iload_n 3, 1) := by decide +kernel
theorem dL_law_301 : decode cL_law 301 = .ok (.iconst 1, 1) := by decide +kernel
theorem dL_law_302 : decode cL_law 302 = .ok (.iadd, 1) := by decide +kernel
theorem dL_law_303 : decode cL_law 303 = .ok (.iaload, 1) := by decide +kernel
theorem dL_law_304 : decode cL_law 304 = .ok (.aload_n 0, 1) := by decide +kernel
theorem dL_law_305 : decode cL_law 305 = .ok (.iload_n 3, 1) := by decide +kernel
theorem dL_law_306 : decode cL_law 306 = .ok (.iconst 2, 1) := by decide +kernel
theorem dL_law_307 : decode cL_law 307 = .ok (.iadd, 1) := by decide +kernel
theorem dL_law_308 : decode cL_law 308 = .ok (.iaload, 1) := by decide +kernel
theorem dL_law_309 : decode cL_law 309 = .ok (.aload_n 0, 1) := by decide +kernel
theorem dL_law_310 : decode cL_law 310 = .ok (.iload_n 3, 1) := by decide +kernel
theorem dL_law_311 : decode cL_law 311 = .ok (.iconst 3, 1) := by decide +kernel
theorem dL_law_312 : decode cL_law 312 = .ok (.iadd, 1) := by decide +kernel
theorem dL_law_313 : decode cL_law 313 = .ok (.iaload, 1) := by decide +kernel
theorem dL_law_314 : decode cL_law 314 = .ok (.aload_n 0, 1) := by decide +kernel
theorem dL_law_315 : decode cL_law 315 = .ok (.iload_n 3, 1) := by decide +kernel
theorem dL_law_316 : decode cL_law 316 = .ok (.iconst 4, 1) := by decide +kernel
theorem dL_law_317 : decode cL_law 317 = .ok (.iadd, 1) := by decide +kernel
theorem dL_law_318 : decode cL_law 318 = .ok (.iaload, 1) := by decide +kernel
theorem dL_law_319 : decode cL_law 319 = .ok (.aload_n 0, 1) := by decide +kernel
theorem dL_law_320 : decode cL_law 320 = .ok (.iload_n 3, 1) := by decide +kernel
theorem dL_law_321 : decode cL_law 321 = .ok (.iconst 5, 1) := by decide +kernel
theorem dL_law_322 : decode cL_law 322 = .ok (.iadd, 1) := by decide +kernel
theorem dL_law_323 : decode cL_law 323 = .ok (.iaload, 1) := by decide +kernel
theorem dL_law_324 : decode cL_law 324 = .ok (.invokevirtual 42, 3) := by decide +kernel
theorem dL_law_327 : decode cL_law 327 = .ok (.if_icmp .eq 719, 3) := by decide +kernel
theorem dL_law_330 : decode cL_law 330 = .ok (.iconst 0, 1) := by decide +kernel
theorem dL_law_331 : decode cL_law 331 = .ok (.ireturn, 1) := by decide +kernel
theorem dL_law_332 : decode cL_law 332 = .ok (.aload_n 1, 1) := by decide +kernel
theorem dL_law_333 : decode cL_law 333 = .ok (.aload_n 0, 1) := by decide +kernel
theorem dL_law_334 : decode cL_law 334 = .ok (.iload_n 3, 1) := by decide +kernel
theorem dL_law_335 : decode cL_law 335 = .ok (.iconst 1, 1) := by decide +kernel
theorem dL_law_336 : decode cL_law 336 = .ok (.iadd, 1) := by decide +kernel
theorem dL_law_337 : decode cL_law 337 = .ok (.iaload, 1) := by decide +kernel
theorem dL_law_338 : decode cL_law 338 = .ok (.aload_n 0, 1) := by decide +kernel
theorem dL_law_339 : decode cL_law 339 = .ok (.iload_n 3, 1) := by decide +kernel
theorem dL_law_340 : decode cL_law 340 = .ok (.iconst 2, 1) := by decide +kernel
theorem dL_law_341 : decode cL_law 341 = .ok (.iadd, 1) := by decide +kernel
theorem dL_law_342 : decode cL_law 342 = .ok (.iaload, 1) := by decide +kernel
theorem dL_law_343 : decode cL_law 343 = .ok (.invokevirtual 43, 3) := by decide +kernel
theorem dL_law_346 : decode cL_law 346 = .ok (.aload_n 2, 1) := by decide +kernel
theorem dL_law_347 : decode cL_law 347 = .ok (.aload_n 0, 1) := by decide +kernel
theorem dL_law_348 : decode cL_law 348 = .ok (.iload_n 3, 1) := by decide +kernel
theorem dL_law_349 : decode cL_law 349 = .ok (.iconst 1, 1) := by decide +kernel
theorem dL_law_350 : decode cL_law 350 = .ok (.iadd, 1) := by decide +kernel
theorem dL_law_351 : decode cL_law 351 = .ok (.iaload, 1) := by decide +kernel
theorem dL_law_352 : decode cL_law 352 = .ok (.aload_n 0, 1) := by decide +kernel
theorem dL_law_353 : decode cL_law 353 = .ok (.iload_n 3, 1) := by decide +kernel
theorem dL_law_354 : decode cL_law 354 = .ok (.iconst 2, 1) := by decide +kernel
theorem dL_law_355 : decode cL_law 355 = .ok (.iadd, 1) := by decide +kernel
theorem dL_law_356 : decode cL_law 356 = .ok (.iaload, 1) := by decide +kernel
theorem dL_law_357 : decode cL_law 357 = .ok (.invokevirtual 46, 3) := by decide +kernel
theorem dL_law_360 : decode cL_law 360 = .ok (.if_icmp .eq 686, 3) := by decide +kernel
theorem dL_law_363 : decode cL_law 363 = .ok (.iconst 0, 1) := by decide +kernel
theorem dL_law_364 : decode cL_law 364 = .ok (.ireturn, 1) := by decide +kernel
theorem dL_law_365 : decode cL_law 365 = .ok (.aload_n 1, 1) := by decide +kernel
theorem dL_law_366 : decode cL_law 366 = .ok (.aload_n 0, 1) := by decide +kernel
theorem dL_law_367 : decode cL_law 367 = .ok (.iload_n 3, 1) := by decide +kernel
theorem dL_law_368 : decode cL_law 368 = .ok (.iconst 1, 1) := by decide +kernel
theorem dL_law_369 : decode cL_law 369 = .ok (.iadd, 1) := by decide +kernel
theorem dL_law_370 : decode cL_law 370 = .ok (.iaload, 1) := by decide +kernel
theorem dL_law_371 : decode cL_law 371 = .ok (.aload_n 0, 1) := by decide +kernel
theorem dL_law_372 : decode cL_law 372 = .ok (.iload_n 3, 1) := by decide +kernel
theorem dL_law_373 : decode cL_law 373 = .ok (.iconst 2, 1) := by decide +kernel
theorem dL_law_374 : decode cL_law 374 = .ok (.iadd, 1) := by decide +kernel
theorem dL_law_375 : decode cL_law 375 = .ok (.iaload, 1) := by decide +kernel
theorem dL_law_376 : decode cL_law 376 = .ok (.invokevirtual 47, 3) := by decide +kernel
theorem dL_law_379 : decode cL_law 379 = .ok (.aload_n 2, 1) := by decide +kernel
theorem dL_law_380 : decode cL_law 380 = .ok (.aload_n 0, 1) := by decide +kernel
theorem dL_law_381 : decode cL_law 381 = .ok (.iload_n 3, 1) := by decide +kernel
theorem dL_law_382 : decode cL_law 382 = .ok (.iconst 1, 1) := by decide +kernel
theorem dL_law_383 : decode cL_law 383 = .ok (.iadd, 1) := by decide +kernel
theorem dL_law_384 : decode cL_law 384 = .ok (.iaload, 1) := by decide +kernel
theorem dL_law_385 : decode cL_law 385 = .ok (.aload_n 0, 1) := by decide +kernel
theorem dL_law_386 : decode cL_law 386 = .ok (.iload_n 3, 1) := by decide +kernel
theorem dL_law_387 : decode cL_law 387 = .ok (.iconst 2, 1) := by decide +kernel
theorem dL_law_388 : decode cL_law 388 = .ok (.iadd, 1) := by decide +kernel
theorem dL_law_389 : decode cL_law 389 = .ok (.iaload, 1) := by decide +kernel
theorem dL_law_390 : decode cL_law 390 = .ok (.invokevirtual 50, 3) := by decide +kernel
theorem dL_law_393 : decode cL_law 393 = .ok (.if_icmp .eq 653, 3) := by decide +kernel
theorem dL_law_396 : decode cL_law 396 = .ok (.iconst 0, 1) := by decide +kernel
theorem dL_law_397 : decode cL_law 397 = .ok (.ireturn, 1) := by decide +kernel
theorem dL_law_398 : decode cL_law 398 = .ok (.aload_n 1, 1) := by decide +kernel
theorem dL_law_399 : decode cL_law 399 = .ok (.aload_n 0, 1) := by decide +kernel
theorem dL_law_400 : decode cL_law 400 = .ok (.iload_n 3, 1) := by decide +kernel
theorem dL_law_401 : decode cL_law 401 = .ok (.iconst 1, 1) := by decide +kernel
theorem dL_law_402 : decode cL_law 402 = .ok (.iadd, 1) := by decide +kernel
theorem dL_law_403 : decode cL_law 403 = .ok (.iaload, 1) := by decide +kernel
theorem dL_law_404 : decode cL_law 404 = .ok (.aload_n 0, 1) := by decide +kernel
theorem dL_law_405 : decode cL_law 405 = .ok (.iload_n 3, 1) := by decide +kernel
theorem dL_law_406 : decode cL_law 406 = .ok (.iconst 2, 1) := by decide +kernel
theorem dL_law_407 : decode cL_law 407 = .ok (.iadd, 1) := by decide +kernel
theorem dL_law_408 : decode cL_law 408 = .ok (.iaload, 1) := by decide +kernel
theorem dL_law_409 : decode cL_law 409 = .ok (.aload_n 0, 1) := by decide +kernel
theorem dL_law_410 : decode cL_law 410 = .ok (.iload_n 3, 1) := by decide +kernel
theorem dL_law_411 : decode cL_law 411 = .ok (.iconst 3, 1) := by decide +kernel
theorem dL_law_412 : decode cL_law 412 = .ok (.iadd, 1) := by decide +kernel
theorem dL_law_413 : decode cL_law 413 = .ok (.iaload, 1) := by decide +kernel
theorem dL_law_414 : decode cL_law 414 = .ok (.invokevirtual 51, 3) := by decide +kernel
theorem dL_law_417 : decode cL_law 417 = .ok (.aload_n 2, 1) := by decide +kernel
theorem dL_law_418 : decode cL_law 418 = .ok (.aload_n 0, 1) := by decide +kernel
theorem dL_law_419 : decode cL_law 419 = .ok (.iload_n 3, 1) := by decide +kernel
theorem dL_law_420 : decode cL_law 420 = .ok (.iconst 1, 1) := by decide +kernel
theorem dL_law_421 : decode cL_law 421 = .ok (.iadd, 1) := by decide +kernel
theorem dL_law_422 : decode cL_law 422 = .ok (.iaload, 1) := by decide +kernel
theorem dL_law_423 : decode cL_law 423 = .ok (.aload_n 0, 1) := by decide +kernel
theorem dL_law_424 : decode cL_law 424 = .ok (.iload_n 3, 1) := by decide +kernel
theorem dL_law_425 : decode cL_law 425 = .ok (.iconst 2, 1) := by decide +kernel
theorem dL_law_426 : decode cL_law 426 = .ok (.iadd, 1) := by decide +kernel
theorem dL_law_427 : decode cL_law 427 = .ok (.iaload, 1) := by decide +kernel
theorem dL_law_428 : decode cL_law 428 = .ok (.aload_n 0, 1) := by decide +kernel
theorem dL_law_429 : decode cL_law 429 = .ok (.iload_n 3, 1) := by decide +kernel
theorem dL_law_430 : decode cL_law 430 = .ok (.iconst 3, 1) := by decide +kernel
theorem dL_law_431 : decode cL_law 431 = .ok (.iadd, 1) := by decide +kernel
theorem dL_law_432 : decode cL_law 432 = .ok (.iaload, 1) := by decide +kernel
theorem dL_law_433 : decode cL_law 433 = .ok (.invokevirtual 55, 3) := by decide +kernel
theorem dL_law_436 : decode cL_law 436 = .ok (.if_icmp .eq 610, 3) := by decide +kernel
theorem dL_law_439 : decode cL_law 439 = .ok (.iconst 0, 1) := by decide +kernel
theorem dL_law_440 : decode cL_law 440 = .ok (.ireturn, 1) := by decide +kernel
theorem dL_law_441 : decode cL_law 441 = .ok (.aload_n 1, 1) := by decide +kernel
theorem dL_law_442 : decode cL_law 442 = .ok (.aload_n 0, 1) := by decide +kernel
theorem dL_law_443 : decode cL_law 443 = .ok (.iload_n 3, 1) := by decide +kernel
theorem dL_law_444 : decode cL_law 444 = .ok (.iconst 1, 1) := by decide +kernel
theorem dL_law_445 : decode cL_law 445 = .ok (.iadd, 1) := by decide +kernel
theorem dL_law_446 : decode cL_law 446 = .ok (.iaload, 1) := by decide +kernel
theorem dL_law_447 : decode cL_law 447 = .ok (.aload_n 0, 1) := by decide +kernel
theorem dL_law_448 : decode cL_law 448 = .ok (.iload_n 3, 1) := by decide +kernel
theorem dL_law_449 : decode cL_law 449 = .ok (.iconst 2, 1) := by decide +kernel
theorem dL_law_450 : decode cL_law 450 = .ok (.iadd, 1) := by decide +kernel
theorem dL_law_451 : decode cL_law 451 = .ok (.iaload, 1) := by decide +kernel
theorem dL_law_452 : decode cL_law 452 = .ok (.invokevirtual 56, 3) := by decide +kernel
theorem dL_law_455 : decode cL_law 455 = .ok (.aload_n 2, 1) := by decide +kernel
theorem dL_law_456 : decode cL_law 456 = .ok (.aload_n 0, 1) := by decide +kernel
theorem dL_law_457 : decode cL_law 457 = .ok (.iload_n 3, 1) := by decide +kernel
theorem dL_law_458 : decode cL_law 458 = .ok (.iconst 1, 1) := by decide +kernel
theorem dL_law_459 : decode cL_law 459 = .ok (.iadd, 1) := by decide +kernel
theorem dL_law_460 : decode cL_law 460 = .ok (.iaload, 1) := by decide +kernel
theorem dL_law_461 : decode cL_law 461 = .ok (.aload_n 0, 1) := by decide +kernel
theorem dL_law_462 : decode cL_law 462 = .ok (.iload_n 3, 1) := by decide +kernel
theorem dL_law_463 : decode cL_law 463 = .ok (.iconst 2, 1) := by decide +kernel
theorem dL_law_464 : decode cL_law 464 = .ok (.iadd, 1) := by decide +kernel
theorem dL_law_465 : decode cL_law 465 = .ok (.iaload, 1) := by decide +kernel
theorem dL_law_466 : decode cL_law 466 = .ok (.invokevirtual 59, 3) := by decide +kernel
theorem dL_law_469 : decode cL_law 469 = .ok (.if_icmp .eq 577, 3) := by decide +kernel
theorem dL_law_472 : decode cL_law 472 = .ok (.iconst 0, 1) := by decide +kernel
theorem dL_law_473 : decode cL_law 473 = .ok (.ireturn, 1) := by decide +kernel
theorem dL_law_474 : decode cL_law 474 = .ok (.aload_n 1, 1) := by decide +kernel
theorem dL_law_475 : decode cL_law 475 = .ok (.aload_n 0, 1) := by decide +kernel
theorem dL_law_476 : decode cL_law 476 = .ok (.iload_n 3, 1) := by decide +kernel
theorem dL_law_477 : decode cL_law 477 = .ok (.iconst 1, 1) := by decide +kernel
theorem dL_law_478 : decode cL_law 478 = .ok (.iadd, 1) := by decide +kernel
theorem dL_law_479 : decode cL_law 479 = .ok (.iaload, 1) := by decide +kernel
theorem dL_law_480 : decode cL_law 480 = .ok (.aload_n 0, 1) := by decide +kernel
theorem dL_law_481 : decode cL_law 481 = .ok (.iload_n 3, 1) := by decide +kernel
theorem dL_law_482 : decode cL_law 482 = .ok (.iconst 2, 1) := by decide +kernel
theorem dL_law_483 : decode cL_law 483 = .ok (.iadd, 1) := by decide +kernel
theorem dL_law_484 : decode cL_law 484 = .ok (.iaload, 1) := by decide +kernel
theorem dL_law_485 : decode cL_law 485 = .ok (.aload_n 0, 1) := by decide +kernel
theorem dL_law_486 : decode cL_law 486 = .ok (.iload_n 3, 1) := by decide +kernel
theorem dL_law_487 : decode cL_law 487 = .ok (.iconst 3, 1) := by decide +kernel
theorem dL_law_488 : decode cL_law 488 = .ok (.iadd, 1) := by decide +kernel
theorem dL_law_489 : decode cL_law 489 = .ok (.iaload, 1) := by decide +kernel
theorem dL_law_490 : decode cL_law 490 = .ok (.ifCond .eq 7, 3) := by decide +kernel
theorem dL_law_493 : decode cL_law 493 = .ok (.iconst 1, 1) := by decide +kernel
theorem dL_law_494 : decode cL_law 494 = .ok (.goto 4, 3) := by decide +kernel
theorem dL_law_497 : decode cL_law 497 = .ok (.iconst 0, 1) := by decide +kernel
theorem dL_law_498 : decode cL_law 498 = .ok (.aload_n 0, 1) := by decide +kernel
theorem dL_law_499 : decode cL_law 499 = .ok (.iload_n 3, 1) := by decide +kernel
theorem dL_law_500 : decode cL_law 500 = .ok (.iconst 4, 1) := by decide +kernel
theorem dL_law_501 : decode cL_law 501 = .ok (.iadd, 1) := by decide +kernel
theorem dL_law_502 : decode cL_law 502 = .ok (.iaload, 1) := by decide +kernel
theorem dL_law_503 : decode cL_law 503 = .ok (.invokevirtual 60, 3) := by decide +kernel
theorem dL_law_506 : decode cL_law 506 = .ok (.aload_n 2, 1) := by decide +kernel
theorem dL_law_507 : decode cL_law 507 = .ok (.aload_n 0, 1) := by decide +kernel
theorem dL_law_508 : decode cL_law 508 = .ok (.iload_n 3, 1) := by decide +kernel
theorem dL_law_509 : decode cL_law 509 = .ok (.iconst 1, 1) := by decide +kernel
theorem dL_law_510 : decode cL_law 510 = .ok (.iadd, 1) := by decide +kernel
theorem dL_law_511 : decode cL_law 511 = .ok (.iaload, 1) := by decide +kernel
theorem dL_law_512 : decode cL_law 512 = .ok (.aload_n 0, 1) := by decide +kernel
theorem dL_law_513 : decode cL_law 513 = .ok (.iload_n 3, 1) := by decide +kernel
theorem dL_law_514 : decode cL_law 514 = .ok (.iconst 2, 1) := by decide +kernel
theorem dL_law_515 : decode cL_law 515 = .ok (.iadd, 1) := by decide +kernel
theorem dL_law_516 : decode cL_law 516 = .ok (.iaload, 1) := by decide +kernel
theorem dL_law_517 : decode cL_law 517 = .ok (.aload_n 0, 1) := by decide +kernel
theorem dL_law_518 : decode cL_law 518 = .ok (.iload_n 3, 1) := by decide +kernel
theorem dL_law_519 : decode cL_law 519 = .ok (.iconst 3, 1) := by decide +kernel
theorem dL_law_520 : decode cL_law 520 = .ok (.iadd, 1) := by decide +kernel
theorem dL_law_521 : decode cL_law 521 = .ok (.iaload, 1) := by decide +kernel
theorem dL_law_522 : decode cL_law 522 = .ok (.ifCond .eq 7, 3) := by decide +kernel
theorem dL_law_525 : decode cL_law 525 = .ok (.iconst 1, 1) := by decide +kernel
theorem dL_law_526 : decode cL_law 526 = .ok (.goto 4, 3) := by decide +kernel
theorem dL_law_529 : decode cL_law 529 = .ok (.iconst 0, 1) := by decide +kernel
theorem dL_law_530 : decode cL_law 530 = .ok (.aload_n 0, 1) := by decide +kernel
theorem dL_law_531 : decode cL_law 531 = .ok (.iload_n 3, 1) := by decide +kernel
theorem dL_law_532 : decode cL_law 532 = .ok (.iconst 4, 1) := by decide +kernel
theorem dL_law_533 : decode cL_law 533 = .ok (.iadd, 1) := by decide +kernel
theorem dL_law_534 : decode cL_law 534 = .ok (.iaload, 1) := by decide +kernel
theorem dL_law_535 : decode cL_law 535 = .ok (.invokevirtual 64, 3) := by decide +kernel
theorem dL_law_538 : decode cL_law 538 = .ok (.if_icmp .eq 508, 3) := by decide +kernel
theorem dL_law_541 : decode cL_law 541 = .ok (.iconst 0, 1) := by decide +kernel
theorem dL_law_542 : decode cL_law 542 = .ok (.ireturn, 1) := by decide +kernel
theorem dL_law_543 : decode cL_law 543 = .ok (.aload_n 1, 1) := by decide +kernel
theorem dL_law_544 : decode cL_law 544 = .ok (.aload_n 0, 1) := by decide +kernel
theorem dL_law_545 : decode cL_law 545 = .ok (.iload_n 3, 1) := by decide +kernel
theorem dL_law_546 : decode cL_law 546 = .ok (.iconst 1, 1) := by decide +kernel
theorem dL_law_547 : decode cL_law 547 = .ok (.iadd, 1) := by decide +kernel
theorem dL_law_548 : decode cL_law 548 = .ok (.iaload, 1) := by decide +kernel
theorem dL_law_549 : decode cL_law 549 = .ok (.invokevirtual 65, 3) := by decide +kernel
theorem dL_law_552 : decode cL_law 552 = .ok (.aload_n 2, 1) := by decide +kernel
theorem dL_law_553 : decode cL_law 553 = .ok (.aload_n 0, 1) := by decide +kernel
theorem dL_law_554 : decode cL_law 554 = .ok (.iload_n 3, 1) := by decide +kernel
theorem dL_law_555 : decode cL_law 555 = .ok (.iconst 1, 1) := by decide +kernel
theorem dL_law_556 : decode cL_law 556 = .ok (.iadd, 1) := by decide +kernel
theorem dL_law_557 : decode cL_law 557 = .ok (.iaload, 1) := by decide +kernel
theorem dL_law_558 : decode cL_law 558 = .ok (.invokevirtual 69, 3) := by decide +kernel
theorem dL_law_561 : decode cL_law 561 = .ok (.if_icmp .eq 485, 3) := by decide +kernel
theorem dL_law_564 : decode cL_law 564 = .ok (.iconst 0, 1) := by decide +kernel
theorem dL_law_565 : decode cL_law 565 = .ok (.ireturn, 1) := by decide +kernel
theorem dL_law_566 : decode cL_law 566 = .ok (.aload_n 1, 1) := by decide +kernel
theorem dL_law_567 : decode cL_law 567 = .ok (.aload_n 0, 1) := by decide +kernel
theorem dL_law_568 : decode cL_law 568 = .ok (.iload_n 3, 1) := by decide +kernel
theorem dL_law_569 : decode cL_law 569 = .ok (.iconst 1, 1) := by decide +kernel
theorem dL_law_570 : decode cL_law 570 = .ok (.iadd, 1) := by decide +kernel
theorem dL_law_571 : decode cL_law 571 = .ok (.iaload, 1) := by decide +kernel
theorem dL_law_572 : decode cL_law 572 = .ok (.aload_n 0, 1) := by decide +kernel
theorem dL_law_573 : decode cL_law 573 = .ok (.iload_n 3, 1) := by decide +kernel
theorem dL_law_574 : decode cL_law 574 = .ok (.iconst 2, 1) := by decide +kernel
theorem dL_law_575 : decode cL_law 575 = .ok (.iadd, 1) := by decide +kernel
theorem dL_law_576 : decode cL_law 576 = .ok (.iaload, 1) := by decide +kernel
theorem dL_law_577 : decode cL_law 577 = .ok (.invokevirtual 70, 3) := by decide +kernel
theorem dL_law_580 : decode cL_law 580 = .ok (.aload_n 2, 1) := by decide +kernel
theorem dL_law_581 : decode cL_law 581 = .ok (.aload_n 0, 1) := by decide +kernel
theorem dL_law_582 : decode cL_law 582 = .ok (.iload_n 3, 1) := by decide +kernel
theorem dL_law_583 : decode cL_law 583 = .ok (.iconst 1, 1) := by decide +kernel
theorem dL_law_584 : decode cL_law 584 = .ok (.iadd, 1) := by decide +kernel
theorem dL_law_585 : decode cL_law 585 = .ok (.iaload, 1) := by decide +kernel
theorem dL_law_586 : decode cL_law 586 = .ok (.aload_n 0, 1) := by decide +kernel
theorem dL_law_587 : decode cL_law 587 = .ok (.iload_n 3, 1) := by decide +kernel
theorem dL_law_588 : decode cL_law 588 = .ok (.iconst 2, 1) := by decide +kernel
theorem dL_law_589 : decode cL_law 589 = .ok (.iadd, 1) := by decide +kernel
theorem dL_law_590 : decode cL_law 590 = .ok (.iaload, 1) := by decide +kernel
theorem dL_law_591 : decode cL_law 591 = .ok (.invokevirtual 73, 3) := by decide +kernel
theorem dL_law_594 : decode cL_law 594 = .ok (.if_icmp .eq 452, 3) := by decide +kernel
theorem dL_law_597 : decode cL_law 597 = .ok (.iconst 0, 1) := by decide +kernel
theorem dL_law_598 : decode cL_law 598 = .ok (.ireturn, 1) := by decide +kernel
theorem dL_law_599 : decode cL_law 599 = .ok (.aload_n 1, 1) := by decide +kernel
theorem dL_law_600 : decode cL_law 600 = .ok (.aload_n 0, 1) := by decide +kernel
theorem dL_law_601 : decode cL_law 601 = .ok (.iload_n 3, 1) := by decide +kernel
theorem dL_law_602 : decode cL_law 602 = .ok (.iconst 1, 1) := by decide +kernel
theorem dL_law_603 : decode cL_law 603 = .ok (.iadd, 1) := by decide +kernel
theorem dL_law_604 : decode cL_law 604 = .ok (.iaload, 1) := by decide +kernel
theorem dL_law_605 : decode cL_law 605 = .ok (.aload_n 0, 1) := by decide +kernel
theorem dL_law_606 : decode cL_law 606 = .ok (.iload_n 3, 1) := by decide +kernel
theorem dL_law_607 : decode cL_law 607 = .ok (.iconst 2, 1) := by decide +kernel
theorem dL_law_608 : decode cL_law 608 = .ok (.iadd, 1) := by decide +kernel
theorem dL_law_609 : decode cL_law 609 = .ok (.iaload, 1) := by decide +kernel
theorem dL_law_610 : decode cL_law 610 = .ok (.invokevirtual 74, 3) := by decide +kernel
theorem dL_law_613 : decode cL_law 613 = .ok (.aload_n 2, 1) := by decide +kernel
theorem dL_law_614 : decode cL_law 614 = .ok (.aload_n 0, 1) := by decide +kernel
theorem dL_law_615 : decode cL_law 615 = .ok (.iload_n 3, 1) := by decide +kernel
theorem dL_law_616 : decode cL_law 616 = .ok (.iconst 1, 1) := by decide +kernel
theorem dL_law_617 : decode cL_law 617 = .ok (.iadd, 1) := by decide +kernel
theorem dL_law_618 : decode cL_law 618 = .ok (.iaload, 1) := by decide +kernel
theorem dL_law_619 : decode cL_law 619 = .ok (.aload_n 0, 1) := by decide +kernel
theorem dL_law_620 : decode cL_law 620 = .ok (.iload_n 3, 1) := by decide +kernel
theorem dL_law_621 : decode cL_law 621 = .ok (.iconst 2, 1) := by decide +kernel
theorem dL_law_622 : decode cL_law 622 = .ok (.iadd, 1) := by decide +kernel
theorem dL_law_623 : decode cL_law 623 = .ok (.iaload, 1) := by decide +kernel
theorem dL_law_624 : decode cL_law 624 = .ok (.invokevirtual 77, 3) := by decide +kernel
theorem dL_law_627 : decode cL_law 627 = .ok (.if_icmp .eq 419, 3) := by decide +kernel
theorem dL_law_630 : decode cL_law 630 = .ok (.iconst 0, 1) := by decide +kernel
theorem dL_law_631 : decode cL_law 631 = .ok (.ireturn, 1) := by decide +kernel
theorem dL_law_632 : decode cL_law 632 = .ok (.aload_n 1, 1) := by decide +kernel
theorem dL_law_633 : decode cL_law 633 = .ok (.aload_n 0, 1) := by decide +kernel
theorem dL_law_634 : decode cL_law 634 = .ok (.iload_n 3, 1) := by decide +kernel
theorem dL_law_635 : decode cL_law 635 = .ok (.iconst 1, 1) := by decide +kernel
theorem dL_law_636 : decode cL_law 636 = .ok (.iadd, 1) := by decide +kernel
theorem dL_law_637 : decode cL_law 637 = .ok (.iaload, 1) := by decide +kernel
theorem dL_law_638 : decode cL_law 638 = .ok (.invokevirtual 78, 3) := by decide +kernel
theorem dL_law_641 : decode cL_law 641 = .ok (.aload_n 2, 1) := by decide +kernel
theorem dL_law_642 : decode cL_law 642 = .ok (.aload_n 0, 1) := by decide +kernel
theorem dL_law_643 : decode cL_law 643 = .ok (.iload_n 3, 1) := by decide +kernel
theorem dL_law_644 : decode cL_law 644 = .ok (.iconst 1, 1) := by decide +kernel
theorem dL_law_645 : decode cL_law 645 = .ok (.iadd, 1) := by decide +kernel
theorem dL_law_646 : decode cL_law 646 = .ok (.iaload, 1) := by decide +kernel
theorem dL_law_647 : decode cL_law 647 = .ok (.invokevirtual 81, 3) := by decide +kernel
theorem dL_law_650 : decode cL_law 650 = .ok (.if_icmp .eq 396, 3) := by decide +kernel
theorem dL_law_653 : decode cL_law 653 = .ok (.iconst 0, 1) := by decide +kernel
theorem dL_law_654 : decode cL_law 654 = .ok (.ireturn, 1) := by decide +kernel
theorem dL_law_655 : decode cL_law 655 = .ok (.aload_n 1, 1) := by decide +kernel
theorem dL_law_656 : decode cL_law 656 = .ok (.aload_n 0, 1) := by decide +kernel
theorem dL_law_657 : decode cL_law 657 = .ok (.iload_n 3, 1) := by decide +kernel
theorem dL_law_658 : decode cL_law 658 = .ok (.iconst 1, 1) := by decide +kernel
theorem dL_law_659 : decode cL_law 659 = .ok (.iadd, 1) := by decide +kernel
theorem dL_law_660 : decode cL_law 660 = .ok (.iaload, 1) := by decide +kernel
theorem dL_law_661 : decode cL_law 661 = .ok (.aload_n 0, 1) := by decide +kernel
theorem dL_law_662 : decode cL_law 662 = .ok (.iload_n 3, 1) := by decide +kernel
theorem dL_law_663 : decode cL_law 663 = .ok (.iconst 2, 1) := by decide +kernel
theorem dL_law_664 : decode cL_law 664 = .ok (.iadd, 1) := by decide +kernel
theorem dL_law_665 : decode cL_law 665 = .ok (.iaload, 1) := by decide +kernel
theorem dL_law_666 : decode cL_law 666 = .ok (.aload_n 0, 1) := by decide +kernel
theorem dL_law_667 : decode cL_law 667 = .ok (.iload_n 3, 1) := by decide +kernel
theorem dL_law_668 : decode cL_law 668 = .ok (.iconst 3, 1) := by decide +kernel
theorem dL_law_669 : decode cL_law 669 = .ok (.iadd, 1) := by decide +kernel
theorem dL_law_670 : decode cL_law 670 = .ok (.iaload, 1) := by decide +kernel
theorem dL_law_671 : decode cL_law 671 = .ok (.ifCond .eq 7, 3) := by decide +kernel
theorem dL_law_674 : decode cL_law 674 = .ok (.iconst 1, 1) := by decide +kernel
theorem dL_law_675 : decode cL_law 675 = .ok (.goto 4, 3) := by decide +kernel
theorem dL_law_678 : decode cL_law 678 = .ok (.iconst 0, 1) := by decide +kernel
theorem dL_law_679 : decode cL_law 679 = .ok (.aload_n 0, 1) := by decide +kernel
theorem dL_law_680 : decode cL_law 680 = .ok (.iload_n 3, 1) := by decide +kernel
theorem dL_law_681 : decode cL_law 681 = .ok (.iconst 4, 1) := by decide +kernel
theorem dL_law_682 : decode cL_law 682 = .ok (.iadd, 1) := by decide +kernel
theorem dL_law_683 : decode cL_law 683 = .ok (.iaload, 1) := by decide +kernel
theorem dL_law_684 : decode cL_law 684 = .ok (.aload_n 0, 1) := by decide +kernel
theorem dL_law_685 : decode cL_law 685 = .ok (.iload_n 3, 1) := by decide +kernel
theorem dL_law_686 : decode cL_law 686 = .ok (.iconst 5, 1) := by decide +kernel
theorem dL_law_687 : decode cL_law 687 = .ok (.iadd, 1) := by decide +kernel
theorem dL_law_688 : decode cL_law 688 = .ok (.iaload, 1) := by decide +kernel
theorem dL_law_689 : decode cL_law 689 = .ok (.invokevirtual 82, 3) := by decide +kernel
theorem dL_law_692 : decode cL_law 692 = .ok (.aload_n 2, 1) := by decide +kernel
theorem dL_law_693 : decode cL_law 693 = .ok (.aload_n 0, 1) := by decide +kernel
theorem dL_law_694 : decode cL_law 694 = .ok (.iload_n 3, 1) := by decide +kernel
theorem dL_law_695 : decode cL_law 695 = .ok (.iconst 1, 1) := by decide +kernel
theorem dL_law_696 : decode cL_law 696 = .ok (.iadd, 1) := by decide +kernel
theorem dL_law_697 : decode cL_law 697 = .ok (.iaload, 1) := by decide +kernel
theorem dL_law_698 : decode cL_law 698 = .ok (.aload_n 0, 1) := by decide +kernel
theorem dL_law_699 : decode cL_law 699 = .ok (.iload_n 3, 1) := by decide +kernel
theorem dL_law_700 : decode cL_law 700 = .ok (.iconst 2, 1) := by decide +kernel
theorem dL_law_701 : decode cL_law 701 = .ok (.iadd, 1) := by decide +kernel
theorem dL_law_702 : decode cL_law 702 = .ok (.iaload, 1) := by decide +kernel
theorem dL_law_703 : decode cL_law 703 = .ok (.aload_n 0, 1) := by decide +kernel
theorem dL_law_704 : decode cL_law 704 = .ok (.iload_n 3, 1) := by decide +kernel
theorem dL_law_705 : decode cL_law 705 = .ok (.iconst 3, 1) := by decide +kernel
theorem dL_law_706 : decode cL_law 706 = .ok (.iadd, 1) := by decide +kernel
theorem dL_law_707 : decode cL_law 707 = .ok (.iaload, 1) := by decide +kernel
theorem dL_law_708 : decode cL_law 708 = .ok (.ifCond .eq 7, 3) := by decide +kernel
theorem dL_law_711 : decode cL_law 711 = .ok (.iconst 1, 1) := by decide +kernel
theorem dL_law_712 : decode cL_law 712 = .ok (.goto 4, 3) := by decide +kernel
theorem dL_law_715 : decode cL_law 715 = .ok (.iconst 0, 1) := by decide +kernel
theorem dL_law_716 : decode cL_law 716 = .ok (.aload_n 0, 1) := by decide +kernel
theorem dL_law_717 : decode cL_law 717 = .ok (.iload_n 3, 1) := by decide +kernel
theorem dL_law_718 : decode cL_law 718 = .ok (.iconst 4, 1) := by decide +kernel
theorem dL_law_719 : decode cL_law 719 = .ok (.iadd, 1) := by decide +kernel
theorem dL_law_720 : decode cL_law 720 = .ok (.iaload, 1) := by decide +kernel
theorem dL_law_721 : decode cL_law 721 = .ok (.aload_n 0, 1) := by decide +kernel
theorem dL_law_722 : decode cL_law 722 = .ok (.iload_n 3, 1) := by decide +kernel
theorem dL_law_723 : decode cL_law 723 = .ok (.iconst 5, 1) := by decide +kernel
theorem dL_law_724 : decode cL_law 724 = .ok (.iadd, 1) := by decide +kernel
theorem dL_law_725 : decode cL_law 725 = .ok (.iaload, 1) := by decide +kernel
theorem dL_law_726 : decode cL_law 726 = .ok (.invokevirtual 86, 3) := by decide +kernel
theorem dL_law_729 : decode cL_law 729 = .ok (.if_icmp .eq 317, 3) := by decide +kernel
theorem dL_law_732 : decode cL_law 732 = .ok (.iconst 0, 1) := by decide +kernel
theorem dL_law_733 : decode cL_law 733 = .ok (.ireturn, 1) := by decide +kernel
theorem dL_law_734 : decode cL_law 734 = .ok (.aload_n 1, 1) := by decide +kernel
theorem dL_law_735 : decode cL_law 735 = .ok (.aload_n 0, 1) := by decide +kernel
theorem dL_law_736 : decode cL_law 736 = .ok (.iload_n 3, 1) := by decide +kernel
theorem dL_law_737 : decode cL_law 737 = .ok (.iconst 1, 1) := by decide +kernel
theorem dL_law_738 : decode cL_law 738 = .ok (.iadd, 1) := by decide +kernel
theorem dL_law_739 : decode cL_law 739 = .ok (.iaload, 1) := by decide +kernel
theorem dL_law_740 : decode cL_law 740 = .ok (.aload_n 0, 1) := by decide +kernel
theorem dL_law_741 : decode cL_law 741 = .ok (.iload_n 3, 1) := by decide +kernel
theorem dL_law_742 : decode cL_law 742 = .ok (.iconst 2, 1) := by decide +kernel
theorem dL_law_743 : decode cL_law 743 = .ok (.iadd, 1) := by decide +kernel
theorem dL_law_744 : decode cL_law 744 = .ok (.iaload, 1) := by decide +kernel
theorem dL_law_745 : decode cL_law 745 = .ok (.aload_n 0, 1) := by decide +kernel
theorem dL_law_746 : decode cL_law 746 = .ok (.iload_n 3, 1) := by decide +kernel
theorem dL_law_747 : decode cL_law 747 = .ok (.iconst 3, 1) := by decide +kernel
theorem dL_law_748 : decode cL_law 748 = .ok (.iadd, 1) := by decide +kernel
theorem dL_law_749 : decode cL_law 749 = .ok (.iaload, 1) := by decide +kernel
theorem dL_law_750 : decode cL_law 750 = .ok (.ifCond .eq 7, 3) := by decide +kernel
theorem dL_law_753 : decode cL_law 753 = .ok (.iconst 1, 1) := by decide +kernel
theorem dL_law_754 : decode cL_law 754 = .ok (.goto 4, 3) := by decide +kernel
theorem dL_law_757 : decode cL_law 757 = .ok (.iconst 0, 1) := by decide +kernel
theorem dL_law_758 : decode cL_law 758 = .ok (.aload_n 0, 1) := by decide +kernel
theorem dL_law_759 : decode cL_law 759 = .ok (.iload_n 3, 1) := by decide +kernel
theorem dL_law_760 : decode cL_law 760 = .ok (.iconst 4, 1) := by decide +kernel
theorem dL_law_761 : decode cL_law 761 = .ok (.iadd, 1) := by decide +kernel
theorem dL_law_762 : decode cL_law 762 = .ok (.iaload, 1) := by decide +kernel
theorem dL_law_763 : decode cL_law 763 = .ok (.aload_n 0, 1) := by decide +kernel
theorem dL_law_764 : decode cL_law 764 = .ok (.iload_n 3, 1) := by decide +kernel
theorem dL_law_765 : decode cL_law 765 = .ok (.iconst 5, 1) := by decide +kernel
theorem dL_law_766 : decode cL_law 766 = .ok (.iadd, 1) := by decide +kernel
theorem dL_law_767 : decode cL_law 767 = .ok (.iaload, 1) := by decide +kernel
theorem dL_law_768 : decode cL_law 768 = .ok (.invokevirtual 87, 3) := by decide +kernel
theorem dL_law_771 : decode cL_law 771 = .ok (.aload_n 2, 1) := by decide +kernel
theorem dL_law_772 : decode cL_law 772 = .ok (.aload_n 0, 1) := by decide +kernel
theorem dL_law_773 : decode cL_law 773 = .ok (.iload_n 3, 1) := by decide +kernel
theorem dL_law_774 : decode cL_law 774 = .ok (.iconst 1, 1) := by decide +kernel
theorem dL_law_775 : decode cL_law 775 = .ok (.iadd, 1) := by decide +kernel
theorem dL_law_776 : decode cL_law 776 = .ok (.iaload, 1) := by decide +kernel
theorem dL_law_777 : decode cL_law 777 = .ok (.aload_n 0, 1) := by decide +kernel
theorem dL_law_778 : decode cL_law 778 = .ok (.iload_n 3, 1) := by decide +kernel
theorem dL_law_779 : decode cL_law 779 = .ok (.iconst 2, 1) := by decide +kernel
theorem dL_law_780 : decode cL_law 780 = .ok (.iadd, 1) := by decide +kernel
theorem dL_law_781 : decode cL_law 781 = .ok (.iaload, 1) := by decide +kernel
theorem dL_law_782 : decode cL_law 782 = .ok (.aload_n 0, 1) := by decide +kernel
theorem dL_law_783 : decode cL_law 783 = .ok (.iload_n 3, 1) := by decide +kernel
theorem dL_law_784 : decode cL_law 784 = .ok (.iconst 3, 1) := by decide +kernel
theorem dL_law_785 : decode cL_law 785 = .ok (.iadd, 1) := by decide +kernel
theorem dL_law_786 : decode cL_law 786 = .ok (.iaload, 1) := by decide +kernel
theorem dL_law_787 : decode cL_law 787 = .ok (.ifCond .eq 7, 3) := by decide +kernel
theorem dL_law_790 : decode cL_law 790 = .ok (.iconst 1, 1) := by decide +kernel
theorem dL_law_791 : decode cL_law 791 = .ok (.goto 4, 3) := by decide +kernel
theorem dL_law_794 : decode cL_law 794 = .ok (.iconst 0, 1) := by decide +kernel
theorem dL_law_795 : decode cL_law 795 = .ok (.aload_n 0, 1) := by decide +kernel
theorem dL_law_796 : decode cL_law 796 = .ok (.iload_n 3, 1) := by decide +kernel
theorem dL_law_797 : decode cL_law 797 = .ok (.iconst 4, 1) := by decide +kernel
theorem dL_law_798 : decode cL_law 798 = .ok (.iadd, 1) := by decide +kernel
theorem dL_law_799 : decode cL_law 799 = .ok (.iaload, 1) := by decide +kernel
theorem dL_law_800 : decode cL_law 800 = .ok (.aload_n 0, 1) := by decide +kernel
theorem dL_law_801 : decode cL_law 801 = .ok (.iload_n 3, 1) := by decide +kernel
theorem dL_law_802 : decode cL_law 802 = .ok (.iconst 5, 1) := by decide +kernel
theorem dL_law_803 : decode cL_law 803 = .ok (.iadd, 1) := by decide +kernel
theorem dL_law_804 : decode cL_law 804 = .ok (.iaload, 1) := by decide +kernel
theorem dL_law_805 : decode cL_law 805 = .ok (.invokevirtual 90, 3) := by decide +kernel
theorem dL_law_808 : decode cL_law 808 = .ok (.if_icmp .eq 238, 3) := by decide +kernel
theorem dL_law_811 : decode cL_law 811 = .ok (.iconst 0, 1) := by decide +kernel
theorem dL_law_812 : decode cL_law 812 = .ok (.ireturn, 1) := by decide +kernel
theorem dL_law_813 : decode cL_law 813 = .ok (.aload_n 1, 1) := by decide +kernel
theorem dL_law_814 : decode cL_law 814 = .ok (.aload_n 0, 1) := by decide +kernel
theorem dL_law_815 : decode cL_law 815 = .ok (.iload_n 3, 1) := by decide +kernel
theorem dL_law_816 : decode cL_law 816 = .ok (.iconst 1, 1) := by decide +kernel
theorem dL_law_817 : decode cL_law 817 = .ok (.iadd, 1) := by decide +kernel
theorem dL_law_818 : decode cL_law 818 = .ok (.iaload, 1) := by decide +kernel
theorem dL_law_819 : decode cL_law 819 = .ok (.aload_n 0, 1) := by decide +kernel
theorem dL_law_820 : decode cL_law 820 = .ok (.iload_n 3, 1) := by decide +kernel
theorem dL_law_821 : decode cL_law 821 = .ok (.iconst 2, 1) := by decide +kernel
theorem dL_law_822 : decode cL_law 822 = .ok (.iadd, 1) := by decide +kernel
theorem dL_law_823 : decode cL_law 823 = .ok (.iaload, 1) := by decide +kernel
theorem dL_law_824 : decode cL_law 824 = .ok (.aload_n 0, 1) := by decide +kernel
theorem dL_law_825 : decode cL_law 825 = .ok (.iload_n 3, 1) := by decide +kernel
theorem dL_law_826 : decode cL_law 826 = .ok (.iconst 3, 1) := by decide +kernel
theorem dL_law_827 : decode cL_law 827 = .ok (.iadd, 1) := by decide +kernel
theorem dL_law_828 : decode cL_law 828 = .ok (.iaload, 1) := by decide +kernel
theorem dL_law_829 : decode cL_law 829 = .ok (.aload_n 0, 1) := by decide +kernel
theorem dL_law_830 : decode cL_law 830 = .ok (.iload_n 3, 1) := by decide +kernel
theorem dL_law_831 : decode cL_law 831 = .ok (.iconst 4, 1) := by decide +kernel
theorem dL_law_832 : decode cL_law 832 = .ok (.iadd, 1) := by decide +kernel
theorem dL_law_833 : decode cL_law 833 = .ok (.iaload, 1) := by decide +kernel
theorem dL_law_834 : decode cL_law 834 = .ok (.aload_n 0, 1) := by decide +kernel
theorem dL_law_835 : decode cL_law 835 = .ok (.iload_n 3, 1) := by decide +kernel
theorem dL_law_836 : decode cL_law 836 = .ok (.iconst 5, 1) := by decide +kernel
theorem dL_law_837 : decode cL_law 837 = .ok (.iadd, 1) := by decide +kernel
theorem dL_law_838 : decode cL_law 838 = .ok (.iaload, 1) := by decide +kernel
theorem dL_law_839 : decode cL_law 839 = .ok (.invokevirtual 91, 3) := by decide +kernel
theorem dL_law_842 : decode cL_law 842 = .ok (.aload_n 2, 1) := by decide +kernel
theorem dL_law_843 : decode cL_law 843 = .ok (.aload_n 0, 1) := by decide +kernel
theorem dL_law_844 : decode cL_law 844 = .ok (.iload_n 3, 1) := by decide +kernel
theorem dL_law_845 : decode cL_law 845 = .ok (.iconst 1, 1) := by decide +kernel
theorem dL_law_846 : decode cL_law 846 = .ok (.iadd, 1) := by decide +kernel
theorem dL_law_847 : decode cL_law 847 = .ok (.iaload, 1) := by decide +kernel
theorem dL_law_848 : decode cL_law 848 = .ok (.aload_n 0, 1) := by decide +kernel
theorem dL_law_849 : decode cL_law 849 = .ok (.iload_n 3, 1) := by decide +kernel
theorem dL_law_850 : decode cL_law 850 = .ok (.iconst 2, 1) := by decide +kernel
theorem dL_law_851 : decode cL_law 851 = .ok (.iadd, 1) := by decide +kernel
theorem dL_law_852 : decode cL_law 852 = .ok (.iaload, 1) := by decide +kernel
theorem dL_law_853 : decode cL_law 853 = .ok (.aload_n 0, 1) := by decide +kernel
theorem dL_law_854 : decode cL_law 854 = .ok (.iload_n 3, 1) := by decide +kernel
theorem dL_law_855 : decode cL_law 855 = .ok (.iconst 3, 1) := by decide +kernel
theorem dL_law_856 : decode cL_law 856 = .ok (.iadd, 1) := by decide +kernel
theorem dL_law_857 : decode cL_law 857 = .ok (.iaload, 1) := by decide +kernel
theorem dL_law_858 : decode cL_law 858 = .ok (.aload_n 0, 1) := by decide +kernel
theorem dL_law_859 : decode cL_law 859 = .ok (.iload_n 3, 1) := by decide +kernel
theorem dL_law_860 : decode cL_law 860 = .ok (.iconst 4, 1) := by decide +kernel
theorem dL_law_861 : decode cL_law 861 = .ok (.iadd, 1) := by decide +kernel
theorem dL_law_862 : decode cL_law 862 = .ok (.iaload, 1) := by decide +kernel
theorem dL_law_863 : decode cL_law 863 = .ok (.aload_n 0, 1) := by decide +kernel
theorem dL_law_864 : decode cL_law 864 = .ok (.iload_n 3, 1) := by decide +kernel
theorem dL_law_865 : decode cL_law 865 = .ok (.iconst 5, 1) := by decide +kernel
theorem dL_law_866 : decode cL_law 866 = .ok (.iadd, 1) := by decide +kernel
theorem dL_law_867 : decode cL_law 867 = .ok (.iaload, 1) := by decide +kernel
theorem dL_law_868 : decode cL_law 868 = .ok (.invokevirtual 95, 3) := by decide +kernel
theorem dL_law_871 : decode cL_law 871 = .ok (.lcmp, 1) := by decide +kernel
theorem dL_law_872 : decode cL_law 872 = .ok (.ifCond .eq 174, 3) := by decide +kernel
theorem dL_law_875 : decode cL_law 875 = .ok (.iconst 0, 1) := by decide +kernel
theorem dL_law_876 : decode cL_law 876 = .ok (.ireturn, 1) := by decide +kernel
theorem dL_law_877 : decode cL_law 877 = .ok (.aload_n 1, 1) := by decide +kernel
theorem dL_law_878 : decode cL_law 878 = .ok (.aload_n 0, 1) := by decide +kernel
theorem dL_law_879 : decode cL_law 879 = .ok (.iload_n 3, 1) := by decide +kernel
theorem dL_law_880 : decode cL_law 880 = .ok (.iconst 1, 1) := by decide +kernel
theorem dL_law_881 : decode cL_law 881 = .ok (.iadd, 1) := by decide +kernel
theorem dL_law_882 : decode cL_law 882 = .ok (.iaload, 1) := by decide +kernel
theorem dL_law_883 : decode cL_law 883 = .ok (.aload_n 0, 1) := by decide +kernel
theorem dL_law_884 : decode cL_law 884 = .ok (.iload_n 3, 1) := by decide +kernel
theorem dL_law_885 : decode cL_law 885 = .ok (.iconst 2, 1) := by decide +kernel
theorem dL_law_886 : decode cL_law 886 = .ok (.iadd, 1) := by decide +kernel
theorem dL_law_887 : decode cL_law 887 = .ok (.iaload, 1) := by decide +kernel
theorem dL_law_888 : decode cL_law 888 = .ok (.aload_n 0, 1) := by decide +kernel
theorem dL_law_889 : decode cL_law 889 = .ok (.iload_n 3, 1) := by decide +kernel
theorem dL_law_890 : decode cL_law 890 = .ok (.iconst 3, 1) := by decide +kernel
theorem dL_law_891 : decode cL_law 891 = .ok (.iadd, 1) := by decide +kernel
theorem dL_law_892 : decode cL_law 892 = .ok (.iaload, 1) := by decide +kernel
theorem dL_law_893 : decode cL_law 893 = .ok (.invokevirtual 96, 3) := by decide +kernel
theorem dL_law_896 : decode cL_law 896 = .ok (.aload_n 2, 1) := by decide +kernel
theorem dL_law_897 : decode cL_law 897 = .ok (.aload_n 0, 1) := by decide +kernel
theorem dL_law_898 : decode cL_law 898 = .ok (.iload_n 3, 1) := by decide +kernel
theorem dL_law_899 : decode cL_law 899 = .ok (.iconst 1, 1) := by decide +kernel
theorem dL_law_900 : decode cL_law 900 = .ok (.iadd, 1) := by decide +kernel
theorem dL_law_901 : decode cL_law 901 = .ok (.iaload, 1) := by decide +kernel
theorem dL_law_902 : decode cL_law 902 = .ok (.aload_n 0, 1) := by decide +kernel
theorem dL_law_903 : decode cL_law 903 = .ok (.iload_n 3, 1) := by decide +kernel
theorem dL_law_904 : decode cL_law 904 = .ok (.iconst 2, 1) := by decide +kernel
theorem dL_law_905 : decode cL_law 905 = .ok (.iadd, 1) := by decide +kernel
theorem dL_law_906 : decode cL_law 906 = .ok (.iaload, 1) := by decide +kernel
theorem dL_law_907 : decode cL_law 907 = .ok (.aload_n 0, 1) := by decide +kernel
theorem dL_law_908 : decode cL_law 908 = .ok (.iload_n 3, 1) := by decide +kernel
theorem dL_law_909 : decode cL_law 909 = .ok (.iconst 3, 1) := by decide +kernel
theorem dL_law_910 : decode cL_law 910 = .ok (.iadd, 1) := by decide +kernel
theorem dL_law_911 : decode cL_law 911 = .ok (.iaload, 1) := by decide +kernel
theorem dL_law_912 : decode cL_law 912 = .ok (.invokevirtual 99, 3) := by decide +kernel
theorem dL_law_915 : decode cL_law 915 = .ok (.if_icmp .eq 131, 3) := by decide +kernel
theorem dL_law_918 : decode cL_law 918 = .ok (.iconst 0, 1) := by decide +kernel
theorem dL_law_919 : decode cL_law 919 = .ok (.ireturn, 1) := by decide +kernel
theorem dL_law_920 : decode cL_law 920 = .ok (.aload_n 1, 1) := by decide +kernel
theorem dL_law_921 : decode cL_law 921 = .ok (.aload_n 0, 1) := by decide +kernel
theorem dL_law_922 : decode cL_law 922 = .ok (.iload_n 3, 1) := by decide +kernel
theorem dL_law_923 : decode cL_law 923 = .ok (.iconst 1, 1) := by decide +kernel
theorem dL_law_924 : decode cL_law 924 = .ok (.iadd, 1) := by decide +kernel
theorem dL_law_925 : decode cL_law 925 = .ok (.iaload, 1) := by decide +kernel
theorem dL_law_926 : decode cL_law 926 = .ok (.aload_n 0, 1) := by decide +kernel
theorem dL_law_927 : decode cL_law 927 = .ok (.iload_n 3, 1) := by decide +kernel
theorem dL_law_928 : decode cL_law 928 = .ok (.iconst 2, 1) := by decide +kernel
theorem dL_law_929 : decode cL_law 929 = .ok (.iadd, 1) := by decide +kernel
theorem dL_law_930 : decode cL_law 930 = .ok (.iaload, 1) := by decide +kernel
theorem dL_law_931 : decode cL_law 931 = .ok (.aload_n 0, 1) := by decide +kernel
theorem dL_law_932 : decode cL_law 932 = .ok (.iload_n 3, 1) := by decide +kernel
theorem dL_law_933 : decode cL_law 933 = .ok (.iconst 3, 1) := by decide +kernel
theorem dL_law_934 : decode cL_law 934 = .ok (.iadd, 1) := by decide +kernel
theorem dL_law_935 : decode cL_law 935 = .ok (.iaload, 1) := by decide +kernel
theorem dL_law_936 : decode cL_law 936 = .ok (.aload_n 0, 1) := by decide +kernel
theorem dL_law_937 : decode cL_law 937 = .ok (.iload_n 3, 1) := by decide +kernel
theorem dL_law_938 : decode cL_law 938 = .ok (.iconst 4, 1) := by decide +kernel
theorem dL_law_939 : decode cL_law 939 = .ok (.iadd, 1) := by decide +kernel
theorem dL_law_940 : decode cL_law 940 = .ok (.iaload, 1) := by decide +kernel
theorem dL_law_941 : decode cL_law 941 = .ok (.aload_n 0, 1) := by decide +kernel
theorem dL_law_942 : decode cL_law 942 = .ok (.iload_n 3, 1) := by decide +kernel
theorem dL_law_943 : decode cL_law 943 = .ok (.iconst 5, 1) := by decide +kernel
theorem dL_law_944 : decode cL_law 944 = .ok (.iadd, 1) := by decide +kernel
theorem dL_law_945 : decode cL_law 945 = .ok (.iaload, 1) := by decide +kernel
theorem dL_law_946 : decode cL_law 946 = .ok (.invokevirtual 100, 3) := by decide +kernel
theorem dL_law_949 : decode cL_law 949 = .ok (.aload_n 2, 1) := by decide +kernel
theorem dL_law_950 : decode cL_law 950 = .ok (.aload_n 0, 1) := by decide +kernel
theorem dL_law_951 : decode cL_law 951 = .ok (.iload_n 3, 1) := by decide +kernel
theorem dL_law_952 : decode cL_law 952 = .ok (.iconst 1, 1) := by decide +kernel
theorem dL_law_953 : decode cL_law 953 = .ok (.iadd, 1) := by decide +kernel
theorem dL_law_954 : decode cL_law 954 = .ok (.iaload, 1) := by decide +kernel
theorem dL_law_955 : decode cL_law 955 = .ok (.aload_n 0, 1) := by decide +kernel
theorem dL_law_956 : decode cL_law 956 = .ok (.iload_n 3, 1) := by decide +kernel
theorem dL_law_957 : decode cL_law 957 = .ok (.iconst 2, 1) := by decide +kernel
theorem dL_law_958 : decode cL_law 958 = .ok (.iadd, 1) := by decide +kernel
theorem dL_law_959 : decode cL_law 959 = .ok (.iaload, 1) := by decide +kernel
theorem dL_law_960 : decode cL_law 960 = .ok (.aload_n 0, 1) := by decide +kernel
theorem dL_law_961 : decode cL_law 961 = .ok (.iload_n 3, 1) := by decide +kernel
theorem dL_law_962 : decode cL_law 962 = .ok (.iconst 3, 1) := by decide +kernel
theorem dL_law_963 : decode cL_law 963 = .ok (.iadd, 1) := by decide +kernel
theorem dL_law_964 : decode cL_law 964 = .ok (.iaload, 1) := by decide +kernel
theorem dL_law_965 : decode cL_law 965 = .ok (.aload_n 0, 1) := by decide +kernel
theorem dL_law_966 : decode cL_law 966 = .ok (.iload_n 3, 1) := by decide +kernel
theorem dL_law_967 : decode cL_law 967 = .ok (.iconst 4, 1) := by decide +kernel
theorem dL_law_968 : decode cL_law 968 = .ok (.iadd, 1) := by decide +kernel
theorem dL_law_969 : decode cL_law 969 = .ok (.iaload, 1) := by decide +kernel
theorem dL_law_970 : decode cL_law 970 = .ok (.aload_n 0, 1) := by decide +kernel
theorem dL_law_971 : decode cL_law 971 = .ok (.iload_n 3, 1) := by decide +kernel
theorem dL_law_972 : decode cL_law 972 = .ok (.iconst 5, 1) := by decide +kernel
theorem dL_law_973 : decode cL_law 973 = .ok (.iadd, 1) := by decide +kernel
theorem dL_law_974 : decode cL_law 974 = .ok (.iaload, 1) := by decide +kernel
theorem dL_law_975 : decode cL_law 975 = .ok (.invokevirtual 103, 3) := by decide +kernel
theorem dL_law_978 : decode cL_law 978 = .ok (.if_icmp .eq 68, 3) := by decide +kernel
theorem dL_law_981 : decode cL_law 981 = .ok (.iconst 0, 1) := by decide +kernel
theorem dL_law_982 : decode cL_law 982 = .ok (.ireturn, 1) := by decide +kernel
theorem dL_law_983 : decode cL_law 983 = .ok (.aload_n 1, 1) := by decide +kernel
theorem dL_law_984 : decode cL_law 984 = .ok (.invokevirtual 104, 3) := by decide +kernel
theorem dL_law_987 : decode cL_law 987 = .ok (.aload_n 2, 1) := by decide +kernel
theorem dL_law_988 : decode cL_law 988 = .ok (.invokevirtual 107, 3) := by decide +kernel
theorem dL_law_991 : decode cL_law 991 = .ok (.if_icmp .eq 55, 3) := by decide +kernel
theorem dL_law_994 : decode cL_law 994 = .ok (.iconst 0, 1) := by decide +kernel
theorem dL_law_995 : decode cL_law 995 = .ok (.ireturn, 1) := by decide +kernel
theorem dL_law_996 : decode cL_law 996 = .ok (.aload_n 1, 1) := by decide +kernel
theorem dL_law_997 : decode cL_law 997 = .ok (.invokevirtual 108, 3) := by decide +kernel
theorem dL_law_1000 : decode cL_law 1000 = .ok (.aload_n 2, 1) := by decide +kernel
theorem dL_law_1001 : decode cL_law 1001 = .ok (.invokevirtual 111, 3) := by decide +kernel
theorem dL_law_1004 : decode cL_law 1004 = .ok (.if_icmp .eq 42, 3) := by decide +kernel
theorem dL_law_1007 : decode cL_law 1007 = .ok (.iconst 0, 1) := by decide +kernel
theorem dL_law_1008 : decode cL_law 1008 = .ok (.ireturn, 1) := by decide +kernel
theorem dL_law_1009 : decode cL_law 1009 = .ok (.aload_n 1, 1) := by decide +kernel
theorem dL_law_1010 : decode cL_law 1010 = .ok (.aload_n 0, 1) := by decide +kernel
theorem dL_law_1011 : decode cL_law 1011 = .ok (.iload_n 3, 1) := by decide +kernel
theorem dL_law_1012 : decode cL_law 1012 = .ok (.iconst 1, 1) := by decide +kernel
theorem dL_law_1013 : decode cL_law 1013 = .ok (.iadd, 1) := by decide +kernel
theorem dL_law_1014 : decode cL_law 1014 = .ok (.iaload, 1) := by decide +kernel
theorem dL_law_1015 : decode cL_law 1015 = .ok (.invokevirtual 112, 3) := by decide +kernel
theorem dL_law_1018 : decode cL_law 1018 = .ok (.aload_n 2, 1) := by decide +kernel
theorem dL_law_1019 : decode cL_law 1019 = .ok (.aload_n 0, 1) := by decide +kernel
theorem dL_law_1020 : decode cL_law 1020 = .ok (.iload_n 3, 1) := by decide +kernel
theorem dL_law_1021 : decode cL_law 1021 = .ok (.iconst 1, 1) := by decide +kernel
theorem dL_law_1022 : decode cL_law 1022 = .ok (.iadd, 1) := by decide +kernel
theorem dL_law_1023 : decode cL_law 1023 = .ok (.iaload, 1) := by decide +kernel
theorem dL_law_1024 : decode cL_law 1024 = .ok (.invokevirtual 115, 3) := by decide +kernel
theorem dL_law_1027 : decode cL_law 1027 = .ok (.if_icmp .eq 19, 3) := by decide +kernel
theorem dL_law_1030 : decode cL_law 1030 = .ok (.iconst 0, 1) := by decide +kernel
theorem dL_law_1031 : decode cL_law 1031 = .ok (.ireturn, 1) := by decide +kernel
theorem dL_law_1032 : decode cL_law 1032 = .ok (.aload_n 1, 1) := by decide +kernel
theorem dL_law_1033 : decode cL_law 1033 = .ok (.invokevirtual 116, 3) := by decide +kernel
theorem dL_law_1036 : decode cL_law 1036 = .ok (.aload_n 2, 1) := by decide +kernel
theorem dL_law_1037 : decode cL_law 1037 = .ok (.invokevirtual 120, 3) := by decide +kernel
theorem dL_law_1040 : decode cL_law 1040 = .ok (.lcmp, 1) := by decide +kernel
theorem dL_law_1041 : decode cL_law 1041 = .ok (.ifCond .eq 5, 3) := by decide +kernel
theorem dL_law_1044 : decode cL_law 1044 = .ok (.iconst 0, 1) := by decide +kernel
theorem dL_law_1045 : decode cL_law 1045 = .ok (.ireturn, 1) := by decide +kernel
theorem dL_law_1046 : decode cL_law 1046 = .ok (.iinc 3 6, 3) := by decide +kernel
theorem dL_law_1049 : decode cL_law 1049 = .ok (.goto (-1031), 3) := by decide +kernel
theorem dL_law_1052 : decode cL_law 1052 = .ok (.iconst 1, 1) := by decide +kernel
theorem dL_law_1053 : decode cL_law 1053 = .ok (.ireturn, 1) := by decide +kernel
/-! ===== two worlds side by side ===== -/
def WL (K : KT) (adC adM : Nat → Nat) (σ τ : Sg) : Heap → List Loc → Prop := fun H locs => va_P (kD K) vwCl (wd (kcy K) adC σ 0 layC) H ∧ va_P (kD K) vwCl (wd (kcy K) adM τ 0 layM) H ∧ va_S (kA K) (ks K).heap H locs
def CL (K : KT) (cc : ByteArray) (own : String) (nL d : Nat) (adC adM : Nat → Nat) : Prop := Cb K cc own nL d ∧ va_K (kD K) vwCl (tysOf (kcy K)) (ks K) ∧ kA K = (fun q => (ks K).heap.size ≤ q) ∧ Ev (kA K) (ks K) ∧ (∀ i j, i < layC.length → j < layC.length → adC i = adC j → i = j) ∧ (∀ i j, i < layM.length → j < layM.length → adM i = adM j → i = j) ∧ (∀ i j, i < layC.length → j < layM.length → adC i ≠ adM j) ∧ (∀ i, i < layC.length → (ks K).heap.size ≤ adC i) ∧ (∀ i, i < layM.length → (ks K).heap.size ≤ adM i)
section GL
variable {K : KT} {cc : ByteArray} {own : String} {nL d pc ci si : Nat} {L : List (Option Value)} {st : List Value} {P : Heap → List Loc → Prop}
theorem h_iadd (C : Cb K cc own nL d) {x y : Int32} (hd : decode cc pc = .ok (.iadd, 1))
    (k : GW K (pc + 1) L (.int (x + y) :: st) ci si P) : GW K pc L (.int y :: .int x :: st) ci si P := fun H locs ls hP hL => lv_iadd C.x C.b hd (k H locs ls hP hL)
theorem h_isub (C : Cb K cc own nL d) {x y : Int32} (hd : decode cc pc = .ok (.isub, 1))
    (k : GW K (pc + 1) L (.int (x - y) :: st) ci si P) : GW K pc L (.int y :: .int x :: st) ci si P := fun H locs ls hP hL => lv_isub C.x C.b hd (k H locs ls hP hL)
theorem h_iand (C : Cb K cc own nL d) {x y : Int32} (hd : decode cc pc = .ok (.iand, 1))
    (k : GW K (pc + 1) L (.int (x &&& y) :: st) ci si P) : GW K pc L (.int y :: .int x :: st) ci si P := fun H locs ls hP hL => lv_iand C.x C.b hd (k H locs ls hP hL)
theorem h_land (C : Cb K cc own nL d) {x y : Int64} (hd : decode cc pc = .ok (.land, 1))
    (k : GW K (pc + 1) L (.long (x &&& y) :: st) ci si P) : GW K pc L (.long y :: .long x :: st) ci si P := fun H locs ls hP hL => lv_land C.x C.b hd (k H locs ls hP hL)
theorem h_lor (C : Cb K cc own nL d) {x y : Int64} (hd : decode cc pc = .ok (.lor, 1))
    (k : GW K (pc + 1) L (.long (x ||| y) :: st) ci si P) : GW K pc L (.long y :: .long x :: st) ci si P := fun H locs ls hP hL => lv_lor C.x C.b hd (k H locs ls hP hL)
theorem h_lshl (C : Cb K cc own nL d) {x : Int64} {y : Int32} (hd : decode cc pc = .ok (.lshl, 1))
    (k : GW K (pc + 1) L (.long (lshl x y) :: st) ci si P) : GW K pc L (.int y :: .long x :: st) ci si P := fun H locs ls hP hL => lv_lshl C.x C.b hd rfl (k H locs ls hP hL)
theorem h_i2l (C : Cb K cc own nL d) {x : Int32} (hd : decode cc pc = .ok (.i2l, 1))
    (k : GW K (pc + 1) L (.long x.toInt64 :: st) ci si P) : GW K pc L (.int x :: st) ci si P := fun H locs ls hP hL => lv_i2l C.x C.b hd rfl (k H locs ls hP hL)
theorem h_lcmp (C : Cb K cc own nL d) {x y : Int64} (hd : decode cc pc = .ok (.lcmp, 1))
    (k : GW K (pc + 1) L (.int (lg_cmp x y) :: st) ci si P) : GW K pc L (.long y :: .long x :: st) ci si P := fun H locs ls hP hL => W.lcmp C.x C.b hd (k H locs ls hP hL)
theorem h_ldc2 (C : Cb K cc own nL d) {index : Nat} {v : Int64} (hw : Cond.constantLong own index v ∈ AL) (hd : decode cc pc = .ok (.ldc2_w index, 3))
    (k : GW K (pc + 3) L (.long v :: st) ci si P) : GW K pc L st ci si P := fun H locs ls hP hL => lv_ldc2 C.x C.b C.o (C.t hw) hd (k H locs ls hP hL)
theorem h_if_eq (C : Cb K cc own nL d) {x : Int32} {off : Int} {tgt : Nat} (hd : decode cc pc = .ok (.ifCond .eq off, 3)) (ht : (pc : Int) + off = (tgt : Int)) (kt : x = 0 → GW K tgt L st ci si P) (kf : ¬ x = 0 → GW K (pc + 3) L st ci si P) : GW K pc L (.int x :: st) ci si P := fun H locs ls hP hL => lv_if_eq C.x C.b hd ht (fun q => kt q H locs ls hP hL) (fun q => kf q H locs ls hP hL)
theorem h_icmp_eq (C : Cb K cc own nL d) {x y : Int32} {off : Int} {tgt : Nat} (hd : decode cc pc = .ok (.if_icmp .eq off, 3)) (ht : (pc : Int) + off = (tgt : Int)) (h : x = y) (kt : GW K tgt L st ci si P) : GW K pc L (.int y :: .int x :: st) ci si P := fun H locs ls hP hL => lv_icmp_eq C.x C.b hd ht (fun _ => kt H locs ls hP hL) (fun q => absurd h q)
theorem h_icmp_gt (C : Cb K cc own nL d) {x y : Int32} {off : Int} {tgt : Nat} (hd : decode cc pc = .ok (.if_icmp .gt off, 3)) (ht : (pc : Int) + off = (tgt : Int)) (kt : y < x → GW K tgt L st ci si P) (kf : ¬ y < x → GW K (pc + 3) L st ci si P) : GW K pc L (.int y :: .int x :: st) ci si P := fun H locs ls hP hL => lv_icmp_gt C.x C.b hd ht (fun q => kt q H locs ls hP hL) (fun q => kf q H locs ls hP hL)
theorem h_tblIn (C : Cb K cc own nL d) {dflt lo hi off : Int} {offs : Array Int} {len tgt : Nat} {x v : Int32} (hx : x = v) (hd : decode cc pc = .ok (.tableswitch dflt lo hi offs, len)) (h1 : ¬ v.toInt < lo) (h2 : ¬ hi < v.toInt) (ho : offs[(v.toInt - lo).toNat]? = some off) (ht : (pc : Int) + off = (tgt : Int)) (k : GW K tgt L st ci si P) : GW K pc L (.int x :: st) ci si P := by
  subst hx
  exact fun H locs ls hP hL => lv_tableIn C.x C.b hd h1 h2 ho ht (k H locs ls hP hL)
theorem h_tblOut (C : Cb K cc own nL d) {dflt lo hi : Int} {offs : Array Int} {len tgt : Nat} {x : Int32} (ks : List Int32) (hk : tblOk lo hi ks = true) (hne : allNe x ks) (hd : decode cc pc = .ok (.tableswitch dflt lo hi offs, len)) (ht : (pc : Int) + dflt = (tgt : Int)) (k : GW K tgt L st ci si P) : GW K pc L (.int x :: st) ci si P := fun H locs ls hP hL => lv_tableOut C.x C.b hd (tbl_out hk hne) ht (k H locs ls hP hL)
variable {adC adM : Nat → Nat} {σ τ : Sg} {b Ln : Nat} {xs : Nat → Int32}
/-- a cell of the script -/
theorem h_sld (C : CL K cc own nL d adC adM) (hX : va_X b Ln xs (ks K) (ks K).heap) (hbl : b < (ks K).heap.size) {i : Int32} {j : Nat} (hd : decode cc pc = .ok (.iaload, 1)) (hi : i = nI j) (hj : j < Ln) (hL31 : Ln < 2 ^ 31) (k : GW K (pc + 1) L (.int (xs j) :: st) ci si (WL K adC adM σ τ)) : GW K pc L (.int i :: .ref b :: st) ci si (WL K adC adM σ τ) := fun H locs ls hP hL => by
  subst hi
  have hn : ¬ kA K b := by rw [C.2.2.1]; exact Nat.not_le.mpr hbl
  have hk := k H locs ls hP hL
  refine va_sld C.1.x C.1.b hX hbl hn hP.2.2 (vp_in_nI hj hL31) hd ?_
  rw [nI_clamp (by omega)]
  exact hk
theorem h_slen (C : CL K cc own nL d adC adM) (hX : va_X b Ln xs (ks K) (ks K).heap) (hbl : b < (ks K).heap.size) (hd : decode cc pc = .ok (.arraylength, 1)) (k : GW K (pc + 1) L (.int (nI Ln) :: st) ci si (WL K adC adM σ τ)) : GW K pc L (.ref b :: st) ci si (WL K adC adM σ τ) := fun H locs ls hP hL => by
  have hn : ¬ kA K b := by rw [C.2.2.1]; exact Nat.not_le.mpr hbl
  exact va_slen C.1.x C.1.b hX hbl hn hP.2.2 hd (k H locs ls hP hL)
/-- a call of a method of one of the two worlds -/
theorem h_go {Y1 Y2 : List Sh} {ad1 ad2 : Nat → Nat} {σ2 : Sg} {H : Heap} {locs : List Loc} {ls : Array Slot} {st rest : List Value} {a : Array Value} {ok : Ok} (hA : kA K = (fun q => (ks K).heap.size ≤ q)) (h1s : ∀ i, i < Y1.length → (ks K).heap.size ≤ ad1 i) (hne : ∀ i j, i < Y1.length → j < Y2.length → ad1 i ≠ ad2 j) (hP2 : va_P (kD K) vwCl (wd (kcy K) ad2 σ2 0 Y2) H) (hS : va_S (kA K) (ks K).heap H locs) (hL : LX ls L)
    (hr : va_Run (kp K) (kl K) (ke K) (kR K) (ks K) (km K) (ka K) (kb K) (kmeth K) (kc K) H locs ci si 0 0 (F0 (km K) pc ls st) rest (QX (kD K) (kcy K) ad1 Y1 (Aof ad1 Y1.length H.size) ok a) (Aof ad1 Y1.length H.size))
    (kk : ∀ v σ', ok v σ' → GW K (pc + 3) L (v.toList ++ rest) ci si (fun H locs => va_P (kD K) vwCl (wd (kcy K) ad1 σ' 0 Y1) H ∧ va_P (kD K) vwCl (wd (kcy K) ad2 σ2 0 Y2) H ∧ va_S (kA K) (ks K).heap H locs)) : W (kp K) (kl K) (ke K) (kR K) (ks K) (km K) (ka K) (kb K) (kmeth K) (kc K) H locs ci si (kQ K) (F0 (km K) pc ls st) := by
  have hsub : ∀ q, Aof ad1 Y1.length H.size q → kA K q := fun q h => by
    rw [hA]
    rcases h with ⟨i, hi, rfl⟩ | h
    · exact h1s i hi
    · exact Nat.le_trans hS.1 h
  intro T hT X
  obtain ⟨v, st₀, t, T', L2, h0, X', hL2, e1, e2, ⟨v', σ', hv, hok, hw, hz, hk⟩, stp⟩ := hr T hT X
  cases hv
  rw [h0] at hz hk
  have hS' : va_S (kA K) (ks K).heap T'.heap (locs ++ L2) := ⟨Nat.le_trans hS.1 (by rw [e1]; exact hz), fun q h1 h2 => by rw [e1, hk q (Nat.lt_of_lt_of_le h1 hS.1) (fun z => h2 (hsub q z))]; exact hS.2.1 q h1 h2, fun q hq => by
      rcases List.mem_append.mp hq with h | h
      · exact hS.2.2 q h
      · exact hsub _ (hL2 q h)⟩
  have hP2' : va_P (kD K) vwCl (wd (kcy K) ad2 σ2 0 Y2) T'.heap := hP2.kept (fun k x hx => by
    have hl : k < Y2.length := by have := (List.getElem?_eq_some_iff.mp hx).1; rw [wd_len] at this; exact this
    have hlt := (hP2 k x hx).lt
    rw [wd_at (List.getElem?_eq_getElem hl)] at hx
    cases hx
    rw [e1]
    refine hk _ hlt (fun z => ?_)
    rcases z with ⟨i, hi, e⟩ | z
    · exact hne i k hi hl e.symm
    · have : ad2 k < H.size := hlt
      have z' : H.size ≤ ad2 k := z
      omega)
  obtain ⟨t2, a1, b1⟩ := kk v σ' hok T'.heap (locs ++ L2) ls ⟨by rw [e1]; exact hw, hP2', hS'⟩ hL T' rfl X'
  exact ⟨t2, stp t2 a1, b1⟩
theorem h_pre {Y1 : List Sh} {ad1 : Nat → Nat} {σ1 : Sg} {vals : (Nat → Nat) → List Value} {H : Heap} {locs : List Loc} (hA : kA K = (fun q => (ks K).heap.size ≤ q)) (hE : Ev (kA K) (ks K)) (hK : va_K (kD K) vwCl (tysOf (kcy K)) (ks K)) (hi : ∀ i j, i < Y1.length → j < Y1.length → ad1 i = ad1 j → i = j) (h1s : ∀ i, i < Y1.length → (ks K).heap.size ≤ ad1 i) (hP : va_P (kD K) vwCl (wd (kcy K) ad1 σ1 0 Y1) H) (hS : va_S (kA K) (ks K).heap H locs) (U : State) (hU : U.heap = H) (hW : (ks K).WarmedH U.vm) : (va_Pc (vals ad1) (fun U => U.heap.size = H.size ∧ Bx (kD K) (kcy K) ad1 Y1 σ1 U ∧ Ev (Aof ad1 Y1.length H.size) U)) (vals ad1).toArray U := by
  refine ⟨rfl, by rw [hU], ⟨by rw [hU]; exact hP, va_K.moved hW.alike hK, hi⟩, hE.moved hW (fun a h1 h2 => by rw [hU]; exact hS.2.1 a h1 h2) (fun q h => ?_)⟩
  rw [hA]
  rcases h with ⟨i, hi, rfl⟩ | h
  · exact h1s i hi
  · exact Nat.le_trans hS.1 h
theorem h_run {Y1 : List Sh} {ad1 : Nat → Nat} {σ1 : Sg} {H : Heap} {locs : List Loc} {ls : Array Slot} {index n d' nL' N : Nat} {y : MethodName} {cc' : ByteArray} {ret' : Option FieldType} {vals : (Nat → Nat) → List Value} {ok : Ok} {As rest : List Value} {kx : Nat} {T : u_T} {sl : List (Nat × Nat)} (C : Cb K cc own nL d) (hA : kA K = (fun q => (ks K).heap.size ≤ q)) (hE : Ev (kA K) (ks K)) (hK : va_K (kD K) vwCl (tysOf (kcy K)) (ks K)) (hi : ∀ i j, i < Y1.length → j < Y1.length → ad1 i = ad1 j → i = j) (h1s : ∀ i, i < Y1.length → (ks K).heap.size ≤ ad1 i) (hP : va_P (kD K) vwCl (wd (kcy K) ad1 σ1 0 Y1) H) (hS : va_S (kA K) (ks K).heap H locs)
    (hd : decode cc pc = .ok (.invokevirtual index, 3)) (hM : Ct Y1 y cc' nL' ret' d' vals σ1 ok) (hw : Cw y cc' nL' ret' n) (hl : Cond.methodLink own index y ∈ AL) (hin : Cond.instanceMethod y ∈ AL) (hse : Cond.selects y.cls y y ∈ AL) (hv : vals ad1 = .ref (ad1 0) :: As) (hst : st = As.reverse ++ .ref (ad1 0) :: rest) (hn : As.length = n) (hdd : d' + 1 ≤ d) (hLn : L.length = nL) (hL : LX ls L) (hY : Y1[0]? = some (0, kx, sl)) (hc : vwCl[kx]? = some (y.cls, T, N)) (hr : (rest.map fun v => v.category).sum ≤ 8) :
    va_Run (kp K) (kl K) (ke K) (kR K) (ks K) (km K) (ka K) (kb K) (kmeth K) (kc K) H locs ci si 0 0 (F0 (km K) pc ls st) rest (QX (kD K) (kcy K) ad1 Y1 (Aof ad1 Y1.length H.size) ok (Value.ref (ad1 0) :: As).toArray) (Aof ad1 Y1.length H.size) ∨ ¬ (ci ≤ (kR K).cells ∧ si ≤ (kR K).slots) := by
  by_cases hroom : ci ≤ (kR K).cells ∧ si ≤ (kR K).slots
  · refine Or.inl ?_
    have he : (wd (kcy K) ad1 σ1 0 Y1)[0]? = some (ad1 0, .inr (kx, slv ad1 σ1 0 0 sl)) := wd_at hY
    have hf := C.2.2.2.2.2.2.1
    have hlo := C.2.2.2.2.2.2.2
    have hR : (rmd d').frames + 1 ≤ (kR K).frames ∧ 8 + (nL' + 11) + (rmd d').locals ≤ (kR K).locals := ⟨by show d' + 1 ≤ _; omega, by have := hw.2.2.2.2; show 8 + (nL' + 11) + 40 * d' ≤ _; omega⟩
    have hM' := hM (kl K) (kD K) (kcy K) ad1 H.size
    have hpre : PreV (ks K) H y.cls (ad1 0) (va_Pc (vals ad1) (fun U => U.heap.size = H.size ∧ Bx (kD K) (kcy K) ad1 Y1 σ1 U ∧ Ev (Aof ad1 Y1.length H.size) U)) As := ⟨ct_blind, va_recv hK hP hc he, fun U hU hW => by rw [← hv]; exact h_pre hA hE hK hi h1s hP hS U hU hW⟩
    have hz : ls.size = nL := hL.1.trans hLn
    have cb : CallB (kR K) (ks K) (ka K) own index y cc' nL' ret' (.code y cc' nL' ret' :: AL) (rmd d') 0 0 n := callB_of n C.2.2.2.2.1 (ct_in hw.1) rfl rfl rfl (C.t hw.2.1) (C.t hl) ⟨hw.2.2.1.1, hw.2.2.1.2, hw.2.2.2.1⟩ hR
    exact va_runV (As := As) (rest := rest) C.fix hM' ⟨cb, C.t hin, C.t hse⟩ hpre rfl hn hz hst (lv_room hr) hd hroom
  · exact Or.inr hroom
theorem h_callC (C : CL K cc own nL d adC adM) (hroom : ci ≤ (kR K).cells ∧ si ≤ (kR K).slots) {index n d' nL' N : Nat} {y : MethodName} {cc' : ByteArray} {ret' : Option FieldType} {vals : (Nat → Nat) → List Value} {ok : Ok} {As rest : List Value} {T : u_T} (hd : decode cc pc = .ok (.invokevirtual index, 3)) (hM : Ct layC y cc' nL' ret' d' vals σ ok) (hw : Cw y cc' nL' ret' n) (hl : Cond.methodLink own index y ∈ AL) (hin : Cond.instanceMethod y ∈ AL) (hse : Cond.selects y.cls y y ∈ AL) (hv : vals adC = .ref (adC 0) :: As) (hst : st = As.reverse ++ .ref (adC 0) :: rest) (hn : As.length = n) (hdd : d' + 1 ≤ d) (hLn : L.length = nL) (hc : vwCl[9]? = some (y.cls, T, N)) (hr : (rest.map fun v => v.category).sum ≤ 8)
    (kk : ∀ v σ', ok v σ' → GW K (pc + 3) L (v.toList ++ rest) ci si (WL K adC adM σ' τ)) : GW K pc L st ci si (WL K adC adM σ τ) := fun H locs ls hP hL => by
  rcases h_run (ci := ci) (si := si) C.1 C.2.2.1 C.2.2.2.1 C.2.1 C.2.2.2.2.1 C.2.2.2.2.2.2.2.1 hP.1 hP.2.2 hd hM hw hl hin hse hv hst hn hdd hLn hL rfl hc hr with h | h
  · exact h_go C.2.2.1 C.2.2.2.2.2.2.2.1 C.2.2.2.2.2.2.1 hP.2.1 hP.2.2 hL h kk
  · exact absurd hroom h
theorem h_callM (C : CL K cc own nL d adC adM) (hroom : ci ≤ (kR K).cells ∧ si ≤ (kR K).slots) {index n d' nL' N : Nat} {y : MethodName} {cc' : ByteArray} {ret' : Option FieldType} {vals : (Nat → Nat) → List Value} {ok : Ok} {As rest : List Value} {T : u_T} (hd : decode cc pc = .ok (.invokevirtual index, 3)) (hM : Ct layM y cc' nL' ret' d' vals τ ok) (hw : Cw y cc' nL' ret' n) (hl : Cond.methodLink own index y ∈ AL) (hin : Cond.instanceMethod y ∈ AL) (hse : Cond.selects y.cls y y ∈ AL) (hv : vals adM = .ref (adM 0) :: As) (hst : st = As.reverse ++ .ref (adM 0) :: rest) (hn : As.length = n) (hdd : d' + 1 ≤ d) (hLn : L.length = nL) (hc : vwCl[10]? = some (y.cls, T, N)) (hr : (rest.map fun v => v.category).sum ≤ 8)
    (kk : ∀ v τ', ok v τ' → GW K (pc + 3) L (v.toList ++ rest) ci si (WL K adC adM σ τ')) : GW K pc L st ci si (WL K adC adM σ τ) := fun H locs ls hP hL => by
  rcases h_run (ci := ci) (si := si) C.1 C.2.2.1 C.2.2.2.1 C.2.1 C.2.2.2.2.2.1 C.2.2.2.2.2.2.2.2 hP.2.1 hP.2.2 hd hM hw hl hin hse hv hst hn hdd hLn hL rfl hc hr with h | h
  · exact h_go C.2.2.1 C.2.2.2.2.2.2.2.2 (fun i j h1 h2 e => C.2.2.2.2.2.2.1 j i h2 h1 e.symm) hP.1 hP.2.2 hL h (fun v τ' q H locs ls hP hL => kk v τ' q H locs ls ⟨hP.2.1, hP.1, hP.2.2⟩ hL)
  · exact absurd hroom h
end GL
/-! ===== what the two functions owe each other, a step ===== -/
def SimI (Inv : Nat → Sg → Sg → Prop) (f g : Sg → Option (Int32 × Sg)) : Prop := ∀ n σ τ, n < 512 → Inv n σ τ → ∃ r σ' τ', f σ = some (r, σ') ∧ g τ = some (r, τ') ∧ Inv (n + 1) σ' τ'
def SimJ (Inv : Nat → Sg → Sg → Prop) (f g : Sg → Option (Int64 × Sg)) : Prop := ∀ n σ τ, n < 512 → Inv n σ τ → ∃ r σ' τ', f σ = some (r, σ') ∧ g τ = some (r, τ') ∧ Inv (n + 1) σ' τ'
def bZ (x : Int32) : Int32 := if x = 0 then 0 else 1
def longOf (a b : Int32) : Int64 := lshl a.toInt64 (32 : Int32) ||| (b.toInt64 &&& 4294967295)
theorem lg_same (x : Int64) : lg_cmp x x = 0 := by
  unfold lg_cmp
  rw [if_neg (by simp), if_pos rfl]
theorem bZ_B (x : Int32) : isB (bZ x) = true := by
  unfold bZ
  split <;> rfl
theorem hx1 {x : Int32} {i : Nat} (h : x = nI i) : x + (1 : Int32) = nI (i + 1) := by rw [h, ← nI_add]; rfl
theorem hx2 {x : Int32} {i : Nat} (h : x = nI i) : x + (2 : Int32) = nI (i + 2) := by rw [h, ← nI_add]; rfl
theorem hx3 {x : Int32} {i : Nat} (h : x = nI i) : x + (3 : Int32) = nI (i + 3) := by rw [h, ← nI_add]; rfl
theorem hx4 {x : Int32} {i : Nat} (h : x = nI i) : x + (4 : Int32) = nI (i + 4) := by rw [h, ← nI_add]; rfl
theorem hx5 {x : Int32} {i : Nat} (h : x = nI i) : x + (5 : Int32) = nI (i + 5) := by rw [h, ← nI_add]; rfl
def Sim (Inv : Nat → Sg → Sg → Prop) : Prop :=
  (∀ (a0 : Int64), SimI Inv (fX9_letters a0) (fX10_letters a0)) ∧
  (SimI Inv (fX9_blank) (fX10_blank)) ∧
  (SimI Inv (fX9_fault) (fX10_fault)) ∧
  (SimI Inv (fX9_sea) (fX10_sea)) ∧
  (∀ (a0 : Int32) (a1 : Int32), SimI Inv (fX9_square a0 a1) (fX10_square a0 a1)) ∧
  (∀ (a0 : Int32) (a1 : Int32) (a2 : Int32) (a3 : Int32) (a4 : Int32), SimI Inv (fX9_berg a0 a1 a2 a3 a4) (fX10_berg a0 a1 a2 a3 a4)) ∧
  (∀ (a0 : Int32) (a1 : Int32), SimI Inv (fX9_as a0 a1) (fX10_as a0 a1)) ∧
  (∀ (a0 : Int32) (a1 : Int32), SimI Inv (fX9_about a0 a1) (fX10_about a0 a1)) ∧
  (∀ (a0 : Int32) (a1 : Int32) (a2 : Int32), SimI Inv (fX9_change a0 a1 a2) (fX10_change a0 a1 a2)) ∧
  (∀ (a0 : Int32) (a1 : Int32), SimI Inv (fX9_coin a0 a1) (fX10_coin a0 a1)) ∧
  (∀ (a0 : Int32) (a1 : Int32) (a2 : Int32) (a3 : Int32), isB a2 = true → SimI Inv (fX9_tow a0 a1 a2 a3) (fX10_tow a0 a1 a2 a3)) ∧
  (∀ (a0 : Int32), SimI Inv (fX9_ways a0) (fX10_ways a0)) ∧
  (∀ (a0 : Int32) (a1 : Int32), SimI Inv (fX9_best a0 a1) (fX10_best a0 a1)) ∧
  (∀ (a0 : Int32) (a1 : Int32), SimI Inv (fX9_season a0 a1) (fX10_season a0 a1)) ∧
  (∀ (a0 : Int32), SimI Inv (fX9_more a0) (fX10_more a0)) ∧
  (∀ (a0 : Int32) (a1 : Int32) (a2 : Int32) (a3 : Int32) (a4 : Int32), isB a2 = true → SimI Inv (fX9_drawn a0 a1 a2 a3 a4) (fX10_drawn a0 a1 a2 a3 a4)) ∧
  (∀ (a0 : Int32) (a1 : Int32) (a2 : Int32) (a3 : Int32) (a4 : Int32), isB a2 = true → SimI Inv (fX9_came a0 a1 a2 a3 a4) (fX10_came a0 a1 a2 a3 a4)) ∧
  (∀ (a0 : Int32) (a1 : Int32) (a2 : Int32) (a3 : Int32) (a4 : Int32), SimJ Inv (fX9_letOff a0 a1 a2 a3 a4) (fX10_letOff a0 a1 a2 a3 a4)) ∧
  (∀ (a0 : Int32) (a1 : Int32) (a2 : Int32), SimI Inv (fX9_line a0 a1 a2) (fX10_line a0 a1 a2)) ∧
  (∀ (a0 : Int32) (a1 : Int32) (a2 : Int32) (a3 : Int32) (a4 : Int32), SimI Inv (fX9_claims a0 a1 a2 a3 a4) (fX10_claims a0 a1 a2 a3 a4)) ∧
  (SimI Inv (fX9_image) (fX10_image)) ∧
  (SimI Inv (fX9_restore) (fX10_restore)) ∧
  (∀ (a0 : Int32), SimI Inv (fX9_count a0) (fX10_count a0)) ∧
  (SimJ Inv (fX9_digest) (fX10_digest))
set_option maxRecDepth 8000 in
theorem law_c0 {K : KT} {Inv : Nat → Sg → Sg → Prop} {adC adM : Nat → Nat} {σ τ : Sg} {b Ln i n ci si : Nat} {xs : Nat → Int32} {x3 : Int32} (C : CL K cL_law RL 4 40 adC adM) (hroom : ci ≤ (kR K).cells ∧ si ≤ (kR K).slots) (hX : va_X b Ln xs (ks K) (ks K).heap) (hbl : b < (ks K).heap.size) (hL31 : Ln ≤ 3072) (hx : x3 = nI i) (hi : i + 6 ≤ Ln) (hn : n < 512) (hI : Inv n σ τ) (hs : ∀ (a0 : Int64), SimI Inv (fX9_letters a0) (fX10_letters a0))
    (kk : ∀ σ' τ', Inv (n + 1) σ' τ' → GW K 1046 [some (.ref b), some (.ref (adC 0)), some (.ref (adM 0)), some (.int x3)] [] ci si (WL K adC adM σ' τ')) : GW K 144 [some (.ref b), some (.ref (adC 0)), some (.ref (adM 0)), some (.int x3)] [] ci si (WL K adC adM σ τ) := by
  refine n_aload_n C.1 dL_law_144 rfl (i := 1) rfl ?_
  refine n_aload_n C.1 dL_law_145 rfl (i := 0) rfl ?_
  refine n_iload_n C.1 dL_law_146 rfl (i := 3) rfl ?_
  refine n_iconst C.1 dL_law_147 (v := (1 : Int32)) (by decide) ?_
  refine h_iadd C.1 dL_law_148 ?_
  refine h_sld C hX hbl (j := i + 1) dL_law_149 (hx1 hx) (by omega) (by omega) ?_
  refine h_i2l C.1 dL_law_150 ?_
  refine n_bipush C.1 dL_law_151 (v := (32 : Int32)) (by decide) ?_
  refine h_lshl C.1 dL_law_153 ?_
  refine n_aload_n C.1 dL_law_154 rfl (i := 0) rfl ?_
  refine n_iload_n C.1 dL_law_155 rfl (i := 3) rfl ?_
  refine n_iconst C.1 dL_law_156 (v := (2 : Int32)) (by decide) ?_
  refine h_iadd C.1 dL_law_157 ?_
  refine h_sld C hX hbl (j := i + 2) dL_law_158 (hx2 hx) (by omega) (by omega) ?_
  refine h_i2l C.1 dL_law_159 ?_
  refine h_ldc2 C.1 (v := (4294967295 : Int64)) aw_1180 dL_law_160 ?_
  refine h_land C.1 dL_law_163 ?_
  refine h_lor C.1 dL_law_164 ?_
  obtain ⟨r, σ2, τ2, hC, hM, hI2⟩ := hs (longOf (xs (i + 1)) (xs (i + 2))) n σ τ hn hI
  refine h_callC C hroom (As := [.long (longOf (xs (i + 1)) (xs (i + 2)))]) (rest := []) dL_law_165 (ct_X9_letters hC) cw_X9_letters aw_390 aw_391 aw_392 rfl rfl rfl (Nat.le_of_ble_eq_true rfl) rfl rfl (Nat.le_of_ble_eq_true rfl) (fun v ρ q => ?_)
  obtain ⟨rfl, rfl⟩ := q
  refine n_aload_n C.1 dL_law_168 rfl (i := 2) rfl ?_
  refine n_aload_n C.1 dL_law_169 rfl (i := 0) rfl ?_
  refine n_iload_n C.1 dL_law_170 rfl (i := 3) rfl ?_
  refine n_iconst C.1 dL_law_171 (v := (1 : Int32)) (by decide) ?_
  refine h_iadd C.1 dL_law_172 ?_
  refine h_sld C hX hbl (j := i + 1) dL_law_173 (hx1 hx) (by omega) (by omega) ?_
  refine h_i2l C.1 dL_law_174 ?_
  refine n_bipush C.1 dL_law_175 (v := (32 : Int32)) (by decide) ?_
  refine h_lshl C.1 dL_law_177 ?_
  refine n_aload_n C.1 dL_law_178 rfl (i := 0) rfl ?_
  refine n_iload_n C.1 dL_law_179 rfl (i := 3) rfl ?_
  refine n_iconst C.1 dL_law_180 (v := (2 : Int32)) (by decide) ?_
  refine h_iadd C.1 dL_law_181 ?_
  refine h_sld C hX hbl (j := i + 2) dL_law_182 (hx2 hx) (by omega) (by omega) ?_
  refine h_i2l C.1 dL_law_183 ?_
  refine h_ldc2 C.1 (v := (4294967295 : Int64)) aw_1180 dL_law_184 ?_
  refine h_land C.1 dL_law_187 ?_
  refine h_lor C.1 dL_law_188 ?_
  refine h_callM C hroom (As := [.long (longOf (xs (i + 1)) (xs (i + 2)))]) (rest := [.int r]) dL_law_189 (ct_X10_letters hM) cw_X10_letters aw_946 aw_947 aw_948 rfl rfl rfl (Nat.le_of_ble_eq_true rfl) rfl rfl (Nat.le_of_ble_eq_true rfl) (fun v ρ q => ?_)
  obtain ⟨rfl, rfl⟩ := q
  refine h_icmp_eq C.1 (tgt := 1046) dL_law_192 (by decide) rfl ?_
  exact kk _ _ hI2
set_option maxRecDepth 8000 in
theorem law_c1 {K : KT} {Inv : Nat → Sg → Sg → Prop} {adC adM : Nat → Nat} {σ τ : Sg} {b Ln i n ci si : Nat} {xs : Nat → Int32} {x3 : Int32} (C : CL K cL_law RL 4 40 adC adM) (hroom : ci ≤ (kR K).cells ∧ si ≤ (kR K).slots) (hX : va_X b Ln xs (ks K) (ks K).heap) (hbl : b < (ks K).heap.size) (hL31 : Ln ≤ 3072) (hx : x3 = nI i) (hi : i + 6 ≤ Ln) (hn : n < 512) (hI : Inv n σ τ) (hs : SimI Inv (fX9_blank) (fX10_blank))
    (kk : ∀ σ' τ', Inv (n + 1) σ' τ' → GW K 1046 [some (.ref b), some (.ref (adC 0)), some (.ref (adM 0)), some (.int x3)] [] ci si (WL K adC adM σ' τ')) : GW K 197 [some (.ref b), some (.ref (adC 0)), some (.ref (adM 0)), some (.int x3)] [] ci si (WL K adC adM σ τ) := by
  refine n_aload_n C.1 dL_law_197 rfl (i := 1) rfl ?_
  obtain ⟨r, σ2, τ2, hC, hM, hI2⟩ := hs  n σ τ hn hI
  refine h_callC C hroom (As := []) (rest := []) dL_law_198 (ct_X9_blank hC) cw_X9_blank aw_401 aw_402 aw_403 rfl rfl rfl (Nat.le_of_ble_eq_true rfl) rfl rfl (Nat.le_of_ble_eq_true rfl) (fun v ρ q => ?_)
  obtain ⟨rfl, rfl⟩ := q
  refine n_aload_n C.1 dL_law_201 rfl (i := 2) rfl ?_
  refine h_callM C hroom (As := []) (rest := [.int r]) dL_law_202 (ct_X10_blank hM) cw_X10_blank aw_951 aw_952 aw_953 rfl rfl rfl (Nat.le_of_ble_eq_true rfl) rfl rfl (Nat.le_of_ble_eq_true rfl) (fun v ρ q => ?_)
  obtain ⟨rfl, rfl⟩ := q
  refine h_icmp_eq C.1 (tgt := 1046) dL_law_205 (by decide) rfl ?_
  exact kk _ _ hI2
set_option maxRecDepth 8000 in
theorem law_c2 {K : KT} {Inv : Nat → Sg → Sg → Prop} {adC adM : Nat → Nat} {σ τ : Sg} {b Ln i n ci si : Nat} {xs : Nat → Int32} {x3 : Int32} (C : CL K cL_law RL 4 40 adC adM) (hroom : ci ≤ (kR K).cells ∧ si ≤ (kR K).slots) (hX : va_X b Ln xs (ks K) (ks K).heap) (hbl : b < (ks K).heap.size) (hL31 : Ln ≤ 3072) (hx : x3 = nI i) (hi : i + 6 ≤ Ln) (hn : n < 512) (hI : Inv n σ τ) (hs : SimI Inv (fX9_fault) (fX10_fault))
    (kk : ∀ σ' τ', Inv (n + 1) σ' τ' → GW K 1046 [some (.ref b), some (.ref (adC 0)), some (.ref (adM 0)), some (.int x3)] [] ci si (WL K adC adM σ' τ')) : GW K 210 [some (.ref b), some (.ref (adC 0)), some (.ref (adM 0)), some (.int x3)] [] ci si (WL K adC adM σ τ) := by
  refine n_aload_n C.1 dL_law_210 rfl (i := 1) rfl ?_
  obtain ⟨r, σ2, τ2, hC, hM, hI2⟩ := hs  n σ τ hn hI
  refine h_callC C hroom (As := []) (rest := []) dL_law_211 (ct_X9_fault hC) cw_X9_fault aw_409 aw_410 aw_411 rfl rfl rfl (Nat.le_of_ble_eq_true rfl) rfl rfl (Nat.le_of_ble_eq_true rfl) (fun v ρ q => ?_)
  obtain ⟨rfl, rfl⟩ := q
  refine n_aload_n C.1 dL_law_214 rfl (i := 2) rfl ?_
  refine h_callM C hroom (As := []) (rest := [.int r]) dL_law_215 (ct_X10_fault hM) cw_X10_fault aw_955 aw_956 aw_957 rfl rfl rfl (Nat.le_of_ble_eq_true rfl) rfl rfl (Nat.le_of_ble_eq_true rfl) (fun v ρ q => ?_)
  obtain ⟨rfl, rfl⟩ := q
  refine h_icmp_eq C.1 (tgt := 1046) dL_law_218 (by decide) rfl ?_
  exact kk _ _ hI2
set_option maxRecDepth 8000 in
theorem law_c3 {K : KT} {Inv : Nat → Sg → Sg → Prop} {adC adM : Nat → Nat} {σ τ : Sg} {b Ln i n ci si : Nat} {xs : Nat → Int32} {x3 : Int32} (C : CL K cL_law RL 4 40 adC adM) (hroom : ci ≤ (kR K).cells ∧ si ≤ (kR K).slots) (hX : va_X b Ln xs (ks K) (ks K).heap) (hbl : b < (ks K).heap.size) (hL31 : Ln ≤ 3072) (hx : x3 = nI i) (hi : i + 6 ≤ Ln) (hn : n < 512) (hI : Inv n σ τ) (hs : SimI Inv (fX9_sea) (fX10_sea))
    (kk : ∀ σ' τ', Inv (n + 1) σ' τ' → GW K 1046 [some (.ref b), some (.ref (adC 0)), some (.ref (adM 0)), some (.int x3)] [] ci si (WL K adC adM σ' τ')) : GW K 223 [some (.ref b), some (.ref (adC 0)), some (.ref (adM 0)), some (.int x3)] [] ci si (WL K adC adM σ τ) := by
  refine n_aload_n C.1 dL_law_223 rfl (i := 1) rfl ?_
  obtain ⟨r, σ2, τ2, hC, hM, hI2⟩ := hs  n σ τ hn hI
  refine h_callC C hroom (As := []) (rest := []) dL_law_224 (ct_X9_sea hC) cw_X9_sea aw_432 aw_433 aw_434 rfl rfl rfl (Nat.le_of_ble_eq_true rfl) rfl rfl (Nat.le_of_ble_eq_true rfl) (fun v ρ q => ?_)
  obtain ⟨rfl, rfl⟩ := q
  refine n_aload_n C.1 dL_law_227 rfl (i := 2) rfl ?_
  refine h_callM C hroom (As := []) (rest := [.int r]) dL_law_228 (ct_X10_sea hM) cw_X10_sea aw_979 aw_980 aw_981 rfl rfl rfl (Nat.le_of_ble_eq_true rfl) rfl rfl (Nat.le_of_ble_eq_true rfl) (fun v ρ q => ?_)
  obtain ⟨rfl, rfl⟩ := q
  refine h_icmp_eq C.1 (tgt := 1046) dL_law_231 (by decide) rfl ?_
  exact kk _ _ hI2
set_option maxRecDepth 8000 in
theorem law_c4 {K : KT} {Inv : Nat → Sg → Sg → Prop} {adC adM : Nat → Nat} {σ τ : Sg} {b Ln i n ci si : Nat} {xs : Nat → Int32} {x3 : Int32} (C : CL K cL_law RL 4 40 adC adM) (hroom : ci ≤ (kR K).cells ∧ si ≤ (kR K).slots) (hX : va_X b Ln xs (ks K) (ks K).heap) (hbl : b < (ks K).heap.size) (hL31 : Ln ≤ 3072) (hx : x3 = nI i) (hi : i + 6 ≤ Ln) (hn : n < 512) (hI : Inv n σ τ) (hs : ∀ (a0 : Int32) (a1 : Int32), SimI Inv (fX9_square a0 a1) (fX10_square a0 a1))
    (kk : ∀ σ' τ', Inv (n + 1) σ' τ' → GW K 1046 [some (.ref b), some (.ref (adC 0)), some (.ref (adM 0)), some (.int x3)] [] ci si (WL K adC adM σ' τ')) : GW K 236 [some (.ref b), some (.ref (adC 0)), some (.ref (adM 0)), some (.int x3)] [] ci si (WL K adC adM σ τ) := by
  refine n_aload_n C.1 dL_law_236 rfl (i := 1) rfl ?_
  refine n_aload_n C.1 dL_law_237 rfl (i := 0) rfl ?_
  refine n_iload_n C.1 dL_law_238 rfl (i := 3) rfl ?_
  refine n_iconst C.1 dL_law_239 (v := (1 : Int32)) (by decide) ?_
  refine h_iadd C.1 dL_law_240 ?_
  refine h_sld C hX hbl (j := i + 1) dL_law_241 (hx1 hx) (by omega) (by omega) ?_
  refine n_aload_n C.1 dL_law_242 rfl (i := 0) rfl ?_
  refine n_iload_n C.1 dL_law_243 rfl (i := 3) rfl ?_
  refine n_iconst C.1 dL_law_244 (v := (2 : Int32)) (by decide) ?_
  refine h_iadd C.1 dL_law_245 ?_
  refine h_sld C hX hbl (j := i + 2) dL_law_246 (hx2 hx) (by omega) (by omega) ?_
  obtain ⟨r, σ2, τ2, hC, hM, hI2⟩ := hs (xs (i + 1)) (xs (i + 2)) n σ τ hn hI
  refine h_callC C hroom (As := [.int (xs (i + 1)), .int (xs (i + 2))]) (rest := []) dL_law_247 (ct_X9_square hC) cw_X9_square aw_479 aw_480 aw_481 rfl rfl rfl (Nat.le_of_ble_eq_true rfl) rfl rfl (Nat.le_of_ble_eq_true rfl) (fun v ρ q => ?_)
  obtain ⟨rfl, rfl⟩ := q
  refine n_aload_n C.1 dL_law_250 rfl (i := 2) rfl ?_
  refine n_aload_n C.1 dL_law_251 rfl (i := 0) rfl ?_
  refine n_iload_n C.1 dL_law_252 rfl (i := 3) rfl ?_
  refine n_iconst C.1 dL_law_253 (v := (1 : Int32)) (by decide) ?_
  refine h_iadd C.1 dL_law_254 ?_
  refine h_sld C hX hbl (j := i + 1) dL_law_255 (hx1 hx) (by omega) (by omega) ?_
  refine n_aload_n C.1 dL_law_256 rfl (i := 0) rfl ?_
  refine n_iload_n C.1 dL_law_257 rfl (i := 3) rfl ?_
  refine n_iconst C.1 dL_law_258 (v := (2 : Int32)) (by decide) ?_
  refine h_iadd C.1 dL_law_259 ?_
  refine h_sld C hX hbl (j := i + 2) dL_law_260 (hx2 hx) (by omega) (by omega) ?_
  refine h_callM C hroom (As := [.int (xs (i + 1)), .int (xs (i + 2))]) (rest := [.int r]) dL_law_261 (ct_X10_square hM) cw_X10_square aw_983 aw_984 aw_985 rfl rfl rfl (Nat.le_of_ble_eq_true rfl) rfl rfl (Nat.le_of_ble_eq_true rfl) (fun v ρ q => ?_)
  obtain ⟨rfl, rfl⟩ := q
  refine h_icmp_eq C.1 (tgt := 1046) dL_law_264 (by decide) rfl ?_
  exact kk _ _ hI2
set_option maxRecDepth 8000 in
theorem law_c5 {K : KT} {Inv : Nat → Sg → Sg → Prop} {adC adM : Nat → Nat} {σ τ : Sg} {b Ln i n ci si : Nat} {xs : Nat → Int32} {x3 : Int32} (C : CL K cL_law RL 4 40 adC adM) (hroom : ci ≤ (kR K).cells ∧ si ≤ (kR K).slots) (hX : va_X b Ln xs (ks K) (ks K).heap) (hbl : b < (ks K).heap.size) (hL31 : Ln ≤ 3072) (hx : x3 = nI i) (hi : i + 6 ≤ Ln) (hn : n < 512) (hI : Inv n σ τ) (hs : ∀ (a0 : Int32) (a1 : Int32) (a2 : Int32) (a3 : Int32) (a4 : Int32), SimI Inv (fX9_berg a0 a1 a2 a3 a4) (fX10_berg a0 a1 a2 a3 a4))
    (kk : ∀ σ' τ', Inv (n + 1) σ' τ' → GW K 1046 [some (.ref b), some (.ref (adC 0)), some (.ref (adM 0)), some (.int x3)] [] ci si (WL K adC adM σ' τ')) : GW K 269 [some (.ref b), some (.ref (adC 0)), some (.ref (adM 0)), some (.int x3)] [] ci si (WL K adC adM σ τ) := by
  refine n_aload_n C.1 dL_law_269 rfl (i := 1) rfl ?_
  refine n_aload_n C.1 dL_law_270 rfl (i := 0) rfl ?_
  refine n_iload_n C.1 dL_law_271 rfl (i := 3) rfl ?_
  refine n_iconst C.1 dL_law_272 (v := (1 : Int32)) (by decide) ?_
  refine h_iadd C.1 dL_law_273 ?_
  refine h_sld C hX hbl (j := i + 1) dL_law_274 (hx1 hx) (by omega) (by omega) ?_
  refine n_aload_n C.1 dL_law_275 rfl (i := 0) rfl ?_
  refine n_iload_n C.1 dL_law_276 rfl (i := 3) rfl ?_
  refine n_iconst C.1 dL_law_277 (v := (2 : Int32)) (by decide) ?_
  refine h_iadd C.1 dL_law_278 ?_
  refine h_sld C hX hbl (j := i + 2) dL_law_279 (hx2 hx) (by omega) (by omega) ?_
  refine n_aload_n C.1 dL_law_280 rfl (i := 0) rfl ?_
  refine n_iload_n C.1 dL_law_281 rfl (i := 3) rfl ?_
  refine n_iconst C.1 dL_law_282 (v := (3 : Int32)) (by decide) ?_
  refine h_iadd C.1 dL_law_283 ?_
  refine h_sld C hX hbl (j := i + 3) dL_law_284 (hx3 hx) (by omega) (by omega) ?_
  refine n_aload_n C.1 dL_law_285 rfl (i := 0) rfl ?_
  refine n_iload_n C.1 dL_law_286 rfl (i := 3) rfl ?_
  refine n_iconst C.1 dL_law_287 (v := (4 : Int32)) (by decide) ?_
  refine h_iadd C.1 dL_law_288 ?_
  refine h_sld C hX hbl (j := i + 4) dL_law_289 (hx4 hx) (by omega) (by omega) ?_
  refine n_aload_n C.1 dL_law_290 rfl (i := 0) rfl ?_
  refine n_iload_n C.1 dL_law_291 rfl (i := 3) rfl ?_
  refine n_iconst C.1 dL_law_292 (v := (5 : Int32)) (by decide) ?_
  refine h_iadd C.1 dL_law_293 ?_
  refine h_sld C hX hbl (j := i + 5) dL_law_294 (hx5 hx) (by omega) (by omega) ?_
  obtain ⟨r, σ2, τ2, hC, hM, hI2⟩ := hs (xs (i + 1)) (xs (i + 2)) (xs (i + 3)) (xs (i + 4)) (xs (i + 5)) n σ τ hn hI
  refine h_callC C hroom (As := [.int (xs (i + 1)), .int (xs (i + 2)), .int (xs (i + 3)), .int (xs (i + 4)), .int (xs (i + 5))]) (rest := []) dL_law_295 (ct_X9_berg hC) cw_X9_berg aw_487 aw_488 aw_489 rfl rfl rfl (Nat.le_of_ble_eq_true rfl) rfl rfl (Nat.le_of_ble_eq_true rfl) (fun v ρ q => ?_)
  obtain ⟨rfl, rfl⟩ := q
  refine n_aload_n C.1 dL_law_298 rfl (i := 2) rfl ?_
  refine n_aload_n C.1 dL_law_299 rfl (i := 0) rfl ?_
  refine n_iload_n C.1 dL_law_300 rfl (i := 3) rfl ?_
  refine n_iconst C.1 dL_law_301 (v := (1 : Int32)) (by decide) ?_
  refine h_iadd C.1 dL_law_302 ?_
  refine h_sld C hX hbl (j := i + 1) dL_law_303 (hx1 hx) (by omega) (by omega) ?_
  refine n_aload_n C.1 dL_law_304 rfl (i := 0) rfl ?_
  refine n_iload_n C.1 dL_law_305 rfl (i := 3) rfl ?_
  refine n_iconst C.1 dL_law_306 (v := (2 : Int32)) (by decide) ?_
  refine h_iadd C.1 dL_law_307 ?_
  refine h_sld C hX hbl (j := i + 2) dL_law_308 (hx2 hx) (by omega) (by omega) ?_
  refine n_aload_n C.1 dL_law_309 rfl (i := 0) rfl ?_
  refine n_iload_n C.1 dL_law_310 rfl (i := 3) rfl ?_
  refine n_iconst C.1 dL_law_311 (v := (3 : Int32)) (by decide) ?_
  refine h_iadd C.1 dL_law_312 ?_
  refine h_sld C hX hbl (j := i + 3) dL_law_313 (hx3 hx) (by omega) (by omega) ?_
  refine n_aload_n C.1 dL_law_314 rfl (i := 0) rfl ?_
  refine n_iload_n C.1 dL_law_315 rfl (i := 3) rfl ?_
  refine n_iconst C.1 dL_law_316 (v := (4 : Int32)) (by decide) ?_
  refine h_iadd C.1 dL_law_317 ?_
  refine h_sld C hX hbl (j := i + 4) dL_law_318 (hx4 hx) (by omega) (by omega) ?_
  refine n_aload_n C.1 dL_law_319 rfl (i := 0) rfl ?_
  refine n_iload_n C.1 dL_law_320 rfl (i := 3) rfl ?_
  refine n_iconst C.1 dL_law_321 (v := (5 : Int32)) (by decide) ?_
  refine h_iadd C.1 dL_law_322 ?_
  refine h_sld C hX hbl (j := i + 5) dL_law_323 (hx5 hx) (by omega) (by omega) ?_
  refine h_callM C hroom (As := [.int (xs (i + 1)), .int (xs (i + 2)), .int (xs (i + 3)), .int (xs (i + 4)), .int (xs (i + 5))]) (rest := [.int r]) dL_law_324 (ct_X10_berg hM) cw_X10_berg aw_1002 aw_1003 aw_1004 rfl rfl rfl (Nat.le_of_ble_eq_true rfl) rfl rfl (Nat.le_of_ble_eq_true rfl) (fun v ρ q => ?_)
  obtain ⟨rfl, rfl⟩ := q
  refine h_icmp_eq C.1 (tgt := 1046) dL_law_327 (by decide) rfl ?_
  exact kk _ _ hI2
set_option maxRecDepth 8000 in
theorem law_c6 {K : KT} {Inv : Nat → Sg → Sg → Prop} {adC adM : Nat → Nat} {σ τ : Sg} {b Ln i n ci si : Nat} {xs : Nat → Int32} {x3 : Int32} (C : CL K cL_law RL 4 40 adC adM) (hroom : ci ≤ (kR K).cells ∧ si ≤ (kR K).slots) (hX : va_X b Ln xs (ks K) (ks K).heap) (hbl : b < (ks K).heap.size) (hL31 : Ln ≤ 3072) (hx : x3 = nI i) (hi : i + 6 ≤ Ln) (hn : n < 512) (hI : Inv n σ τ) (hs : ∀ (a0 : Int32) (a1 : Int32), SimI Inv (fX9_as a0 a1) (fX10_as a0 a1))
    (kk : ∀ σ' τ', Inv (n + 1) σ' τ' → GW K 1046 [some (.ref b), some (.ref (adC 0)), some (.ref (adM 0)), some (.int x3)] [] ci si (WL K adC adM σ' τ')) : GW K 332 [some (.ref b), some (.ref (adC 0)), some (.ref (adM 0)), some (.int x3)] [] ci si (WL K adC adM σ τ) := by
  refine n_aload_n C.1 dL_law_332 rfl (i := 1) rfl ?_
  refine n_aload_n C.1 dL_law_333 rfl (i := 0) rfl ?_
  refine n_iload_n C.1 dL_law_334 rfl (i := 3) rfl ?_
  refine n_iconst C.1 dL_law_335 (v := (1 : Int32)) (by decide) ?_
  refine h_iadd C.1 dL_law_336 ?_
  refine h_sld C hX hbl (j := i + 1) dL_law_337 (hx1 hx) (by omega) (by omega) ?_
  refine n_aload_n C.1 dL_law_338 rfl (i := 0) rfl ?_
  refine n_iload_n C.1 dL_law_339 rfl (i := 3) rfl ?_
  refine n_iconst C.1 dL_law_340 (v := (2 : Int32)) (by decide) ?_
  refine h_iadd C.1 dL_law_341 ?_
  refine h_sld C hX hbl (j := i + 2) dL_law_342 (hx2 hx) (by omega) (by omega) ?_
  obtain ⟨r, σ2, τ2, hC, hM, hI2⟩ := hs (xs (i + 1)) (xs (i + 2)) n σ τ hn hI
  refine h_callC C hroom (As := [.int (xs (i + 1)), .int (xs (i + 2))]) (rest := []) dL_law_343 (ct_X9_as hC) cw_X9_as aw_516 aw_517 aw_518 rfl rfl rfl (Nat.le_of_ble_eq_true rfl) rfl rfl (Nat.le_of_ble_eq_true rfl) (fun v ρ q => ?_)
  obtain ⟨rfl, rfl⟩ := q
  refine n_aload_n C.1 dL_law_346 rfl (i := 2) rfl ?_
  refine n_aload_n C.1 dL_law_347 rfl (i := 0) rfl ?_
  refine n_iload_n C.1 dL_law_348 rfl (i := 3) rfl ?_
  refine n_iconst C.1 dL_law_349 (v := (1 : Int32)) (by decide) ?_
  refine h_iadd C.1 dL_law_350 ?_
  refine h_sld C hX hbl (j := i + 1) dL_law_351 (hx1 hx) (by omega) (by omega) ?_
  refine n_aload_n C.1 dL_law_352 rfl (i := 0) rfl ?_
  refine n_iload_n C.1 dL_law_353 rfl (i := 3) rfl ?_
  refine n_iconst C.1 dL_law_354 (v := (2 : Int32)) (by decide) ?_
  refine h_iadd C.1 dL_law_355 ?_
  refine h_sld C hX hbl (j := i + 2) dL_law_356 (hx2 hx) (by omega) (by omega) ?_
  refine h_callM C hroom (As := [.int (xs (i + 1)), .int (xs (i + 2))]) (rest := [.int r]) dL_law_357 (ct_X10_as hM) cw_X10_as aw_1012 aw_1013 aw_1014 rfl rfl rfl (Nat.le_of_ble_eq_true rfl) rfl rfl (Nat.le_of_ble_eq_true rfl) (fun v ρ q => ?_)
  obtain ⟨rfl, rfl⟩ := q
  refine h_icmp_eq C.1 (tgt := 1046) dL_law_360 (by decide) rfl ?_
  exact kk _ _ hI2
set_option maxRecDepth 8000 in
theorem law_c7 {K : KT} {Inv : Nat → Sg → Sg → Prop} {adC adM : Nat → Nat} {σ τ : Sg} {b Ln i n ci si : Nat} {xs : Nat → Int32} {x3 : Int32} (C : CL K cL_law RL 4 40 adC adM) (hroom : ci ≤ (kR K).cells ∧ si ≤ (kR K).slots) (hX : va_X b Ln xs (ks K) (ks K).heap) (hbl : b < (ks K).heap.size) (hL31 : Ln ≤ 3072) (hx : x3 = nI i) (hi : i + 6 ≤ Ln) (hn : n < 512) (hI : Inv n σ τ) (hs : ∀ (a0 : Int32) (a1 : Int32), SimI Inv (fX9_about a0 a1) (fX10_about a0 a1))
    (kk : ∀ σ' τ', Inv (n + 1) σ' τ' → GW K 1046 [some (.ref b), some (.ref (adC 0)), some (.ref (adM 0)), some (.int x3)] [] ci si (WL K adC adM σ' τ')) : GW K 365 [some (.ref b), some (.ref (adC 0)), some (.ref (adM 0)), some (.int x3)] [] ci si (WL K adC adM σ τ) := by
  refine n_aload_n C.1 dL_law_365 rfl (i := 1) rfl ?_
  refine n_aload_n C.1 dL_law_366 rfl (i := 0) rfl ?_
  refine n_iload_n C.1 dL_law_367 rfl (i := 3) rfl ?_
  refine n_iconst C.1 dL_law_368 (v := (1 : Int32)) (by decide) ?_
  refine h_iadd C.1 dL_law_369 ?_
  refine h_sld C hX hbl (j := i + 1) dL_law_370 (hx1 hx) (by omega) (by omega) ?_
  refine n_aload_n C.1 dL_law_371 rfl (i := 0) rfl ?_
  refine n_iload_n C.1 dL_law_372 rfl (i := 3) rfl ?_
  refine n_iconst C.1 dL_law_373 (v := (2 : Int32)) (by decide) ?_
  refine h_iadd C.1 dL_law_374 ?_
  refine h_sld C hX hbl (j := i + 2) dL_law_375 (hx2 hx) (by omega) (by omega) ?_
  obtain ⟨r, σ2, τ2, hC, hM, hI2⟩ := hs (xs (i + 1)) (xs (i + 2)) n σ τ hn hI
  refine h_callC C hroom (As := [.int (xs (i + 1)), .int (xs (i + 2))]) (rest := []) dL_law_376 (ct_X9_about hC) cw_X9_about aw_528 aw_529 aw_530 rfl rfl rfl (Nat.le_of_ble_eq_true rfl) rfl rfl (Nat.le_of_ble_eq_true rfl) (fun v ρ q => ?_)
  obtain ⟨rfl, rfl⟩ := q
  refine n_aload_n C.1 dL_law_379 rfl (i := 2) rfl ?_
  refine n_aload_n C.1 dL_law_380 rfl (i := 0) rfl ?_
  refine n_iload_n C.1 dL_law_381 rfl (i := 3) rfl ?_
  refine n_iconst C.1 dL_law_382 (v := (1 : Int32)) (by decide) ?_
  refine h_iadd C.1 dL_law_383 ?_
  refine h_sld C hX hbl (j := i + 1) dL_law_384 (hx1 hx) (by omega) (by omega) ?_
  refine n_aload_n C.1 dL_law_385 rfl (i := 0) rfl ?_
  refine n_iload_n C.1 dL_law_386 rfl (i := 3) rfl ?_
  refine n_iconst C.1 dL_law_387 (v := (2 : Int32)) (by decide) ?_
  refine h_iadd C.1 dL_law_388 ?_
  refine h_sld C hX hbl (j := i + 2) dL_law_389 (hx2 hx) (by omega) (by omega) ?_
  refine h_callM C hroom (As := [.int (xs (i + 1)), .int (xs (i + 2))]) (rest := [.int r]) dL_law_390 (ct_X10_about hM) cw_X10_about aw_1020 aw_1021 aw_1022 rfl rfl rfl (Nat.le_of_ble_eq_true rfl) rfl rfl (Nat.le_of_ble_eq_true rfl) (fun v ρ q => ?_)
  obtain ⟨rfl, rfl⟩ := q
  refine h_icmp_eq C.1 (tgt := 1046) dL_law_393 (by decide) rfl ?_
  exact kk _ _ hI2
set_option maxRecDepth 8000 in
theorem law_c8 {K : KT} {Inv : Nat → Sg → Sg → Prop} {adC adM : Nat → Nat} {σ τ : Sg} {b Ln i n ci si : Nat} {xs : Nat → Int32} {x3 : Int32} (C : CL K cL_law RL 4 40 adC adM) (hroom : ci ≤ (kR K).cells ∧ si ≤ (kR K).slots) (hX : va_X b Ln xs (ks K) (ks K).heap) (hbl : b < (ks K).heap.size) (hL31 : Ln ≤ 3072) (hx : x3 = nI i) (hi : i + 6 ≤ Ln) (hn : n < 512) (hI : Inv n σ τ) (hs : ∀ (a0 : Int32) (a1 : Int32) (a2 : Int32), SimI Inv (fX9_change a0 a1 a2) (fX10_change a0 a1 a2))
    (kk : ∀ σ' τ', Inv (n + 1) σ' τ' → GW K 1046 [some (.ref b), some (.ref (adC 0)), some (.ref (adM 0)), some (.int x3)] [] ci si (WL K adC adM σ' τ')) : GW K 398 [some (.ref b), some (.ref (adC 0)), some (.ref (adM 0)), some (.int x3)] [] ci si (WL K adC adM σ τ) := by
  refine n_aload_n C.1 dL_law_398 rfl (i := 1) rfl ?_
  refine n_aload_n C.1 dL_law_399 rfl (i := 0) rfl ?_
  refine n_iload_n C.1 dL_law_400 rfl (i := 3) rfl ?_
  refine n_iconst C.1 dL_law_401 (v := (1 : Int32)) (by decide) ?_
  refine h_iadd C.1 dL_law_402 ?_
  refine h_sld C hX hbl (j := i + 1) dL_law_403 (hx1 hx) (by omega) (by omega) ?_
  refine n_aload_n C.1 dL_law_404 rfl (i := 0) rfl ?_
  refine n_iload_n C.1 dL_law_405 rfl (i := 3) rfl ?_
  refine n_iconst C.1 dL_law_406 (v := (2 : Int32)) (by decide) ?_
  refine h_iadd C.1 dL_law_407 ?_
  refine h_sld C hX hbl (j := i + 2) dL_law_408 (hx2 hx) (by omega) (by omega) ?_
  refine n_aload_n C.1 dL_law_409 rfl (i := 0) rfl ?_
  refine n_iload_n C.1 dL_law_410 rfl (i := 3) rfl ?_
  refine n_iconst C.1 dL_law_411 (v := (3 : Int32)) (by decide) ?_
  refine h_iadd C.1 dL_law_412 ?_
  refine h_sld C hX hbl (j := i + 3) dL_law_413 (hx3 hx) (by omega) (by omega) ?_
  obtain ⟨r, σ2, τ2, hC, hM, hI2⟩ := hs (xs (i + 1)) (xs (i + 2)) (xs (i + 3)) n σ τ hn hI
  refine h_callC C hroom (As := [.int (xs (i + 1)), .int (xs (i + 2)), .int (xs (i + 3))]) (rest := []) dL_law_414 (ct_X9_change hC) cw_X9_change aw_532 aw_533 aw_534 rfl rfl rfl (Nat.le_of_ble_eq_true rfl) rfl rfl (Nat.le_of_ble_eq_true rfl) (fun v ρ q => ?_)
  obtain ⟨rfl, rfl⟩ := q
  refine n_aload_n C.1 dL_law_417 rfl (i := 2) rfl ?_
  refine n_aload_n C.1 dL_law_418 rfl (i := 0) rfl ?_
  refine n_iload_n C.1 dL_law_419 rfl (i := 3) rfl ?_
  refine n_iconst C.1 dL_law_420 (v := (1 : Int32)) (by decide) ?_
  refine h_iadd C.1 dL_law_421 ?_
  refine h_sld C hX hbl (j := i + 1) dL_law_422 (hx1 hx) (by omega) (by omega) ?_
  refine n_aload_n C.1 dL_law_423 rfl (i := 0) rfl ?_
  refine n_iload_n C.1 dL_law_424 rfl (i := 3) rfl ?_
  refine n_iconst C.1 dL_law_425 (v := (2 : Int32)) (by decide) ?_
  refine h_iadd C.1 dL_law_426 ?_
  refine h_sld C hX hbl (j := i + 2) dL_law_427 (hx2 hx) (by omega) (by omega) ?_
  refine n_aload_n C.1 dL_law_428 rfl (i := 0) rfl ?_
  refine n_iload_n C.1 dL_law_429 rfl (i := 3) rfl ?_
  refine n_iconst C.1 dL_law_430 (v := (3 : Int32)) (by decide) ?_
  refine h_iadd C.1 dL_law_431 ?_
  refine h_sld C hX hbl (j := i + 3) dL_law_432 (hx3 hx) (by omega) (by omega) ?_
  refine h_callM C hroom (As := [.int (xs (i + 1)), .int (xs (i + 2)), .int (xs (i + 3))]) (rest := [.int r]) dL_law_433 (ct_X10_change hM) cw_X10_change aw_1024 aw_1025 aw_1026 rfl rfl rfl (Nat.le_of_ble_eq_true rfl) rfl rfl (Nat.le_of_ble_eq_true rfl) (fun v ρ q => ?_)
  obtain ⟨rfl, rfl⟩ := q
  refine h_icmp_eq C.1 (tgt := 1046) dL_law_436 (by decide) rfl ?_
  exact kk _ _ hI2
set_option maxRecDepth 8000 in
theorem law_c9 {K : KT} {Inv : Nat → Sg → Sg → Prop} {adC adM : Nat → Nat} {σ τ : Sg} {b Ln i n ci si : Nat} {xs : Nat → Int32} {x3 : Int32} (C : CL K cL_law RL 4 40 adC adM) (hroom : ci ≤ (kR K).cells ∧ si ≤ (kR K).slots) (hX : va_X b Ln xs (ks K) (ks K).heap) (hbl : b < (ks K).heap.size) (hL31 : Ln ≤ 3072) (hx : x3 = nI i) (hi : i + 6 ≤ Ln) (hn : n < 512) (hI : Inv n σ τ) (hs : ∀ (a0 : Int32) (a1 : Int32), SimI Inv (fX9_coin a0 a1) (fX10_coin a0 a1))
    (kk : ∀ σ' τ', Inv (n + 1) σ' τ' → GW K 1046 [some (.ref b), some (.ref (adC 0)), some (.ref (adM 0)), some (.int x3)] [] ci si (WL K adC adM σ' τ')) : GW K 441 [some (.ref b), some (.ref (adC 0)), some (.ref (adM 0)), some (.int x3)] [] ci si (WL K adC adM σ τ) := by
  refine n_aload_n C.1 dL_law_441 rfl (i := 1) rfl ?_
  refine n_aload_n C.1 dL_law_442 rfl (i := 0) rfl ?_
  refine n_iload_n C.1 dL_law_443 rfl (i := 3) rfl ?_
  refine n_iconst C.1 dL_law_444 (v := (1 : Int32)) (by decide) ?_
  refine h_iadd C.1 dL_law_445 ?_
  refine h_sld C hX hbl (j := i + 1) dL_law_446 (hx1 hx) (by omega) (by omega) ?_
  refine n_aload_n C.1 dL_law_447 rfl (i := 0) rfl ?_
  refine n_iload_n C.1 dL_law_448 rfl (i := 3) rfl ?_
  refine n_iconst C.1 dL_law_449 (v := (2 : Int32)) (by decide) ?_
  refine h_iadd C.1 dL_law_450 ?_
  refine h_sld C hX hbl (j := i + 2) dL_law_451 (hx2 hx) (by omega) (by omega) ?_
  obtain ⟨r, σ2, τ2, hC, hM, hI2⟩ := hs (xs (i + 1)) (xs (i + 2)) n σ τ hn hI
  refine h_callC C hroom (As := [.int (xs (i + 1)), .int (xs (i + 2))]) (rest := []) dL_law_452 (ct_X9_coin hC) cw_X9_coin aw_536 aw_537 aw_538 rfl rfl rfl (Nat.le_of_ble_eq_true rfl) rfl rfl (Nat.le_of_ble_eq_true rfl) (fun v ρ q => ?_)
  obtain ⟨rfl, rfl⟩ := q
  refine n_aload_n C.1 dL_law_455 rfl (i := 2) rfl ?_
  refine n_aload_n C.1 dL_law_456 rfl (i := 0) rfl ?_
  refine n_iload_n C.1 dL_law_457 rfl (i := 3) rfl ?_
  refine n_iconst C.1 dL_law_458 (v := (1 : Int32)) (by decide) ?_
  refine h_iadd C.1 dL_law_459 ?_
  refine h_sld C hX hbl (j := i + 1) dL_law_460 (hx1 hx) (by omega) (by omega) ?_
  refine n_aload_n C.1 dL_law_461 rfl (i := 0) rfl ?_
  refine n_iload_n C.1 dL_law_462 rfl (i := 3) rfl ?_
  refine n_iconst C.1 dL_law_463 (v := (2 : Int32)) (by decide) ?_
  refine h_iadd C.1 dL_law_464 ?_
  refine h_sld C hX hbl (j := i + 2) dL_law_465 (hx2 hx) (by omega) (by omega) ?_
  refine h_callM C hroom (As := [.int (xs (i + 1)), .int (xs (i + 2))]) (rest := [.int r]) dL_law_466 (ct_X10_coin hM) cw_X10_coin aw_1029 aw_1030 aw_1031 rfl rfl rfl (Nat.le_of_ble_eq_true rfl) rfl rfl (Nat.le_of_ble_eq_true rfl) (fun v ρ q => ?_)
  obtain ⟨rfl, rfl⟩ := q
  refine h_icmp_eq C.1 (tgt := 1046) dL_law_469 (by decide) rfl ?_
  exact kk _ _ hI2
set_option maxRecDepth 8000 in
theorem law_c10 {K : KT} {Inv : Nat → Sg → Sg → Prop} {adC adM : Nat → Nat} {σ τ : Sg} {b Ln i n ci si : Nat} {xs : Nat → Int32} {x3 : Int32} (C : CL K cL_law RL 4 40 adC adM) (hroom : ci ≤ (kR K).cells ∧ si ≤ (kR K).slots) (hX : va_X b Ln xs (ks K) (ks K).heap) (hbl : b < (ks K).heap.size) (hL31 : Ln ≤ 3072) (hx : x3 = nI i) (hi : i + 6 ≤ Ln) (hn : n < 512) (hI : Inv n σ τ) (hs : ∀ (a0 : Int32) (a1 : Int32) (a2 : Int32) (a3 : Int32), isB a2 = true → SimI Inv (fX9_tow a0 a1 a2 a3) (fX10_tow a0 a1 a2 a3))
    (kk : ∀ σ' τ', Inv (n + 1) σ' τ' → GW K 1046 [some (.ref b), some (.ref (adC 0)), some (.ref (adM 0)), some (.int x3)] [] ci si (WL K adC adM σ' τ')) : GW K 474 [some (.ref b), some (.ref (adC 0)), some (.ref (adM 0)), some (.int x3)] [] ci si (WL K adC adM σ τ) := by
  refine n_aload_n C.1 dL_law_474 rfl (i := 1) rfl ?_
  refine n_aload_n C.1 dL_law_475 rfl (i := 0) rfl ?_
  refine n_iload_n C.1 dL_law_476 rfl (i := 3) rfl ?_
  refine n_iconst C.1 dL_law_477 (v := (1 : Int32)) (by decide) ?_
  refine h_iadd C.1 dL_law_478 ?_
  refine h_sld C hX hbl (j := i + 1) dL_law_479 (hx1 hx) (by omega) (by omega) ?_
  refine n_aload_n C.1 dL_law_480 rfl (i := 0) rfl ?_
  refine n_iload_n C.1 dL_law_481 rfl (i := 3) rfl ?_
  refine n_iconst C.1 dL_law_482 (v := (2 : Int32)) (by decide) ?_
  refine h_iadd C.1 dL_law_483 ?_
  refine h_sld C hX hbl (j := i + 2) dL_law_484 (hx2 hx) (by omega) (by omega) ?_
  refine n_aload_n C.1 dL_law_485 rfl (i := 0) rfl ?_
  refine n_iload_n C.1 dL_law_486 rfl (i := 3) rfl ?_
  refine n_iconst C.1 dL_law_487 (v := (3 : Int32)) (by decide) ?_
  refine h_iadd C.1 dL_law_488 ?_
  refine h_sld C hX hbl (j := i + 3) dL_law_489 (hx3 hx) (by omega) (by omega) ?_
  refine h_if_eq C.1 (tgt := 497) dL_law_490 (by decide) (fun c3 => ?_) (fun c3 => ?_)
  · have eb : bZ (xs (i + 3)) = 0 := if_pos c3
    refine n_iconst C.1 dL_law_497 (v := (0 : Int32)) (by decide) ?_
    refine n_aload_n C.1 dL_law_498 rfl (i := 0) rfl ?_
    refine n_iload_n C.1 dL_law_499 rfl (i := 3) rfl ?_
    refine n_iconst C.1 dL_law_500 (v := (4 : Int32)) (by decide) ?_
    refine h_iadd C.1 dL_law_501 ?_
    refine h_sld C hX hbl (j := i + 4) dL_law_502 (hx4 hx) (by omega) (by omega) ?_
    obtain ⟨r, σ2, τ2, hC, hM, hI2⟩ := hs (xs (i + 1)) (xs (i + 2)) (bZ (xs (i + 3))) (xs (i + 4)) (bZ_B _) n σ τ hn hI
    rw [eb] at hC hM
    refine h_callC C hroom (As := [.int (xs (i + 1)), .int (xs (i + 2)), .int (0 : Int32), .int (xs (i + 4))]) (rest := []) dL_law_503 (ct_X9_tow hC) cw_X9_tow aw_556 aw_557 aw_558 rfl rfl rfl (Nat.le_of_ble_eq_true rfl) rfl rfl (Nat.le_of_ble_eq_true rfl) (fun v ρ q => ?_)
    obtain ⟨rfl, rfl⟩ := q
    refine n_aload_n C.1 dL_law_506 rfl (i := 2) rfl ?_
    refine n_aload_n C.1 dL_law_507 rfl (i := 0) rfl ?_
    refine n_iload_n C.1 dL_law_508 rfl (i := 3) rfl ?_
    refine n_iconst C.1 dL_law_509 (v := (1 : Int32)) (by decide) ?_
    refine h_iadd C.1 dL_law_510 ?_
    refine h_sld C hX hbl (j := i + 1) dL_law_511 (hx1 hx) (by omega) (by omega) ?_
    refine n_aload_n C.1 dL_law_512 rfl (i := 0) rfl ?_
    refine n_iload_n C.1 dL_law_513 rfl (i := 3) rfl ?_
    refine n_iconst C.1 dL_law_514 (v := (2 : Int32)) (by decide) ?_
    refine h_iadd C.1 dL_law_515 ?_
    refine h_sld C hX hbl (j := i + 2) dL_law_516 (hx2 hx) (by omega) (by omega) ?_
    refine n_aload_n C.1 dL_law_517 rfl (i := 0) rfl ?_
    refine n_iload_n C.1 dL_law_518 rfl (i := 3) rfl ?_
    refine n_iconst C.1 dL_law_519 (v := (3 : Int32)) (by decide) ?_
    refine h_iadd C.1 dL_law_520 ?_
    refine h_sld C hX hbl (j := i + 3) dL_law_521 (hx3 hx) (by omega) (by omega) ?_
    refine h_if_eq C.1 (tgt := 529) dL_law_522 (by decide) (fun _ => ?_) (fun q => absurd c3 q)
    refine n_iconst C.1 dL_law_529 (v := (0 : Int32)) (by decide) ?_
    refine n_aload_n C.1 dL_law_530 rfl (i := 0) rfl ?_
    refine n_iload_n C.1 dL_law_531 rfl (i := 3) rfl ?_
    refine n_iconst C.1 dL_law_532 (v := (4 : Int32)) (by decide) ?_
    refine h_iadd C.1 dL_law_533 ?_
    refine h_sld C hX hbl (j := i + 4) dL_law_534 (hx4 hx) (by omega) (by omega) ?_
    refine h_callM C hroom (As := [.int (xs (i + 1)), .int (xs (i + 2)), .int (0 : Int32), .int (xs (i + 4))]) (rest := [.int r]) dL_law_535 (ct_X10_tow hM) cw_X10_tow aw_1033 aw_1034 aw_1035 rfl rfl rfl (Nat.le_of_ble_eq_true rfl) rfl rfl (Nat.le_of_ble_eq_true rfl) (fun v ρ q => ?_)
    obtain ⟨rfl, rfl⟩ := q
    refine h_icmp_eq C.1 (tgt := 1046) dL_law_538 (by decide) rfl ?_
    exact kk _ _ hI2
  · have eb : bZ (xs (i + 3)) = 1 := if_neg c3
    refine n_iconst C.1 dL_law_493 (v := (1 : Int32)) (by decide) ?_
    refine n_goto C.1 (tgt := 498) dL_law_494 (by decide) ?_
    refine n_aload_n C.1 dL_law_498 rfl (i := 0) rfl ?_
    refine n_iload_n C.1 dL_law_499 rfl (i := 3) rfl ?_
    refine n_iconst C.1 dL_law_500 (v := (4 : Int32)) (by decide) ?_
    refine h_iadd C.1 dL_law_501 ?_
    refine h_sld C hX hbl (j := i + 4) dL_law_502 (hx4 hx) (by omega) (by omega) ?_
    obtain ⟨r, σ2, τ2, hC, hM, hI2⟩ := hs (xs (i + 1)) (xs (i + 2)) (bZ (xs (i + 3))) (xs (i + 4)) (bZ_B _) n σ τ hn hI
    rw [eb] at hC hM
    refine h_callC C hroom (As := [.int (xs (i + 1)), .int (xs (i + 2)), .int (1 : Int32), .int (xs (i + 4))]) (rest := []) dL_law_503 (ct_X9_tow hC) cw_X9_tow aw_556 aw_557 aw_558 rfl rfl rfl (Nat.le_of_ble_eq_true rfl) rfl rfl (Nat.le_of_ble_eq_true rfl) (fun v ρ q => ?_)
    obtain ⟨rfl, rfl⟩ := q
    refine n_aload_n C.1 dL_law_506 rfl (i := 2) rfl ?_
    refine n_aload_n C.1 dL_law_507 rfl (i := 0) rfl ?_
    refine n_iload_n C.1 dL_law_508 rfl (i := 3) rfl ?_
    refine n_iconst C.1 dL_law_509 (v := (1 : Int32)) (by decide) ?_
    refine h_iadd C.1 dL_law_510 ?_
    refine h_sld C hX hbl (j := i + 1) dL_law_511 (hx1 hx) (by omega) (by omega) ?_
    refine n_aload_n C.1 dL_law_512 rfl (i := 0) rfl ?_
    refine n_iload_n C.1 dL_law_513 rfl (i := 3) rfl ?_
    refine n_iconst C.1 dL_law_514 (v := (2 : Int32)) (by decide) ?_
    refine h_iadd C.1 dL_law_515 ?_
    refine h_sld C hX hbl (j := i + 2) dL_law_516 (hx2 hx) (by omega) (by omega) ?_
    refine n_aload_n C.1 dL_law_517 rfl (i := 0) rfl ?_
    refine n_iload_n C.1 dL_law_518 rfl (i := 3) rfl ?_
    refine n_iconst C.1 dL_law_519 (v := (3 : Int32)) (by decide) ?_
    refine h_iadd C.1 dL_law_520 ?_
    refine h_sld C hX hbl (j := i + 3) dL_law_521 (hx3 hx) (by omega) (by omega) ?_
    refine h_if_eq C.1 (tgt := 529) dL_law_522 (by decide) (fun q => absurd q c3) (fun _ => ?_)
    refine n_iconst C.1 dL_law_525 (v := (1 : Int32)) (by decide) ?_
    refine n_goto C.1 (tgt := 530) dL_law_526 (by decide) ?_
    refine n_aload_n C.1 dL_law_530 rfl (i := 0) rfl ?_
    refine n_iload_n C.1 dL_law_531 rfl (i := 3) rfl ?_
    refine n_iconst C.1 dL_law_532 (v := (4 : Int32)) (by decide) ?_
    refine h_iadd C.1 dL_law_533 ?_
    refine h_sld C hX hbl (j := i + 4) dL_law_534 (hx4 hx) (by omega) (by omega) ?_
    refine h_callM C hroom (As := [.int (xs (i + 1)), .int (xs (i + 2)), .int (1 : Int32), .int (xs (i + 4))]) (rest := [.int r]) dL_law_535 (ct_X10_tow hM) cw_X10_tow aw_1033 aw_1034 aw_1035 rfl rfl rfl (Nat.le_of_ble_eq_true rfl) rfl rfl (Nat.le_of_ble_eq_true rfl) (fun v ρ q => ?_)
    obtain ⟨rfl, rfl⟩ := q
    refine h_icmp_eq C.1 (tgt := 1046) dL_law_538 (by decide) rfl ?_
    exact kk _ _ hI2
set_option maxRecDepth 8000 in
theorem law_c11 {K : KT} {Inv : Nat → Sg → Sg → Prop} {adC adM : Nat → Nat} {σ τ : Sg} {b Ln i n ci si : Nat} {xs : Nat → Int32} {x3 : Int32} (C : CL K cL_law RL 4 40 adC adM) (hroom : ci ≤ (kR K).cells ∧ si ≤ (kR K).slots) (hX : va_X b Ln xs (ks K) (ks K).heap) (hbl : b < (ks K).heap.size) (hL31 : Ln ≤ 3072) (hx : x3 = nI i) (hi : i + 6 ≤ Ln) (hn : n < 512) (hI : Inv n σ τ) (hs : ∀ (a0 : Int32), SimI Inv (fX9_ways a0) (fX10_ways a0))
    (kk : ∀ σ' τ', Inv (n + 1) σ' τ' → GW K 1046 [some (.ref b), some (.ref (adC 0)), some (.ref (adM 0)), some (.int x3)] [] ci si (WL K adC adM σ' τ')) : GW K 543 [some (.ref b), some (.ref (adC 0)), some (.ref (adM 0)), some (.int x3)] [] ci si (WL K adC adM σ τ) := by
  refine n_aload_n C.1 dL_law_543 rfl (i := 1) rfl ?_
  refine n_aload_n C.1 dL_law_544 rfl (i := 0) rfl ?_
  refine n_iload_n C.1 dL_law_545 rfl (i := 3) rfl ?_
  refine n_iconst C.1 dL_law_546 (v := (1 : Int32)) (by decide) ?_
  refine h_iadd C.1 dL_law_547 ?_
  refine h_sld C hX hbl (j := i + 1) dL_law_548 (hx1 hx) (by omega) (by omega) ?_
  obtain ⟨r, σ2, τ2, hC, hM, hI2⟩ := hs (xs (i + 1)) n σ τ hn hI
  refine h_callC C hroom (As := [.int (xs (i + 1))]) (rest := []) dL_law_549 (ct_X9_ways hC) cw_X9_ways aw_622 aw_623 aw_624 rfl rfl rfl (Nat.le_of_ble_eq_true rfl) rfl rfl (Nat.le_of_ble_eq_true rfl) (fun v ρ q => ?_)
  obtain ⟨rfl, rfl⟩ := q
  refine n_aload_n C.1 dL_law_552 rfl (i := 2) rfl ?_
  refine n_aload_n C.1 dL_law_553 rfl (i := 0) rfl ?_
  refine n_iload_n C.1 dL_law_554 rfl (i := 3) rfl ?_
  refine n_iconst C.1 dL_law_555 (v := (1 : Int32)) (by decide) ?_
  refine h_iadd C.1 dL_law_556 ?_
  refine h_sld C hX hbl (j := i + 1) dL_law_557 (hx1 hx) (by omega) (by omega) ?_
  refine h_callM C hroom (As := [.int (xs (i + 1))]) (rest := [.int r]) dL_law_558 (ct_X10_ways hM) cw_X10_ways aw_1089 aw_1090 aw_1091 rfl rfl rfl (Nat.le_of_ble_eq_true rfl) rfl rfl (Nat.le_of_ble_eq_true rfl) (fun v ρ q => ?_)
  obtain ⟨rfl, rfl⟩ := q
  refine h_icmp_eq C.1 (tgt := 1046) dL_law_561 (by decide) rfl ?_
  exact kk _ _ hI2
set_option maxRecDepth 8000 in
theorem law_c12 {K : KT} {Inv : Nat → Sg → Sg → Prop} {adC adM : Nat → Nat} {σ τ : Sg} {b Ln i n ci si : Nat} {xs : Nat → Int32} {x3 : Int32} (C : CL K cL_law RL 4 40 adC adM) (hroom : ci ≤ (kR K).cells ∧ si ≤ (kR K).slots) (hX : va_X b Ln xs (ks K) (ks K).heap) (hbl : b < (ks K).heap.size) (hL31 : Ln ≤ 3072) (hx : x3 = nI i) (hi : i + 6 ≤ Ln) (hn : n < 512) (hI : Inv n σ τ) (hs : ∀ (a0 : Int32) (a1 : Int32), SimI Inv (fX9_best a0 a1) (fX10_best a0 a1))
    (kk : ∀ σ' τ', Inv (n + 1) σ' τ' → GW K 1046 [some (.ref b), some (.ref (adC 0)), some (.ref (adM 0)), some (.int x3)] [] ci si (WL K adC adM σ' τ')) : GW K 566 [some (.ref b), some (.ref (adC 0)), some (.ref (adM 0)), some (.int x3)] [] ci si (WL K adC adM σ τ) := by
  refine n_aload_n C.1 dL_law_566 rfl (i := 1) rfl ?_
  refine n_aload_n C.1 dL_law_567 rfl (i := 0) rfl ?_
  refine n_iload_n C.1 dL_law_568 rfl (i := 3) rfl ?_
  refine n_iconst C.1 dL_law_569 (v := (1 : Int32)) (by decide) ?_
  refine h_iadd C.1 dL_law_570 ?_
  refine h_sld C hX hbl (j := i + 1) dL_law_571 (hx1 hx) (by omega) (by omega) ?_
  refine n_aload_n C.1 dL_law_572 rfl (i := 0) rfl ?_
  refine n_iload_n C.1 dL_law_573 rfl (i := 3) rfl ?_
  refine n_iconst C.1 dL_law_574 (v := (2 : Int32)) (by decide) ?_
  refine h_iadd C.1 dL_law_575 ?_
  refine h_sld C hX hbl (j := i + 2) dL_law_576 (hx2 hx) (by omega) (by omega) ?_
  obtain ⟨r, σ2, τ2, hC, hM, hI2⟩ := hs (xs (i + 1)) (xs (i + 2)) n σ τ hn hI
  refine h_callC C hroom (As := [.int (xs (i + 1)), .int (xs (i + 2))]) (rest := []) dL_law_577 (ct_X9_best hC) cw_X9_best aw_626 aw_627 aw_628 rfl rfl rfl (Nat.le_of_ble_eq_true rfl) rfl rfl (Nat.le_of_ble_eq_true rfl) (fun v ρ q => ?_)
  obtain ⟨rfl, rfl⟩ := q
  refine n_aload_n C.1 dL_law_580 rfl (i := 2) rfl ?_
  refine n_aload_n C.1 dL_law_581 rfl (i := 0) rfl ?_
  refine n_iload_n C.1 dL_law_582 rfl (i := 3) rfl ?_
  refine n_iconst C.1 dL_law_583 (v := (1 : Int32)) (by decide) ?_
  refine h_iadd C.1 dL_law_584 ?_
  refine h_sld C hX hbl (j := i + 1) dL_law_585 (hx1 hx) (by omega) (by omega) ?_
  refine n_aload_n C.1 dL_law_586 rfl (i := 0) rfl ?_
  refine n_iload_n C.1 dL_law_587 rfl (i := 3) rfl ?_
  refine n_iconst C.1 dL_law_588 (v := (2 : Int32)) (by decide) ?_
  refine h_iadd C.1 dL_law_589 ?_
  refine h_sld C hX hbl (j := i + 2) dL_law_590 (hx2 hx) (by omega) (by omega) ?_
  refine h_callM C hroom (As := [.int (xs (i + 1)), .int (xs (i + 2))]) (rest := [.int r]) dL_law_591 (ct_X10_best hM) cw_X10_best aw_1097 aw_1098 aw_1099 rfl rfl rfl (Nat.le_of_ble_eq_true rfl) rfl rfl (Nat.le_of_ble_eq_true rfl) (fun v ρ q => ?_)
  obtain ⟨rfl, rfl⟩ := q
  refine h_icmp_eq C.1 (tgt := 1046) dL_law_594 (by decide) rfl ?_
  exact kk _ _ hI2
set_option maxRecDepth 8000 in
theorem law_c13 {K : KT} {Inv : Nat → Sg → Sg → Prop} {adC adM : Nat → Nat} {σ τ : Sg} {b Ln i n ci si : Nat} {xs : Nat → Int32} {x3 : Int32} (C : CL K cL_law RL 4 40 adC adM) (hroom : ci ≤ (kR K).cells ∧ si ≤ (kR K).slots) (hX : va_X b Ln xs (ks K) (ks K).heap) (hbl : b < (ks K).heap.size) (hL31 : Ln ≤ 3072) (hx : x3 = nI i) (hi : i + 6 ≤ Ln) (hn : n < 512) (hI : Inv n σ τ) (hs : ∀ (a0 : Int32) (a1 : Int32), SimI Inv (fX9_season a0 a1) (fX10_season a0 a1))
    (kk : ∀ σ' τ', Inv (n + 1) σ' τ' → GW K 1046 [some (.ref b), some (.ref (adC 0)), some (.ref (adM 0)), some (.int x3)] [] ci si (WL K adC adM σ' τ')) : GW K 599 [some (.ref b), some (.ref (adC 0)), some (.ref (adM 0)), some (.int x3)] [] ci si (WL K adC adM σ τ) := by
  refine n_aload_n C.1 dL_law_599 rfl (i := 1) rfl ?_
  refine n_aload_n C.1 dL_law_600 rfl (i := 0) rfl ?_
  refine n_iload_n C.1 dL_law_601 rfl (i := 3) rfl ?_
  refine n_iconst C.1 dL_law_602 (v := (1 : Int32)) (by decide) ?_
  refine h_iadd C.1 dL_law_603 ?_
  refine h_sld C hX hbl (j := i + 1) dL_law_604 (hx1 hx) (by omega) (by omega) ?_
  refine n_aload_n C.1 dL_law_605 rfl (i := 0) rfl ?_
  refine n_iload_n C.1 dL_law_606 rfl (i := 3) rfl ?_
  refine n_iconst C.1 dL_law_607 (v := (2 : Int32)) (by decide) ?_
  refine h_iadd C.1 dL_law_608 ?_
  refine h_sld C hX hbl (j := i + 2) dL_law_609 (hx2 hx) (by omega) (by omega) ?_
  obtain ⟨r, σ2, τ2, hC, hM, hI2⟩ := hs (xs (i + 1)) (xs (i + 2)) n σ τ hn hI
  refine h_callC C hroom (As := [.int (xs (i + 1)), .int (xs (i + 2))]) (rest := []) dL_law_610 (ct_X9_season hC) cw_X9_season aw_644 aw_645 aw_646 rfl rfl rfl (Nat.le_of_ble_eq_true rfl) rfl rfl (Nat.le_of_ble_eq_true rfl) (fun v ρ q => ?_)
  obtain ⟨rfl, rfl⟩ := q
  refine n_aload_n C.1 dL_law_613 rfl (i := 2) rfl ?_
  refine n_aload_n C.1 dL_law_614 rfl (i := 0) rfl ?_
  refine n_iload_n C.1 dL_law_615 rfl (i := 3) rfl ?_
  refine n_iconst C.1 dL_law_616 (v := (1 : Int32)) (by decide) ?_
  refine h_iadd C.1 dL_law_617 ?_
  refine h_sld C hX hbl (j := i + 1) dL_law_618 (hx1 hx) (by omega) (by omega) ?_
  refine n_aload_n C.1 dL_law_619 rfl (i := 0) rfl ?_
  refine n_iload_n C.1 dL_law_620 rfl (i := 3) rfl ?_
  refine n_iconst C.1 dL_law_621 (v := (2 : Int32)) (by decide) ?_
  refine h_iadd C.1 dL_law_622 ?_
  refine h_sld C hX hbl (j := i + 2) dL_law_623 (hx2 hx) (by omega) (by omega) ?_
  refine h_callM C hroom (As := [.int (xs (i + 1)), .int (xs (i + 2))]) (rest := [.int r]) dL_law_624 (ct_X10_season hM) cw_X10_season aw_1106 aw_1107 aw_1108 rfl rfl rfl (Nat.le_of_ble_eq_true rfl) rfl rfl (Nat.le_of_ble_eq_true rfl) (fun v ρ q => ?_)
  obtain ⟨rfl, rfl⟩ := q
  refine h_icmp_eq C.1 (tgt := 1046) dL_law_627 (by decide) rfl ?_
  exact kk _ _ hI2
set_option maxRecDepth 8000 in
theorem law_c14 {K : KT} {Inv : Nat → Sg → Sg → Prop} {adC adM : Nat → Nat} {σ τ : Sg} {b Ln i n ci si : Nat} {xs : Nat → Int32} {x3 : Int32} (C : CL K cL_law RL 4 40 adC adM) (hroom : ci ≤ (kR K).cells ∧ si ≤ (kR K).slots) (hX : va_X b Ln xs (ks K) (ks K).heap) (hbl : b < (ks K).heap.size) (hL31 : Ln ≤ 3072) (hx : x3 = nI i) (hi : i + 6 ≤ Ln) (hn : n < 512) (hI : Inv n σ τ) (hs : ∀ (a0 : Int32), SimI Inv (fX9_more a0) (fX10_more a0))
    (kk : ∀ σ' τ', Inv (n + 1) σ' τ' → GW K 1046 [some (.ref b), some (.ref (adC 0)), some (.ref (adM 0)), some (.int x3)] [] ci si (WL K adC adM σ' τ')) : GW K 632 [some (.ref b), some (.ref (adC 0)), some (.ref (adM 0)), some (.int x3)] [] ci si (WL K adC adM σ τ) := by
  refine n_aload_n C.1 dL_law_632 rfl (i := 1) rfl ?_
  refine n_aload_n C.1 dL_law_633 rfl (i := 0) rfl ?_
  refine n_iload_n C.1 dL_law_634 rfl (i := 3) rfl ?_
  refine n_iconst C.1 dL_law_635 (v := (1 : Int32)) (by decide) ?_
  refine h_iadd C.1 dL_law_636 ?_
  refine h_sld C hX hbl (j := i + 1) dL_law_637 (hx1 hx) (by omega) (by omega) ?_
  obtain ⟨r, σ2, τ2, hC, hM, hI2⟩ := hs (xs (i + 1)) n σ τ hn hI
  refine h_callC C hroom (As := [.int (xs (i + 1))]) (rest := []) dL_law_638 (ct_X9_more hC) cw_X9_more aw_669 aw_670 aw_671 rfl rfl rfl (Nat.le_of_ble_eq_true rfl) rfl rfl (Nat.le_of_ble_eq_true rfl) (fun v ρ q => ?_)
  obtain ⟨rfl, rfl⟩ := q
  refine n_aload_n C.1 dL_law_641 rfl (i := 2) rfl ?_
  refine n_aload_n C.1 dL_law_642 rfl (i := 0) rfl ?_
  refine n_iload_n C.1 dL_law_643 rfl (i := 3) rfl ?_
  refine n_iconst C.1 dL_law_644 (v := (1 : Int32)) (by decide) ?_
  refine h_iadd C.1 dL_law_645 ?_
  refine h_sld C hX hbl (j := i + 1) dL_law_646 (hx1 hx) (by omega) (by omega) ?_
  refine h_callM C hroom (As := [.int (xs (i + 1))]) (rest := [.int r]) dL_law_647 (ct_X10_more hM) cw_X10_more aw_1119 aw_1120 aw_1121 rfl rfl rfl (Nat.le_of_ble_eq_true rfl) rfl rfl (Nat.le_of_ble_eq_true rfl) (fun v ρ q => ?_)
  obtain ⟨rfl, rfl⟩ := q
  refine h_icmp_eq C.1 (tgt := 1046) dL_law_650 (by decide) rfl ?_
  exact kk _ _ hI2
set_option maxRecDepth 8000 in
theorem law_c15 {K : KT} {Inv : Nat → Sg → Sg → Prop} {adC adM : Nat → Nat} {σ τ : Sg} {b Ln i n ci si : Nat} {xs : Nat → Int32} {x3 : Int32} (C : CL K cL_law RL 4 40 adC adM) (hroom : ci ≤ (kR K).cells ∧ si ≤ (kR K).slots) (hX : va_X b Ln xs (ks K) (ks K).heap) (hbl : b < (ks K).heap.size) (hL31 : Ln ≤ 3072) (hx : x3 = nI i) (hi : i + 6 ≤ Ln) (hn : n < 512) (hI : Inv n σ τ) (hs : ∀ (a0 : Int32) (a1 : Int32) (a2 : Int32) (a3 : Int32) (a4 : Int32), isB a2 = true → SimI Inv (fX9_drawn a0 a1 a2 a3 a4) (fX10_drawn a0 a1 a2 a3 a4))
    (kk : ∀ σ' τ', Inv (n + 1) σ' τ' → GW K 1046 [some (.ref b), some (.ref (adC 0)), some (.ref (adM 0)), some (.int x3)] [] ci si (WL K adC adM σ' τ')) : GW K 655 [some (.ref b), some (.ref (adC 0)), some (.ref (adM 0)), some (.int x3)] [] ci si (WL K adC adM σ τ) := by
  refine n_aload_n C.1 dL_law_655 rfl (i := 1) rfl ?_
  refine n_aload_n C.1 dL_law_656 rfl (i := 0) rfl ?_
  refine n_iload_n C.1 dL_law_657 rfl (i := 3) rfl ?_
  refine n_iconst C.1 dL_law_658 (v := (1 : Int32)) (by decide) ?_
  refine h_iadd C.1 dL_law_659 ?_
  refine h_sld C hX hbl (j := i + 1) dL_law_660 (hx1 hx) (by omega) (by omega) ?_
  refine n_aload_n C.1 dL_law_661 rfl (i := 0) rfl ?_
  refine n_iload_n C.1 dL_law_662 rfl (i := 3) rfl ?_
  refine n_iconst C.1 dL_law_663 (v := (2 : Int32)) (by decide) ?_
  refine h_iadd C.1 dL_law_664 ?_
  refine h_sld C hX hbl (j := i + 2) dL_law_665 (hx2 hx) (by omega) (by omega) ?_
  refine n_aload_n C.1 dL_law_666 rfl (i := 0) rfl ?_
  refine n_iload_n C.1 dL_law_667 rfl (i := 3) rfl ?_
  refine n_iconst C.1 dL_law_668 (v := (3 : Int32)) (by decide) ?_
  refine h_iadd C.1 dL_law_669 ?_
  refine h_sld C hX hbl (j := i + 3) dL_law_670 (hx3 hx) (by omega) (by omega) ?_
  refine h_if_eq C.1 (tgt := 678) dL_law_671 (by decide) (fun c3 => ?_) (fun c3 => ?_)
  · have eb : bZ (xs (i + 3)) = 0 := if_pos c3
    refine n_iconst C.1 dL_law_678 (v := (0 : Int32)) (by decide) ?_
    refine n_aload_n C.1 dL_law_679 rfl (i := 0) rfl ?_
    refine n_iload_n C.1 dL_law_680 rfl (i := 3) rfl ?_
    refine n_iconst C.1 dL_law_681 (v := (4 : Int32)) (by decide) ?_
    refine h_iadd C.1 dL_law_682 ?_
    refine h_sld C hX hbl (j := i + 4) dL_law_683 (hx4 hx) (by omega) (by omega) ?_
    refine n_aload_n C.1 dL_law_684 rfl (i := 0) rfl ?_
    refine n_iload_n C.1 dL_law_685 rfl (i := 3) rfl ?_
    refine n_iconst C.1 dL_law_686 (v := (5 : Int32)) (by decide) ?_
    refine h_iadd C.1 dL_law_687 ?_
    refine h_sld C hX hbl (j := i + 5) dL_law_688 (hx5 hx) (by omega) (by omega) ?_
    obtain ⟨r, σ2, τ2, hC, hM, hI2⟩ := hs (xs (i + 1)) (xs (i + 2)) (bZ (xs (i + 3))) (xs (i + 4)) (xs (i + 5)) (bZ_B _) n σ τ hn hI
    rw [eb] at hC hM
    refine h_callC C hroom (As := [.int (xs (i + 1)), .int (xs (i + 2)), .int (0 : Int32), .int (xs (i + 4)), .int (xs (i + 5))]) (rest := []) dL_law_689 (ct_X9_drawn hC) cw_X9_drawn aw_674 aw_675 aw_676 rfl rfl rfl (Nat.le_of_ble_eq_true rfl) rfl rfl (Nat.le_of_ble_eq_true rfl) (fun v ρ q => ?_)
    obtain ⟨rfl, rfl⟩ := q
    refine n_aload_n C.1 dL_law_692 rfl (i := 2) rfl ?_
    refine n_aload_n C.1 dL_law_693 rfl (i := 0) rfl ?_
    refine n_iload_n C.1 dL_law_694 rfl (i := 3) rfl ?_
    refine n_iconst C.1 dL_law_695 (v := (1 : Int32)) (by decide) ?_
    refine h_iadd C.1 dL_law_696 ?_
    refine h_sld C hX hbl (j := i + 1) dL_law_697 (hx1 hx) (by omega) (by omega) ?_
    refine n_aload_n C.1 dL_law_698 rfl (i := 0) rfl ?_
    refine n_iload_n C.1 dL_law_699 rfl (i := 3) rfl ?_
    refine n_iconst C.1 dL_law_700 (v := (2 : Int32)) (by decide) ?_
    refine h_iadd C.1 dL_law_701 ?_
    refine h_sld C hX hbl (j := i + 2) dL_law_702 (hx2 hx) (by omega) (by omega) ?_
    refine n_aload_n C.1 dL_law_703 rfl (i := 0) rfl ?_
    refine n_iload_n C.1 dL_law_704 rfl (i := 3) rfl ?_
    refine n_iconst C.1 dL_law_705 (v := (3 : Int32)) (by decide) ?_
    refine h_iadd C.1 dL_law_706 ?_
    refine h_sld C hX hbl (j := i + 3) dL_law_707 (hx3 hx) (by omega) (by omega) ?_
    refine h_if_eq C.1 (tgt := 715) dL_law_708 (by decide) (fun _ => ?_) (fun q => absurd c3 q)
    refine n_iconst C.1 dL_law_715 (v := (0 : Int32)) (by decide) ?_
    refine n_aload_n C.1 dL_law_716 rfl (i := 0) rfl ?_
    refine n_iload_n C.1 dL_law_717 rfl (i := 3) rfl ?_
    refine n_iconst C.1 dL_law_718 (v := (4 : Int32)) (by decide) ?_
    refine h_iadd C.1 dL_law_719 ?_
    refine h_sld C hX hbl (j := i + 4) dL_law_720 (hx4 hx) (by omega) (by omega) ?_
    refine n_aload_n C.1 dL_law_721 rfl (i := 0) rfl ?_
    refine n_iload_n C.1 dL_law_722 rfl (i := 3) rfl ?_
    refine n_iconst C.1 dL_law_723 (v := (5 : Int32)) (by decide) ?_
    refine h_iadd C.1 dL_law_724 ?_
    refine h_sld C hX hbl (j := i + 5) dL_law_725 (hx5 hx) (by omega) (by omega) ?_
    refine h_callM C hroom (As := [.int (xs (i + 1)), .int (xs (i + 2)), .int (0 : Int32), .int (xs (i + 4)), .int (xs (i + 5))]) (rest := [.int r]) dL_law_726 (ct_X10_drawn hM) cw_X10_drawn aw_1123 aw_1124 aw_1125 rfl rfl rfl (Nat.le_of_ble_eq_true rfl) rfl rfl (Nat.le_of_ble_eq_true rfl) (fun v ρ q => ?_)
    obtain ⟨rfl, rfl⟩ := q
    refine h_icmp_eq C.1 (tgt := 1046) dL_law_729 (by decide) rfl ?_
    exact kk _ _ hI2
  · have eb : bZ (xs (i + 3)) = 1 := if_neg c3
    refine n_iconst C.1 dL_law_674 (v := (1 : Int32)) (by decide) ?_
    refine n_goto C.1 (tgt := 679) dL_law_675 (by decide) ?_
    refine n_aload_n C.1 dL_law_679 rfl (i := 0) rfl ?_
    refine n_iload_n C.1 dL_law_680 rfl (i := 3) rfl ?_
    refine n_iconst C.1 dL_law_681 (v := (4 : Int32)) (by decide) ?_
    refine h_iadd C.1 dL_law_682 ?_
    refine h_sld C hX hbl (j := i + 4) dL_law_683 (hx4 hx) (by omega) (by omega) ?_
    refine n_aload_n C.1 dL_law_684 rfl (i := 0) rfl ?_
    refine n_iload_n C.1 dL_law_685 rfl (i := 3) rfl ?_
    refine n_iconst C.1 dL_law_686 (v := (5 : Int32)) (by decide) ?_
    refine h_iadd C.1 dL_law_687 ?_
    refine h_sld C hX hbl (j := i + 5) dL_law_688 (hx5 hx) (by omega) (by omega) ?_
    obtain ⟨r, σ2, τ2, hC, hM, hI2⟩ := hs (xs (i + 1)) (xs (i + 2)) (bZ (xs (i + 3))) (xs (i + 4)) (xs (i + 5)) (bZ_B _) n σ τ hn hI
    rw [eb] at hC hM
    refine h_callC C hroom (As := [.int (xs (i + 1)), .int (xs (i + 2)), .int (1 : Int32), .int (xs (i + 4)), .int (xs (i + 5))]) (rest := []) dL_law_689 (ct_X9_drawn hC) cw_X9_drawn aw_674 aw_675 aw_676 rfl rfl rfl (Nat.le_of_ble_eq_true rfl) rfl rfl (Nat.le_of_ble_eq_true rfl) (fun v ρ q => ?_)
    obtain ⟨rfl, rfl⟩ := q
    refine n_aload_n C.1 dL_law_692 rfl (i := 2) rfl ?_
    refine n_aload_n C.1 dL_law_693 rfl (i := 0) rfl ?_
    refine n_iload_n C.1 dL_law_694 rfl (i := 3) rfl ?_
    refine n_iconst C.1 dL_law_695 (v := (1 : Int32)) (by decide) ?_
    refine h_iadd C.1 dL_law_696 ?_
    refine h_sld C hX hbl (j := i + 1) dL_law_697 (hx1 hx) (by omega) (by omega) ?_
    refine n_aload_n C.1 dL_law_698 rfl (i := 0) rfl ?_
    refine n_iload_n C.1 dL_law_699 rfl (i := 3) rfl ?_
    refine n_iconst C.1 dL_law_700 (v := (2 : Int32)) (by decide) ?_
    refine h_iadd C.1 dL_law_701 ?_
    refine h_sld C hX hbl (j := i + 2) dL_law_702 (hx2 hx) (by omega) (by omega) ?_
    refine n_aload_n C.1 dL_law_703 rfl (i := 0) rfl ?_
    refine n_iload_n C.1 dL_law_704 rfl (i := 3) rfl ?_
    refine n_iconst C.1 dL_law_705 (v := (3 : Int32)) (by decide) ?_
    refine h_iadd C.1 dL_law_706 ?_
    refine h_sld C hX hbl (j := i + 3) dL_law_707 (hx3 hx) (by omega) (by omega) ?_
    refine h_if_eq C.1 (tgt := 715) dL_law_708 (by decide) (fun q => absurd q c3) (fun _ => ?_)
    refine n_iconst C.1 dL_law_711 (v := (1 : Int32)) (by decide) ?_
    refine n_goto C.1 (tgt := 716) dL_law_712 (by decide) ?_
    refine n_aload_n C.1 dL_law_716 rfl (i := 0) rfl ?_
    refine n_iload_n C.1 dL_law_717 rfl (i := 3) rfl ?_
    refine n_iconst C.1 dL_law_718 (v := (4 : Int32)) (by decide) ?_
    refine h_iadd C.1 dL_law_719 ?_
    refine h_sld C hX hbl (j := i + 4) dL_law_720 (hx4 hx) (by omega) (by omega) ?_
    refine n_aload_n C.1 dL_law_721 rfl (i := 0) rfl ?_
    refine n_iload_n C.1 dL_law_722 rfl (i := 3) rfl ?_
    refine n_iconst C.1 dL_law_723 (v := (5 : Int32)) (by decide) ?_
    refine h_iadd C.1 dL_law_724 ?_
    refine h_sld C hX hbl (j := i + 5) dL_law_725 (hx5 hx) (by omega) (by omega) ?_
    refine h_callM C hroom (As := [.int (xs (i + 1)), .int (xs (i + 2)), .int (1 : Int32), .int (xs (i + 4)), .int (xs (i + 5))]) (rest := [.int r]) dL_law_726 (ct_X10_drawn hM) cw_X10_drawn aw_1123 aw_1124 aw_1125 rfl rfl rfl (Nat.le_of_ble_eq_true rfl) rfl rfl (Nat.le_of_ble_eq_true rfl) (fun v ρ q => ?_)
    obtain ⟨rfl, rfl⟩ := q
    refine h_icmp_eq C.1 (tgt := 1046) dL_law_729 (by decide) rfl ?_
    exact kk _ _ hI2
set_option maxRecDepth 8000 in
theorem law_c16 {K : KT} {Inv : Nat → Sg → Sg → Prop} {adC adM : Nat → Nat} {σ τ : Sg} {b Ln i n ci si : Nat} {xs : Nat → Int32} {x3 : Int32} (C : CL K cL_law RL 4 40 adC adM) (hroom : ci ≤ (kR K).cells ∧ si ≤ (kR K).slots) (hX : va_X b Ln xs (ks K) (ks K).heap) (hbl : b < (ks K).heap.size) (hL31 : Ln ≤ 3072) (hx : x3 = nI i) (hi : i + 6 ≤ Ln) (hn : n < 512) (hI : Inv n σ τ) (hs : ∀ (a0 : Int32) (a1 : Int32) (a2 : Int32) (a3 : Int32) (a4 : Int32), isB a2 = true → SimI Inv (fX9_came a0 a1 a2 a3 a4) (fX10_came a0 a1 a2 a3 a4))
    (kk : ∀ σ' τ', Inv (n + 1) σ' τ' → GW K 1046 [some (.ref b), some (.ref (adC 0)), some (.ref (adM 0)), some (.int x3)] [] ci si (WL K adC adM σ' τ')) : GW K 734 [some (.ref b), some (.ref (adC 0)), some (.ref (adM 0)), some (.int x3)] [] ci si (WL K adC adM σ τ) := by
  refine n_aload_n C.1 dL_law_734 rfl (i := 1) rfl ?_
  refine n_aload_n C.1 dL_law_735 rfl (i := 0) rfl ?_
  refine n_iload_n C.1 dL_law_736 rfl (i := 3) rfl ?_
  refine n_iconst C.1 dL_law_737 (v := (1 : Int32)) (by decide) ?_
  refine h_iadd C.1 dL_law_738 ?_
  refine h_sld C hX hbl (j := i + 1) dL_law_739 (hx1 hx) (by omega) (by omega) ?_
  refine n_aload_n C.1 dL_law_740 rfl (i := 0) rfl ?_
  refine n_iload_n C.1 dL_law_741 rfl (i := 3) rfl ?_
  refine n_iconst C.1 dL_law_742 (v := (2 : Int32)) (by decide) ?_
  refine h_iadd C.1 dL_law_743 ?_
  refine h_sld C hX hbl (j := i + 2) dL_law_744 (hx2 hx) (by omega) (by omega) ?_
  refine n_aload_n C.1 dL_law_745 rfl (i := 0) rfl ?_
  refine n_iload_n C.1 dL_law_746 rfl (i := 3) rfl ?_
  refine n_iconst C.1 dL_law_747 (v := (3 : Int32)) (by decide) ?_
  refine h_iadd C.1 dL_law_748 ?_
  refine h_sld C hX hbl (j := i + 3) dL_law_749 (hx3 hx) (by omega) (by omega) ?_
  refine h_if_eq C.1 (tgt := 757) dL_law_750 (by decide) (fun c3 => ?_) (fun c3 => ?_)
  · have eb : bZ (xs (i + 3)) = 0 := if_pos c3
    refine n_iconst C.1 dL_law_757 (v := (0 : Int32)) (by decide) ?_
    refine n_aload_n C.1 dL_law_758 rfl (i := 0) rfl ?_
    refine n_iload_n C.1 dL_law_759 rfl (i := 3) rfl ?_
    refine n_iconst C.1 dL_law_760 (v := (4 : Int32)) (by decide) ?_
    refine h_iadd C.1 dL_law_761 ?_
    refine h_sld C hX hbl (j := i + 4) dL_law_762 (hx4 hx) (by omega) (by omega) ?_
    refine n_aload_n C.1 dL_law_763 rfl (i := 0) rfl ?_
    refine n_iload_n C.1 dL_law_764 rfl (i := 3) rfl ?_
    refine n_iconst C.1 dL_law_765 (v := (5 : Int32)) (by decide) ?_
    refine h_iadd C.1 dL_law_766 ?_
    refine h_sld C hX hbl (j := i + 5) dL_law_767 (hx5 hx) (by omega) (by omega) ?_
    obtain ⟨r, σ2, τ2, hC, hM, hI2⟩ := hs (xs (i + 1)) (xs (i + 2)) (bZ (xs (i + 3))) (xs (i + 4)) (xs (i + 5)) (bZ_B _) n σ τ hn hI
    rw [eb] at hC hM
    refine h_callC C hroom (As := [.int (xs (i + 1)), .int (xs (i + 2)), .int (0 : Int32), .int (xs (i + 4)), .int (xs (i + 5))]) (rest := []) dL_law_768 (ct_X9_came hC) cw_X9_came aw_682 aw_683 aw_684 rfl rfl rfl (Nat.le_of_ble_eq_true rfl) rfl rfl (Nat.le_of_ble_eq_true rfl) (fun v ρ q => ?_)
    obtain ⟨rfl, rfl⟩ := q
    refine n_aload_n C.1 dL_law_771 rfl (i := 2) rfl ?_
    refine n_aload_n C.1 dL_law_772 rfl (i := 0) rfl ?_
    refine n_iload_n C.1 dL_law_773 rfl (i := 3) rfl ?_
    refine n_iconst C.1 dL_law_774 (v := (1 : Int32)) (by decide) ?_
    refine h_iadd C.1 dL_law_775 ?_
    refine h_sld C hX hbl (j := i + 1) dL_law_776 (hx1 hx) (by omega) (by omega) ?_
    refine n_aload_n C.1 dL_law_777 rfl (i := 0) rfl ?_
    refine n_iload_n C.1 dL_law_778 rfl (i := 3) rfl ?_
    refine n_iconst C.1 dL_law_779 (v := (2 : Int32)) (by decide) ?_
    refine h_iadd C.1 dL_law_780 ?_
    refine h_sld C hX hbl (j := i + 2) dL_law_781 (hx2 hx) (by omega) (by omega) ?_
    refine n_aload_n C.1 dL_law_782 rfl (i := 0) rfl ?_
    refine n_iload_n C.1 dL_law_783 rfl (i := 3) rfl ?_
    refine n_iconst C.1 dL_law_784 (v := (3 : Int32)) (by decide) ?_
    refine h_iadd C.1 dL_law_785 ?_
    refine h_sld C hX hbl (j := i + 3) dL_law_786 (hx3 hx) (by omega) (by omega) ?_
    refine h_if_eq C.1 (tgt := 794) dL_law_787 (by decide) (fun _ => ?_) (fun q => absurd c3 q)
    refine n_iconst C.1 dL_law_794 (v := (0 : Int32)) (by decide) ?_
    refine n_aload_n C.1 dL_law_795 rfl (i := 0) rfl ?_
    refine n_iload_n C.1 dL_law_796 rfl (i := 3) rfl ?_
    refine n_iconst C.1 dL_law_797 (v := (4 : Int32)) (by decide) ?_
    refine h_iadd C.1 dL_law_798 ?_
    refine h_sld C hX hbl (j := i + 4) dL_law_799 (hx4 hx) (by omega) (by omega) ?_
    refine n_aload_n C.1 dL_law_800 rfl (i := 0) rfl ?_
    refine n_iload_n C.1 dL_law_801 rfl (i := 3) rfl ?_
    refine n_iconst C.1 dL_law_802 (v := (5 : Int32)) (by decide) ?_
    refine h_iadd C.1 dL_law_803 ?_
    refine h_sld C hX hbl (j := i + 5) dL_law_804 (hx5 hx) (by omega) (by omega) ?_
    refine h_callM C hroom (As := [.int (xs (i + 1)), .int (xs (i + 2)), .int (0 : Int32), .int (xs (i + 4)), .int (xs (i + 5))]) (rest := [.int r]) dL_law_805 (ct_X10_came hM) cw_X10_came aw_1127 aw_1128 aw_1129 rfl rfl rfl (Nat.le_of_ble_eq_true rfl) rfl rfl (Nat.le_of_ble_eq_true rfl) (fun v ρ q => ?_)
    obtain ⟨rfl, rfl⟩ := q
    refine h_icmp_eq C.1 (tgt := 1046) dL_law_808 (by decide) rfl ?_
    exact kk _ _ hI2
  · have eb : bZ (xs (i + 3)) = 1 := if_neg c3
    refine n_iconst C.1 dL_law_753 (v := (1 : Int32)) (by decide) ?_
    refine n_goto C.1 (tgt := 758) dL_law_754 (by decide) ?_
    refine n_aload_n C.1 dL_law_758 rfl (i := 0) rfl ?_
    refine n_iload_n C.1 dL_law_759 rfl (i := 3) rfl ?_
    refine n_iconst C.1 dL_law_760 (v := (4 : Int32)) (by decide) ?_
    refine h_iadd C.1 dL_law_761 ?_
    refine h_sld C hX hbl (j := i + 4) dL_law_762 (hx4 hx) (by omega) (by omega) ?_
    refine n_aload_n C.1 dL_law_763 rfl (i := 0) rfl ?_
    refine n_iload_n C.1 dL_law_764 rfl (i := 3) rfl ?_
    refine n_iconst C.1 dL_law_765 (v := (5 : Int32)) (by decide) ?_
    refine h_iadd C.1 dL_law_766 ?_
    refine h_sld C hX hbl (j := i + 5) dL_law_767 (hx5 hx) (by omega) (by omega) ?_
    obtain ⟨r, σ2, τ2, hC, hM, hI2⟩ := hs (xs (i + 1)) (xs (i + 2)) (bZ (xs (i + 3))) (xs (i + 4)) (xs (i + 5)) (bZ_B _) n σ τ hn hI
    rw [eb] at hC hM
    refine h_callC C hroom (As := [.int (xs (i + 1)), .int (xs (i + 2)), .int (1 : Int32), .int (xs (i + 4)), .int (xs (i + 5))]) (rest := []) dL_law_768 (ct_X9_came hC) cw_X9_came aw_682 aw_683 aw_684 rfl rfl rfl (Nat.le_of_ble_eq_true rfl) rfl rfl (Nat.le_of_ble_eq_true rfl) (fun v ρ q => ?_)
    obtain ⟨rfl, rfl⟩ := q
    refine n_aload_n C.1 dL_law_771 rfl (i := 2) rfl ?_
    refine n_aload_n C.1 dL_law_772 rfl (i := 0) rfl ?_
    refine n_iload_n C.1 dL_law_773 rfl (i := 3) rfl ?_
    refine n_iconst C.1 dL_law_774 (v := (1 : Int32)) (by decide) ?_
    refine h_iadd C.1 dL_law_775 ?_
    refine h_sld C hX hbl (j := i + 1) dL_law_776 (hx1 hx) (by omega) (by omega) ?_
    refine n_aload_n C.1 dL_law_777 rfl (i := 0) rfl ?_
    refine n_iload_n C.1 dL_law_778 rfl (i := 3) rfl ?_
    refine n_iconst C.1 dL_law_779 (v := (2 : Int32)) (by decide) ?_
    refine h_iadd C.1 dL_law_780 ?_
    refine h_sld C hX hbl (j := i + 2) dL_law_781 (hx2 hx) (by omega) (by omega) ?_
    refine n_aload_n C.1 dL_law_782 rfl (i := 0) rfl ?_
    refine n_iload_n C.1 dL_law_783 rfl (i := 3) rfl ?_
    refine n_iconst C.1 dL_law_784 (v := (3 : Int32)) (by decide) ?_
    refine h_iadd C.1 dL_law_785 ?_
    refine h_sld C hX hbl (j := i + 3) dL_law_786 (hx3 hx) (by omega) (by omega) ?_
    refine h_if_eq C.1 (tgt := 794) dL_law_787 (by decide) (fun q => absurd q c3) (fun _ => ?_)
    refine n_iconst C.1 dL_law_790 (v := (1 : Int32)) (by decide) ?_
    refine n_goto C.1 (tgt := 795) dL_law_791 (by decide) ?_
    refine n_aload_n C.1 dL_law_795 rfl (i := 0) rfl ?_
    refine n_iload_n C.1 dL_law_796 rfl (i := 3) rfl ?_
    refine n_iconst C.1 dL_law_797 (v := (4 : Int32)) (by decide) ?_
    refine h_iadd C.1 dL_law_798 ?_
    refine h_sld C hX hbl (j := i + 4) dL_law_799 (hx4 hx) (by omega) (by omega) ?_
    refine n_aload_n C.1 dL_law_800 rfl (i := 0) rfl ?_
    refine n_iload_n C.1 dL_law_801 rfl (i := 3) rfl ?_
    refine n_iconst C.1 dL_law_802 (v := (5 : Int32)) (by decide) ?_
    refine h_iadd C.1 dL_law_803 ?_
    refine h_sld C hX hbl (j := i + 5) dL_law_804 (hx5 hx) (by omega) (by omega) ?_
    refine h_callM C hroom (As := [.int (xs (i + 1)), .int (xs (i + 2)), .int (1 : Int32), .int (xs (i + 4)), .int (xs (i + 5))]) (rest := [.int r]) dL_law_805 (ct_X10_came hM) cw_X10_came aw_1127 aw_1128 aw_1129 rfl rfl rfl (Nat.le_of_ble_eq_true rfl) rfl rfl (Nat.le_of_ble_eq_true rfl) (fun v ρ q => ?_)
    obtain ⟨rfl, rfl⟩ := q
    refine h_icmp_eq C.1 (tgt := 1046) dL_law_808 (by decide) rfl ?_
    exact kk _ _ hI2
set_option maxRecDepth 8000 in
theorem law_c17 {K : KT} {Inv : Nat → Sg → Sg → Prop} {adC adM : Nat → Nat} {σ τ : Sg} {b Ln i n ci si : Nat} {xs : Nat → Int32} {x3 : Int32} (C : CL K cL_law RL 4 40 adC adM) (hroom : ci ≤ (kR K).cells ∧ si ≤ (kR K).slots) (hX : va_X b Ln xs (ks K) (ks K).heap) (hbl : b < (ks K).heap.size) (hL31 : Ln ≤ 3072) (hx : x3 = nI i) (hi : i + 6 ≤ Ln) (hn : n < 512) (hI : Inv n σ τ) (hs : ∀ (a0 : Int32) (a1 : Int32) (a2 : Int32) (a3 : Int32) (a4 : Int32), SimJ Inv (fX9_letOff a0 a1 a2 a3 a4) (fX10_letOff a0 a1 a2 a3 a4))
    (kk : ∀ σ' τ', Inv (n + 1) σ' τ' → GW K 1046 [some (.ref b), some (.ref (adC 0)), some (.ref (adM 0)), some (.int x3)] [] ci si (WL K adC adM σ' τ')) : GW K 813 [some (.ref b), some (.ref (adC 0)), some (.ref (adM 0)), some (.int x3)] [] ci si (WL K adC adM σ τ) := by
  refine n_aload_n C.1 dL_law_813 rfl (i := 1) rfl ?_
  refine n_aload_n C.1 dL_law_814 rfl (i := 0) rfl ?_
  refine n_iload_n C.1 dL_law_815 rfl (i := 3) rfl ?_
  refine n_iconst C.1 dL_law_816 (v := (1 : Int32)) (by decide) ?_
  refine h_iadd C.1 dL_law_817 ?_
  refine h_sld C hX hbl (j := i + 1) dL_law_818 (hx1 hx) (by omega) (by omega) ?_
  refine n_aload_n C.1 dL_law_819 rfl (i := 0) rfl ?_
  refine n_iload_n C.1 dL_law_820 rfl (i := 3) rfl ?_
  refine n_iconst C.1 dL_law_821 (v := (2 : Int32)) (by decide) ?_
  refine h_iadd C.1 dL_law_822 ?_
  refine h_sld C hX hbl (j := i + 2) dL_law_823 (hx2 hx) (by omega) (by omega) ?_
  refine n_aload_n C.1 dL_law_824 rfl (i := 0) rfl ?_
  refine n_iload_n C.1 dL_law_825 rfl (i := 3) rfl ?_
  refine n_iconst C.1 dL_law_826 (v := (3 : Int32)) (by decide) ?_
  refine h_iadd C.1 dL_law_827 ?_
  refine h_sld C hX hbl (j := i + 3) dL_law_828 (hx3 hx) (by omega) (by omega) ?_
  refine n_aload_n C.1 dL_law_829 rfl (i := 0) rfl ?_
  refine n_iload_n C.1 dL_law_830 rfl (i := 3) rfl ?_
  refine n_iconst C.1 dL_law_831 (v := (4 : Int32)) (by decide) ?_
  refine h_iadd C.1 dL_law_832 ?_
  refine h_sld C hX hbl (j := i + 4) dL_law_833 (hx4 hx) (by omega) (by omega) ?_
  refine n_aload_n C.1 dL_law_834 rfl (i := 0) rfl ?_
  refine n_iload_n C.1 dL_law_835 rfl (i := 3) rfl ?_
  refine n_iconst C.1 dL_law_836 (v := (5 : Int32)) (by decide) ?_
  refine h_iadd C.1 dL_law_837 ?_
  refine h_sld C hX hbl (j := i + 5) dL_law_838 (hx5 hx) (by omega) (by omega) ?_
  obtain ⟨r, σ2, τ2, hC, hM, hI2⟩ := hs (xs (i + 1)) (xs (i + 2)) (xs (i + 3)) (xs (i + 4)) (xs (i + 5)) n σ τ hn hI
  refine h_callC C hroom (As := [.int (xs (i + 1)), .int (xs (i + 2)), .int (xs (i + 3)), .int (xs (i + 4)), .int (xs (i + 5))]) (rest := []) dL_law_839 (ct_X9_letOff hC) cw_X9_letOff aw_686 aw_687 aw_688 rfl rfl rfl (Nat.le_of_ble_eq_true rfl) rfl rfl (Nat.le_of_ble_eq_true rfl) (fun v ρ q => ?_)
  obtain ⟨rfl, rfl⟩ := q
  refine n_aload_n C.1 dL_law_842 rfl (i := 2) rfl ?_
  refine n_aload_n C.1 dL_law_843 rfl (i := 0) rfl ?_
  refine n_iload_n C.1 dL_law_844 rfl (i := 3) rfl ?_
  refine n_iconst C.1 dL_law_845 (v := (1 : Int32)) (by decide) ?_
  refine h_iadd C.1 dL_law_846 ?_
  refine h_sld C hX hbl (j := i + 1) dL_law_847 (hx1 hx) (by omega) (by omega) ?_
  refine n_aload_n C.1 dL_law_848 rfl (i := 0) rfl ?_
  refine n_iload_n C.1 dL_law_849 rfl (i := 3) rfl ?_
  refine n_iconst C.1 dL_law_850 (v := (2 : Int32)) (by decide) ?_
  refine h_iadd C.1 dL_law_851 ?_
  refine h_sld C hX hbl (j := i + 2) dL_law_852 (hx2 hx) (by omega) (by omega) ?_
  refine n_aload_n C.1 dL_law_853 rfl (i := 0) rfl ?_
  refine n_iload_n C.1 dL_law_854 rfl (i := 3) rfl ?_
  refine n_iconst C.1 dL_law_855 (v := (3 : Int32)) (by decide) ?_
  refine h_iadd C.1 dL_law_856 ?_
  refine h_sld C hX hbl (j := i + 3) dL_law_857 (hx3 hx) (by omega) (by omega) ?_
  refine n_aload_n C.1 dL_law_858 rfl (i := 0) rfl ?_
  refine n_iload_n C.1 dL_law_859 rfl (i := 3) rfl ?_
  refine n_iconst C.1 dL_law_860 (v := (4 : Int32)) (by decide) ?_
  refine h_iadd C.1 dL_law_861 ?_
  refine h_sld C hX hbl (j := i + 4) dL_law_862 (hx4 hx) (by omega) (by omega) ?_
  refine n_aload_n C.1 dL_law_863 rfl (i := 0) rfl ?_
  refine n_iload_n C.1 dL_law_864 rfl (i := 3) rfl ?_
  refine n_iconst C.1 dL_law_865 (v := (5 : Int32)) (by decide) ?_
  refine h_iadd C.1 dL_law_866 ?_
  refine h_sld C hX hbl (j := i + 5) dL_law_867 (hx5 hx) (by omega) (by omega) ?_
  refine h_callM C hroom (As := [.int (xs (i + 1)), .int (xs (i + 2)), .int (xs (i + 3)), .int (xs (i + 4)), .int (xs (i + 5))]) (rest := [.long r]) dL_law_868 (ct_X10_letOff hM) cw_X10_letOff aw_1131 aw_1132 aw_1133 rfl rfl rfl (Nat.le_of_ble_eq_true rfl) rfl rfl (Nat.le_of_ble_eq_true rfl) (fun v ρ q => ?_)
  obtain ⟨rfl, rfl⟩ := q
  refine h_lcmp C.1 dL_law_871 ?_
  refine h_if_eq C.1 (tgt := 1046) dL_law_872 (by decide) (fun _ => ?_) (fun q => absurd (lg_same _) q)
  exact kk _ _ hI2
set_option maxRecDepth 8000 in
theorem law_c18 {K : KT} {Inv : Nat → Sg → Sg → Prop} {adC adM : Nat → Nat} {σ τ : Sg} {b Ln i n ci si : Nat} {xs : Nat → Int32} {x3 : Int32} (C : CL K cL_law RL 4 40 adC adM) (hroom : ci ≤ (kR K).cells ∧ si ≤ (kR K).slots) (hX : va_X b Ln xs (ks K) (ks K).heap) (hbl : b < (ks K).heap.size) (hL31 : Ln ≤ 3072) (hx : x3 = nI i) (hi : i + 6 ≤ Ln) (hn : n < 512) (hI : Inv n σ τ) (hs : ∀ (a0 : Int32) (a1 : Int32) (a2 : Int32), SimI Inv (fX9_line a0 a1 a2) (fX10_line a0 a1 a2))
    (kk : ∀ σ' τ', Inv (n + 1) σ' τ' → GW K 1046 [some (.ref b), some (.ref (adC 0)), some (.ref (adM 0)), some (.int x3)] [] ci si (WL K adC adM σ' τ')) : GW K 877 [some (.ref b), some (.ref (adC 0)), some (.ref (adM 0)), some (.int x3)] [] ci si (WL K adC adM σ τ) := by
  refine n_aload_n C.1 dL_law_877 rfl (i := 1) rfl ?_
  refine n_aload_n C.1 dL_law_878 rfl (i := 0) rfl ?_
  refine n_iload_n C.1 dL_law_879 rfl (i := 3) rfl ?_
  refine n_iconst C.1 dL_law_880 (v := (1 : Int32)) (by decide) ?_
  refine h_iadd C.1 dL_law_881 ?_
  refine h_sld C hX hbl (j := i + 1) dL_law_882 (hx1 hx) (by omega) (by omega) ?_
  refine n_aload_n C.1 dL_law_883 rfl (i := 0) rfl ?_
  refine n_iload_n C.1 dL_law_884 rfl (i := 3) rfl ?_
  refine n_iconst C.1 dL_law_885 (v := (2 : Int32)) (by decide) ?_
  refine h_iadd C.1 dL_law_886 ?_
  refine h_sld C hX hbl (j := i + 2) dL_law_887 (hx2 hx) (by omega) (by omega) ?_
  refine n_aload_n C.1 dL_law_888 rfl (i := 0) rfl ?_
  refine n_iload_n C.1 dL_law_889 rfl (i := 3) rfl ?_
  refine n_iconst C.1 dL_law_890 (v := (3 : Int32)) (by decide) ?_
  refine h_iadd C.1 dL_law_891 ?_
  refine h_sld C hX hbl (j := i + 3) dL_law_892 (hx3 hx) (by omega) (by omega) ?_
  obtain ⟨r, σ2, τ2, hC, hM, hI2⟩ := hs (xs (i + 1)) (xs (i + 2)) (xs (i + 3)) n σ τ hn hI
  refine h_callC C hroom (As := [.int (xs (i + 1)), .int (xs (i + 2)), .int (xs (i + 3))]) (rest := []) dL_law_893 (ct_X9_line hC) cw_X9_line aw_711 aw_712 aw_713 rfl rfl rfl (Nat.le_of_ble_eq_true rfl) rfl rfl (Nat.le_of_ble_eq_true rfl) (fun v ρ q => ?_)
  obtain ⟨rfl, rfl⟩ := q
  refine n_aload_n C.1 dL_law_896 rfl (i := 2) rfl ?_
  refine n_aload_n C.1 dL_law_897 rfl (i := 0) rfl ?_
  refine n_iload_n C.1 dL_law_898 rfl (i := 3) rfl ?_
  refine n_iconst C.1 dL_law_899 (v := (1 : Int32)) (by decide) ?_
  refine h_iadd C.1 dL_law_900 ?_
  refine h_sld C hX hbl (j := i + 1) dL_law_901 (hx1 hx) (by omega) (by omega) ?_
  refine n_aload_n C.1 dL_law_902 rfl (i := 0) rfl ?_
  refine n_iload_n C.1 dL_law_903 rfl (i := 3) rfl ?_
  refine n_iconst C.1 dL_law_904 (v := (2 : Int32)) (by decide) ?_
  refine h_iadd C.1 dL_law_905 ?_
  refine h_sld C hX hbl (j := i + 2) dL_law_906 (hx2 hx) (by omega) (by omega) ?_
  refine n_aload_n C.1 dL_law_907 rfl (i := 0) rfl ?_
  refine n_iload_n C.1 dL_law_908 rfl (i := 3) rfl ?_
  refine n_iconst C.1 dL_law_909 (v := (3 : Int32)) (by decide) ?_
  refine h_iadd C.1 dL_law_910 ?_
  refine h_sld C hX hbl (j := i + 3) dL_law_911 (hx3 hx) (by omega) (by omega) ?_
  refine h_callM C hroom (As := [.int (xs (i + 1)), .int (xs (i + 2)), .int (xs (i + 3))]) (rest := [.int r]) dL_law_912 (ct_X10_line hM) cw_X10_line aw_1142 aw_1143 aw_1144 rfl rfl rfl (Nat.le_of_ble_eq_true rfl) rfl rfl (Nat.le_of_ble_eq_true rfl) (fun v ρ q => ?_)
  obtain ⟨rfl, rfl⟩ := q
  refine h_icmp_eq C.1 (tgt := 1046) dL_law_915 (by decide) rfl ?_
  exact kk _ _ hI2
set_option maxRecDepth 8000 in
theorem law_c19 {K : KT} {Inv : Nat → Sg → Sg → Prop} {adC adM : Nat → Nat} {σ τ : Sg} {b Ln i n ci si : Nat} {xs : Nat → Int32} {x3 : Int32} (C : CL K cL_law RL 4 40 adC adM) (hroom : ci ≤ (kR K).cells ∧ si ≤ (kR K).slots) (hX : va_X b Ln xs (ks K) (ks K).heap) (hbl : b < (ks K).heap.size) (hL31 : Ln ≤ 3072) (hx : x3 = nI i) (hi : i + 6 ≤ Ln) (hn : n < 512) (hI : Inv n σ τ) (hs : ∀ (a0 : Int32) (a1 : Int32) (a2 : Int32) (a3 : Int32) (a4 : Int32), SimI Inv (fX9_claims a0 a1 a2 a3 a4) (fX10_claims a0 a1 a2 a3 a4))
    (kk : ∀ σ' τ', Inv (n + 1) σ' τ' → GW K 1046 [some (.ref b), some (.ref (adC 0)), some (.ref (adM 0)), some (.int x3)] [] ci si (WL K adC adM σ' τ')) : GW K 920 [some (.ref b), some (.ref (adC 0)), some (.ref (adM 0)), some (.int x3)] [] ci si (WL K adC adM σ τ) := by
  refine n_aload_n C.1 dL_law_920 rfl (i := 1) rfl ?_
  refine n_aload_n C.1 dL_law_921 rfl (i := 0) rfl ?_
  refine n_iload_n C.1 dL_law_922 rfl (i := 3) rfl ?_
  refine n_iconst C.1 dL_law_923 (v := (1 : Int32)) (by decide) ?_
  refine h_iadd C.1 dL_law_924 ?_
  refine h_sld C hX hbl (j := i + 1) dL_law_925 (hx1 hx) (by omega) (by omega) ?_
  refine n_aload_n C.1 dL_law_926 rfl (i := 0) rfl ?_
  refine n_iload_n C.1 dL_law_927 rfl (i := 3) rfl ?_
  refine n_iconst C.1 dL_law_928 (v := (2 : Int32)) (by decide) ?_
  refine h_iadd C.1 dL_law_929 ?_
  refine h_sld C hX hbl (j := i + 2) dL_law_930 (hx2 hx) (by omega) (by omega) ?_
  refine n_aload_n C.1 dL_law_931 rfl (i := 0) rfl ?_
  refine n_iload_n C.1 dL_law_932 rfl (i := 3) rfl ?_
  refine n_iconst C.1 dL_law_933 (v := (3 : Int32)) (by decide) ?_
  refine h_iadd C.1 dL_law_934 ?_
  refine h_sld C hX hbl (j := i + 3) dL_law_935 (hx3 hx) (by omega) (by omega) ?_
  refine n_aload_n C.1 dL_law_936 rfl (i := 0) rfl ?_
  refine n_iload_n C.1 dL_law_937 rfl (i := 3) rfl ?_
  refine n_iconst C.1 dL_law_938 (v := (4 : Int32)) (by decide) ?_
  refine h_iadd C.1 dL_law_939 ?_
  refine h_sld C hX hbl (j := i + 4) dL_law_940 (hx4 hx) (by omega) (by omega) ?_
  refine n_aload_n C.1 dL_law_941 rfl (i := 0) rfl ?_
  refine n_iload_n C.1 dL_law_942 rfl (i := 3) rfl ?_
  refine n_iconst C.1 dL_law_943 (v := (5 : Int32)) (by decide) ?_
  refine h_iadd C.1 dL_law_944 ?_
  refine h_sld C hX hbl (j := i + 5) dL_law_945 (hx5 hx) (by omega) (by omega) ?_
  obtain ⟨r, σ2, τ2, hC, hM, hI2⟩ := hs (xs (i + 1)) (xs (i + 2)) (xs (i + 3)) (xs (i + 4)) (xs (i + 5)) n σ τ hn hI
  refine h_callC C hroom (As := [.int (xs (i + 1)), .int (xs (i + 2)), .int (xs (i + 3)), .int (xs (i + 4)), .int (xs (i + 5))]) (rest := []) dL_law_946 (ct_X9_claims hC) cw_X9_claims aw_722 aw_723 aw_724 rfl rfl rfl (Nat.le_of_ble_eq_true rfl) rfl rfl (Nat.le_of_ble_eq_true rfl) (fun v ρ q => ?_)
  obtain ⟨rfl, rfl⟩ := q
  refine n_aload_n C.1 dL_law_949 rfl (i := 2) rfl ?_
  refine n_aload_n C.1 dL_law_950 rfl (i := 0) rfl ?_
  refine n_iload_n C.1 dL_law_951 rfl (i := 3) rfl ?_
  refine n_iconst C.1 dL_law_952 (v := (1 : Int32)) (by decide) ?_
  refine h_iadd C.1 dL_law_953 ?_
  refine h_sld C hX hbl (j := i + 1) dL_law_954 (hx1 hx) (by omega) (by omega) ?_
  refine n_aload_n C.1 dL_law_955 rfl (i := 0) rfl ?_
  refine n_iload_n C.1 dL_law_956 rfl (i := 3) rfl ?_
  refine n_iconst C.1 dL_law_957 (v := (2 : Int32)) (by decide) ?_
  refine h_iadd C.1 dL_law_958 ?_
  refine h_sld C hX hbl (j := i + 2) dL_law_959 (hx2 hx) (by omega) (by omega) ?_
  refine n_aload_n C.1 dL_law_960 rfl (i := 0) rfl ?_
  refine n_iload_n C.1 dL_law_961 rfl (i := 3) rfl ?_
  refine n_iconst C.1 dL_law_962 (v := (3 : Int32)) (by decide) ?_
  refine h_iadd C.1 dL_law_963 ?_
  refine h_sld C hX hbl (j := i + 3) dL_law_964 (hx3 hx) (by omega) (by omega) ?_
  refine n_aload_n C.1 dL_law_965 rfl (i := 0) rfl ?_
  refine n_iload_n C.1 dL_law_966 rfl (i := 3) rfl ?_
  refine n_iconst C.1 dL_law_967 (v := (4 : Int32)) (by decide) ?_
  refine h_iadd C.1 dL_law_968 ?_
  refine h_sld C hX hbl (j := i + 4) dL_law_969 (hx4 hx) (by omega) (by omega) ?_
  refine n_aload_n C.1 dL_law_970 rfl (i := 0) rfl ?_
  refine n_iload_n C.1 dL_law_971 rfl (i := 3) rfl ?_
  refine n_iconst C.1 dL_law_972 (v := (5 : Int32)) (by decide) ?_
  refine h_iadd C.1 dL_law_973 ?_
  refine h_sld C hX hbl (j := i + 5) dL_law_974 (hx5 hx) (by omega) (by omega) ?_
  refine h_callM C hroom (As := [.int (xs (i + 1)), .int (xs (i + 2)), .int (xs (i + 3)), .int (xs (i + 4)), .int (xs (i + 5))]) (rest := [.int r]) dL_law_975 (ct_X10_claims hM) cw_X10_claims aw_1146 aw_1147 aw_1148 rfl rfl rfl (Nat.le_of_ble_eq_true rfl) rfl rfl (Nat.le_of_ble_eq_true rfl) (fun v ρ q => ?_)
  obtain ⟨rfl, rfl⟩ := q
  refine h_icmp_eq C.1 (tgt := 1046) dL_law_978 (by decide) rfl ?_
  exact kk _ _ hI2
set_option maxRecDepth 8000 in
theorem law_c20 {K : KT} {Inv : Nat → Sg → Sg → Prop} {adC adM : Nat → Nat} {σ τ : Sg} {b Ln i n ci si : Nat} {xs : Nat → Int32} {x3 : Int32} (C : CL K cL_law RL 4 40 adC adM) (hroom : ci ≤ (kR K).cells ∧ si ≤ (kR K).slots) (hX : va_X b Ln xs (ks K) (ks K).heap) (hbl : b < (ks K).heap.size) (hL31 : Ln ≤ 3072) (hx : x3 = nI i) (hi : i + 6 ≤ Ln) (hn : n < 512) (hI : Inv n σ τ) (hs : SimI Inv (fX9_image) (fX10_image))
    (kk : ∀ σ' τ', Inv (n + 1) σ' τ' → GW K 1046 [some (.ref b), some (.ref (adC 0)), some (.ref (adM 0)), some (.int x3)] [] ci si (WL K adC adM σ' τ')) : GW K 983 [some (.ref b), some (.ref (adC 0)), some (.ref (adM 0)), some (.int x3)] [] ci si (WL K adC adM σ τ) := by
  refine n_aload_n C.1 dL_law_983 rfl (i := 1) rfl ?_
  obtain ⟨r, σ2, τ2, hC, hM, hI2⟩ := hs  n σ τ hn hI
  refine h_callC C hroom (As := []) (rest := []) dL_law_984 (ct_X9_image hC) cw_X9_image aw_744 aw_745 aw_746 rfl rfl rfl (Nat.le_of_ble_eq_true rfl) rfl rfl (Nat.le_of_ble_eq_true rfl) (fun v ρ q => ?_)
  obtain ⟨rfl, rfl⟩ := q
  refine n_aload_n C.1 dL_law_987 rfl (i := 2) rfl ?_
  refine h_callM C hroom (As := []) (rest := [.int r]) dL_law_988 (ct_X10_image hM) cw_X10_image aw_1150 aw_1151 aw_1152 rfl rfl rfl (Nat.le_of_ble_eq_true rfl) rfl rfl (Nat.le_of_ble_eq_true rfl) (fun v ρ q => ?_)
  obtain ⟨rfl, rfl⟩ := q
  refine h_icmp_eq C.1 (tgt := 1046) dL_law_991 (by decide) rfl ?_
  exact kk _ _ hI2
set_option maxRecDepth 8000 in
theorem law_c21 {K : KT} {Inv : Nat → Sg → Sg → Prop} {adC adM : Nat → Nat} {σ τ : Sg} {b Ln i n ci si : Nat} {xs : Nat → Int32} {x3 : Int32} (C : CL K cL_law RL 4 40 adC adM) (hroom : ci ≤ (kR K).cells ∧ si ≤ (kR K).slots) (hX : va_X b Ln xs (ks K) (ks K).heap) (hbl : b < (ks K).heap.size) (hL31 : Ln ≤ 3072) (hx : x3 = nI i) (hi : i + 6 ≤ Ln) (hn : n < 512) (hI : Inv n σ τ) (hs : SimI Inv (fX9_restore) (fX10_restore))
    (kk : ∀ σ' τ', Inv (n + 1) σ' τ' → GW K 1046 [some (.ref b), some (.ref (adC 0)), some (.ref (adM 0)), some (.int x3)] [] ci si (WL K adC adM σ' τ')) : GW K 996 [some (.ref b), some (.ref (adC 0)), some (.ref (adM 0)), some (.int x3)] [] ci si (WL K adC adM σ τ) := by
  refine n_aload_n C.1 dL_law_996 rfl (i := 1) rfl ?_
  obtain ⟨r, σ2, τ2, hC, hM, hI2⟩ := hs  n σ τ hn hI
  refine h_callC C hroom (As := []) (rest := []) dL_law_997 (ct_X9_restore hC) cw_X9_restore aw_758 aw_759 aw_760 rfl rfl rfl (Nat.le_of_ble_eq_true rfl) rfl rfl (Nat.le_of_ble_eq_true rfl) (fun v ρ q => ?_)
  obtain ⟨rfl, rfl⟩ := q
  refine n_aload_n C.1 dL_law_1000 rfl (i := 2) rfl ?_
  refine h_callM C hroom (As := []) (rest := [.int r]) dL_law_1001 (ct_X10_restore hM) cw_X10_restore aw_1154 aw_1155 aw_1156 rfl rfl rfl (Nat.le_of_ble_eq_true rfl) rfl rfl (Nat.le_of_ble_eq_true rfl) (fun v ρ q => ?_)
  obtain ⟨rfl, rfl⟩ := q
  refine h_icmp_eq C.1 (tgt := 1046) dL_law_1004 (by decide) rfl ?_
  exact kk _ _ hI2
set_option maxRecDepth 8000 in
theorem law_c22 {K : KT} {Inv : Nat → Sg → Sg → Prop} {adC adM : Nat → Nat} {σ τ : Sg} {b Ln i n ci si : Nat} {xs : Nat → Int32} {x3 : Int32} (C : CL K cL_law RL 4 40 adC adM) (hroom : ci ≤ (kR K).cells ∧ si ≤ (kR K).slots) (hX : va_X b Ln xs (ks K) (ks K).heap) (hbl : b < (ks K).heap.size) (hL31 : Ln ≤ 3072) (hx : x3 = nI i) (hi : i + 6 ≤ Ln) (hn : n < 512) (hI : Inv n σ τ) (hs : ∀ (a0 : Int32), SimI Inv (fX9_count a0) (fX10_count a0))
    (kk : ∀ σ' τ', Inv (n + 1) σ' τ' → GW K 1046 [some (.ref b), some (.ref (adC 0)), some (.ref (adM 0)), some (.int x3)] [] ci si (WL K adC adM σ' τ')) : GW K 1009 [some (.ref b), some (.ref (adC 0)), some (.ref (adM 0)), some (.int x3)] [] ci si (WL K adC adM σ τ) := by
  refine n_aload_n C.1 dL_law_1009 rfl (i := 1) rfl ?_
  refine n_aload_n C.1 dL_law_1010 rfl (i := 0) rfl ?_
  refine n_iload_n C.1 dL_law_1011 rfl (i := 3) rfl ?_
  refine n_iconst C.1 dL_law_1012 (v := (1 : Int32)) (by decide) ?_
  refine h_iadd C.1 dL_law_1013 ?_
  refine h_sld C hX hbl (j := i + 1) dL_law_1014 (hx1 hx) (by omega) (by omega) ?_
  obtain ⟨r, σ2, τ2, hC, hM, hI2⟩ := hs (xs (i + 1)) n σ τ hn hI
  refine h_callC C hroom (As := [.int (xs (i + 1))]) (rest := []) dL_law_1015 (ct_X9_count hC) cw_X9_count aw_766 aw_767 aw_768 rfl rfl rfl (Nat.le_of_ble_eq_true rfl) rfl rfl (Nat.le_of_ble_eq_true rfl) (fun v ρ q => ?_)
  obtain ⟨rfl, rfl⟩ := q
  refine n_aload_n C.1 dL_law_1018 rfl (i := 2) rfl ?_
  refine n_aload_n C.1 dL_law_1019 rfl (i := 0) rfl ?_
  refine n_iload_n C.1 dL_law_1020 rfl (i := 3) rfl ?_
  refine n_iconst C.1 dL_law_1021 (v := (1 : Int32)) (by decide) ?_
  refine h_iadd C.1 dL_law_1022 ?_
  refine h_sld C hX hbl (j := i + 1) dL_law_1023 (hx1 hx) (by omega) (by omega) ?_
  refine h_callM C hroom (As := [.int (xs (i + 1))]) (rest := [.int r]) dL_law_1024 (ct_X10_count hM) cw_X10_count aw_1158 aw_1159 aw_1160 rfl rfl rfl (Nat.le_of_ble_eq_true rfl) rfl rfl (Nat.le_of_ble_eq_true rfl) (fun v ρ q => ?_)
  obtain ⟨rfl, rfl⟩ := q
  refine h_icmp_eq C.1 (tgt := 1046) dL_law_1027 (by decide) rfl ?_
  exact kk _ _ hI2
set_option maxRecDepth 8000 in
theorem law_c23 {K : KT} {Inv : Nat → Sg → Sg → Prop} {adC adM : Nat → Nat} {σ τ : Sg} {b Ln i n ci si : Nat} {xs : Nat → Int32} {x3 : Int32} (C : CL K cL_law RL 4 40 adC adM) (hroom : ci ≤ (kR K).cells ∧ si ≤ (kR K).slots) (hX : va_X b Ln xs (ks K) (ks K).heap) (hbl : b < (ks K).heap.size) (hL31 : Ln ≤ 3072) (hx : x3 = nI i) (hi : i + 6 ≤ Ln) (hn : n < 512) (hI : Inv n σ τ) (hs : SimJ Inv (fX9_digest) (fX10_digest))
    (kk : ∀ σ' τ', Inv (n + 1) σ' τ' → GW K 1046 [some (.ref b), some (.ref (adC 0)), some (.ref (adM 0)), some (.int x3)] [] ci si (WL K adC adM σ' τ')) : GW K 1032 [some (.ref b), some (.ref (adC 0)), some (.ref (adM 0)), some (.int x3)] [] ci si (WL K adC adM σ τ) := by
  refine n_aload_n C.1 dL_law_1032 rfl (i := 1) rfl ?_
  obtain ⟨r, σ2, τ2, hC, hM, hI2⟩ := hs  n σ τ hn hI
  refine h_callC C hroom (As := []) (rest := []) dL_law_1033 (ct_X9_digest hC) cw_X9_digest aw_770 aw_771 aw_772 rfl rfl rfl (Nat.le_of_ble_eq_true rfl) rfl rfl (Nat.le_of_ble_eq_true rfl) (fun v ρ q => ?_)
  obtain ⟨rfl, rfl⟩ := q
  refine n_aload_n C.1 dL_law_1036 rfl (i := 2) rfl ?_
  refine h_callM C hroom (As := []) (rest := [.long r]) dL_law_1037 (ct_X10_digest hM) cw_X10_digest aw_1166 aw_1167 aw_1168 rfl rfl rfl (Nat.le_of_ble_eq_true rfl) rfl rfl (Nat.le_of_ble_eq_true rfl) (fun v ρ q => ?_)
  obtain ⟨rfl, rfl⟩ := q
  refine h_lcmp C.1 dL_law_1040 ?_
  refine h_if_eq C.1 (tgt := 1046) dL_law_1041 (by decide) (fun _ => ?_) (fun q => absurd (lg_same _) q)
  exact kk _ _ hI2
set_option maxRecDepth 8000 in
theorem law_turn {K : KT} {Inv : Nat → Sg → Sg → Prop} {adC adM : Nat → Nat} {σ τ : Sg} {b Ln i n ci si : Nat} {xs : Nat → Int32} {x3 : Int32} (C : CL K cL_law RL 4 40 adC adM) (hroom : ci ≤ (kR K).cells ∧ si ≤ (kR K).slots) (hX : va_X b Ln xs (ks K) (ks K).heap) (hbl : b < (ks K).heap.size) (hL31 : Ln ≤ 3072) (hx : x3 = nI i) (hi : i + 6 ≤ Ln) (hn : n < 512) (hI : Inv n σ τ) (hs : Sim Inv) (hnx : ∀ n σ τ, Inv n σ τ → Inv (n + 1) σ τ)
    (kk : ∀ σ' τ', Inv (n + 1) σ' τ' → GW K 1046 [some (.ref b), some (.ref (adC 0)), some (.ref (adM 0)), some (.int x3)] [] ci si (WL K adC adM σ' τ')) : GW K 33 [some (.ref b), some (.ref (adC 0)), some (.ref (adM 0)), some (.int x3)] [.int (xs i &&& (31 : Int32))] ci si (WL K adC adM σ τ) := by
  by_cases c0 : (xs i &&& (31 : Int32)) = (0 : Int32)
  · refine h_tblIn C.1 (tgt := 144) (off := 111) c0 dL_law_33 (by decide) (by decide) (by decide) (by decide) ?_
    exact law_c0 C hroom hX hbl hL31 hx hi hn hI hs.1 kk
  by_cases c1 : (xs i &&& (31 : Int32)) = (1 : Int32)
  · refine h_tblIn C.1 (tgt := 197) (off := 164) c1 dL_law_33 (by decide) (by decide) (by decide) (by decide) ?_
    exact law_c1 C hroom hX hbl hL31 hx hi hn hI hs.2.1 kk
  by_cases c2 : (xs i &&& (31 : Int32)) = (2 : Int32)
  · refine h_tblIn C.1 (tgt := 210) (off := 177) c2 dL_law_33 (by decide) (by decide) (by decide) (by decide) ?_
    exact law_c2 C hroom hX hbl hL31 hx hi hn hI hs.2.2.1 kk
  by_cases c3 : (xs i &&& (31 : Int32)) = (3 : Int32)
  · refine h_tblIn C.1 (tgt := 223) (off := 190) c3 dL_law_33 (by decide) (by decide) (by decide) (by decide) ?_
    exact law_c3 C hroom hX hbl hL31 hx hi hn hI hs.2.2.2.1 kk
  by_cases c4 : (xs i &&& (31 : Int32)) = (4 : Int32)
  · refine h_tblIn C.1 (tgt := 236) (off := 203) c4 dL_law_33 (by decide) (by decide) (by decide) (by decide) ?_
    exact law_c4 C hroom hX hbl hL31 hx hi hn hI hs.2.2.2.2.1 kk
  by_cases c5 : (xs i &&& (31 : Int32)) = (5 : Int32)
  · refine h_tblIn C.1 (tgt := 269) (off := 236) c5 dL_law_33 (by decide) (by decide) (by decide) (by decide) ?_
    exact law_c5 C hroom hX hbl hL31 hx hi hn hI hs.2.2.2.2.2.1 kk
  by_cases c6 : (xs i &&& (31 : Int32)) = (6 : Int32)
  · refine h_tblIn C.1 (tgt := 332) (off := 299) c6 dL_law_33 (by decide) (by decide) (by decide) (by decide) ?_
    exact law_c6 C hroom hX hbl hL31 hx hi hn hI hs.2.2.2.2.2.2.1 kk
  by_cases c7 : (xs i &&& (31 : Int32)) = (7 : Int32)
  · refine h_tblIn C.1 (tgt := 365) (off := 332) c7 dL_law_33 (by decide) (by decide) (by decide) (by decide) ?_
    exact law_c7 C hroom hX hbl hL31 hx hi hn hI hs.2.2.2.2.2.2.2.1 kk
  by_cases c8 : (xs i &&& (31 : Int32)) = (8 : Int32)
  · refine h_tblIn C.1 (tgt := 398) (off := 365) c8 dL_law_33 (by decide) (by decide) (by decide) (by decide) ?_
    exact law_c8 C hroom hX hbl hL31 hx hi hn hI hs.2.2.2.2.2.2.2.2.1 kk
  by_cases c9 : (xs i &&& (31 : Int32)) = (9 : Int32)
  · refine h_tblIn C.1 (tgt := 441) (off := 408) c9 dL_law_33 (by decide) (by decide) (by decide) (by decide) ?_
    exact law_c9 C hroom hX hbl hL31 hx hi hn hI hs.2.2.2.2.2.2.2.2.2.1 kk
  by_cases c10 : (xs i &&& (31 : Int32)) = (10 : Int32)
  · refine h_tblIn C.1 (tgt := 474) (off := 441) c10 dL_law_33 (by decide) (by decide) (by decide) (by decide) ?_
    exact law_c10 C hroom hX hbl hL31 hx hi hn hI hs.2.2.2.2.2.2.2.2.2.2.1 kk
  by_cases c11 : (xs i &&& (31 : Int32)) = (11 : Int32)
  · refine h_tblIn C.1 (tgt := 543) (off := 510) c11 dL_law_33 (by decide) (by decide) (by decide) (by decide) ?_
    exact law_c11 C hroom hX hbl hL31 hx hi hn hI hs.2.2.2.2.2.2.2.2.2.2.2.1 kk
  by_cases c12 : (xs i &&& (31 : Int32)) = (12 : Int32)
  · refine h_tblIn C.1 (tgt := 566) (off := 533) c12 dL_law_33 (by decide) (by decide) (by decide) (by decide) ?_
    exact law_c12 C hroom hX hbl hL31 hx hi hn hI hs.2.2.2.2.2.2.2.2.2.2.2.2.1 kk
  by_cases c13 : (xs i &&& (31 : Int32)) = (13 : Int32)
  · refine h_tblIn C.1 (tgt := 599) (off := 566) c13 dL_law_33 (by decide) (by decide) (by decide) (by decide) ?_
    exact law_c13 C hroom hX hbl hL31 hx hi hn hI hs.2.2.2.2.2.2.2.2.2.2.2.2.2.1 kk
  by_cases c14 : (xs i &&& (31 : Int32)) = (14 : Int32)
  · refine h_tblIn C.1 (tgt := 632) (off := 599) c14 dL_law_33 (by decide) (by decide) (by decide) (by decide) ?_
    exact law_c14 C hroom hX hbl hL31 hx hi hn hI hs.2.2.2.2.2.2.2.2.2.2.2.2.2.2.1 kk
  by_cases c15 : (xs i &&& (31 : Int32)) = (15 : Int32)
  · refine h_tblIn C.1 (tgt := 655) (off := 622) c15 dL_law_33 (by decide) (by decide) (by decide) (by decide) ?_
    exact law_c15 C hroom hX hbl hL31 hx hi hn hI hs.2.2.2.2.2.2.2.2.2.2.2.2.2.2.2.1 kk
  by_cases c16 : (xs i &&& (31 : Int32)) = (16 : Int32)
  · refine h_tblIn C.1 (tgt := 734) (off := 701) c16 dL_law_33 (by decide) (by decide) (by decide) (by decide) ?_
    exact law_c16 C hroom hX hbl hL31 hx hi hn hI hs.2.2.2.2.2.2.2.2.2.2.2.2.2.2.2.2.1 kk
  by_cases c17 : (xs i &&& (31 : Int32)) = (17 : Int32)
  · refine h_tblIn C.1 (tgt := 813) (off := 780) c17 dL_law_33 (by decide) (by decide) (by decide) (by decide) ?_
    exact law_c17 C hroom hX hbl hL31 hx hi hn hI hs.2.2.2.2.2.2.2.2.2.2.2.2.2.2.2.2.2.1 kk
  by_cases c18 : (xs i &&& (31 : Int32)) = (18 : Int32)
  · refine h_tblIn C.1 (tgt := 877) (off := 844) c18 dL_law_33 (by decide) (by decide) (by decide) (by decide) ?_
    exact law_c18 C hroom hX hbl hL31 hx hi hn hI hs.2.2.2.2.2.2.2.2.2.2.2.2.2.2.2.2.2.2.1 kk
  by_cases c19 : (xs i &&& (31 : Int32)) = (19 : Int32)
  · refine h_tblIn C.1 (tgt := 920) (off := 887) c19 dL_law_33 (by decide) (by decide) (by decide) (by decide) ?_
    exact law_c19 C hroom hX hbl hL31 hx hi hn hI hs.2.2.2.2.2.2.2.2.2.2.2.2.2.2.2.2.2.2.2.1 kk
  by_cases c20 : (xs i &&& (31 : Int32)) = (20 : Int32)
  · refine h_tblIn C.1 (tgt := 983) (off := 950) c20 dL_law_33 (by decide) (by decide) (by decide) (by decide) ?_
    exact law_c20 C hroom hX hbl hL31 hx hi hn hI hs.2.2.2.2.2.2.2.2.2.2.2.2.2.2.2.2.2.2.2.2.1 kk
  by_cases c21 : (xs i &&& (31 : Int32)) = (21 : Int32)
  · refine h_tblIn C.1 (tgt := 996) (off := 963) c21 dL_law_33 (by decide) (by decide) (by decide) (by decide) ?_
    exact law_c21 C hroom hX hbl hL31 hx hi hn hI hs.2.2.2.2.2.2.2.2.2.2.2.2.2.2.2.2.2.2.2.2.2.1 kk
  by_cases c22 : (xs i &&& (31 : Int32)) = (22 : Int32)
  · refine h_tblIn C.1 (tgt := 1009) (off := 976) c22 dL_law_33 (by decide) (by decide) (by decide) (by decide) ?_
    exact law_c22 C hroom hX hbl hL31 hx hi hn hI hs.2.2.2.2.2.2.2.2.2.2.2.2.2.2.2.2.2.2.2.2.2.2.1 kk
  by_cases c23 : (xs i &&& (31 : Int32)) = (23 : Int32)
  · refine h_tblIn C.1 (tgt := 1032) (off := 999) c23 dL_law_33 (by decide) (by decide) (by decide) (by decide) ?_
    exact law_c23 C hroom hX hbl hL31 hx hi hn hI hs.2.2.2.2.2.2.2.2.2.2.2.2.2.2.2.2.2.2.2.2.2.2.2 kk
  refine h_tblOut C.1 (tgt := 1046) [(0 : Int32), (1 : Int32), (2 : Int32), (3 : Int32), (4 : Int32), (5 : Int32), (6 : Int32), (7 : Int32), (8 : Int32), (9 : Int32), (10 : Int32), (11 : Int32), (12 : Int32), (13 : Int32), (14 : Int32), (15 : Int32), (16 : Int32), (17 : Int32), (18 : Int32), (19 : Int32), (20 : Int32), (21 : Int32), (22 : Int32), (23 : Int32)] (by decide) ⟨c0, c1, c2, c3, c4, c5, c6, c7, c8, c9, c10, c11, c12, c13, c14, c15, c16, c17, c18, c19, c20, c21, c22, c23, trivial⟩ dL_law_33 (by decide) ?_
  exact kk σ τ (hnx n σ τ hI)
theorem law_end {Ln i : Nat} (h : ¬ nI Ln - (6 : Int32) < nI i) (hL : Ln ≤ 3072) (hi : i ≤ 4000) : i + 6 ≤ Ln := by
  rw [Int32.lt_iff_toInt_lt, show (6 : Int32) = nI 6 from rfl, pk_sub_toInt (by omega) (by decide), nI_toInt (by omega)] at h
  omega
set_option maxRecDepth 8000 in
theorem law_loop {K : KT} {Inv : Nat → Sg → Sg → Prop} {adC adM : Nat → Nat} {b Ln ci si : Nat} {xs : Nat → Int32} (C : CL K cL_law RL 4 40 adC adM) (hroom : ci ≤ (kR K).cells ∧ si ≤ (kR K).slots) (hX : va_X b Ln xs (ks K) (ks K).heap) (hbl : b < (ks K).heap.size) (hL31 : Ln ≤ 3072) (hs : Sim Inv) (hnx : ∀ n σ τ, Inv n σ τ → Inv (n + 1) σ τ)
    (kend : ∀ (L : List (Option Value)) σ τ, GW K 1052 L [] ci si (WL K adC adM σ τ)) : ∀ (k n : Nat) (σ τ : Sg) (x3 : Int32), n + k = 513 → x3 = nI (6 * n) → Inv n σ τ → GW K 18 [some (.ref b), some (.ref (adC 0)), some (.ref (adM 0)), some (.int x3)] [] ci si (WL K adC adM σ τ)
  | 0, n, σ, τ, x3, hk, hx, hI => by
    refine n_iload_n C.1 dL_law_18 rfl (i := 3) rfl ?_
    refine n_aload_n C.1 dL_law_19 rfl (i := 0) rfl ?_
    refine h_slen C hX hbl dL_law_20 ?_
    refine n_bipush C.1 dL_law_21 (v := (6 : Int32)) (by decide) ?_
    refine h_isub C.1 dL_law_23 ?_
    refine h_icmp_gt C.1 (tgt := 1052) dL_law_24 (by decide) (fun _ => kend _ _ _) (fun q => ?_)
    rw [hx] at q
    have := law_end q hL31 (by omega)
    omega
  | k + 1, n, σ, τ, x3, hk, hx, hI => by
    refine n_iload_n C.1 dL_law_18 rfl (i := 3) rfl ?_
    refine n_aload_n C.1 dL_law_19 rfl (i := 0) rfl ?_
    refine h_slen C hX hbl dL_law_20 ?_
    refine n_bipush C.1 dL_law_21 (v := (6 : Int32)) (by decide) ?_
    refine h_isub C.1 dL_law_23 ?_
    refine h_icmp_gt C.1 (tgt := 1052) dL_law_24 (by decide) (fun _ => kend _ _ _) (fun q => ?_)
    rw [hx] at q
    have hi := law_end q hL31 (by omega)
    refine n_aload_n C.1 dL_law_27 rfl (i := 0) rfl ?_
    refine n_iload_n C.1 dL_law_28 rfl (i := 3) rfl ?_
    refine h_sld C hX hbl (j := 6 * n) dL_law_29 hx (by omega) (by omega) ?_
    refine n_bipush C.1 dL_law_30 (v := (31 : Int32)) (by decide) ?_
    refine h_iand C.1 dL_law_32 ?_
    refine law_turn C hroom hX hbl hL31 hx hi (by omega) hI hs hnx (fun σ' τ' hI' => ?_)
    refine n_iinc C.1 (i := 3) (y := nI (6 * (n + 1))) (L' := [some (.ref b), some (.ref (adC 0)), some (.ref (adM 0)), some (.int (nI (6 * (n + 1))))]) dL_law_1046 rfl (by rw [hx, show Int32.ofInt 6 = nI 6 from rfl, nI_add, show 6 * n + 6 = 6 * (n + 1) by omega]) (Nat.le_of_ble_eq_true rfl) rfl ?_
    refine n_goto C.1 (tgt := 18) dL_law_1049 (by decide) ?_
    exact law_loop C hroom hX hbl hL31 hs hnx kend k (n + 1) σ' τ' _ (by omega) rfl hI'
theorem arr_prim {args : Array Value} {s : State} {ty : FieldType} (h : (Cond.arrayClass ty).before args s = true) (hp : ∀ c, va_RA s c ty = (s.vm.findClass ("[" ++ ty.toString) = some c)) (hk : refKind ty = false) : ∃ c, ArrOfT s c ty ∧ va_RA s c ty := by
  obtain ⟨c, k, comp, h1, h2, h3⟩ := Cond.arrayClass_spec h
  exact ⟨c, fun n z => ⟨(fun q hq => by cases hq), k, h2, comp, h3⟩, by rw [hp]; exact h1⟩
set_option maxHeartbeats 4000000 in
set_option maxRecDepth 20000 in
theorem whole_of {Inv : Nat → Sg → Sg → Prop} (hs : Sim Inv) (hnx : ∀ n σ τ, Inv n σ τ → Inv (n + 1) σ τ) (h0 : Inv 0 σX9 σX10) {p : Program} {e : Env} {s : State} {m : MethodId} {below : List Frame} {meth : Method} {c : Code} (l : Launch) {b L : Nat} {xs : Nat → Int32} (hL : L ≤ 3072) (C0 : lw_At p s m meth c b L xs) : W p l e room_1 s m #[Value.ref b] below meth c s.heap [] 0 0 (lw_Z below #[Value.ref b] s) (entryFrame m ([Value.ref b] : List Value).toArray 4) := by
  obtain ⟨hx, hb, hr, hml, hown, hts, hX, hbl, hlocks, hgv⟩ := id C0
  have hta : ∀ w ∈ AL, w.before #[Value.ref b] s = true := fun w h => hts w (List.mem_filter.mp h).1
  have hfl := flat_of_before _ hgv
  obtain ⟨c0, i0, k0⟩ := u_known (C := RX0) (T := TX0) (N := 6) (n := 6) hta inA0 (hta _ aw_158)
  obtain ⟨c1, i1, k1⟩ := u_known (C := RX1) (T := TX1) (N := 1) (n := 1) hta inA1 (hta _ aw_147)
  obtain ⟨c2, i2, k2⟩ := u_known (C := RX2) (T := TX2) (N := 6) (n := 6) hta inA2 (hta _ aw_277)
  obtain ⟨c3, i3, k3⟩ := u_known (C := RX3) (T := TX3) (N := 4) (n := 4) hta inA3 (hta _ aw_305)
  obtain ⟨c4, i4, k4⟩ := u_known (C := RX4) (T := TX4) (N := 4) (n := 4) hta inA4 (hta _ aw_254)
  obtain ⟨c5, i5, k5⟩ := u_known (C := RX5) (T := TX5) (N := 4) (n := 4) hta inA5 (hta _ aw_330)
  obtain ⟨c6, i6, k6⟩ := u_known (C := RX6) (T := TX6) (N := 7) (n := 7) hta inA6 (hta _ aw_68)
  obtain ⟨c7, i7, k7⟩ := u_known (C := RX7) (T := TX7) (N := 8) (n := 8) hta inA7 (hta _ aw_105)
  obtain ⟨c8, i8, k8⟩ := u_known (C := RX8) (T := TX8) (N := 17) (n := 17) hta inA8 (hta _ aw_99)
  obtain ⟨c9, i9, k9⟩ := u_known (C := RX9) (T := TX9) (N := 12) (n := 12) hta inA9 (hta _ aw_60)
  obtain ⟨c10, i10, k10⟩ := u_known (C := RX10) (T := TX10) (N := 52) (n := 52) hta inA10 (hta _ aw_784)
  obtain ⟨dC, dI, hKc⟩ : ∃ (dC : Nat → ClassId) (dI : Nat → Nat → Nat), ∀ (k : Nat) (q : vw_C), vwCl[k]? = some q → u_Kn s q.1 q.2.1 q.2.2 (dC k) (dI k) := by
    refine ⟨fun k => if k = 0 then c0 else if k = 1 then c1 else if k = 2 then c2 else if k = 3 then c3 else if k = 4 then c4 else if k = 5 then c5 else if k = 6 then c6 else if k = 7 then c7 else if k = 8 then c8 else if k = 9 then c9 else c10, fun k => if k = 0 then i0 else if k = 1 then i1 else if k = 2 then i2 else if k = 3 then i3 else if k = 4 then i4 else if k = 5 then i5 else if k = 6 then i6 else if k = 7 then i7 else if k = 8 then i8 else if k = 9 then i9 else i10, ?_⟩
    intro k q hq
    match k, hq with
    | 0, hq => cases hq; exact k0
    | 1, hq => cases hq; exact k1
    | 2, hq => cases hq; exact k2
    | 3, hq => cases hq; exact k3
    | 4, hq => cases hq; exact k4
    | 5, hq => cases hq; exact k5
    | 6, hq => cases hq; exact k6
    | 7, hq => cases hq; exact k7
    | 8, hq => cases hq; exact k8
    | 9, hq => cases hq; exact k9
    | 10, hq => cases hq; exact k10
    | k + 11, hq => simp [vwCl] at hq
  obtain ⟨y0, ya0, yb0⟩ := arr_prim (s := s) (ty := .int) (hta _ aw_97) (fun _ => rfl) rfl
  obtain ⟨y1, ya1, yb1⟩ := arr_prim (s := s) (ty := .long) (hta _ aw_351) (fun _ => rfl) rfl
  obtain ⟨y2, ya2, yb2⟩ := arr_prim (s := s) (ty := .boolean) (hta _ aw_328) (fun _ => rfl) rfl
  have hO3 : (Cond.arrayOver (.object RX0)).before #[Value.ref b] s = true := hts _ (tk_1 _ (List.mem_of_getElem? (i := 207) rfl))
  have hO4 : (Cond.arrayOver (.array .int)).before #[Value.ref b] s = true := hts _ (tk_1 _ (List.mem_of_getElem? (i := 66) rfl))
  obtain ⟨comp3, y3, kk3, g1, g2, g3, g4, g5⟩ := Cond.arrayOver_spec hO3
  obtain ⟨comp4, y4, kk4, f1, f2, f3, f4, f5⟩ := (va_AOA.of hO4).spec
  obtain ⟨cys, hcys⟩ : ∃ cys : Nat → ClassId, cys = fun k => if k = 0 then y0 else if k = 1 then y1 else if k = 2 then y2 else if k = 3 then y3 else y4 := ⟨_, rfl⟩
  have hK : va_K (dC, dI) vwCl (tysOf cys) s := by
    refine ⟨hKc, fun k q h => ?_⟩
    subst hcys
    match k, h with
    | 0, h => cases h; exact ⟨ya0, yb0⟩
    | 1, h => cases h; exact ⟨ya1, yb1⟩
    | 2, h => cases h; exact ⟨ya2, yb2⟩
    | 3, h => cases h; exact ⟨fun n z => ⟨(fun q hq => by cases hq), kk3, g3, comp3, g4⟩, ⟨kk3, comp3, g3, g4, g1, g5⟩⟩
    | 4, h => cases h; exact ⟨fun n z => ⟨(fun q hq => by cases hq), kk4, f3, comp4, f4⟩, f5⟩
    | k + 5, h => simp [tysOf] at h
  have eLEAST0 := va_eqt (hfl (Cond.eq (.elem (Term.static "IceForCoast$Coins" "LEAST" "[I") (.int 0)) (.int 1)) (by decide +kernel))
  have eLEAST1 := va_eqt (hfl (Cond.eq (.elem (Term.static "IceForCoast$Coins" "LEAST" "[I") (.int 1)) (.int 0)) (by decide +kernel))
  have eLEAST2 := va_eqt (hfl (Cond.eq (.elem (Term.static "IceForCoast$Coins" "LEAST" "[I") (.int 2)) (.int 0)) (by decide +kernel))
  obtain ⟨tLEAST, evLEAST, TLEAST⟩ := va_Tof (args := #[Value.ref b]) (s := s) (tm := (Term.static "IceForCoast$Coins" "LEAST" "[I")) (ty := .int) (N := 3) (f := fun j => .int (stL [1, 0, 0] j)) (A := fun q => s.heap.size ≤ q) (by decide) (hfl (Cond.arrayOf (Term.static "IceForCoast$Coins" "LEAST" "[I") .int) (by decide +kernel)) (va_eqt (hfl (Cond.eq (.length (Term.static "IceForCoast$Coins" "LEAST" "[I")) (.int 3)) (by decide +kernel))) (fun j hj => by
    match j, hj with
    | 0, _ => exact eLEAST0
    | 1, _ => exact eLEAST1
    | 2, _ => exact eLEAST2
    | n + 3, h => omega) (fun a h => by omega)
  have ZLEAST : va_Z "IceForCoast$Coins" "LEAST" "[I" (.ref tLEAST) (fun q => s.heap.size ≤ q) s s.heap := va_Zof (hts _ (tk_3 _ (List.mem_of_getElem? (i := 20) rfl))) (hta _ aw_50) evLEAST (fun a h => by omega)
  have eMOST0 := va_eqt (hfl (Cond.eq (.elem (Term.static "IceForCoast$Coins" "MOST" "[I") (.int 0)) (.int 9)) (by decide +kernel))
  have eMOST1 := va_eqt (hfl (Cond.eq (.elem (Term.static "IceForCoast$Coins" "MOST" "[I") (.int 1)) (.int 9)) (by decide +kernel))
  have eMOST2 := va_eqt (hfl (Cond.eq (.elem (Term.static "IceForCoast$Coins" "MOST" "[I") (.int 2)) (.int 99)) (by decide +kernel))
  obtain ⟨tMOST, evMOST, TMOST⟩ := va_Tof (args := #[Value.ref b]) (s := s) (tm := (Term.static "IceForCoast$Coins" "MOST" "[I")) (ty := .int) (N := 3) (f := fun j => .int (stL [9, 9, 99] j)) (A := fun q => s.heap.size ≤ q) (by decide) (hfl (Cond.arrayOf (Term.static "IceForCoast$Coins" "MOST" "[I") .int) (by decide +kernel)) (va_eqt (hfl (Cond.eq (.length (Term.static "IceForCoast$Coins" "MOST" "[I")) (.int 3)) (by decide +kernel))) (fun j hj => by
    match j, hj with
    | 0, _ => exact eMOST0
    | 1, _ => exact eMOST1
    | 2, _ => exact eMOST2
    | n + 3, h => omega) (fun a h => by omega)
  have ZMOST : va_Z "IceForCoast$Coins" "MOST" "[I" (.ref tMOST) (fun q => s.heap.size ≤ q) s s.heap := va_Zof (hts _ (tk_3 _ (List.mem_of_getElem? (i := 22) rfl))) (hta _ aw_50) evMOST (fun a h => by omega)
  have hN : ∀ w ∈ NW, va_Nw w s := fun w hw => by
    have hn := (List.mem_filter.mp hw).2
    have ht := hts w (List.mem_filter.mp hw).1
    cases w with
    | fieldLinkNest => exact va_Nw.of rfl ht
    | methodLinkNest => exact va_Nw.of rfl ht
    | _ => cases hn
  have hEv : Ev (fun q => s.heap.size ≤ q) s := ⟨hN, ⟨_, ZLEAST, TLEAST⟩, ⟨_, ZMOST, TMOST⟩⟩
  have hEi : Ei s := ⟨hN, va_AO.of hO3, va_AOA.of hO4⟩
  let K : KT := (p, l, e, room_1, s, m, #[Value.ref b], below, meth, c, (dC, dI), cys, fun _ => 0, fun q => s.heap.size ≤ q, lw_Z below #[Value.ref b] s)
  have hCb : Cb K cL_law RL 4 40 := ⟨hx, hb, hml, hown, hta, hlocks, by show 40 ≤ 2048; decide, by show 40 * 40 ≤ 84000; decide⟩
  have C : CxI K cL_law RL 4 40 98 4254 := ⟨hCb, trivial, hK, fun q h => h, hEi, by show 98 ≤ 600000; decide, by show 4254 ≤ 7302250; decide⟩
  have hG : GW K 0 (pad (lsl [.ref b]) 4) [] 0 0 (WI K [] σz (kad K)) := by
    show GW K 0 [some (.ref b), none, none, none] [] 0 0 (WI K _ _ _)
    refine n_new C (kx := 9) (sl := [(4, 0), (4, 0), (4, 0), (4, 0), (4, 0), (4, 0), (4, 0), (4, 0), (4, 0), (0, 0), (0, 0), (0, 0)]) dL_law_0 rfl inA9 tyX9_ok aw_59 aw_60 aw_46 (by decide) df9 (Nat.le_of_ble_eq_true rfl) (Nat.le_of_ble_eq_true rfl) (fun a1 e1 w1 => ?_)
    show GW K 3 [some (.ref b), none, none, none] [.ref (a1 0)] 1 12 (WI K _ _ a1)
    refine n_dup C.1 dL_law_3 rfl ?_
    refine n_call C (n := 0) (Y := []) cn_X9 dL_law_4 cwi_X9 (Or.inl aw_61) aw_62 (by decide) (Nat.le_of_ble_eq_true rfl) rfl rfl (Nat.le_of_ble_eq_true rfl) (Nat.le_of_ble_eq_true rfl) (Nat.le_of_ble_eq_true rfl) (Nat.le_of_ble_eq_true rfl) rfl w1 (fun a2 e2 cl9 => ?_)
    rw [← e2 0 (Nat.le_of_ble_eq_true rfl)]
    show GW K 7 [some (.ref b), none, none, none] [.ref (a2 0)] 81 1746 (WI K _ _ a2)
    refine n_astore_n C.1 (i := 1) (L' := [some (.ref b), some (.ref (a2 0)), none, none]) dL_law_7 rfl (Nat.le_of_ble_eq_true rfl) rfl ?_
    refine n_new C (kx := 10) (sl := [(4, 0), (0, 0), (0, 0), (0, 0), (0, 0), (0, 0), (0, 0), (4, 0), (4, 0), (0, 0), (0, 0), (0, 0), (0, 0), (4, 0), (4, 0), (0, 0), (4, 0), (0, 0), (0, 0), (0, 0), (0, 0), (4, 0), (0, 0), (0, 0), (0, 0), (0, 0), (0, 0), (0, 0), (0, 0), (0, 0), (4, 0), (4, 0), (4, 0), (0, 0), (0, 0), (0, 0), (0, 0), (0, 0), (4, 0), (4, 0), (0, 0), (4, 0), (4, 0), (0, 0), (0, 0), (0, 0), (0, 0), (0, 0), (0, 0), (4, 0), (4, 0), (1, 0)]) dL_law_8 rfl inA10 tyX10_ok aw_783 aw_784 aw_56 (by decide) df10 (Nat.le_of_ble_eq_true rfl) (Nat.le_of_ble_eq_true rfl) (fun a3 e3 w3 => ?_)
    rw [← e3 0 (Nat.le_of_ble_eq_true rfl)]
    show GW K 11 [some (.ref b), some (.ref (a3 0)), none, none] [.ref (a3 81)] 82 1798 (WI K _ _ a3)
    refine n_dup C.1 dL_law_11 rfl ?_
    refine n_call C (n := 81) (Y := [] ++ layC) cn_X10 dL_law_12 cwi_X10 (Or.inl aw_785) aw_786 (by decide) (Nat.le_of_ble_eq_true rfl) rfl rfl (Nat.le_of_ble_eq_true rfl) (Nat.le_of_ble_eq_true rfl) (Nat.le_of_ble_eq_true rfl) (Nat.le_of_ble_eq_true rfl) rfl w3 (fun a4 e4 cl10 => ?_)
    rw [← e4 0 (Nat.le_of_ble_eq_true rfl), ← e4 81 (Nat.le_of_ble_eq_true rfl)]
    show GW K 15 [some (.ref b), some (.ref (a4 0)), none, none] [.ref (a4 81)] 98 4254 (WI K (([] ++ layC) ++ layM) (sapp 81 (sapp 0 σz σX9) σX10) a4)
    refine n_astore_n C.1 (i := 2) (L' := [some (.ref b), some (.ref (a4 0)), some (.ref (a4 81)), none]) dL_law_15 rfl (Nat.le_of_ble_eq_true rfl) rfl ?_
    refine n_iconst C.1 dL_law_16 (v := (0 : Int32)) (by decide) ?_
    refine n_istore_n C.1 (i := 3) (L' := [some (.ref b), some (.ref (a4 0)), some (.ref (a4 81)), some (.int (0 : Int32))]) dL_law_17 rfl (Nat.le_of_ble_eq_true rfl) rfl ?_
    intro H locs ls hP hLs
    have lenC : layC.length = 81 := rfl
    have lenM : layM.length = 17 := rfl
    have lenA : (([] ++ layC) ++ layM).length = 98 := rfl
    have hw1 : wd cys a4 (sapp 81 (sapp 0 σz σX9) σX10) 0 layC = wd cys a4 σX9 0 layC := by
      have := wd_shift (cys := cys) (ad := a4) (ad' := a4) (σ := σX9) (σ' := sapp 81 (sapp 0 σz σX9) σX10) (n := 0) (N := 81) (fun j _ => by rw [Nat.zero_add]) layC 0 (fun i sh h => by
        have hl := lay_lt h
        rw [lenC] at hl
        have hc := cl9 i sh h
        rw [Nat.zero_add, Nat.zero_add]
        refine ⟨hl, hc, (sapp_I hl).trans ?_, (sapp_J hl).trans ?_, fun k => (sapp_R hl k).trans ?_⟩
        · have := sapp_I2 (n := 0) (o := i) (σ := σz) (σ' := σX9); rw [Nat.zero_add] at this; exact this
        · have := sapp_J2 (n := 0) (o := i) (σ := σz) (σ' := σX9); rw [Nat.zero_add] at this; exact this
        · have := sapp_R2 (n := 0) (o := i) (σ := σz) (σ' := σX9) k; rw [Nat.zero_add] at this; exact this)
      exact this
    have hw2 : wd cys a4 (sapp 81 (sapp 0 σz σX9) σX10) 81 layM = wd cys (fun i => a4 (81 + i)) σX10 0 layM := by
      have := wd_shift (cys := cys) (ad := fun i => a4 (81 + i)) (ad' := a4) (σ := σX10) (σ' := sapp 81 (sapp 0 σz σX9) σX10) (n := 81) (N := 17) (fun j _ => rfl) layM 0 (fun i sh h => by
        have hl := lay_lt h
        rw [lenM] at hl
        have hc := cl10 i sh h
        rw [Nat.zero_add]
        exact ⟨hl, hc, sapp_I2, sapp_J2, fun k => sapp_R2 k⟩)
      exact this
    have hPw : va_P (dC, dI) vwCl (wd cys a4 σX9 0 layC ++ wd cys (fun i => a4 (81 + i)) σX10 0 layM) H := by
      have h1 : va_P (dC, dI) vwCl (wd cys a4 (sapp 81 (sapp 0 σz σX9) σX10) 0 (([] ++ layC) ++ layM)) H := hP.1
      rw [wd_app, List.nil_append, lenC, Nat.zero_add, hw1, hw2] at h1
      exact h1
    have hP1 : va_P (dC, dI) vwCl (wd cys a4 σX9 0 layC) H := fun k q h => hPw k q (by rw [List.getElem?_append_left (List.getElem?_eq_some_iff.mp h).1]; exact h)
    have hP2 : va_P (dC, dI) vwCl (wd cys (fun i => a4 (81 + i)) σX10 0 layM) H := fun k q h => hPw ((wd cys a4 σX9 0 layC).length + k) q (by rw [List.getElem?_append_right (Nat.le_add_right _ _), Nat.add_sub_cancel_left]; exact h)
    have hinj := hP.2.2.1
    have hAa := hP.2.2.2.1
    rw [lenA] at hinj hAa
    have hCL : CL K cL_law RL 4 40 a4 (fun i => a4 (81 + i)) := by
      refine ⟨hCb, hK, rfl, hEv, fun i j hi hj h => hinj i j (by rw [lenC] at hi; omega) (by rw [lenC] at hj; omega) h, fun i j hi hj h => ?_, fun i j hi hj h => ?_, fun i hi => hAa i (by rw [lenC] at hi; omega), fun i hi => hAa _ (by rw [lenM] at hi; omega)⟩
      · rw [lenM] at hi hj
        have := hinj _ _ (by omega) (by omega) h
        omega
      · rw [lenC] at hi
        rw [lenM] at hj
        have := hinj _ _ (by omega) (by omega) h
        omega
    have hroom : 98 ≤ (kR K).cells ∧ 4254 ≤ (kR K).slots := ⟨by show 98 ≤ 600000; decide, by show 4254 ≤ 7302250; decide⟩
    have kend : ∀ (L : List (Option Value)) σ τ, GW K 1052 L [] 98 4254 (WL K a4 (fun i => a4 (81 + i)) σ τ) := fun L σ τ H locs ls hP hL => by
      refine lv_iconst hx hb dL_law_1052 (v := (1 : Int32)) (by decide) ?_
      refine va_forget (fun q hq => hP.2.2.2.2 q hq) ?_
      refine W.widen (k := 600000) (n := 7302250) (by decide) (by decide) ?_
      exact lw_ret hx hb hr hlocks dL_law_1053
    exact law_loop (xs := xs) hCL hroom hX hbl hL hs hnx kend 513 0 σX9 σX10 (0 : Int32) rfl nI_0.symm h0 H locs ls ⟨hP1, hP2, hP.2.1⟩ hLs
  rw [lg_entry_eq]
  exact hG s.heap [] _ ⟨(fun k q h => by simp [wd] at h), va_S.rf, (fun i j hi => absurd hi (Nat.not_lt_zero _)), (fun i hi => absurd hi (Nat.not_lt_zero _)), (fun o k _ => ⟨rfl, rfl⟩), (fun i sh h => by simp at h)⟩ (lx_entry [.ref b] (Nat.le_of_ble_eq_true rfl))
