/-! THE CLAIM OUT OF ONE WALK OF THE LAW'S BODY. Your part is whole_start (and what it stands on); all else here is the same for every law, but numbers. -/
def R_law : String := "EmptyHatLaw"
def lw_P (b : Addr) (xs : List Int32) (args : Array Value) (s : State) : Prop := args = #[.ref b] ∧ s.IntsAt b xs ∧ xs.length ≤ 3072 ∧ (Jvm.Cond.and given_1 narrow_1).before args s = true
def lw_Q (_ : Array Value) (s : State) (o : Outcome) (t : State) : Prop := o = .returned (some (.int 1)) ∧ Framed s o t [] 600000 7302250
def lw_Z (below : List Frame) (a : Array Value) (s : State) : State → Prop := fun t => ∃ o, t.status = .running ∧ Ended t below o ∧ lw_Q a s o t
/-- the law's own end, with 1 on the stack, nothing written that was there before, its room as the claim has it -/
theorem lw_ret {p : Program} {l : Launch} {e : Env} {s : State} {m : MethodId} {below : List Frame} {meth : Method} {c : Code} {b : Nat} (hx : p.tables.exec = Jvm.exec) (hb : c.code = code) (hr : meth.sig.returnType = ret) (hlocks : meth.locks = false) {pc : Nat} {H : Heap} {ls : Array Slot} (hdg : decode code pc = .ok (.ireturn, 1)) : W p l e room_1 s m #[Value.ref b] below meth c H [] 600000 7302250 (lw_Z below #[Value.ref b] s) (F0 m pc ls [.int 1]) := by
  intro T hT X
  obtain ⟨fs, hret, hrun, hended, hW, hframe⟩ := X.leave (v := some (.int 1)) (hlocks := hlocks) (fun h => by rw [hr] at h; cases h)
  have hmeth' : T.vm.method? m = some meth := X.method'
  refine ⟨T.setFrames fs, ?_, .returned (some (.int 1)), hrun, hended, rfl, ⟨_, rfl⟩, hW, hframe⟩
  jvm_step X.here [X.here.top, hx, hb, hdg, hmeth', hr, ret, narrow_b1]
  (try refine ⟨rfl, ?_⟩); (try refine ⟨rfl, ?_⟩)
  first | (intro acts; rw [hret _ acts rfl rfl rfl]) | rw [hret _ _ rfl rfl rfl]
  exact Steps.refl _
/-- what holds at the law's entry: the machine, the code, the tables' words (any of lw_tbl by 'hts w (by decide +kernel)'), the script of L ints xs at the cell b, what the Statement gives of the start (any of its parts by flat_of_before) -/
def lw_At (p : Program) (s : State) (m : MethodId) (meth : Method) (c : Code) (b L : Nat) (xs : Nat → Int32) : Prop :=
  p.tables.exec = Jvm.exec ∧ c.code = code ∧ meth.sig.returnType = ret ∧ c.maxLocals = 4 ∧ s.vm.findClass R_law = some m.cls ∧ (∀ w ∈ lw_tbl, w.before #[Value.ref b] s = true) ∧ va_X b L xs s s.heap ∧ b < s.heap.size ∧ meth.locks = false ∧ (Jvm.Cond.and given_1 narrow_1).before #[Value.ref b] s = true
theorem dL_law_0 : decode cL_law 0 = .ok (.new 7, 3) := by decide +kernel
theorem dL_law_3 : decode cL_law 3 = .ok (.dup, 1) := by decide +kernel
theorem dL_law_4 : decode cL_law 4 = .ok (.invokespecial 9, 3) := by decide +kernel
theorem dL_law_7 : decode cL_law 7 = .ok (.astore_n 1, 1) := by decide +kernel
theorem dL_law_8 : decode cL_law 8 = .ok (.new 10, 3) := by decide +kernel
theorem dL_law_11 : decode cL_law 11 = .ok (.dup, 1) := by decide +kernel
theorem dL_law_12 : decode cL_law 12 = .ok (.invokespecial 12, 3) := by decide +kernel
theorem dL_law_15 : decode cL_law 15 = .ok (.astore_n 2, 1) := by decide +kernel
theorem dL_law_16 : decode cL_law 16 = .ok (.iconst 0, 1) := by decide +kernel
theorem dL_law_17 : decode cL_law 17 = .ok (.istore_n 3, 1) := by decide +kernel
theorem dL_law_18 : decode cL_law 18 = .ok (.iload_n 3, 1) := by decide +kernel
theorem dL_law_19 : decode cL_law 19 = .ok (.aload_n 0, 1) := by decide +kernel
theorem dL_law_20 : decode cL_law 20 = .ok (.arraylength, 1) := by decide +kernel
theorem dL_law_21 : decode cL_law 21 = .ok (.bipush 6, 2) := by decide +kernel
theorem dL_law_23 : decode cL_law 23 = .ok (.isub, 1) := by decide +kernel
theorem dL_law_24 : decode cL_law 24 = .ok (.if_icmp .gt 1029, 3) := by decide +kernel
theorem dL_law_27 : decode cL_law 27 = .ok (.aload_n 0, 1) := by decide +kernel
theorem dL_law_28 : decode cL_law 28 = .ok (.iload_n 3, 1) := by decide +kernel
theorem dL_law_29 : decode cL_law 29 = .ok (.iaload, 1) := by decide +kernel
theorem dL_law_30 : decode cL_law 30 = .ok (.bipush 63, 2) := by decide +kernel
theorem dL_law_32 : decode cL_law 32 = .ok (.iand, 1) := by decide +kernel
theorem dL_law_33 : decode cL_law 33 = .ok (.tableswitch 1014 0 33 #[151, 214, 237, 250, 273, 296, 339, 372, 405, 438, 471, 504, 527, 550, 583, 596, 619, 642, 655, 678, 701, 724, 747, 770, 803, 846, 869, 892, 905, 928, 942, 955, 978, 991], 151) := by decide +kernel
theorem dL_law_184 : decode cL_law 184 = .ok (.aload_n 1, 1) := by decide +kernel
theorem dL_law_185 : decode cL_law 185 = .ok (.aload_n 0, 1) := by decide +kernel
theorem dL_law_186 : decode cL_law 186 = .ok (.iload_n 3, 1) := by decide +kernel
theorem dL_law_187 : decode cL_law 187 = .ok (.iconst 1, 1) := by decide +kernel
theorem dL_law_188 : decode cL_law 188 = .ok (.iadd, 1) := by decide +kernel
theorem dL_law_189 : decode cL_law 189 = .ok (.iaload, 1) := by decide +kernel
theorem dL_law_190 : decode cL_law 190 = .ok (.aload_n 0, 1) := by decide +kernel
theorem dL_law_191 : decode cL_law 191 = .ok (.iload_n 3, 1) := by decide +kernel
theorem dL_law_192 : decode cL_law 192 = .ok (.iconst 2, 1) := by decide +kernel
theorem dL_law_193 : decode cL_law 193 = .ok (.iadd, 1) := by decide +kernel
theorem dL_law_194 : decode cL_law 194 = .ok (.iaload, 1) := by decide +kernel
theorem dL_law_195 : decode cL_law 195 = .ok (.aload_n 0, 1) := by decide +kernel
theorem dL_law_196 : decode cL_law 196 = .ok (.iload_n 3, 1) := by decide +kernel
theorem dL_law_197 : decode cL_law 197 = .ok (.iconst 3, 1) := by decide +kernel
theorem dL_law_198 : decode cL_law 198 = .ok (.iadd, 1) := by decide +kernel
theorem dL_law_199 : decode cL_law 199 = .ok (.iaload, 1) := by decide +kernel
theorem dL_law_200 : decode cL_law 200 = .ok (.aload_n 0, 1) := by decide +kernel
theorem dL_law_201 : decode cL_law 201 = .ok (.iload_n 3, 1) := by decide +kernel
theorem dL_law_202 : decode cL_law 202 = .ok (.iconst 4, 1) := by decide +kernel
theorem dL_law_203 : decode cL_law 203 = .ok (.iadd, 1) := by decide +kernel
theorem dL_law_204 : decode cL_law 204 = .ok (.iaload, 1) := by decide +kernel
theorem dL_law_205 : decode cL_law 205 = .ok (.aload_n 0, 1) := by decide +kernel
theorem dL_law_206 : decode cL_law 206 = .ok (.iload_n 3, 1) := by decide +kernel
theorem dL_law_207 : decode cL_law 207 = .ok (.iconst 5, 1) := by decide +kernel
theorem dL_law_208 : decode cL_law 208 = .ok (.iadd, 1) := by decide +kernel
theorem dL_law_209 : decode cL_law 209 = .ok (.iaload, 1) := by decide +kernel
theorem dL_law_210 : decode cL_law 210 = .ok (.invokevirtual 13, 3) := by decide +kernel
theorem dL_law_213 : decode cL_law 213 = .ok (.aload_n 2, 1) := by decide +kernel
theorem dL_law_214 : decode cL_law 214 = .ok (.aload_n 0, 1) := by decide +kernel
theorem dL_law_215 : decode cL_law 215 = .ok (.iload_n 3, 1) := by decide +kernel
theorem dL_law_216 : decode cL_law 216 = .ok (.iconst 1, 1) := by decide +kernel
theorem dL_law_217 : decode cL_law 217 = .ok (.iadd, 1) := by decide +kernel
theorem dL_law_218 : decode cL_law 218 = .ok (.iaload, 1) := by decide +kernel
theorem dL_law_219 : decode cL_law 219 = .ok (.aload_n 0, 1) := by decide +kernel
theorem dL_law_220 : decode cL_law 220 = .ok (.iload_n 3, 1) := by decide +kernel
theorem dL_law_221 : decode cL_law 221 = .ok (.iconst 2, 1) := by decide +kernel
theorem dL_law_222 : decode cL_law 222 = .ok (.iadd, 1) := by decide +kernel
theorem dL_law_223 : decode cL_law 223 = .ok (.iaload, 1) := by decide +kernel
theorem dL_law_224 : decode cL_law 224 = .ok (.aload_n 0, 1) := by decide +kernel
theorem dL_law_225 : decode cL_law 225 = .ok (.iload_n 3, 1) := by decide +kernel
theorem dL_law_226 : decode cL_law 226 = .ok (.iconst 3, 1) := by decide +kernel
theorem dL_law_227 : decode cL_law 227 = .ok (.iadd, 1) := by decide +kernel
theorem dL_law_228 : decode cL_law 228 = .ok (.iaload, 1) := by decide +kernel
theorem dL_law_229 : decode cL_law 229 = .ok (.aload_n 0, 1) := by decide +kernel
theorem dL_law_230 : decode cL_law 230 = .ok (.iload_n 3, 1) := by decide +kernel
theorem dL_law_231 : decode cL_law 231 = .ok (.iconst 4, 1) := by decide +kernel
theorem dL_law_232 : decode cL_law 232 = .ok (.iadd, 1) := by decide +kernel
theorem dL_law_233 : decode cL_law 233 = .ok (.iaload, 1) := by decide +kernel
theorem dL_law_234 : decode cL_law 234 = .ok (.aload_n 0, 1) := by decide +kernel
theorem dL_law_235 : decode cL_law 235 = .ok (.iload_n 3, 1) := by decide +kernel
theorem dL_law_236 : decode cL_law 236 = .ok (.iconst 5, 1) := by decide +kernel
theorem dL_law_237 : decode cL_law 237 = .ok (.iadd, 1) := by decide +kernel
theorem dL_law_238 : decode cL_law 238 = .ok (.iaload, 1) := by decide +kernel
theorem dL_law_239 : decode cL_law 239 = .ok (.invokevirtual 17, 3) := by decide +kernel
theorem dL_law_242 : decode cL_law 242 = .ok (.if_icmp .eq 805, 3) := by decide +kernel
theorem dL_law_245 : decode cL_law 245 = .ok (.iconst 0, 1) := by decide +kernel
theorem dL_law_246 : decode cL_law 246 = .ok (.ireturn, 1) := by decide +kernel
theorem dL_law_247 : decode cL_law 247 = .ok (.aload_n 1, 1) := by decide +kernel
theorem dL_law_248 : decode cL_law 248 = .ok (.aload_n 0, 1) := by decide +kernel
theorem dL_law_249 : decode cL_law 249 = .ok (.iload_n 3, 1) := by decide +kernel
theorem dL_law_250 : decode cL_law 250 = .ok (.iconst 1, 1) := by decide +kernel
theorem dL_law_251 : decode cL_law 251 = .ok (.iadd, 1) := by decide +kernel
theorem dL_law_252 : decode cL_law 252 = .ok (.iaload, 1) := by decide +kernel
theorem dL_law_253 : decode cL_law 253 = .ok (.invokevirtual 18, 3) := by decide +kernel
theorem dL_law_256 : decode cL_law 256 = .ok (.aload_n 2, 1) := by decide +kernel
theorem dL_law_257 : decode cL_law 257 = .ok (.aload_n 0, 1) := by decide +kernel
theorem dL_law_258 : decode cL_law 258 = .ok (.iload_n 3, 1) := by decide +kernel
theorem dL_law_259 : decode cL_law 259 = .ok (.iconst 1, 1) := by decide +kernel
theorem dL_law_260 : decode cL_law 260 = .ok (.iadd, 1) := by decide +kernel
theorem dL_law_261 : decode cL_law 261 = .ok (.iaload, 1) := by decide +kernel
theorem dL_law_262 : decode cL_law 262 = .ok (.invokevirtual 22, 3) := by decide +kernel
theorem dL_law_265 : decode cL_law 265 = .ok (.if_icmp .eq 782, 3) := by decide +kernel
theorem dL_law_268 : decode cL_law 268 = .ok (.iconst 0, 1) := by decide +kernel
theorem dL_law_269 : decode cL_law 269 = .ok (.ireturn, 1) := by decide +kernel
theorem dL_law_270 : decode cL_law 270 = .ok (.aload_n 1, 1) := by decide +kernel
theorem dL_law_271 : decode cL_law 271 = .ok (.invokevirtual 23, 3) := by decide +kernel
theorem dL_law_274 : decode cL_law 274 = .ok (.aload_n 2, 1) := by decide +kernel
theorem dL_law_275 : decode cL_law 275 = .ok (.invokevirtual 27, 3) := by decide +kernel
theorem dL_law_278 : decode cL_law 278 = .ok (.if_icmp .eq 769, 3) := by decide +kernel
theorem dL_law_281 : decode cL_law 281 = .ok (.iconst 0, 1) := by decide +kernel
theorem dL_law_282 : decode cL_law 282 = .ok (.ireturn, 1) := by decide +kernel
theorem dL_law_283 : decode cL_law 283 = .ok (.aload_n 1, 1) := by decide +kernel
theorem dL_law_284 : decode cL_law 284 = .ok (.aload_n 0, 1) := by decide +kernel
theorem dL_law_285 : decode cL_law 285 = .ok (.iload_n 3, 1) := by decide +kernel
theorem dL_law_286 : decode cL_law 286 = .ok (.iconst 1, 1) := by decide +kernel
theorem dL_law_287 : decode cL_law 287 = .ok (.iadd, 1) := by decide +kernel
theorem dL_law_288 : decode cL_law 288 = .ok (.iaload, 1) := by decide +kernel
theorem dL_law_289 : decode cL_law 289 = .ok (.invokevirtual 28, 3) := by decide +kernel
theorem dL_law_292 : decode cL_law 292 = .ok (.aload_n 2, 1) := by decide +kernel
theorem dL_law_293 : decode cL_law 293 = .ok (.aload_n 0, 1) := by decide +kernel
theorem dL_law_294 : decode cL_law 294 = .ok (.iload_n 3, 1) := by decide +kernel
theorem dL_law_295 : decode cL_law 295 = .ok (.iconst 1, 1) := by decide +kernel
theorem dL_law_296 : decode cL_law 296 = .ok (.iadd, 1) := by decide +kernel
theorem dL_law_297 : decode cL_law 297 = .ok (.iaload, 1) := by decide +kernel
theorem dL_law_298 : decode cL_law 298 = .ok (.invokevirtual 32, 3) := by decide +kernel
theorem dL_law_301 : decode cL_law 301 = .ok (.if_icmp .eq 746, 3) := by decide +kernel
theorem dL_law_304 : decode cL_law 304 = .ok (.iconst 0, 1) := by decide +kernel
theorem dL_law_305 : decode cL_law 305 = .ok (.ireturn, 1) := by decide +kernel
theorem dL_law_306 : decode cL_law 306 = .ok (.aload_n 1, 1) := by decide +kernel
theorem dL_law_307 : decode cL_law 307 = .ok (.aload_n 0, 1) := by decide +kernel
theorem dL_law_308 : decode cL_law 308 = .ok (.iload_n 3, 1) := by decide +kernel
theorem dL_law_309 : decode cL_law 309 = .ok (.iconst 1, 1) := by decide +kernel
theorem dL_law_310 : decode cL_law 310 = .ok (.iadd, 1) := by decide +kernel
theorem dL_law_311 : decode cL_law 311 = .ok (.iaload, 1) := by decide +kernel
theorem dL_law_312 : decode cL_law 312 = .ok (.invokevirtual 33, 3) := by decide +kernel
theorem dL_law_315 : decode cL_law 315 = .ok (.aload_n 2, 1) := by decide +kernel
theorem dL_law_316 : decode cL_law 316 = .ok (.aload_n 0, 1) := by decide +kernel
theorem dL_law_317 : decode cL_law 317 = .ok (.iload_n 3, 1) := by decide +kernel
theorem dL_law_318 : decode cL_law 318 = .ok (.iconst 1, 1) := by decide +kernel
theorem dL_law_319 : decode cL_law 319 = .ok (.iadd, 1) := by decide +kernel
theorem dL_law_320 : decode cL_law 320 = .ok (.iaload, 1) := by decide +kernel
theorem dL_law_321 : decode cL_law 321 = .ok (.invokevirtual 36, 3) := by decide +kernel
theorem dL_law_324 : decode cL_law 324 = .ok (.if_icmp .eq 723, 3) := by decide +kernel
theorem dL_law_327 : decode cL_law 327 = .ok (.iconst 0, 1) := by decide +kernel
theorem dL_law_328 : decode cL_law 328 = .ok (.ireturn, 1) := by decide +kernel
theorem dL_law_329 : decode cL_law 329 = .ok (.aload_n 1, 1) := by decide +kernel
theorem dL_law_330 : decode cL_law 330 = .ok (.aload_n 0, 1) := by decide +kernel
theorem dL_law_331 : decode cL_law 331 = .ok (.iload_n 3, 1) := by decide +kernel
theorem dL_law_332 : decode cL_law 332 = .ok (.iconst 1, 1) := by decide +kernel
theorem dL_law_333 : decode cL_law 333 = .ok (.iadd, 1) := by decide +kernel
theorem dL_law_334 : decode cL_law 334 = .ok (.iaload, 1) := by decide +kernel
theorem dL_law_335 : decode cL_law 335 = .ok (.aload_n 0, 1) := by decide +kernel
theorem dL_law_336 : decode cL_law 336 = .ok (.iload_n 3, 1) := by decide +kernel
theorem dL_law_337 : decode cL_law 337 = .ok (.iconst 2, 1) := by decide +kernel
theorem dL_law_338 : decode cL_law 338 = .ok (.iadd, 1) := by decide +kernel
theorem dL_law_339 : decode cL_law 339 = .ok (.iaload, 1) := by decide +kernel
theorem dL_law_340 : decode cL_law 340 = .ok (.aload_n 0, 1) := by decide +kernel
theorem dL_law_341 : decode cL_law 341 = .ok (.iload_n 3, 1) := by decide +kernel
theorem dL_law_342 : decode cL_law 342 = .ok (.iconst 3, 1) := by decide +kernel
theorem dL_law_343 : decode cL_law 343 = .ok (.iadd, 1) := by decide +kernel
theorem dL_law_344 : decode cL_law 344 = .ok (.iaload, 1) := by decide +kernel
theorem dL_law_345 : decode cL_law 345 = .ok (.invokevirtual 37, 3) := by decide +kernel
theorem dL_law_348 : decode cL_law 348 = .ok (.aload_n 2, 1) := by decide +kernel
theorem dL_law_349 : decode cL_law 349 = .ok (.aload_n 0, 1) := by decide +kernel
theorem dL_law_350 : decode cL_law 350 = .ok (.iload_n 3, 1) := by decide +kernel
theorem dL_law_351 : decode cL_law 351 = .ok (.iconst 1, 1) := by decide +kernel
theorem dL_law_352 : decode cL_law 352 = .ok (.iadd, 1) := by decide +kernel
theorem dL_law_353 : decode cL_law 353 = .ok (.iaload, 1) := by decide +kernel
theorem dL_law_354 : decode cL_law 354 = .ok (.aload_n 0, 1) := by decide +kernel
theorem dL_law_355 : decode cL_law 355 = .ok (.iload_n 3, 1) := by decide +kernel
theorem dL_law_356 : decode cL_law 356 = .ok (.iconst 2, 1) := by decide +kernel
theorem dL_law_357 : decode cL_law 357 = .ok (.iadd, 1) := by decide +kernel
theorem dL_law_358 : decode cL_law 358 = .ok (.iaload, 1) := by decide +kernel
theorem dL_law_359 : decode cL_law 359 = .ok (.aload_n 0, 1) := by decide +kernel
theorem dL_law_360 : decode cL_law 360 = .ok (.iload_n 3, 1) := by decide +kernel
theorem dL_law_361 : decode cL_law 361 = .ok (.iconst 3, 1) := by decide +kernel
theorem dL_law_362 : decode cL_law 362 = .ok (.iadd, 1) := by decide +kernel
theorem dL_law_363 : decode cL_law 363 = .ok (.iaload, 1) := by decide +kernel
theorem dL_law_364 : decode cL_law 364 = .ok (.invokevirtual 41, 3) := by decide +kernel
theorem dL_law_367 : decode cL_law 367 = .ok (.if_icmp .eq 680, 3) := by decide +kernel
theorem dL_law_370 : decode cL_law 370 = .ok (.iconst 0, 1) := by decide +kernel
theorem dL_law_371 : decode cL_law 371 = .ok (.ireturn, 1) := by decide +kernel
theorem dL_law_372 : decode cL_law 372 = .ok (.aload_n 1, 1) := by decide +kernel
theorem dL_law_373 : decode cL_law 373 = .ok (.aload_n 0, 1) := by decide +kernel
theorem dL_law_374 : decode cL_law 374 = .ok (.iload_n 3, 1) := by decide +kernel
theorem dL_law_375 : decode cL_law 375 = .ok (.iconst 1, 1) := by decide +kernel
theorem dL_law_376 : decode cL_law 376 = .ok (.iadd, 1) := by decide +kernel
theorem dL_law_377 : decode cL_law 377 = .ok (.iaload, 1) := by decide +kernel
theorem dL_law_378 : decode cL_law 378 = .ok (.aload_n 0, 1) := by decide +kernel
theorem dL_law_379 : decode cL_law 379 = .ok (.iload_n 3, 1) := by decide +kernel
theorem dL_law_380 : decode cL_law 380 = .ok (.iconst 2, 1) := by decide +kernel
theorem dL_law_381 : decode cL_law 381 = .ok (.iadd, 1) := by decide +kernel
theorem dL_law_382 : decode cL_law 382 = .ok (.iaload, 1) := by decide +kernel
theorem dL_law_383 : decode cL_law 383 = .ok (.invokevirtual 42, 3) := by decide +kernel
theorem dL_law_386 : decode cL_law 386 = .ok (.aload_n 2, 1) := by decide +kernel
theorem dL_law_387 : decode cL_law 387 = .ok (.aload_n 0, 1) := by decide +kernel
theorem dL_law_388 : decode cL_law 388 = .ok (.iload_n 3, 1) := by decide +kernel
theorem dL_law_389 : decode cL_law 389 = .ok (.iconst 1, 1) := by decide +kernel
theorem dL_law_390 : decode cL_law 390 = .ok (.iadd, 1) := by decide +kernel
theorem dL_law_391 : decode cL_law 391 = .ok (.iaload, 1) := by decide +kernel
theorem dL_law_392 : decode cL_law 392 = .ok (.aload_n 0, 1) := by decide +kernel
theorem dL_law_393 : decode cL_law 393 = .ok (.iload_n 3, 1) := by decide +kernel
theorem dL_law_394 : decode cL_law 394 = .ok (.iconst 2, 1) := by decide +kernel
theorem dL_law_395 : decode cL_law 395 = .ok (.iadd, 1) := by decide +kernel
theorem dL_law_396 : decode cL_law 396 = .ok (.iaload, 1) := by decide +kernel
theorem dL_law_397 : decode cL_law 397 = .ok (.invokevirtual 46, 3) := by decide +kernel
theorem dL_law_400 : decode cL_law 400 = .ok (.if_icmp .eq 647, 3) := by decide +kernel
theorem dL_law_403 : decode cL_law 403 = .ok (.iconst 0, 1) := by decide +kernel
theorem dL_law_404 : decode cL_law 404 = .ok (.ireturn, 1) := by decide +kernel
theorem dL_law_405 : decode cL_law 405 = .ok (.aload_n 1, 1) := by decide +kernel
theorem dL_law_406 : decode cL_law 406 = .ok (.aload_n 0, 1) := by decide +kernel
theorem dL_law_407 : decode cL_law 407 = .ok (.iload_n 3, 1) := by decide +kernel
theorem dL_law_408 : decode cL_law 408 = .ok (.iconst 1, 1) := by decide +kernel
theorem dL_law_409 : decode cL_law 409 = .ok (.iadd, 1) := by decide +kernel
theorem dL_law_410 : decode cL_law 410 = .ok (.iaload, 1) := by decide +kernel
theorem dL_law_411 : decode cL_law 411 = .ok (.aload_n 0, 1) := by decide +kernel
theorem dL_law_412 : decode cL_law 412 = .ok (.iload_n 3, 1) := by decide +kernel
theorem dL_law_413 : decode cL_law 413 = .ok (.iconst 2, 1) := by decide +kernel
theorem dL_law_414 : decode cL_law 414 = .ok (.iadd, 1) := by decide +kernel
theorem dL_law_415 : decode cL_law 415 = .ok (.iaload, 1) := by decide +kernel
theorem dL_law_416 : decode cL_law 416 = .ok (.invokevirtual 47, 3) := by decide +kernel
theorem dL_law_419 : decode cL_law 419 = .ok (.aload_n 2, 1) := by decide +kernel
theorem dL_law_420 : decode cL_law 420 = .ok (.aload_n 0, 1) := by decide +kernel
theorem dL_law_421 : decode cL_law 421 = .ok (.iload_n 3, 1) := by decide +kernel
theorem dL_law_422 : decode cL_law 422 = .ok (.iconst 1, 1) := by decide +kernel
theorem dL_law_423 : decode cL_law 423 = .ok (.iadd, 1) := by decide +kernel
theorem dL_law_424 : decode cL_law 424 = .ok (.iaload, 1) := by decide +kernel
theorem dL_law_425 : decode cL_law 425 = .ok (.aload_n 0, 1) := by decide +kernel
theorem dL_law_426 : decode cL_law 426 = .ok (.iload_n 3, 1) := by decide +kernel
theorem dL_law_427 : decode cL_law 427 = .ok (.iconst 2, 1) := by decide +kernel
theorem dL_law_428 : decode cL_law 428 = .ok (.iadd, 1) := by decide +kernel
theorem dL_law_429 : decode cL_law 429 = .ok (.iaload, 1) := by decide +kernel
theorem dL_law_430 : decode cL_law 430 = .ok (.invokevirtual 50, 3) := by decide +kernel
theorem dL_law_433 : decode cL_law 433 = .ok (.if_icmp .eq 614, 3) := by decide +kernel
theorem dL_law_436 : decode cL_law 436 = .ok (.iconst 0, 1) := by decide +kernel
theorem dL_law_437 : decode cL_law 437 = .ok (.ireturn, 1) := by decide +kernel
theorem dL_law_438 : decode cL_law 438 = .ok (.aload_n 1, 1) := by decide +kernel
theorem dL_law_439 : decode cL_law 439 = .ok (.aload_n 0, 1) := by decide +kernel
theorem dL_law_440 : decode cL_law 440 = .ok (.iload_n 3, 1) := by decide +kernel
theorem dL_law_441 : decode cL_law 441 = .ok (.iconst 1, 1) := by decide +kernel
theorem dL_law_442 : decode cL_law 442 = .ok (.iadd, 1) := by decide +kernel
theorem dL_law_443 : decode cL_law 443 = .ok (.iaload, 1) := by decide +kernel
theorem dL_law_444 : decode cL_law 444 = .ok (.aload_n 0, 1) := by decide +kernel
theorem dL_law_445 : decode cL_law 445 = .ok (.iload_n 3, 1) := by decide +kernel
theorem dL_law_446 : decode cL_law 446 = .ok (.iconst 2, 1) := by decide +kernel
theorem dL_law_447 : decode cL_law 447 = .ok (.iadd, 1) := by decide +kernel
theorem dL_law_448 : decode cL_law 448 = .ok (.iaload, 1) := by decide +kernel
theorem dL_law_449 : decode cL_law 449 = .ok (.invokevirtual 51, 3) := by decide +kernel
theorem dL_law_452 : decode cL_law 452 = .ok (.aload_n 2, 1) := by decide +kernel
theorem dL_law_453 : decode cL_law 453 = .ok (.aload_n 0, 1) := by decide +kernel
theorem dL_law_454 : decode cL_law 454 = .ok (.iload_n 3, 1) := by decide +kernel
theorem dL_law_455 : decode cL_law 455 = .ok (.iconst 1, 1) := by decide +kernel
theorem dL_law_456 : decode cL_law 456 = .ok (.iadd, 1) := by decide +kernel
theorem dL_law_457 : decode cL_law 457 = .ok (.iaload, 1) := by decide +kernel
theorem dL_law_458 : decode cL_law 458 = .ok (.aload_n 0, 1) := by decide +kernel
theorem dL_law_459 : decode cL_law 459 = .ok (.iload_n 3, 1) := by decide +kernel
theorem dL_law_460 : decode cL_law 460 = .ok (.iconst 2, 1) := by decide +kernel
theorem dL_law_461 : decode cL_law 461 = .ok (.iadd, 1) := by decide +kernel
theorem dL_law_462 : decode cL_law 462 = .ok (.iaload, 1) := by decide +kernel
theorem dL_law_463 : decode cL_law 463 = .ok (.invokevirtual 54, 3) := by decide +kernel
theorem dL_law_466 : decode cL_law 466 = .ok (.if_icmp .eq 581, 3) := by decide +kernel
theorem dL_law_469 : decode cL_law 469 = .ok (.iconst 0, 1) := by decide +kernel
theorem dL_law_470 : decode cL_law 470 = .ok (.ireturn, 1) := by decide +kernel
theorem dL_law_471 : decode cL_law 471 = .ok (.aload_n 1, 1) := by decide +kernel
theorem dL_law_472 : decode cL_law 472 = .ok (.aload_n 0, 1) := by decide +kernel
theorem dL_law_473 : decode cL_law 473 = .ok (.iload_n 3, 1) := by decide +kernel
theorem dL_law_474 : decode cL_law 474 = .ok (.iconst 1, 1) := by decide +kernel
theorem dL_law_475 : decode cL_law 475 = .ok (.iadd, 1) := by decide +kernel
theorem dL_law_476 : decode cL_law 476 = .ok (.iaload, 1) := by decide +kernel
theorem dL_law_477 : decode cL_law 477 = .ok (.aload_n 0, 1) := by decide +kernel
theorem dL_law_478 : decode cL_law 478 = .ok (.iload_n 3, 1) := by decide +kernel
theorem dL_law_479 : decode cL_law 479 = .ok (.iconst 2, 1) := by decide +kernel
theorem dL_law_480 : decode cL_law 480 = .ok (.iadd, 1) := by decide +kernel
theorem dL_law_481 : decode cL_law 481 = .ok (.iaload, 1) := by decide +kernel
theorem dL_law_482 : decode cL_law 482 = .ok (.invokevirtual 55, 3) := by decide +kernel
theorem dL_law_485 : decode cL_law 485 = .ok (.aload_n 2, 1) := by decide +kernel
theorem dL_law_486 : decode cL_law 486 = .ok (.aload_n 0, 1) := by decide +kernel
theorem dL_law_487 : decode cL_law 487 = .ok (.iload_n 3, 1) := by decide +kernel
theorem dL_law_488 : decode cL_law 488 = .ok (.iconst 1, 1) := by decide +kernel
theorem dL_law_489 : decode cL_law 489 = .ok (.iadd, 1) := by decide +kernel
theorem dL_law_490 : decode cL_law 490 = .ok (.iaload, 1) := by decide +kernel
theorem dL_law_491 : decode cL_law 491 = .ok (.aload_n 0, 1) := by decide +kernel
theorem dL_law_492 : decode cL_law 492 = .ok (.iload_n 3, 1) := by decide +kernel
theorem dL_law_493 : decode cL_law 493 = .ok (.iconst 2, 1) := by decide +kernel
theorem dL_law_494 : decode cL_law 494 = .ok (.iadd, 1) := by decide +kernel
theorem dL_law_495 : decode cL_law 495 = .ok (.iaload, 1) := by decide +kernel
theorem dL_law_496 : decode cL_law 496 = .ok (.invokevirtual 58, 3) := by decide +kernel
theorem dL_law_499 : decode cL_law 499 = .ok (.if_icmp .eq 548, 3) := by decide +kernel
theorem dL_law_502 : decode cL_law 502 = .ok (.iconst 0, 1) := by decide +kernel
theorem dL_law_503 : decode cL_law 503 = .ok (.ireturn, 1) := by decide +kernel
theorem dL_law_504 : decode cL_law 504 = .ok (.aload_n 1, 1) := by decide +kernel
theorem dL_law_505 : decode cL_law 505 = .ok (.aload_n 0, 1) := by decide +kernel
theorem dL_law_506 : decode cL_law 506 = .ok (.iload_n 3, 1) := by decide +kernel
theorem dL_law_507 : decode cL_law 507 = .ok (.iconst 1, 1) := by decide +kernel
theorem dL_law_508 : decode cL_law 508 = .ok (.iadd, 1) := by decide +kernel
theorem dL_law_509 : decode cL_law 509 = .ok (.iaload, 1) := by decide +kernel
theorem dL_law_510 : decode cL_law 510 = .ok (.aload_n 0, 1) := by decide +kernel
theorem dL_law_511 : decode cL_law 511 = .ok (.iload_n 3, 1) := by decide +kernel
theorem dL_law_512 : decode cL_law 512 = .ok (.iconst 2, 1) := by decide +kernel
theorem dL_law_513 : decode cL_law 513 = .ok (.iadd, 1) := by decide +kernel
theorem dL_law_514 : decode cL_law 514 = .ok (.iaload, 1) := by decide +kernel
theorem dL_law_515 : decode cL_law 515 = .ok (.invokevirtual 59, 3) := by decide +kernel
theorem dL_law_518 : decode cL_law 518 = .ok (.aload_n 2, 1) := by decide +kernel
theorem dL_law_519 : decode cL_law 519 = .ok (.aload_n 0, 1) := by decide +kernel
theorem dL_law_520 : decode cL_law 520 = .ok (.iload_n 3, 1) := by decide +kernel
theorem dL_law_521 : decode cL_law 521 = .ok (.iconst 1, 1) := by decide +kernel
theorem dL_law_522 : decode cL_law 522 = .ok (.iadd, 1) := by decide +kernel
theorem dL_law_523 : decode cL_law 523 = .ok (.iaload, 1) := by decide +kernel
theorem dL_law_524 : decode cL_law 524 = .ok (.aload_n 0, 1) := by decide +kernel
theorem dL_law_525 : decode cL_law 525 = .ok (.iload_n 3, 1) := by decide +kernel
theorem dL_law_526 : decode cL_law 526 = .ok (.iconst 2, 1) := by decide +kernel
theorem dL_law_527 : decode cL_law 527 = .ok (.iadd, 1) := by decide +kernel
theorem dL_law_528 : decode cL_law 528 = .ok (.iaload, 1) := by decide +kernel
theorem dL_law_529 : decode cL_law 529 = .ok (.invokevirtual 62, 3) := by decide +kernel
theorem dL_law_532 : decode cL_law 532 = .ok (.if_icmp .eq 515, 3) := by decide +kernel
theorem dL_law_535 : decode cL_law 535 = .ok (.iconst 0, 1) := by decide +kernel
theorem dL_law_536 : decode cL_law 536 = .ok (.ireturn, 1) := by decide +kernel
theorem dL_law_537 : decode cL_law 537 = .ok (.aload_n 1, 1) := by decide +kernel
theorem dL_law_538 : decode cL_law 538 = .ok (.aload_n 0, 1) := by decide +kernel
theorem dL_law_539 : decode cL_law 539 = .ok (.iload_n 3, 1) := by decide +kernel
theorem dL_law_540 : decode cL_law 540 = .ok (.iconst 1, 1) := by decide +kernel
theorem dL_law_541 : decode cL_law 541 = .ok (.iadd, 1) := by decide +kernel
theorem dL_law_542 : decode cL_law 542 = .ok (.iaload, 1) := by decide +kernel
theorem dL_law_543 : decode cL_law 543 = .ok (.invokevirtual 63, 3) := by decide +kernel
theorem dL_law_546 : decode cL_law 546 = .ok (.aload_n 2, 1) := by decide +kernel
theorem dL_law_547 : decode cL_law 547 = .ok (.aload_n 0, 1) := by decide +kernel
theorem dL_law_548 : decode cL_law 548 = .ok (.iload_n 3, 1) := by decide +kernel
theorem dL_law_549 : decode cL_law 549 = .ok (.iconst 1, 1) := by decide +kernel
theorem dL_law_550 : decode cL_law 550 = .ok (.iadd, 1) := by decide +kernel
theorem dL_law_551 : decode cL_law 551 = .ok (.iaload, 1) := by decide +kernel
theorem dL_law_552 : decode cL_law 552 = .ok (.invokevirtual 66, 3) := by decide +kernel
theorem dL_law_555 : decode cL_law 555 = .ok (.if_icmp .eq 492, 3) := by decide +kernel
theorem dL_law_558 : decode cL_law 558 = .ok (.iconst 0, 1) := by decide +kernel
theorem dL_law_559 : decode cL_law 559 = .ok (.ireturn, 1) := by decide +kernel
theorem dL_law_560 : decode cL_law 560 = .ok (.aload_n 1, 1) := by decide +kernel
theorem dL_law_561 : decode cL_law 561 = .ok (.aload_n 0, 1) := by decide +kernel
theorem dL_law_562 : decode cL_law 562 = .ok (.iload_n 3, 1) := by decide +kernel
theorem dL_law_563 : decode cL_law 563 = .ok (.iconst 1, 1) := by decide +kernel
theorem dL_law_564 : decode cL_law 564 = .ok (.iadd, 1) := by decide +kernel
theorem dL_law_565 : decode cL_law 565 = .ok (.iaload, 1) := by decide +kernel
theorem dL_law_566 : decode cL_law 566 = .ok (.invokevirtual 67, 3) := by decide +kernel
theorem dL_law_569 : decode cL_law 569 = .ok (.aload_n 2, 1) := by decide +kernel
theorem dL_law_570 : decode cL_law 570 = .ok (.aload_n 0, 1) := by decide +kernel
theorem dL_law_571 : decode cL_law 571 = .ok (.iload_n 3, 1) := by decide +kernel
theorem dL_law_572 : decode cL_law 572 = .ok (.iconst 1, 1) := by decide +kernel
theorem dL_law_573 : decode cL_law 573 = .ok (.iadd, 1) := by decide +kernel
theorem dL_law_574 : decode cL_law 574 = .ok (.iaload, 1) := by decide +kernel
theorem dL_law_575 : decode cL_law 575 = .ok (.invokevirtual 70, 3) := by decide +kernel
theorem dL_law_578 : decode cL_law 578 = .ok (.if_icmp .eq 469, 3) := by decide +kernel
theorem dL_law_581 : decode cL_law 581 = .ok (.iconst 0, 1) := by decide +kernel
theorem dL_law_582 : decode cL_law 582 = .ok (.ireturn, 1) := by decide +kernel
theorem dL_law_583 : decode cL_law 583 = .ok (.aload_n 1, 1) := by decide +kernel
theorem dL_law_584 : decode cL_law 584 = .ok (.aload_n 0, 1) := by decide +kernel
theorem dL_law_585 : decode cL_law 585 = .ok (.iload_n 3, 1) := by decide +kernel
theorem dL_law_586 : decode cL_law 586 = .ok (.iconst 1, 1) := by decide +kernel
theorem dL_law_587 : decode cL_law 587 = .ok (.iadd, 1) := by decide +kernel
theorem dL_law_588 : decode cL_law 588 = .ok (.iaload, 1) := by decide +kernel
theorem dL_law_589 : decode cL_law 589 = .ok (.aload_n 0, 1) := by decide +kernel
theorem dL_law_590 : decode cL_law 590 = .ok (.iload_n 3, 1) := by decide +kernel
theorem dL_law_591 : decode cL_law 591 = .ok (.iconst 2, 1) := by decide +kernel
theorem dL_law_592 : decode cL_law 592 = .ok (.iadd, 1) := by decide +kernel
theorem dL_law_593 : decode cL_law 593 = .ok (.iaload, 1) := by decide +kernel
theorem dL_law_594 : decode cL_law 594 = .ok (.invokevirtual 71, 3) := by decide +kernel
theorem dL_law_597 : decode cL_law 597 = .ok (.aload_n 2, 1) := by decide +kernel
theorem dL_law_598 : decode cL_law 598 = .ok (.aload_n 0, 1) := by decide +kernel
theorem dL_law_599 : decode cL_law 599 = .ok (.iload_n 3, 1) := by decide +kernel
theorem dL_law_600 : decode cL_law 600 = .ok (.iconst 1, 1) := by decide +kernel
theorem dL_law_601 : decode cL_law 601 = .ok (.iadd, 1) := by decide +kernel
theorem dL_law_602 : decode cL_law 602 = .ok (.iaload, 1) := by decide +kernel
theorem dL_law_603 : decode cL_law 603 = .ok (.aload_n 0, 1) := by decide +kernel
theorem dL_law_604 : decode cL_law 604 = .ok (.iload_n 3, 1) := by decide +kernel
theorem dL_law_605 : decode cL_law 605 = .ok (.iconst 2, 1) := by decide +kernel
theorem dL_law_606 : decode cL_law 606 = .ok (.iadd, 1) := by decide +kernel
theorem dL_law_607 : decode cL_law 607 = .ok (.iaload, 1) := by decide +kernel
theorem dL_law_608 : decode cL_law 608 = .ok (.invokevirtual 74, 3) := by decide +kernel
theorem dL_law_611 : decode cL_law 611 = .ok (.if_icmp .eq 436, 3) := by decide +kernel
theorem dL_law_614 : decode cL_law 614 = .ok (.iconst 0, 1) := by decide +kernel
theorem dL_law_615 : decode cL_law 615 = .ok (.ireturn, 1) := by decide +kernel
theorem dL_law_616 : decode cL_law 616 = .ok (.aload_n 1, 1) := by decide +kernel
theorem dL_law_617 : decode cL_law 617 = .ok (.invokevirtual 75, 3) := by decide +kernel
theorem dL_law_620 : decode cL_law 620 = .ok (.aload_n 2, 1) := by decide +kernel
theorem dL_law_621 : decode cL_law 621 = .ok (.invokevirtual 78, 3) := by decide +kernel
theorem dL_law_624 : decode cL_law 624 = .ok (.if_icmp .eq 423, 3) := by decide +kernel
theorem dL_law_627 : decode cL_law 627 = .ok (.iconst 0, 1) := by decide +kernel
theorem dL_law_628 : decode cL_law 628 = .ok (.ireturn, 1) := by decide +kernel
theorem dL_law_629 : decode cL_law 629 = .ok (.aload_n 1, 1) := by decide +kernel
theorem dL_law_630 : decode cL_law 630 = .ok (.aload_n 0, 1) := by decide +kernel
theorem dL_law_631 : decode cL_law 631 = .ok (.iload_n 3, 1) := by decide +kernel
theorem dL_law_632 : decode cL_law 632 = .ok (.iconst 1, 1) := by decide +kernel
theorem dL_law_633 : decode cL_law 633 = .ok (.iadd, 1) := by decide +kernel
theorem dL_law_634 : decode cL_law 634 = .ok (.iaload, 1) := by decide +kernel
theorem dL_law_635 : decode cL_law 635 = .ok (.invokevirtual 79, 3) := by decide +kernel
theorem dL_law_638 : decode cL_law 638 = .ok (.aload_n 2, 1) := by decide +kernel
theorem dL_law_639 : decode cL_law 639 = .ok (.aload_n 0, 1) := by decide +kernel
theorem dL_law_640 : decode cL_law 640 = .ok (.iload_n 3, 1) := by decide +kernel
theorem dL_law_641 : decode cL_law 641 = .ok (.iconst 1, 1) := by decide +kernel
theorem dL_law_642 : decode cL_law 642 = .ok (.iadd, 1) := by decide +kernel
theorem dL_law_643 : decode cL_law 643 = .ok (.iaload, 1) := by decide +kernel
theorem dL_law_644 : decode cL_law 644 = .ok (.invokevirtual 82, 3) := by decide +kernel
theorem dL_law_647 : decode cL_law 647 = .ok (.if_icmp .eq 400, 3) := by decide +kernel
theorem dL_law_650 : decode cL_law 650 = .ok (.iconst 0, 1) := by decide +kernel
theorem dL_law_651 : decode cL_law 651 = .ok (.ireturn, 1) := by decide +kernel
theorem dL_law_652 : decode cL_law 652 = .ok (.aload_n 1, 1) := by decide +kernel
theorem dL_law_653 : decode cL_law 653 = .ok (.aload_n 0, 1) := by decide +kernel
theorem dL_law_654 : decode cL_law 654 = .ok (.iload_n 3, 1) := by decide +kernel
theorem dL_law_655 : decode cL_law 655 = .ok (.iconst 1, 1) := by decide +kernel
theorem dL_law_656 : decode cL_law 656 = .ok (.iadd, 1) := by decide +kernel
theorem dL_law_657 : decode cL_law 657 = .ok (.iaload, 1) := by decide +kernel
theorem dL_law_658 : decode cL_law 658 = .ok (.invokevirtual 83, 3) := by decide +kernel
theorem dL_law_661 : decode cL_law 661 = .ok (.aload_n 2, 1) := by decide +kernel
theorem dL_law_662 : decode cL_law 662 = .ok (.aload_n 0, 1) := by decide +kernel
theorem dL_law_663 : decode cL_law 663 = .ok (.iload_n 3, 1) := by decide +kernel
theorem dL_law_664 : decode cL_law 664 = .ok (.iconst 1, 1) := by decide +kernel
theorem dL_law_665 : decode cL_law 665 = .ok (.iadd, 1) := by decide +kernel
theorem dL_law_666 : decode cL_law 666 = .ok (.iaload, 1) := by decide +kernel
theorem dL_law_667 : decode cL_law 667 = .ok (.invokevirtual 86, 3) := by decide +kernel
theorem dL_law_670 : decode cL_law 670 = .ok (.if_icmp .eq 377, 3) := by decide +kernel
theorem dL_law_673 : decode cL_law 673 = .ok (.iconst 0, 1) := by decide +kernel
theorem dL_law_674 : decode cL_law 674 = .ok (.ireturn, 1) := by decide +kernel
theorem dL_law_675 : decode cL_law 675 = .ok (.aload_n 1, 1) := by decide +kernel
theorem dL_law_676 : decode cL_law 676 = .ok (.invokevirtual 87, 3) := by decide +kernel
theorem dL_law_679 : decode cL_law 679 = .ok (.aload_n 2, 1) := by decide +kernel
theorem dL_law_680 : decode cL_law 680 = .ok (.invokevirtual 90, 3) := by decide +kernel
theorem dL_law_683 : decode cL_law 683 = .ok (.if_icmp .eq 364, 3) := by decide +kernel
theorem dL_law_686 : decode cL_law 686 = .ok (.iconst 0, 1) := by decide +kernel
theorem dL_law_687 : decode cL_law 687 = .ok (.ireturn, 1) := by decide +kernel
theorem dL_law_688 : decode cL_law 688 = .ok (.aload_n 1, 1) := by decide +kernel
theorem dL_law_689 : decode cL_law 689 = .ok (.aload_n 0, 1) := by decide +kernel
theorem dL_law_690 : decode cL_law 690 = .ok (.iload_n 3, 1) := by decide +kernel
theorem dL_law_691 : decode cL_law 691 = .ok (.iconst 1, 1) := by decide +kernel
theorem dL_law_692 : decode cL_law 692 = .ok (.iadd, 1) := by decide +kernel
theorem dL_law_693 : decode cL_law 693 = .ok (.iaload, 1) := by decide +kernel
theorem dL_law_694 : decode cL_law 694 = .ok (.invokevirtual 91, 3) := by decide +kernel
theorem dL_law_697 : decode cL_law 697 = .ok (.aload_n 2, 1) := by decide +kernel
theorem dL_law_698 : decode cL_law 698 = .ok (.aload_n 0, 1) := by decide +kernel
theorem dL_law_699 : decode cL_law 699 = .ok (.iload_n 3, 1) := by decide +kernel
theorem dL_law_700 : decode cL_law 700 = .ok (.iconst 1, 1) := by decide +kernel
theorem dL_law_701 : decode cL_law 701 = .ok (.iadd, 1) := by decide +kernel
theorem dL_law_702 : decode cL_law 702 = .ok (.iaload, 1) := by decide +kernel
theorem dL_law_703 : decode cL_law 703 = .ok (.invokevirtual 94, 3) := by decide +kernel
theorem dL_law_706 : decode cL_law 706 = .ok (.if_icmp .eq 341, 3) := by decide +kernel
theorem dL_law_709 : decode cL_law 709 = .ok (.iconst 0, 1) := by decide +kernel
theorem dL_law_710 : decode cL_law 710 = .ok (.ireturn, 1) := by decide +kernel
theorem dL_law_711 : decode cL_law 711 = .ok (.aload_n 1, 1) := by decide +kernel
theorem dL_law_712 : decode cL_law 712 = .ok (.aload_n 0, 1) := by decide +kernel
theorem dL_law_713 : decode cL_law 713 = .ok (.iload_n 3, 1) := by decide +kernel
theorem dL_law_714 : decode cL_law 714 = .ok (.iconst 1, 1) := by decide +kernel
theorem dL_law_715 : decode cL_law 715 = .ok (.iadd, 1) := by decide +kernel
theorem dL_law_716 : decode cL_law 716 = .ok (.iaload, 1) := by decide +kernel
theorem dL_law_717 : decode cL_law 717 = .ok (.invokevirtual 95, 3) := by decide +kernel
theorem dL_law_720 : decode cL_law 720 = .ok (.aload_n 2, 1) := by decide +kernel
theorem dL_law_721 : decode cL_law 721 = .ok (.aload_n 0, 1) := by decide +kernel
theorem dL_law_722 : decode cL_law 722 = .ok (.iload_n 3, 1) := by decide +kernel
theorem dL_law_723 : decode cL_law 723 = .ok (.iconst 1, 1) := by decide +kernel
theorem dL_law_724 : decode cL_law 724 = .ok (.iadd, 1) := by decide +kernel
theorem dL_law_725 : decode cL_law 725 = .ok (.iaload, 1) := by decide +kernel
theorem dL_law_726 : decode cL_law 726 = .ok (.invokevirtual 98, 3) := by decide +kernel
theorem dL_law_729 : decode cL_law 729 = .ok (.if_icmp .eq 318, 3) := by decide +kernel
theorem dL_law_732 : decode cL_law 732 = .ok (.iconst 0, 1) := by decide +kernel
theorem dL_law_733 : decode cL_law 733 = .ok (.ireturn, 1) := by decide +kernel
theorem dL_law_734 : decode cL_law 734 = .ok (.aload_n 1, 1) := by decide +kernel
theorem dL_law_735 : decode cL_law 735 = .ok (.aload_n 0, 1) := by decide +kernel
theorem dL_law_736 : decode cL_law 736 = .ok (.iload_n 3, 1) := by decide +kernel
theorem dL_law_737 : decode cL_law 737 = .ok (.iconst 1, 1) := by decide +kernel
theorem dL_law_738 : decode cL_law 738 = .ok (.iadd, 1) := by decide +kernel
theorem dL_law_739 : decode cL_law 739 = .ok (.iaload, 1) := by decide +kernel
theorem dL_law_740 : decode cL_law 740 = .ok (.invokevirtual 99, 3) := by decide +kernel
theorem dL_law_743 : decode cL_law 743 = .ok (.aload_n 2, 1) := by decide +kernel
theorem dL_law_744 : decode cL_law 744 = .ok (.aload_n 0, 1) := by decide +kernel
theorem dL_law_745 : decode cL_law 745 = .ok (.iload_n 3, 1) := by decide +kernel
theorem dL_law_746 : decode cL_law 746 = .ok (.iconst 1, 1) := by decide +kernel
theorem dL_law_747 : decode cL_law 747 = .ok (.iadd, 1) := by decide +kernel
theorem dL_law_748 : decode cL_law 748 = .ok (.iaload, 1) := by decide +kernel
theorem dL_law_749 : decode cL_law 749 = .ok (.invokevirtual 102, 3) := by decide +kernel
theorem dL_law_752 : decode cL_law 752 = .ok (.if_icmp .eq 295, 3) := by decide +kernel
theorem dL_law_755 : decode cL_law 755 = .ok (.iconst 0, 1) := by decide +kernel
theorem dL_law_756 : decode cL_law 756 = .ok (.ireturn, 1) := by decide +kernel
theorem dL_law_757 : decode cL_law 757 = .ok (.aload_n 1, 1) := by decide +kernel
theorem dL_law_758 : decode cL_law 758 = .ok (.aload_n 0, 1) := by decide +kernel
theorem dL_law_759 : decode cL_law 759 = .ok (.iload_n 3, 1) := by decide +kernel
theorem dL_law_760 : decode cL_law 760 = .ok (.iconst 1, 1) := by decide +kernel
theorem dL_law_761 : decode cL_law 761 = .ok (.iadd, 1) := by decide +kernel
theorem dL_law_762 : decode cL_law 762 = .ok (.iaload, 1) := by decide +kernel
theorem dL_law_763 : decode cL_law 763 = .ok (.invokevirtual 103, 3) := by decide +kernel
theorem dL_law_766 : decode cL_law 766 = .ok (.aload_n 2, 1) := by decide +kernel
theorem dL_law_767 : decode cL_law 767 = .ok (.aload_n 0, 1) := by decide +kernel
theorem dL_law_768 : decode cL_law 768 = .ok (.iload_n 3, 1) := by decide +kernel
theorem dL_law_769 : decode cL_law 769 = .ok (.iconst 1, 1) := by decide +kernel
theorem dL_law_770 : decode cL_law 770 = .ok (.iadd, 1) := by decide +kernel
theorem dL_law_771 : decode cL_law 771 = .ok (.iaload, 1) := by decide +kernel
theorem dL_law_772 : decode cL_law 772 = .ok (.invokevirtual 106, 3) := by decide +kernel
theorem dL_law_775 : decode cL_law 775 = .ok (.if_icmp .eq 272, 3) := by decide +kernel
theorem dL_law_778 : decode cL_law 778 = .ok (.iconst 0, 1) := by decide +kernel
theorem dL_law_779 : decode cL_law 779 = .ok (.ireturn, 1) := by decide +kernel
theorem dL_law_780 : decode cL_law 780 = .ok (.aload_n 1, 1) := by decide +kernel
theorem dL_law_781 : decode cL_law 781 = .ok (.aload_n 0, 1) := by decide +kernel
theorem dL_law_782 : decode cL_law 782 = .ok (.iload_n 3, 1) := by decide +kernel
theorem dL_law_783 : decode cL_law 783 = .ok (.iconst 1, 1) := by decide +kernel
theorem dL_law_784 : decode cL_law 784 = .ok (.iadd, 1) := by decide +kernel
theorem dL_law_785 : decode cL_law 785 = .ok (.iaload, 1) := by decide +kernel
theorem dL_law_786 : decode cL_law 786 = .ok (.invokevirtual 107, 3) := by decide +kernel
theorem dL_law_789 : decode cL_law 789 = .ok (.aload_n 2, 1) := by decide +kernel
theorem dL_law_790 : decode cL_law 790 = .ok (.aload_n 0, 1) := by decide +kernel
theorem dL_law_791 : decode cL_law 791 = .ok (.iload_n 3, 1) := by decide +kernel
theorem dL_law_792 : decode cL_law 792 = .ok (.iconst 1, 1) := by decide +kernel
theorem dL_law_793 : decode cL_law 793 = .ok (.iadd, 1) := by decide +kernel
theorem dL_law_794 : decode cL_law 794 = .ok (.iaload, 1) := by decide +kernel
theorem dL_law_795 : decode cL_law 795 = .ok (.invokevirtual 110, 3) := by decide +kernel
theorem dL_law_798 : decode cL_law 798 = .ok (.if_icmp .eq 249, 3) := by decide +kernel
theorem dL_law_801 : decode cL_law 801 = .ok (.iconst 0, 1) := by decide +kernel
theorem dL_law_802 : decode cL_law 802 = .ok (.ireturn, 1) := by decide +kernel
theorem dL_law_803 : decode cL_law 803 = .ok (.aload_n 1, 1) := by decide +kernel
theorem dL_law_804 : decode cL_law 804 = .ok (.aload_n 0, 1) := by decide +kernel
theorem dL_law_805 : decode cL_law 805 = .ok (.iload_n 3, 1) := by decide +kernel
theorem dL_law_806 : decode cL_law 806 = .ok (.iconst 1, 1) := by decide +kernel
theorem dL_law_807 : decode cL_law 807 = .ok (.iadd, 1) := by decide +kernel
theorem dL_law_808 : decode cL_law 808 = .ok (.iaload, 1) := by decide +kernel
theorem dL_law_809 : decode cL_law 809 = .ok (.aload_n 0, 1) := by decide +kernel
theorem dL_law_810 : decode cL_law 810 = .ok (.iload_n 3, 1) := by decide +kernel
theorem dL_law_811 : decode cL_law 811 = .ok (.iconst 2, 1) := by decide +kernel
theorem dL_law_812 : decode cL_law 812 = .ok (.iadd, 1) := by decide +kernel
theorem dL_law_813 : decode cL_law 813 = .ok (.iaload, 1) := by decide +kernel
theorem dL_law_814 : decode cL_law 814 = .ok (.invokevirtual 111, 3) := by decide +kernel
theorem dL_law_817 : decode cL_law 817 = .ok (.aload_n 2, 1) := by decide +kernel
theorem dL_law_818 : decode cL_law 818 = .ok (.aload_n 0, 1) := by decide +kernel
theorem dL_law_819 : decode cL_law 819 = .ok (.iload_n 3, 1) := by decide +kernel
theorem dL_law_820 : decode cL_law 820 = .ok (.iconst 1, 1) := by decide +kernel
theorem dL_law_821 : decode cL_law 821 = .ok (.iadd, 1) := by decide +kernel
theorem dL_law_822 : decode cL_law 822 = .ok (.iaload, 1) := by decide +kernel
theorem dL_law_823 : decode cL_law 823 = .ok (.aload_n 0, 1) := by decide +kernel
theorem dL_law_824 : decode cL_law 824 = .ok (.iload_n 3, 1) := by decide +kernel
theorem dL_law_825 : decode cL_law 825 = .ok (.iconst 2, 1) := by decide +kernel
theorem dL_law_826 : decode cL_law 826 = .ok (.iadd, 1) := by decide +kernel
theorem dL_law_827 : decode cL_law 827 = .ok (.iaload, 1) := by decide +kernel
theorem dL_law_828 : decode cL_law 828 = .ok (.invokevirtual 115, 3) := by decide +kernel
theorem dL_law_831 : decode cL_law 831 = .ok (.if_icmp .eq 216, 3) := by decide +kernel
theorem dL_law_834 : decode cL_law 834 = .ok (.iconst 0, 1) := by decide +kernel
theorem dL_law_835 : decode cL_law 835 = .ok (.ireturn, 1) := by decide +kernel
theorem dL_law_836 : decode cL_law 836 = .ok (.aload_n 1, 1) := by decide +kernel
theorem dL_law_837 : decode cL_law 837 = .ok (.aload_n 0, 1) := by decide +kernel
theorem dL_law_838 : decode cL_law 838 = .ok (.iload_n 3, 1) := by decide +kernel
theorem dL_law_839 : decode cL_law 839 = .ok (.iconst 1, 1) := by decide +kernel
theorem dL_law_840 : decode cL_law 840 = .ok (.iadd, 1) := by decide +kernel
theorem dL_law_841 : decode cL_law 841 = .ok (.iaload, 1) := by decide +kernel
theorem dL_law_842 : decode cL_law 842 = .ok (.aload_n 0, 1) := by decide +kernel
theorem dL_law_843 : decode cL_law 843 = .ok (.iload_n 3, 1) := by decide +kernel
theorem dL_law_844 : decode cL_law 844 = .ok (.iconst 2, 1) := by decide +kernel
theorem dL_law_845 : decode cL_law 845 = .ok (.iadd, 1) := by decide +kernel
theorem dL_law_846 : decode cL_law 846 = .ok (.iaload, 1) := by decide +kernel
theorem dL_law_847 : decode cL_law 847 = .ok (.aload_n 0, 1) := by decide +kernel
theorem dL_law_848 : decode cL_law 848 = .ok (.iload_n 3, 1) := by decide +kernel
theorem dL_law_849 : decode cL_law 849 = .ok (.iconst 3, 1) := by decide +kernel
theorem dL_law_850 : decode cL_law 850 = .ok (.iadd, 1) := by decide +kernel
theorem dL_law_851 : decode cL_law 851 = .ok (.iaload, 1) := by decide +kernel
theorem dL_law_852 : decode cL_law 852 = .ok (.invokevirtual 116, 3) := by decide +kernel
theorem dL_law_855 : decode cL_law 855 = .ok (.aload_n 2, 1) := by decide +kernel
theorem dL_law_856 : decode cL_law 856 = .ok (.aload_n 0, 1) := by decide +kernel
theorem dL_law_857 : decode cL_law 857 = .ok (.iload_n 3, 1) := by decide +kernel
theorem dL_law_858 : decode cL_law 858 = .ok (.iconst 1, 1) := by decide +kernel
theorem dL_law_859 : decode cL_law 859 = .ok (.iadd, 1) := by decide +kernel
theorem dL_law_860 : decode cL_law 860 = .ok (.iaload, 1) := by decide +kernel
theorem dL_law_861 : decode cL_law 861 = .ok (.aload_n 0, 1) := by decide +kernel
theorem dL_law_862 : decode cL_law 862 = .ok (.iload_n 3, 1) := by decide +kernel
theorem dL_law_863 : decode cL_law 863 = .ok (.iconst 2, 1) := by decide +kernel
theorem dL_law_864 : decode cL_law 864 = .ok (.iadd, 1) := by decide +kernel
theorem dL_law_865 : decode cL_law 865 = .ok (.iaload, 1) := by decide +kernel
theorem dL_law_866 : decode cL_law 866 = .ok (.aload_n 0, 1) := by decide +kernel
theorem dL_law_867 : decode cL_law 867 = .ok (.iload_n 3, 1) := by decide +kernel
theorem dL_law_868 : decode cL_law 868 = .ok (.iconst 3, 1) := by decide +kernel
theorem dL_law_869 : decode cL_law 869 = .ok (.iadd, 1) := by decide +kernel
theorem dL_law_870 : decode cL_law 870 = .ok (.iaload, 1) := by decide +kernel
theorem dL_law_871 : decode cL_law 871 = .ok (.invokevirtual 120, 3) := by decide +kernel
theorem dL_law_874 : decode cL_law 874 = .ok (.if_icmp .eq 173, 3) := by decide +kernel
theorem dL_law_877 : decode cL_law 877 = .ok (.iconst 0, 1) := by decide +kernel
theorem dL_law_878 : decode cL_law 878 = .ok (.ireturn, 1) := by decide +kernel
theorem dL_law_879 : decode cL_law 879 = .ok (.aload_n 1, 1) := by decide +kernel
theorem dL_law_880 : decode cL_law 880 = .ok (.aload_n 0, 1) := by decide +kernel
theorem dL_law_881 : decode cL_law 881 = .ok (.iload_n 3, 1) := by decide +kernel
theorem dL_law_882 : decode cL_law 882 = .ok (.iconst 1, 1) := by decide +kernel
theorem dL_law_883 : decode cL_law 883 = .ok (.iadd, 1) := by decide +kernel
theorem dL_law_884 : decode cL_law 884 = .ok (.iaload, 1) := by decide +kernel
theorem dL_law_885 : decode cL_law 885 = .ok (.invokevirtual 121, 3) := by decide +kernel
theorem dL_law_888 : decode cL_law 888 = .ok (.aload_n 2, 1) := by decide +kernel
theorem dL_law_889 : decode cL_law 889 = .ok (.aload_n 0, 1) := by decide +kernel
theorem dL_law_890 : decode cL_law 890 = .ok (.iload_n 3, 1) := by decide +kernel
theorem dL_law_891 : decode cL_law 891 = .ok (.iconst 1, 1) := by decide +kernel
theorem dL_law_892 : decode cL_law 892 = .ok (.iadd, 1) := by decide +kernel
theorem dL_law_893 : decode cL_law 893 = .ok (.iaload, 1) := by decide +kernel
theorem dL_law_894 : decode cL_law 894 = .ok (.invokevirtual 124, 3) := by decide +kernel
theorem dL_law_897 : decode cL_law 897 = .ok (.if_icmp .eq 150, 3) := by decide +kernel
theorem dL_law_900 : decode cL_law 900 = .ok (.iconst 0, 1) := by decide +kernel
theorem dL_law_901 : decode cL_law 901 = .ok (.ireturn, 1) := by decide +kernel
theorem dL_law_902 : decode cL_law 902 = .ok (.aload_n 1, 1) := by decide +kernel
theorem dL_law_903 : decode cL_law 903 = .ok (.aload_n 0, 1) := by decide +kernel
theorem dL_law_904 : decode cL_law 904 = .ok (.iload_n 3, 1) := by decide +kernel
theorem dL_law_905 : decode cL_law 905 = .ok (.iconst 1, 1) := by decide +kernel
theorem dL_law_906 : decode cL_law 906 = .ok (.iadd, 1) := by decide +kernel
theorem dL_law_907 : decode cL_law 907 = .ok (.iaload, 1) := by decide +kernel
theorem dL_law_908 : decode cL_law 908 = .ok (.invokevirtual 125, 3) := by decide +kernel
theorem dL_law_911 : decode cL_law 911 = .ok (.aload_n 2, 1) := by decide +kernel
theorem dL_law_912 : decode cL_law 912 = .ok (.aload_n 0, 1) := by decide +kernel
theorem dL_law_913 : decode cL_law 913 = .ok (.iload_n 3, 1) := by decide +kernel
theorem dL_law_914 : decode cL_law 914 = .ok (.iconst 1, 1) := by decide +kernel
theorem dL_law_915 : decode cL_law 915 = .ok (.iadd, 1) := by decide +kernel
theorem dL_law_916 : decode cL_law 916 = .ok (.iaload, 1) := by decide +kernel
theorem dL_law_917 : decode cL_law 917 = .ok (.invokevirtual 128, 3) := by decide +kernel
theorem dL_law_920 : decode cL_law 920 = .ok (.if_icmp .eq 127, 3) := by decide +kernel
theorem dL_law_923 : decode cL_law 923 = .ok (.iconst 0, 1) := by decide +kernel
theorem dL_law_924 : decode cL_law 924 = .ok (.ireturn, 1) := by decide +kernel
theorem dL_law_925 : decode cL_law 925 = .ok (.aload_n 1, 1) := by decide +kernel
theorem dL_law_926 : decode cL_law 926 = .ok (.invokevirtual 129, 3) := by decide +kernel
theorem dL_law_929 : decode cL_law 929 = .ok (.aload_n 2, 1) := by decide +kernel
theorem dL_law_930 : decode cL_law 930 = .ok (.invokevirtual 133, 3) := by decide +kernel
theorem dL_law_933 : decode cL_law 933 = .ok (.if_icmp .eq 114, 3) := by decide +kernel
theorem dL_law_936 : decode cL_law 936 = .ok (.iconst 0, 1) := by decide +kernel
theorem dL_law_937 : decode cL_law 937 = .ok (.ireturn, 1) := by decide +kernel
theorem dL_law_938 : decode cL_law 938 = .ok (.aload_n 1, 1) := by decide +kernel
theorem dL_law_939 : decode cL_law 939 = .ok (.aload_n 0, 1) := by decide +kernel
theorem dL_law_940 : decode cL_law 940 = .ok (.iload_n 3, 1) := by decide +kernel
theorem dL_law_941 : decode cL_law 941 = .ok (.iconst 1, 1) := by decide +kernel
theorem dL_law_942 : decode cL_law 942 = .ok (.iadd, 1) := by decide +kernel
theorem dL_law_943 : decode cL_law 943 = .ok (.iaload, 1) := by decide +kernel
theorem dL_law_944 : decode cL_law 944 = .ok (.invokevirtual 134, 3) := by decide +kernel
theorem dL_law_947 : decode cL_law 947 = .ok (.aload_n 2, 1) := by decide +kernel
theorem dL_law_948 : decode cL_law 948 = .ok (.aload_n 0, 1) := by decide +kernel
theorem dL_law_949 : decode cL_law 949 = .ok (.iload_n 3, 1) := by decide +kernel
theorem dL_law_950 : decode cL_law 950 = .ok (.iconst 1, 1) := by decide +kernel
theorem dL_law_951 : decode cL_law 951 = .ok (.iadd, 1) := by decide +kernel
theorem dL_law_952 : decode cL_law 952 = .ok (.iaload, 1) := by decide +kernel
theorem dL_law_953 : decode cL_law 953 = .ok (.invokevirtual 137, 3) := by decide +kernel
theorem dL_law_956 : decode cL_law 956 = .ok (.if_icmp .eq 91, 3) := by decide +kernel
theorem dL_law_959 : decode cL_law 959 = .ok (.iconst 0, 1) := by decide +kernel
theorem dL_law_960 : decode cL_law 960 = .ok (.ireturn, 1) := by decide +kernel
theorem dL_law_961 : decode cL_law 961 = .ok (.aload_n 1, 1) := by decide +kernel
theorem dL_law_962 : decode cL_law 962 = .ok (.invokevirtual 138, 3) := by decide +kernel
theorem dL_law_965 : decode cL_law 965 = .ok (.aload_n 2, 1) := by decide +kernel
theorem dL_law_966 : decode cL_law 966 = .ok (.invokevirtual 142, 3) := by decide +kernel
theorem dL_law_969 : decode cL_law 969 = .ok (.lcmp, 1) := by decide +kernel
theorem dL_law_970 : decode cL_law 970 = .ok (.ifCond .eq 77, 3) := by decide +kernel
theorem dL_law_973 : decode cL_law 973 = .ok (.iconst 0, 1) := by decide +kernel
theorem dL_law_974 : decode cL_law 974 = .ok (.ireturn, 1) := by decide +kernel
theorem dL_law_975 : decode cL_law 975 = .ok (.aload_n 1, 1) := by decide +kernel
theorem dL_law_976 : decode cL_law 976 = .ok (.invokevirtual 143, 3) := by decide +kernel
theorem dL_law_979 : decode cL_law 979 = .ok (.aload_n 2, 1) := by decide +kernel
theorem dL_law_980 : decode cL_law 980 = .ok (.invokevirtual 146, 3) := by decide +kernel
theorem dL_law_983 : decode cL_law 983 = .ok (.if_icmp .eq 64, 3) := by decide +kernel
theorem dL_law_986 : decode cL_law 986 = .ok (.iconst 0, 1) := by decide +kernel
theorem dL_law_987 : decode cL_law 987 = .ok (.ireturn, 1) := by decide +kernel
theorem dL_law_988 : decode cL_law 988 = .ok (.aload_n 1, 1) := by decide +kernel
theorem dL_law_989 : decode cL_law 989 = .ok (.aload_n 0, 1) := by decide +kernel
theorem dL_law_990 : decode cL_law 990 = .ok (.iload_n 3, 1) := by decide +kernel
theorem dL_law_991 : decode cL_law 991 = .ok (.iconst 1, 1) := by decide +kernel
theorem dL_law_992 : decode cL_law 992 = .ok (.iadd, 1) := by decide +kernel
theorem dL_law_993 : decode cL_law 993 = .ok (.iaload, 1) := by decide +kernel
theorem dL_law_994 : decode cL_law 994 = .ok (.invokevirtual 147, 3) := by decide +kernel
theorem dL_law_997 : decode cL_law 997 = .ok (.aload_n 2, 1) := by decide +kernel
theorem dL_law_998 : decode cL_law 998 = .ok (.aload_n 0, 1) := by decide +kernel
theorem dL_law_999 : decode cL_law 999 = .ok (.iload_n 3, 1) := by decide +kernel
theorem dL_law_1000 : decode cL_law 1000 = .ok (.iconst 1, 1) := by decide +kernel
theorem dL_law_1001 : decode cL_law 1001 = .ok (.iadd, 1) := by decide +kernel
theorem dL_law_1002 : decode cL_law 1002 = .ok (.iaload, 1) := by decide +kernel
theorem dL_law_1003 : decode cL_law 1003 = .ok (.invokevirtual 150, 3) := by decide +kernel
theorem dL_law_1006 : decode cL_law 1006 = .ok (.if_icmp .eq 41, 3) := by decide +kernel
theorem dL_law_1009 : decode cL_law 1009 = .ok (.iconst 0, 1) := by decide +kernel
theorem dL_law_1010 : decode cL_law 1010 = .ok (.ireturn, 1) := by decide +kernel
theorem dL_law_1011 : decode cL_law 1011 = .ok (.aload_n 1, 1) := by decide +kernel
theorem dL_law_1012 : decode cL_law 1012 = .ok (.invokevirtual 151, 3) := by decide +kernel
theorem dL_law_1015 : decode cL_law 1015 = .ok (.aload_n 2, 1) := by decide +kernel
theorem dL_law_1016 : decode cL_law 1016 = .ok (.invokevirtual 154, 3) := by decide +kernel
theorem dL_law_1019 : decode cL_law 1019 = .ok (.if_icmp .eq 28, 3) := by decide +kernel
theorem dL_law_1022 : decode cL_law 1022 = .ok (.iconst 0, 1) := by decide +kernel
theorem dL_law_1023 : decode cL_law 1023 = .ok (.ireturn, 1) := by decide +kernel
theorem dL_law_1024 : decode cL_law 1024 = .ok (.aload_n 1, 1) := by decide +kernel
theorem dL_law_1025 : decode cL_law 1025 = .ok (.aload_n 0, 1) := by decide +kernel
theorem dL_law_1026 : decode cL_law 1026 = .ok (.iload_n 3, 1) := by decide +kernel
theorem dL_law_1027 : decode cL_law 1027 = .ok (.iconst 1, 1) := by decide +kernel
theorem dL_law_1028 : decode cL_law 1028 = .ok (.iadd, 1) := by decide +kernel
theorem dL_law_1029 : decode cL_law 1029 = .ok (.iaload, 1) := by decide +kernel
theorem dL_law_1030 : decode cL_law 1030 = .ok (.invokevirtual 155, 3) := by decide +kernel
theorem dL_law_1033 : decode cL_law 1033 = .ok (.aload_n 2, 1) := by decide +kernel
theorem dL_law_1034 : decode cL_law 1034 = .ok (.aload_n 0, 1) := by decide +kernel
theorem dL_law_1035 : decode cL_law 1035 = .ok (.iload_n 3, 1) := by decide +kernel
theorem dL_law_1036 : decode cL_law 1036 = .ok (.iconst 1, 1) := by decide +kernel
theorem dL_law_1037 : decode cL_law 1037 = .ok (.iadd, 1) := by decide +kernel
theorem dL_law_1038 : decode cL_law 1038 = .ok (.iaload, 1) := by decide +kernel
theorem dL_law_1039 : decode cL_law 1039 = .ok (.invokevirtual 158, 3) := by decide +kernel
theorem dL_law_1042 : decode cL_law 1042 = .ok (.if_icmp .eq 5, 3) := by decide +kernel
theorem dL_law_1045 : decode cL_law 1045 = .ok (.iconst 0, 1) := by decide +kernel
theorem dL_law_1046 : decode cL_law 1046 = .ok (.ireturn, 1) := by decide +kernel
theorem dL_law_1047 : decode cL_law 1047 = .ok (.iinc 3 6, 3) := by decide +kernel
theorem dL_law_1050 : decode cL_law 1050 = .ok (.goto (-1032), 3) := by decide +kernel
theorem dL_law_1053 : decode cL_law 1053 = .ok (.iconst 1, 1) := by decide +kernel
theorem dL_law_1054 : decode cL_law 1054 = .ok (.ireturn, 1) := by decide +kernel
theorem yv_X11_feed : ho_yV yX11_feed cX11_feed 6 (some .int) 5 := ⟨⟨gt_3 (i := 107) rfl rfl, gt_1 (i := 1) (by decide +kernel) rfl, by decide +kernel⟩, gt_3 (i := 105) (by decide +kernel) rfl, gt_3 (i := 106) (by decide +kernel) rfl⟩
theorem yv_X12_feed : ho_yV yX12_feed cX12_feed 8 (some .int) 5 := ⟨⟨gt_7 (i := 116) rfl rfl, gt_1 (i := 17) (by decide +kernel) rfl, by decide +kernel⟩, gt_7 (i := 114) (by decide +kernel) rfl, gt_7 (i := 115) (by decide +kernel) rfl⟩
theorem yv_X11_end : ho_yV yX11_end cX11_end 2 (some .boolean) 1 := ⟨⟨gt_3 (i := 119) rfl rfl, gt_1 (i := 1) (by decide +kernel) rfl, by decide +kernel⟩, gt_3 (i := 117) (by decide +kernel) rfl, gt_3 (i := 118) (by decide +kernel) rfl⟩
theorem yv_X12_end : ho_yV yX12_end cX12_end 2 (some .boolean) 1 := ⟨⟨gt_7 (i := 120) rfl rfl, gt_1 (i := 17) (by decide +kernel) rfl, by decide +kernel⟩, gt_7 (i := 118) (by decide +kernel) rfl, gt_7 (i := 119) (by decide +kernel) rfl⟩
theorem yv_X11_crown : ho_yV yX11_crown cX11_crown 3 (some .int) 0 := ⟨⟨gt_3 (i := 127) rfl rfl, gt_1 (i := 1) (by decide +kernel) rfl, by decide +kernel⟩, gt_3 (i := 125) (by decide +kernel) rfl, gt_3 (i := 126) (by decide +kernel) rfl⟩
theorem yv_X12_crown : ho_yV yX12_crown cX12_crown 2 (some .int) 0 := ⟨⟨gt_7 (i := 124) rfl rfl, gt_1 (i := 17) (by decide +kernel) rfl, by decide +kernel⟩, gt_7 (i := 122) (by decide +kernel) rfl, gt_7 (i := 123) (by decide +kernel) rfl⟩
theorem yv_X11_fault : ho_yV yX11_fault cX11_fault 2 (some .int) 1 := ⟨⟨gt_4 (i := 58) rfl rfl, gt_1 (i := 1) (by decide +kernel) rfl, by decide +kernel⟩, gt_4 (i := 56) (by decide +kernel) rfl, gt_4 (i := 57) (by decide +kernel) rfl⟩
theorem yv_X12_fault : ho_yV yX12_fault cX12_fault 2 (some .int) 1 := ⟨⟨gt_8 (i := 42) rfl rfl, gt_1 (i := 17) (by decide +kernel) rfl, by decide +kernel⟩, gt_8 (i := 40) (by decide +kernel) rfl, gt_8 (i := 41) (by decide +kernel) rfl⟩
theorem yv_X11_has : ho_yV yX11_has cX11_has 2 (some .int) 1 := ⟨⟨gt_4 (i := 62) rfl rfl, gt_1 (i := 1) (by decide +kernel) rfl, by decide +kernel⟩, gt_4 (i := 60) (by decide +kernel) rfl, gt_4 (i := 61) (by decide +kernel) rfl⟩
theorem yv_X12_has : ho_yV yX12_has cX12_has 2 (some .int) 1 := ⟨⟨gt_8 (i := 46) rfl rfl, gt_1 (i := 17) (by decide +kernel) rfl, by decide +kernel⟩, gt_8 (i := 44) (by decide +kernel) rfl, gt_8 (i := 45) (by decide +kernel) rfl⟩
theorem yv_X11_letter : ho_yV yX11_letter cX11_letter 6 (some .int) 3 := ⟨⟨gt_4 (i := 80) rfl rfl, gt_1 (i := 1) (by decide +kernel) rfl, by decide +kernel⟩, gt_4 (i := 78) (by decide +kernel) rfl, gt_4 (i := 79) (by decide +kernel) rfl⟩
theorem yv_X12_letter : ho_yV yX12_letter cX12_letter 9 (some .int) 3 := ⟨⟨gt_8 (i := 73) rfl rfl, gt_1 (i := 17) (by decide +kernel) rfl, by decide +kernel⟩, gt_8 (i := 71) (by decide +kernel) rfl, gt_8 (i := 72) (by decide +kernel) rfl⟩
theorem yv_X11_province : ho_yV yX11_province cX11_province 3 (some .int) 2 := ⟨⟨gt_4 (i := 85) rfl rfl, gt_1 (i := 1) (by decide +kernel) rfl, by decide +kernel⟩, gt_4 (i := 83) (by decide +kernel) rfl, gt_4 (i := 84) (by decide +kernel) rfl⟩
theorem yv_X12_province : ho_yV yX12_province cX12_province 5 (some .int) 2 := ⟨⟨gt_8 (i := 79) rfl rfl, gt_1 (i := 17) (by decide +kernel) rfl, by decide +kernel⟩, gt_8 (i := 77) (by decide +kernel) rfl, gt_8 (i := 78) (by decide +kernel) rfl⟩
theorem yv_X11_trick : ho_yV yX11_trick cX11_trick 3 (some .int) 2 := ⟨⟨gt_4 (i := 93) rfl rfl, gt_1 (i := 1) (by decide +kernel) rfl, by decide +kernel⟩, gt_4 (i := 91) (by decide +kernel) rfl, gt_4 (i := 92) (by decide +kernel) rfl⟩
theorem yv_X12_trick : ho_yV yX12_trick cX12_trick 3 (some .int) 2 := ⟨⟨gt_8 (i := 87) rfl rfl, gt_1 (i := 17) (by decide +kernel) rfl, by decide +kernel⟩, gt_8 (i := 85) (by decide +kernel) rfl, gt_8 (i := 86) (by decide +kernel) rfl⟩
theorem yv_X11_watcher : ho_yV yX11_watcher cX11_watcher 3 (some .int) 2 := ⟨⟨gt_4 (i := 138) rfl rfl, gt_1 (i := 1) (by decide +kernel) rfl, by decide +kernel⟩, gt_4 (i := 136) (by decide +kernel) rfl, gt_4 (i := 137) (by decide +kernel) rfl⟩
theorem yv_X12_watcher : ho_yV yX12_watcher cX12_watcher 3 (some .int) 2 := ⟨⟨gt_8 (i := 140) rfl rfl, gt_1 (i := 17) (by decide +kernel) rfl, by decide +kernel⟩, gt_8 (i := 138) (by decide +kernel) rfl, gt_8 (i := 139) (by decide +kernel) rfl⟩
theorem yv_X11_sight : ho_yV yX11_sight cX11_sight 3 (some .int) 2 := ⟨⟨gt_4 (i := 146) rfl rfl, gt_1 (i := 1) (by decide +kernel) rfl, by decide +kernel⟩, gt_4 (i := 144) (by decide +kernel) rfl, gt_4 (i := 145) (by decide +kernel) rfl⟩
theorem yv_X12_sight : ho_yV yX12_sight cX12_sight 3 (some .int) 2 := ⟨⟨gt_8 (i := 152) rfl rfl, gt_1 (i := 17) (by decide +kernel) rfl, by decide +kernel⟩, gt_8 (i := 150) (by decide +kernel) rfl, gt_8 (i := 151) (by decide +kernel) rfl⟩
theorem yv_X11_kept : ho_yV yX11_kept cX11_kept 3 (some .int) 2 := ⟨⟨gt_4 (i := 151) rfl rfl, gt_1 (i := 1) (by decide +kernel) rfl, by decide +kernel⟩, gt_4 (i := 149) (by decide +kernel) rfl, gt_4 (i := 150) (by decide +kernel) rfl⟩
theorem yv_X12_kept : ho_yV yX12_kept cX12_kept 3 (some .int) 2 := ⟨⟨gt_8 (i := 156) rfl rfl, gt_1 (i := 17) (by decide +kernel) rfl, by decide +kernel⟩, gt_8 (i := 154) (by decide +kernel) rfl, gt_8 (i := 155) (by decide +kernel) rfl⟩
theorem yv_X11_best : ho_yV yX11_best cX11_best 2 (some .int) 1 := ⟨⟨gt_4 (i := 155) rfl rfl, gt_1 (i := 1) (by decide +kernel) rfl, by decide +kernel⟩, gt_4 (i := 153) (by decide +kernel) rfl, gt_4 (i := 154) (by decide +kernel) rfl⟩
theorem yv_X12_best : ho_yV yX12_best cX12_best 4 (some .int) 1 := ⟨⟨gt_8 (i := 160) rfl rfl, gt_1 (i := 17) (by decide +kernel) rfl, by decide +kernel⟩, gt_8 (i := 158) (by decide +kernel) rfl, gt_8 (i := 159) (by decide +kernel) rfl⟩
theorem yv_X11_appears : ho_yV yX11_appears cX11_appears 2 (some .int) 1 := ⟨⟨gt_4 (i := 194) rfl rfl, gt_1 (i := 1) (by decide +kernel) rfl, by decide +kernel⟩, gt_4 (i := 192) (by decide +kernel) rfl, gt_4 (i := 193) (by decide +kernel) rfl⟩
theorem yv_X12_appears : ho_yV yX12_appears cX12_appears 3 (some .int) 1 := ⟨⟨gt_8 (i := 204) rfl rfl, gt_1 (i := 17) (by decide +kernel) rfl, by decide +kernel⟩, gt_8 (i := 202) (by decide +kernel) rfl, gt_8 (i := 203) (by decide +kernel) rfl⟩
theorem yv_X11_later : ho_yV yX11_later cX11_later 3 (some .int) 2 := ⟨⟨gt_4 (i := 204) rfl rfl, gt_1 (i := 1) (by decide +kernel) rfl, by decide +kernel⟩, gt_4 (i := 202) (by decide +kernel) rfl, gt_4 (i := 203) (by decide +kernel) rfl⟩
theorem yv_X12_later : ho_yV yX12_later cX12_later 4 (some .int) 2 := ⟨⟨gt_8 (i := 208) rfl rfl, gt_1 (i := 17) (by decide +kernel) rfl, by decide +kernel⟩, gt_8 (i := 206) (by decide +kernel) rfl, gt_8 (i := 207) (by decide +kernel) rfl⟩
theorem yv_X11_curtain : ho_yV yX11_curtain cX11_curtain 2 (some .int) 0 := ⟨⟨gt_5 (i := 3) rfl rfl, gt_1 (i := 1) (by decide +kernel) rfl, by decide +kernel⟩, gt_5 (i := 1) (by decide +kernel) rfl, gt_5 (i := 2) (by decide +kernel) rfl⟩
theorem yv_X12_curtain : ho_yV yX12_curtain cX12_curtain 3 (some .int) 0 := ⟨⟨gt_9 (i := 21) rfl rfl, gt_1 (i := 17) (by decide +kernel) rfl, by decide +kernel⟩, gt_9 (i := 19) (by decide +kernel) rfl, gt_9 (i := 20) (by decide +kernel) rfl⟩
theorem yv_X11_both : ho_yV yX11_both cX11_both 2 (some .int) 1 := ⟨⟨gt_5 (i := 7) rfl rfl, gt_1 (i := 1) (by decide +kernel) rfl, by decide +kernel⟩, gt_5 (i := 5) (by decide +kernel) rfl, gt_5 (i := 6) (by decide +kernel) rfl⟩
theorem yv_X12_both : ho_yV yX12_both cX12_both 9 (some .int) 1 := ⟨⟨gt_9 (i := 25) rfl rfl, gt_1 (i := 17) (by decide +kernel) rfl, by decide +kernel⟩, gt_9 (i := 23) (by decide +kernel) rfl, gt_9 (i := 24) (by decide +kernel) rfl⟩
theorem yv_X11_drop : ho_yV yX11_drop cX11_drop 4 (some .int) 1 := ⟨⟨gt_5 (i := 31) rfl rfl, gt_1 (i := 1) (by decide +kernel) rfl, by decide +kernel⟩, gt_5 (i := 29) (by decide +kernel) rfl, gt_5 (i := 30) (by decide +kernel) rfl⟩
theorem yv_X12_drop : ho_yV yX12_drop cX12_drop 6 (some .int) 1 := ⟨⟨gt_9 (i := 29) rfl rfl, gt_1 (i := 17) (by decide +kernel) rfl, by decide +kernel⟩, gt_9 (i := 27) (by decide +kernel) rfl, gt_9 (i := 28) (by decide +kernel) rfl⟩
theorem yv_X11_count : ho_yV yX11_count cX11_count 2 (some .int) 0 := ⟨⟨gt_5 (i := 39) rfl rfl, gt_1 (i := 1) (by decide +kernel) rfl, by decide +kernel⟩, gt_5 (i := 37) (by decide +kernel) rfl, gt_5 (i := 38) (by decide +kernel) rfl⟩
theorem yv_X12_count : ho_yV yX12_count cX12_count 4 (some .int) 0 := ⟨⟨gt_9 (i := 33) rfl rfl, gt_1 (i := 17) (by decide +kernel) rfl, by decide +kernel⟩, gt_9 (i := 31) (by decide +kernel) rfl, gt_9 (i := 32) (by decide +kernel) rfl⟩
theorem yv_X11_shows : ho_yV yX11_shows cX11_shows 2 (some .int) 1 := ⟨⟨gt_5 (i := 52) rfl rfl, gt_1 (i := 1) (by decide +kernel) rfl, by decide +kernel⟩, gt_5 (i := 50) (by decide +kernel) rfl, gt_5 (i := 51) (by decide +kernel) rfl⟩
theorem yv_X12_shows : ho_yV yX12_shows cX12_shows 5 (some .int) 1 := ⟨⟨gt_9 (i := 41) rfl rfl, gt_1 (i := 17) (by decide +kernel) rfl, by decide +kernel⟩, gt_9 (i := 39) (by decide +kernel) rfl, gt_9 (i := 40) (by decide +kernel) rfl⟩
theorem yv_X11_where : ho_yV yX11_where cX11_where 2 (some .int) 1 := ⟨⟨gt_5 (i := 82) rfl rfl, gt_1 (i := 1) (by decide +kernel) rfl, by decide +kernel⟩, gt_5 (i := 80) (by decide +kernel) rfl, gt_5 (i := 81) (by decide +kernel) rfl⟩
theorem yv_X12_where : ho_yV yX12_where cX12_where 7 (some .int) 1 := ⟨⟨gt_9 (i := 53) rfl rfl, gt_1 (i := 17) (by decide +kernel) rfl, by decide +kernel⟩, gt_9 (i := 51) (by decide +kernel) rfl, gt_9 (i := 52) (by decide +kernel) rfl⟩
theorem yv_X11_watch : ho_yV yX11_watch cX11_watch 2 (some .int) 1 := ⟨⟨gt_5 (i := 95) rfl rfl, gt_1 (i := 1) (by decide +kernel) rfl, by decide +kernel⟩, gt_5 (i := 93) (by decide +kernel) rfl, gt_5 (i := 94) (by decide +kernel) rfl⟩
theorem yv_X12_watch : ho_yV yX12_watch cX12_watch 4 (some .int) 1 := ⟨⟨gt_9 (i := 61) rfl rfl, gt_1 (i := 17) (by decide +kernel) rfl, by decide +kernel⟩, gt_9 (i := 59) (by decide +kernel) rfl, gt_9 (i := 60) (by decide +kernel) rfl⟩
theorem yv_X11_seat : ho_yV yX11_seat cX11_seat 6 (some .int) 1 := ⟨⟨gt_5 (i := 107) rfl rfl, gt_1 (i := 1) (by decide +kernel) rfl, by decide +kernel⟩, gt_5 (i := 105) (by decide +kernel) rfl, gt_5 (i := 106) (by decide +kernel) rfl⟩
theorem yv_X12_seat : ho_yV yX12_seat cX12_seat 4 (some .int) 1 := ⟨⟨gt_9 (i := 69) rfl rfl, gt_1 (i := 17) (by decide +kernel) rfl, by decide +kernel⟩, gt_9 (i := 67) (by decide +kernel) rfl, gt_9 (i := 68) (by decide +kernel) rfl⟩
theorem yv_X11_show : ho_yV yX11_show cX11_show 2 (some .int) 1 := ⟨⟨gt_5 (i := 111) rfl rfl, gt_1 (i := 1) (by decide +kernel) rfl, by decide +kernel⟩, gt_5 (i := 109) (by decide +kernel) rfl, gt_5 (i := 110) (by decide +kernel) rfl⟩
theorem yv_X12_show : ho_yV yX12_show cX12_show 2 (some .int) 1 := ⟨⟨gt_9 (i := 77) rfl rfl, gt_1 (i := 17) (by decide +kernel) rfl, by decide +kernel⟩, gt_9 (i := 75) (by decide +kernel) rfl, gt_9 (i := 76) (by decide +kernel) rfl⟩
theorem yv_X11_sit : ho_yV yX11_sit cX11_sit 3 (some .boolean) 2 := ⟨⟨gt_5 (i := 120) rfl rfl, gt_1 (i := 1) (by decide +kernel) rfl, by decide +kernel⟩, gt_5 (i := 118) (by decide +kernel) rfl, gt_5 (i := 119) (by decide +kernel) rfl⟩
theorem yv_X12_sit : ho_yV yX12_sit cX12_sit 3 (some .boolean) 2 := ⟨⟨gt_9 (i := 85) rfl rfl, gt_1 (i := 17) (by decide +kernel) rfl, by decide +kernel⟩, gt_9 (i := 83) (by decide +kernel) rfl, gt_9 (i := 84) (by decide +kernel) rfl⟩
theorem yv_X11_move : ho_yV yX11_move cX11_move 4 (some .boolean) 3 := ⟨⟨gt_5 (i := 124) rfl rfl, gt_1 (i := 1) (by decide +kernel) rfl, by decide +kernel⟩, gt_5 (i := 122) (by decide +kernel) rfl, gt_5 (i := 123) (by decide +kernel) rfl⟩
theorem yv_X12_move : ho_yV yX12_move cX12_move 4 (some .boolean) 3 := ⟨⟨gt_9 (i := 94) rfl rfl, gt_1 (i := 17) (by decide +kernel) rfl, by decide +kernel⟩, gt_9 (i := 92) (by decide +kernel) rfl, gt_9 (i := 93) (by decide +kernel) rfl⟩
theorem yv_X11_years : ho_yV yX11_years cX11_years 4 (some .int) 1 := ⟨⟨gt_5 (i := 128) rfl rfl, gt_1 (i := 1) (by decide +kernel) rfl, by decide +kernel⟩, gt_5 (i := 126) (by decide +kernel) rfl, gt_5 (i := 127) (by decide +kernel) rfl⟩
theorem yv_X12_years : ho_yV yX12_years cX12_years 2 (some .int) 1 := ⟨⟨gt_9 (i := 99) rfl rfl, gt_1 (i := 17) (by decide +kernel) rfl, by decide +kernel⟩, gt_9 (i := 97) (by decide +kernel) rfl, gt_9 (i := 98) (by decide +kernel) rfl⟩
theorem yv_X11_chance : ho_yV yX11_chance cX11_chance 4 (some .int) 1 := ⟨⟨gt_5 (i := 137) rfl rfl, gt_1 (i := 1) (by decide +kernel) rfl, by decide +kernel⟩, gt_5 (i := 135) (by decide +kernel) rfl, gt_5 (i := 136) (by decide +kernel) rfl⟩
theorem yv_X12_chance : ho_yV yX12_chance cX12_chance 6 (some .int) 1 := ⟨⟨gt_9 (i := 107) rfl rfl, gt_1 (i := 17) (by decide +kernel) rfl, by decide +kernel⟩, gt_9 (i := 105) (by decide +kernel) rfl, gt_9 (i := 106) (by decide +kernel) rfl⟩
theorem yv_X11_undo : ho_yV yX11_undo cX11_undo 1 (some .boolean) 0 := ⟨⟨gt_5 (i := 153) rfl rfl, gt_1 (i := 1) (by decide +kernel) rfl, by decide +kernel⟩, gt_5 (i := 151) (by decide +kernel) rfl, gt_5 (i := 152) (by decide +kernel) rfl⟩
theorem yv_X12_undo : ho_yV yX12_undo cX12_undo 2 (some .boolean) 0 := ⟨⟨gt_9 (i := 73) rfl rfl, gt_1 (i := 17) (by decide +kernel) rfl, by decide +kernel⟩, gt_9 (i := 71) (by decide +kernel) rfl, gt_9 (i := 72) (by decide +kernel) rfl⟩
theorem yv_X11_seed : ho_yV yX11_seed cX11_seed 2 (some .boolean) 1 := ⟨⟨gt_5 (i := 157) rfl rfl, gt_1 (i := 1) (by decide +kernel) rfl, by decide +kernel⟩, gt_5 (i := 155) (by decide +kernel) rfl, gt_5 (i := 156) (by decide +kernel) rfl⟩
theorem yv_X12_seed : ho_yV yX12_seed cX12_seed 2 (some .boolean) 1 := ⟨⟨gt_9 (i := 103) rfl rfl, gt_1 (i := 17) (by decide +kernel) rfl, by decide +kernel⟩, gt_9 (i := 101) (by decide +kernel) rfl, gt_9 (i := 102) (by decide +kernel) rfl⟩
theorem yv_X11_ask : ho_yV yX11_ask cX11_ask 2 (some .long) 0 := ⟨⟨gt_5 (i := 161) rfl rfl, gt_1 (i := 1) (by decide +kernel) rfl, by decide +kernel⟩, gt_5 (i := 159) (by decide +kernel) rfl, gt_5 (i := 160) (by decide +kernel) rfl⟩
theorem yv_X12_ask : ho_yV yX12_ask cX12_ask 4 (some .long) 0 := ⟨⟨gt_9 (i := 119) rfl rfl, gt_1 (i := 17) (by decide +kernel) rfl, by decide +kernel⟩, gt_9 (i := 117) (by decide +kernel) rfl, gt_9 (i := 118) (by decide +kernel) rfl⟩
theorem yv_X11_image : ho_yV yX11_image cX11_image 1 (some .int) 0 := ⟨⟨gt_5 (i := 212) rfl rfl, gt_1 (i := 1) (by decide +kernel) rfl, by decide +kernel⟩, gt_5 (i := 210) (by decide +kernel) rfl, gt_5 (i := 211) (by decide +kernel) rfl⟩
theorem yv_X12_image : ho_yV yX12_image cX12_image 2 (some .int) 0 := ⟨⟨gt_9 (i := 161) rfl rfl, gt_1 (i := 17) (by decide +kernel) rfl, by decide +kernel⟩, gt_9 (i := 159) (by decide +kernel) rfl, gt_9 (i := 160) (by decide +kernel) rfl⟩
theorem yv_X11_octet : ho_yV yX11_octet cX11_octet 2 (some .int) 1 := ⟨⟨gt_5 (i := 224) rfl rfl, gt_1 (i := 1) (by decide +kernel) rfl, by decide +kernel⟩, gt_5 (i := 222) (by decide +kernel) rfl, gt_5 (i := 223) (by decide +kernel) rfl⟩
theorem yv_X12_octet : ho_yV yX12_octet cX12_octet 2 (some .int) 1 := ⟨⟨gt_9 (i := 177) rfl rfl, gt_1 (i := 17) (by decide +kernel) rfl, by decide +kernel⟩, gt_9 (i := 175) (by decide +kernel) rfl, gt_9 (i := 176) (by decide +kernel) rfl⟩
theorem yv_X11_on : ho_yV yX11_on cX11_on 2 (some .boolean) 0 := ⟨⟨gt_5 (i := 228) rfl rfl, gt_1 (i := 1) (by decide +kernel) rfl, by decide +kernel⟩, gt_5 (i := 226) (by decide +kernel) rfl, gt_5 (i := 227) (by decide +kernel) rfl⟩
theorem yv_X12_on : ho_yV yX12_on cX12_on 4 (some .boolean) 0 := ⟨⟨gt_9 (i := 181) rfl rfl, gt_1 (i := 17) (by decide +kernel) rfl, by decide +kernel⟩, gt_9 (i := 179) (by decide +kernel) rfl, gt_9 (i := 180) (by decide +kernel) rfl⟩
theorem yv_X11_status : ho_yV yX11_status cX11_status 2 (some .int) 1 := ⟨⟨gt_6 (i := 9) rfl rfl, gt_1 (i := 1) (by decide +kernel) rfl, by decide +kernel⟩, gt_6 (i := 7) (by decide +kernel) rfl, gt_6 (i := 8) (by decide +kernel) rfl⟩
theorem yv_X12_status : ho_yV yX12_status cX12_status 2 (some .int) 1 := ⟨⟨gt_9 (i := 193) rfl rfl, gt_1 (i := 17) (by decide +kernel) rfl, by decide +kernel⟩, gt_9 (i := 191) (by decide +kernel) rfl, gt_9 (i := 192) (by decide +kernel) rfl⟩
theorem lk_RL_13 : Cond.methodLink RL 13 yX11_feed ∈ gw := gt_3 (i := 104) (by decide +kernel) rfl
theorem lk_RL_17 : Cond.methodLink RL 17 yX12_feed ∈ gw := gt_7 (i := 113) (by decide +kernel) rfl
theorem lk_RL_18 : Cond.methodLink RL 18 yX11_end ∈ gw := gt_3 (i := 116) (by decide +kernel) rfl
theorem lk_RL_22 : Cond.methodLink RL 22 yX12_end ∈ gw := gt_7 (i := 117) (by decide +kernel) rfl
theorem lk_RL_23 : Cond.methodLink RL 23 yX11_crown ∈ gw := gt_3 (i := 124) (by decide +kernel) rfl
theorem lk_RL_27 : Cond.methodLink RL 27 yX12_crown ∈ gw := gt_7 (i := 121) (by decide +kernel) rfl
theorem lk_RL_28 : Cond.methodLink RL 28 yX11_fault ∈ gw := gt_4 (i := 55) (by decide +kernel) rfl
theorem lk_RL_32 : Cond.methodLink RL 32 yX12_fault ∈ gw := gt_8 (i := 39) (by decide +kernel) rfl
theorem lk_RL_33 : Cond.methodLink RL 33 yX11_has ∈ gw := gt_4 (i := 59) (by decide +kernel) rfl
theorem lk_RL_36 : Cond.methodLink RL 36 yX12_has ∈ gw := gt_8 (i := 43) (by decide +kernel) rfl
theorem lk_RL_37 : Cond.methodLink RL 37 yX11_letter ∈ gw := gt_4 (i := 77) (by decide +kernel) rfl
theorem lk_RL_41 : Cond.methodLink RL 41 yX12_letter ∈ gw := gt_8 (i := 70) (by decide +kernel) rfl
theorem lk_RL_42 : Cond.methodLink RL 42 yX11_province ∈ gw := gt_4 (i := 82) (by decide +kernel) rfl
theorem lk_RL_46 : Cond.methodLink RL 46 yX12_province ∈ gw := gt_8 (i := 76) (by decide +kernel) rfl
theorem lk_RL_47 : Cond.methodLink RL 47 yX11_trick ∈ gw := gt_4 (i := 90) (by decide +kernel) rfl
theorem lk_RL_50 : Cond.methodLink RL 50 yX12_trick ∈ gw := gt_8 (i := 84) (by decide +kernel) rfl
theorem lk_RL_51 : Cond.methodLink RL 51 yX11_watcher ∈ gw := gt_4 (i := 135) (by decide +kernel) rfl
theorem lk_RL_54 : Cond.methodLink RL 54 yX12_watcher ∈ gw := gt_8 (i := 137) (by decide +kernel) rfl
theorem lk_RL_55 : Cond.methodLink RL 55 yX11_sight ∈ gw := gt_4 (i := 143) (by decide +kernel) rfl
theorem lk_RL_58 : Cond.methodLink RL 58 yX12_sight ∈ gw := gt_8 (i := 149) (by decide +kernel) rfl
theorem lk_RL_59 : Cond.methodLink RL 59 yX11_kept ∈ gw := gt_4 (i := 148) (by decide +kernel) rfl
theorem lk_RL_62 : Cond.methodLink RL 62 yX12_kept ∈ gw := gt_8 (i := 153) (by decide +kernel) rfl
theorem lk_RL_63 : Cond.methodLink RL 63 yX11_best ∈ gw := gt_4 (i := 152) (by decide +kernel) rfl
theorem lk_RL_66 : Cond.methodLink RL 66 yX12_best ∈ gw := gt_8 (i := 157) (by decide +kernel) rfl
theorem lk_RL_67 : Cond.methodLink RL 67 yX11_appears ∈ gw := gt_4 (i := 191) (by decide +kernel) rfl
theorem lk_RL_70 : Cond.methodLink RL 70 yX12_appears ∈ gw := gt_8 (i := 201) (by decide +kernel) rfl
theorem lk_RL_71 : Cond.methodLink RL 71 yX11_later ∈ gw := gt_4 (i := 201) (by decide +kernel) rfl
theorem lk_RL_74 : Cond.methodLink RL 74 yX12_later ∈ gw := gt_8 (i := 205) (by decide +kernel) rfl
theorem lk_RL_75 : Cond.methodLink RL 75 yX11_curtain ∈ gw := gt_5 (i := 0) (by decide +kernel) rfl
theorem lk_RL_78 : Cond.methodLink RL 78 yX12_curtain ∈ gw := gt_9 (i := 18) (by decide +kernel) rfl
theorem lk_RL_79 : Cond.methodLink RL 79 yX11_both ∈ gw := gt_5 (i := 4) (by decide +kernel) rfl
theorem lk_RL_82 : Cond.methodLink RL 82 yX12_both ∈ gw := gt_9 (i := 22) (by decide +kernel) rfl
theorem lk_RL_83 : Cond.methodLink RL 83 yX11_drop ∈ gw := gt_5 (i := 28) (by decide +kernel) rfl
theorem lk_RL_86 : Cond.methodLink RL 86 yX12_drop ∈ gw := gt_9 (i := 26) (by decide +kernel) rfl
theorem lk_RL_87 : Cond.methodLink RL 87 yX11_count ∈ gw := gt_5 (i := 36) (by decide +kernel) rfl
theorem lk_RL_90 : Cond.methodLink RL 90 yX12_count ∈ gw := gt_9 (i := 30) (by decide +kernel) rfl
theorem lk_RL_91 : Cond.methodLink RL 91 yX11_shows ∈ gw := gt_5 (i := 49) (by decide +kernel) rfl
theorem lk_RL_94 : Cond.methodLink RL 94 yX12_shows ∈ gw := gt_9 (i := 38) (by decide +kernel) rfl
theorem lk_RL_95 : Cond.methodLink RL 95 yX11_where ∈ gw := gt_5 (i := 79) (by decide +kernel) rfl
theorem lk_RL_98 : Cond.methodLink RL 98 yX12_where ∈ gw := gt_9 (i := 50) (by decide +kernel) rfl
theorem lk_RL_99 : Cond.methodLink RL 99 yX11_watch ∈ gw := gt_5 (i := 92) (by decide +kernel) rfl
theorem lk_RL_102 : Cond.methodLink RL 102 yX12_watch ∈ gw := gt_9 (i := 58) (by decide +kernel) rfl
theorem lk_RL_103 : Cond.methodLink RL 103 yX11_seat ∈ gw := gt_5 (i := 104) (by decide +kernel) rfl
theorem lk_RL_106 : Cond.methodLink RL 106 yX12_seat ∈ gw := gt_9 (i := 66) (by decide +kernel) rfl
theorem lk_RL_107 : Cond.methodLink RL 107 yX11_show ∈ gw := gt_5 (i := 108) (by decide +kernel) rfl
theorem lk_RL_110 : Cond.methodLink RL 110 yX12_show ∈ gw := gt_9 (i := 74) (by decide +kernel) rfl
theorem lk_RL_111 : Cond.methodLink RL 111 yX11_sit ∈ gw := gt_5 (i := 117) (by decide +kernel) rfl
theorem lk_RL_115 : Cond.methodLink RL 115 yX12_sit ∈ gw := gt_9 (i := 82) (by decide +kernel) rfl
theorem lk_RL_116 : Cond.methodLink RL 116 yX11_move ∈ gw := gt_5 (i := 121) (by decide +kernel) rfl
theorem lk_RL_120 : Cond.methodLink RL 120 yX12_move ∈ gw := gt_9 (i := 91) (by decide +kernel) rfl
theorem lk_RL_121 : Cond.methodLink RL 121 yX11_years ∈ gw := gt_5 (i := 125) (by decide +kernel) rfl
theorem lk_RL_124 : Cond.methodLink RL 124 yX12_years ∈ gw := gt_9 (i := 96) (by decide +kernel) rfl
theorem lk_RL_125 : Cond.methodLink RL 125 yX11_chance ∈ gw := gt_5 (i := 134) (by decide +kernel) rfl
theorem lk_RL_128 : Cond.methodLink RL 128 yX12_chance ∈ gw := gt_9 (i := 104) (by decide +kernel) rfl
theorem lk_RL_129 : Cond.methodLink RL 129 yX11_undo ∈ gw := gt_5 (i := 150) (by decide +kernel) rfl
theorem lk_RL_133 : Cond.methodLink RL 133 yX12_undo ∈ gw := gt_9 (i := 70) (by decide +kernel) rfl
theorem lk_RL_134 : Cond.methodLink RL 134 yX11_seed ∈ gw := gt_5 (i := 154) (by decide +kernel) rfl
theorem lk_RL_137 : Cond.methodLink RL 137 yX12_seed ∈ gw := gt_9 (i := 100) (by decide +kernel) rfl
theorem lk_RL_138 : Cond.methodLink RL 138 yX11_ask ∈ gw := gt_5 (i := 158) (by decide +kernel) rfl
theorem lk_RL_142 : Cond.methodLink RL 142 yX12_ask ∈ gw := gt_9 (i := 116) (by decide +kernel) rfl
theorem lk_RL_143 : Cond.methodLink RL 143 yX11_image ∈ gw := gt_5 (i := 209) (by decide +kernel) rfl
theorem lk_RL_146 : Cond.methodLink RL 146 yX12_image ∈ gw := gt_9 (i := 158) (by decide +kernel) rfl
theorem lk_RL_147 : Cond.methodLink RL 147 yX11_octet ∈ gw := gt_5 (i := 221) (by decide +kernel) rfl
theorem lk_RL_150 : Cond.methodLink RL 150 yX12_octet ∈ gw := gt_9 (i := 174) (by decide +kernel) rfl
theorem lk_RL_151 : Cond.methodLink RL 151 yX11_on ∈ gw := gt_5 (i := 225) (by decide +kernel) rfl
theorem lk_RL_154 : Cond.methodLink RL 154 yX12_on ∈ gw := gt_9 (i := 178) (by decide +kernel) rfl
theorem lk_RL_155 : Cond.methodLink RL 155 yX11_status ∈ gw := gt_6 (i := 6) (by decide +kernel) rfl
theorem lk_RL_158 : Cond.methodLink RL 158 yX12_status ∈ gw := gt_9 (i := 190) (by decide +kernel) rfl
/-- the law's world: both systems, apart -/
def lw_R (EH EM : Ev) (A : Nat → Prop) (s : State) (H0 H : Heap) (locs : List Loc) (SH SM : Hp) : Prop := (va_K EH.1 vwCl (ho_t EH) s ∧ va_K EM.1 vwCl (ho_t EM) s) ∧ (va_P EH.1 vwCl (ho_w yH EH SH) H ∧ va_P EM.1 vwCl (ho_w yM EM SM) H) ∧ (va_D A (ho_w yH EH SH) ∧ va_D A (ho_w yM EM SM)) ∧ (∀ a ∈ yH.1, ∀ b ∈ yM.1, EH.2.1 a ≠ EM.2.1 b) ∧ va_S A H0 H locs
theorem ho_wm {Y : Sy} {E : Ev} {S : Hp} {k : Nat} {q : Nat × va_E} (h : (ho_w Y E S)[k]? = some q) : ∃ a ∈ Y.1, q.1 = E.2.1 a := by
  unfold ho_w at h
  rw [List.getElem?_map] at h
  cases ha : Y.1[k]? with
  | none => rw [ha] at h; cases h
  | some a =>
    rw [ha] at h
    cases h
    exact ⟨a, List.mem_of_getElem? ha, rfl⟩
section LWC
variable {p : Program} {l : Launch} {e : Env} {R : Room} {s : State} {m : MethodId} {args : Array Value} {below : List Frame} {meth : Method} {c : Code} {H H0 : Heap} {locs : List Loc} {Q : State → Prop} {cells slots : Nat}
variable {Y1 Y2 : Sy} {E1 E2 : Ev} {A : Nat → Prop} {S1 S2 : Hp} {own : String} {cc : ByteArray} {nL : Nat} {ret : Option FieldType} {pc : Nat} {ls : Array Slot} {rest : List Value}
theorem lw_call {x : Option Value × Hp} {a : Array Value} {st0 : List Value} (hr : va_Run p l e R s m args below meth c H locs cells slots 0 0 (F0 m pc ls st0) rest (ho_Q Y1 E1 S1 H.size x a) (va_A (ho_w Y1 E1 S1) H.size)) (hP2 : va_P E2.1 vwCl (ho_w Y2 E2 S2) H) (hD : va_D A (ho_w Y1 E1 S1)) (hdis : ∀ a ∈ Y1.1, ∀ b ∈ Y2.1, E1.2.1 a ≠ E2.2.1 b) (hS : va_S A H0 H locs) (hA : ∀ q, H0.size ≤ q → A q)
    (kk : ∀ (H1 : Heap) (locs1 : List Loc), va_P E1.1 vwCl (ho_w Y1 E1 x.2) H1 → va_P E2.1 vwCl (ho_w Y2 E2 S2) H1 → va_D A (ho_w Y1 E1 x.2) → va_S A H0 H1 locs1 → W p l e R s m args below meth c H1 locs1 cells slots Q (F0 m (pc + 3) ls (x.1.toList ++ rest))) : W p l e R s m args below meth c H locs cells slots Q (F0 m pc ls st0) := by
  have hA1 : ∀ q, va_A (ho_w Y1 E1 S1) H.size q → A q := by
    intro q h
    rcases h with ⟨k, e9, h⟩ | h
    · exact hD.2 k (q, e9) h
    · exact hA q (Nat.le_trans hS.1 h)
  intro T hT X
  obtain ⟨v, st₀, t, T', L, h0, X', hL, e1, e2, ⟨hv, ⟨hP1, hD1⟩, hz, hk⟩, st⟩ := hr T hT X
  cases hv
  rw [h0] at hz hk
  have hP2' : va_P E2.1 vwCl (ho_w Y2 E2 S2) T'.heap := by
    intro k q hq
    refine (hP2 k q hq).kept ?_
    rw [e1]
    refine hk q.1 (hP2 k q hq).lt (fun h => ?_)
    obtain ⟨b, hb, hqb⟩ := ho_wm hq
    rcases h with ⟨k9, e9, h⟩ | h
    · obtain ⟨a9, ha9, hqa⟩ := ho_wm h
      exact hdis a9 ha9 b hb (hqa.symm.trans hqb)
    · have := (hP2 k q hq).lt
      omega
  obtain ⟨t2, a1, b1⟩ := kk T'.heap (locs ++ L) (by rw [e1]; exact hP1) hP2' (hD1.weaken (fun _ q _ h => hA1 q.1 h))
    ⟨Nat.le_trans hS.1 (by rw [e1]; exact hz), fun q h1 h2 => by rw [e1, hk q (Nat.lt_of_lt_of_le h1 hS.1) (fun z => h2 (hA1 q z))]; exact hS.2.1 q h1 h2, fun q hq => by
      rcases List.mem_append.mp hq with h | h
      · exact hS.2.2 q h
      · exact hA1 _ (hL q h)⟩ T' rfl X'
  exact ⟨t2, st t2 a1, b1⟩
theorem lw_V {y : MethodName} {by2 : ByteArray} {mL n d2 idx b ci N : Nat} {rt : Option FieldType} {Cn : String} {T : u_T} {ty : Nat → FieldType} {As : List Value} {x : Option Value × Hp} {st0 : List Value} (C : ho_I p s m args meth c own cc nL ret) (F : ho_F ci Cn T ty N) (hM : ho_M l Y1 E1 y by2 mL rt d2 (.ref (E1.2.1 b) :: As) S1 x) (hy : ho_yV y by2 mL rt n) (hlk : Cond.methodLink own idx y ∈ gw) (hC : y.cls = Cn) (hb : b ∈ Y1.1 ∧ Y1.2.1 b = (1, ci)) (hn : As.length = n) (h0 : st0 = As.reverse ++ .ref (E1.2.1 b) :: rest)
    (hsz : ls.size = nL) (hst : (rest.map fun v => v.category).sum ≤ 8) (hd : d2 ≤ 1000) (hmL : mL ≤ 45) (hc : cells ≤ 600000) (hs : slots ≤ 7302250) (hK : va_K E1.1 vwCl (ho_t E1) s) (hP1 : va_P E1.1 vwCl (ho_w Y1 E1 S1) H) (hP2 : va_P E2.1 vwCl (ho_w Y2 E2 S2) H) (hD : va_D A (ho_w Y1 E1 S1)) (hdis : ∀ a ∈ Y1.1, ∀ b ∈ Y2.1, E1.2.1 a ≠ E2.2.1 b) (hS : va_S A H0 H locs) (hA : ∀ q, H0.size ≤ q → A q) (hdg : decode cc pc = .ok (.invokevirtual idx, 3))
    (kk : ∀ (H1 : Heap) (locs1 : List Loc), va_P E1.1 vwCl (ho_w Y1 E1 x.2) H1 → va_P E2.1 vwCl (ho_w Y2 E2 S2) H1 → va_D A (ho_w Y1 E1 x.2) → va_S A H0 H1 locs1 → W p l e room_1 s m args below meth c H1 locs1 cells slots Q (F0 m (pc + 3) ls (x.1.toList ++ rest))) : W p l e room_1 s m args below meth c H locs cells slots Q (F0 m pc ls st0) := by
  subst h0
  have hR : ho_R Y1 E1 A s H0 H locs S1 := ⟨hK, hP1, hD, hS⟩
  obtain ⟨hx, hbc, hml, -, hown, hts, -⟩ := C
  obtain ⟨⟨hc1, hi, hd1⟩, hin, hse⟩ := hy
  obtain ⟨q, -, hq⟩ := ho_at hb.1
  have he := hq E1 S1
  rw [ho_c1 hb.2] at he
  subst hC
  have hroom : (ho_rm d2).frames + 1 ≤ room_1.frames ∧ 8 + (mL + 11) + (ho_rm d2).locals ≤ room_1.locals := ⟨by show d2 + 1 ≤ 2048; omega, by show 8 + (mL + 11) + 64 * d2 ≤ 84000; omega⟩
  exact lw_call (va_runV (As := As) (rest := rest) ⟨hx, hbc, hml, hown, hts⟩ (hM H.size) ⟨callB_of n hts (ho_good hc1) rfl rfl rfl (hts _ hi) (hts _ hlk) hd1 hroom, hts _ hin, hts _ hse⟩ ⟨ho_blind, va_recv hK hP1 F.1 he, ho_pre hR _⟩ rfl hn hsz rfl (lv_room hst) hdg ⟨by show cells + 0 ≤ 600000; omega, by show slots + 0 ≤ 7302250; omega⟩) hP2 hD hdis hS hA kk
end LWC
def sim_0 (Sim : Hp → Hp → Prop) : Prop := (∀ (x1 x2 x3 x4 x5 : Int32) (SH SM : Hp), Sim SH SM → ∃ (r : Int32) (SH1 SM1 : Hp), f_X11_feed x1 x2 x3 x4 x5 SH = some (r, SH1) ∧ f_X12_feed x1 x2 x3 x4 x5 SM = some (r, SM1) ∧ Sim SH1 SM1)
def sim_1 (Sim : Hp → Hp → Prop) : Prop := (∀ (x1 : Int32) (SH SM : Hp), Sim SH SM → ∃ (r : Int32) (SH1 SM1 : Hp), f_X11_end x1 SH = some (r, SH1) ∧ f_X12_end x1 SM = some (r, SM1) ∧ Sim SH1 SM1)
def sim_2 (Sim : Hp → Hp → Prop) : Prop := (∀ (SH SM : Hp), Sim SH SM → ∃ (r : Int32) (SH1 SM1 : Hp), f_X11_crown SH = some (r, SH1) ∧ f_X12_crown SM = some (r, SM1) ∧ Sim SH1 SM1)
def sim_3 (Sim : Hp → Hp → Prop) : Prop := (∀ (x1 : Int32) (SH SM : Hp), Sim SH SM → ∃ (r : Int32) (SH1 SM1 : Hp), f_X11_fault x1 SH = some (r, SH1) ∧ f_X12_fault x1 SM = some (r, SM1) ∧ Sim SH1 SM1)
def sim_4 (Sim : Hp → Hp → Prop) : Prop := (∀ (x1 : Int32) (SH SM : Hp), Sim SH SM → ∃ (r : Int32) (SH1 SM1 : Hp), f_X11_has x1 SH = some (r, SH1) ∧ f_X12_has x1 SM = some (r, SM1) ∧ Sim SH1 SM1)
def sim_5 (Sim : Hp → Hp → Prop) : Prop := (∀ (x1 x2 x3 : Int32) (SH SM : Hp), Sim SH SM → ∃ (r : Int32) (SH1 SM1 : Hp), f_X11_letter x1 x2 x3 SH = some (r, SH1) ∧ f_X12_letter x1 x2 x3 SM = some (r, SM1) ∧ Sim SH1 SM1)
def sim_6 (Sim : Hp → Hp → Prop) : Prop := (∀ (x1 x2 : Int32) (SH SM : Hp), Sim SH SM → ∃ (r : Int32) (SH1 SM1 : Hp), f_X11_province x1 x2 SH = some (r, SH1) ∧ f_X12_province x1 x2 SM = some (r, SM1) ∧ Sim SH1 SM1)
def sim_7 (Sim : Hp → Hp → Prop) : Prop := (∀ (x1 x2 : Int32) (SH SM : Hp), Sim SH SM → ∃ (r : Int32) (SH1 SM1 : Hp), f_X11_trick x1 x2 SH = some (r, SH1) ∧ f_X12_trick x1 x2 SM = some (r, SM1) ∧ Sim SH1 SM1)
def sim_8 (Sim : Hp → Hp → Prop) : Prop := (∀ (x1 x2 : Int32) (SH SM : Hp), Sim SH SM → ∃ (r : Int32) (SH1 SM1 : Hp), f_X11_watcher x1 x2 SH = some (r, SH1) ∧ f_X12_watcher x1 x2 SM = some (r, SM1) ∧ Sim SH1 SM1)
def sim_9 (Sim : Hp → Hp → Prop) : Prop := (∀ (x1 x2 : Int32) (SH SM : Hp), Sim SH SM → ∃ (r : Int32) (SH1 SM1 : Hp), f_X11_sight x1 x2 SH = some (r, SH1) ∧ f_X12_sight x1 x2 SM = some (r, SM1) ∧ Sim SH1 SM1)
def sim_10 (Sim : Hp → Hp → Prop) : Prop := (∀ (x1 x2 : Int32) (SH SM : Hp), Sim SH SM → ∃ (r : Int32) (SH1 SM1 : Hp), f_X11_kept x1 x2 SH = some (r, SH1) ∧ f_X12_kept x1 x2 SM = some (r, SM1) ∧ Sim SH1 SM1)
def sim_11 (Sim : Hp → Hp → Prop) : Prop := (∀ (x1 : Int32) (SH SM : Hp), Sim SH SM → ∃ (r : Int32) (SH1 SM1 : Hp), f_X11_best x1 SH = some (r, SH1) ∧ f_X12_best x1 SM = some (r, SM1) ∧ Sim SH1 SM1)
def sim_12 (Sim : Hp → Hp → Prop) : Prop := (∀ (x1 : Int32) (SH SM : Hp), Sim SH SM → ∃ (r : Int32) (SH1 SM1 : Hp), f_X11_appears x1 SH = some (r, SH1) ∧ f_X12_appears x1 SM = some (r, SM1) ∧ Sim SH1 SM1)
def sim_13 (Sim : Hp → Hp → Prop) : Prop := (∀ (x1 x2 : Int32) (SH SM : Hp), Sim SH SM → ∃ (r : Int32) (SH1 SM1 : Hp), f_X11_later x1 x2 SH = some (r, SH1) ∧ f_X12_later x1 x2 SM = some (r, SM1) ∧ Sim SH1 SM1)
def sim_14 (Sim : Hp → Hp → Prop) : Prop := (∀ (SH SM : Hp), Sim SH SM → ∃ (r : Int32) (SH1 SM1 : Hp), f_X11_curtain SH = some (r, SH1) ∧ f_X12_curtain SM = some (r, SM1) ∧ Sim SH1 SM1)
def sim_15 (Sim : Hp → Hp → Prop) : Prop := (∀ (x1 : Int32) (SH SM : Hp), Sim SH SM → ∃ (r : Int32) (SH1 SM1 : Hp), f_X11_both x1 SH = some (r, SH1) ∧ f_X12_both x1 SM = some (r, SM1) ∧ Sim SH1 SM1)
def sim_16 (Sim : Hp → Hp → Prop) : Prop := (∀ (x1 : Int32) (SH SM : Hp), Sim SH SM → ∃ (r : Int32) (SH1 SM1 : Hp), f_X11_drop x1 SH = some (r, SH1) ∧ f_X12_drop x1 SM = some (r, SM1) ∧ Sim SH1 SM1)
def sim_17 (Sim : Hp → Hp → Prop) : Prop := (∀ (SH SM : Hp), Sim SH SM → ∃ (r : Int32) (SH1 SM1 : Hp), f_X11_count SH = some (r, SH1) ∧ f_X12_count SM = some (r, SM1) ∧ Sim SH1 SM1)
def sim_18 (Sim : Hp → Hp → Prop) : Prop := (∀ (x1 : Int32) (SH SM : Hp), Sim SH SM → ∃ (r : Int32) (SH1 SM1 : Hp), f_X11_shows x1 SH = some (r, SH1) ∧ f_X12_shows x1 SM = some (r, SM1) ∧ Sim SH1 SM1)
def sim_19 (Sim : Hp → Hp → Prop) : Prop := (∀ (x1 : Int32) (SH SM : Hp), Sim SH SM → ∃ (r : Int32) (SH1 SM1 : Hp), f_X11_where x1 SH = some (r, SH1) ∧ f_X12_where x1 SM = some (r, SM1) ∧ Sim SH1 SM1)
def sim_20 (Sim : Hp → Hp → Prop) : Prop := (∀ (x1 : Int32) (SH SM : Hp), Sim SH SM → ∃ (r : Int32) (SH1 SM1 : Hp), f_X11_watch x1 SH = some (r, SH1) ∧ f_X12_watch x1 SM = some (r, SM1) ∧ Sim SH1 SM1)
def sim_21 (Sim : Hp → Hp → Prop) : Prop := (∀ (x1 : Int32) (SH SM : Hp), Sim SH SM → ∃ (r : Int32) (SH1 SM1 : Hp), f_X11_seat x1 SH = some (r, SH1) ∧ f_X12_seat x1 SM = some (r, SM1) ∧ Sim SH1 SM1)
def sim_22 (Sim : Hp → Hp → Prop) : Prop := (∀ (x1 : Int32) (SH SM : Hp), Sim SH SM → ∃ (r : Int32) (SH1 SM1 : Hp), f_X11_show x1 SH = some (r, SH1) ∧ f_X12_show x1 SM = some (r, SM1) ∧ Sim SH1 SM1)
def sim_23 (Sim : Hp → Hp → Prop) : Prop := (∀ (x1 x2 : Int32) (SH SM : Hp), Sim SH SM → ∃ (r : Int32) (SH1 SM1 : Hp), f_X11_sit x1 x2 SH = some (r, SH1) ∧ f_X12_sit x1 x2 SM = some (r, SM1) ∧ Sim SH1 SM1)
def sim_24 (Sim : Hp → Hp → Prop) : Prop := (∀ (x1 x2 x3 : Int32) (SH SM : Hp), Sim SH SM → ∃ (r : Int32) (SH1 SM1 : Hp), f_X11_move x1 x2 x3 SH = some (r, SH1) ∧ f_X12_move x1 x2 x3 SM = some (r, SM1) ∧ Sim SH1 SM1)
def sim_25 (Sim : Hp → Hp → Prop) : Prop := (∀ (x1 : Int32) (SH SM : Hp), Sim SH SM → ∃ (r : Int32) (SH1 SM1 : Hp), f_X11_years x1 SH = some (r, SH1) ∧ f_X12_years x1 SM = some (r, SM1) ∧ Sim SH1 SM1)
def sim_26 (Sim : Hp → Hp → Prop) : Prop := (∀ (x1 : Int32) (SH SM : Hp), Sim SH SM → ∃ (r : Int32) (SH1 SM1 : Hp), f_X11_chance x1 SH = some (r, SH1) ∧ f_X12_chance x1 SM = some (r, SM1) ∧ Sim SH1 SM1)
def sim_27 (Sim : Hp → Hp → Prop) : Prop := (∀ (SH SM : Hp), Sim SH SM → ∃ (r : Int32) (SH1 SM1 : Hp), f_X11_undo SH = some (r, SH1) ∧ f_X12_undo SM = some (r, SM1) ∧ Sim SH1 SM1)
def sim_28 (Sim : Hp → Hp → Prop) : Prop := (∀ (x1 : Int32) (SH SM : Hp), Sim SH SM → ∃ (r : Int32) (SH1 SM1 : Hp), f_X11_seed x1 SH = some (r, SH1) ∧ f_X12_seed x1 SM = some (r, SM1) ∧ Sim SH1 SM1)
def sim_29 (Sim : Hp → Hp → Prop) : Prop := (∀ (SH SM : Hp), Sim SH SM → ∃ (r : Int64) (SH1 SM1 : Hp), f_X11_ask SH = some (r, SH1) ∧ f_X12_ask SM = some (r, SM1) ∧ Sim SH1 SM1)
def sim_30 (Sim : Hp → Hp → Prop) : Prop := (∀ (SH SM : Hp), Sim SH SM → ∃ (r : Int32) (SH1 SM1 : Hp), f_X11_image SH = some (r, SH1) ∧ f_X12_image SM = some (r, SM1) ∧ Sim SH1 SM1)
def sim_31 (Sim : Hp → Hp → Prop) : Prop := (∀ (x1 : Int32) (SH SM : Hp), Sim SH SM → ∃ (r : Int32) (SH1 SM1 : Hp), f_X11_octet x1 SH = some (r, SH1) ∧ f_X12_octet x1 SM = some (r, SM1) ∧ Sim SH1 SM1)
def sim_32 (Sim : Hp → Hp → Prop) : Prop := (∀ (SH SM : Hp), Sim SH SM → ∃ (r : Int32) (SH1 SM1 : Hp), f_X11_on SH = some (r, SH1) ∧ f_X12_on SM = some (r, SM1) ∧ Sim SH1 SM1)
def sim_33 (Sim : Hp → Hp → Prop) : Prop := (∀ (x1 : Int32) (SH SM : Hp), Sim SH SM → ∃ (r : Int32) (SH1 SM1 : Hp), f_X11_status x1 SH = some (r, SH1) ∧ f_X12_status x1 SM = some (r, SM1) ∧ Sim SH1 SM1)
/-- what is owed of the plain functions: from alike states each call answers alike, and the states are alike behind it -/
def simOK (Sim : Hp → Hp → Prop) : Prop := sim_0 Sim ∧ sim_1 Sim ∧ sim_2 Sim ∧ sim_3 Sim ∧ sim_4 Sim ∧ sim_5 Sim ∧ sim_6 Sim ∧ sim_7 Sim ∧ sim_8 Sim ∧ sim_9 Sim ∧ sim_10 Sim ∧ sim_11 Sim ∧ sim_12 Sim ∧ sim_13 Sim ∧ sim_14 Sim ∧ sim_15 Sim ∧ sim_16 Sim ∧ sim_17 Sim ∧ sim_18 Sim ∧ sim_19 Sim ∧ sim_20 Sim ∧ sim_21 Sim ∧ sim_22 Sim ∧ sim_23 Sim ∧ sim_24 Sim ∧ sim_25 Sim ∧ sim_26 Sim ∧ sim_27 Sim ∧ sim_28 Sim ∧ sim_29 Sim ∧ sim_30 Sim ∧ sim_31 Sim ∧ sim_32 Sim ∧ sim_33 Sim
set_option maxHeartbeats 4000000 in
set_option maxRecDepth 100000 in
theorem lc_0 {p : Program} {l : Launch} {e : Env} {s : State} {m : MethodId} {args : Array Value} {below : List Frame} {meth : Method} {c : Code} {EH EM : Ev} {b L kc ks : Nat} {xs : Nat → Int32} {Sim : Hp → Hp → Prop} {Q : State → Prop} (C : ho_I p s m args meth c RL cL_law 4 ret) (hX : va_X b L xs s s.heap) (hbl : b < s.heap.size) (hkc : kc ≤ 600000) (hks : ks ≤ 7302250) (hs : sim_0 Sim) (x3 : Int32) (h1 : vp_in (x3 + (1 : Int32)) L) (h2 : vp_in (x3 + (2 : Int32)) L) (h3 : vp_in (x3 + (3 : Int32)) L) (h4 : vp_in (x3 + (4 : Int32)) L) (h5 : vp_in (x3 + (5 : Int32)) L) (SH SM : Hp) (hS0 : Sim SH SM) (H : Heap) (locs : List Loc) (ls : Array Slot) (hR : lw_R EH EM (fun q : Nat => s.heap.size ≤ q) s s.heap H locs SH SM) (hl : lv_has ls 4 [(0, .ref b), (1, .ref (EH.2.1 0)), (2, .ref (EM.2.1 0)), (3, .int x3)])
    (kt : ∀ (SH1 SM1 : Hp) (H1 : Heap) (locs1 : List Loc), Sim SH1 SM1 → lw_R EH EM (fun q : Nat => s.heap.size ≤ q) s s.heap H1 locs1 SH1 SM1 → W p l e room_1 s m args below meth c H1 locs1 kc ks Q (F0 m 1047 ls [])) : W p l e room_1 s m args below meth c H locs kc ks Q (F0 m 184 ls []) := by
  have hA : ∀ q : Nat, s.heap.size ≤ q → (fun q : Nat => s.heap.size ≤ q) q := fun _ h => h
  have hbA : ¬ (fun q : Nat => s.heap.size ≤ q) b := Nat.not_le.mpr hbl
  obtain ⟨r, SH1, SM1, e1, e2, hS1⟩ := hs (xs (x3 + (1 : Int32)).toNatClampNeg) (xs (x3 + (2 : Int32)).toNatClampNeg) (xs (x3 + (3 : Int32)).toNatClampNeg) (xs (x3 + (4 : Int32)).toNatClampNeg) (xs (x3 + (5 : Int32)).toNatClampNeg) SH SM hS0
  obtain ⟨⟨hKH, hKM⟩, ⟨hPH, hPM⟩, ⟨hDH, hDM⟩, hdis, hS⟩ := hR
  refine lv_aload_n C.1 C.2.1 dL_law_184 rfl (lv_at hl 1 rfl) ?_
  refine lv_aload_n C.1 C.2.1 dL_law_185 rfl (lv_at hl 0 rfl) ?_
  refine lv_iload_n C.1 C.2.1 dL_law_186 rfl (lv_at hl 3 rfl) ?_
  refine lv_iconst (v := (1 : Int32)) C.1 C.2.1 dL_law_187 (by decide) ?_
  refine lv_iadd C.1 C.2.1 dL_law_188 ?_
  refine va_sld C.1 C.2.1 hX hbl hbA hS h1 dL_law_189 ?_
  refine lv_aload_n C.1 C.2.1 dL_law_190 rfl (lv_at hl 0 rfl) ?_
  refine lv_iload_n C.1 C.2.1 dL_law_191 rfl (lv_at hl 3 rfl) ?_
  refine lv_iconst (v := (2 : Int32)) C.1 C.2.1 dL_law_192 (by decide) ?_
  refine lv_iadd C.1 C.2.1 dL_law_193 ?_
  refine va_sld C.1 C.2.1 hX hbl hbA hS h2 dL_law_194 ?_
  refine lv_aload_n C.1 C.2.1 dL_law_195 rfl (lv_at hl 0 rfl) ?_
  refine lv_iload_n C.1 C.2.1 dL_law_196 rfl (lv_at hl 3 rfl) ?_
  refine lv_iconst (v := (3 : Int32)) C.1 C.2.1 dL_law_197 (by decide) ?_
  refine lv_iadd C.1 C.2.1 dL_law_198 ?_
  refine va_sld C.1 C.2.1 hX hbl hbA hS h3 dL_law_199 ?_
  refine lv_aload_n C.1 C.2.1 dL_law_200 rfl (lv_at hl 0 rfl) ?_
  refine lv_iload_n C.1 C.2.1 dL_law_201 rfl (lv_at hl 3 rfl) ?_
  refine lv_iconst (v := (4 : Int32)) C.1 C.2.1 dL_law_202 (by decide) ?_
  refine lv_iadd C.1 C.2.1 dL_law_203 ?_
  refine va_sld C.1 C.2.1 hX hbl hbA hS h4 dL_law_204 ?_
  refine lv_aload_n C.1 C.2.1 dL_law_205 rfl (lv_at hl 0 rfl) ?_
  refine lv_iload_n C.1 C.2.1 dL_law_206 rfl (lv_at hl 3 rfl) ?_
  refine lv_iconst (v := (5 : Int32)) C.1 C.2.1 dL_law_207 (by decide) ?_
  refine lv_iadd C.1 C.2.1 dL_law_208 ?_
  refine va_sld C.1 C.2.1 hX hbl hbA hS h5 dL_law_209 ?_
  refine lw_V (Y2 := yM) (E2 := EM) (S2 := SM) (x := (some (.int r), SH1)) (As := [.int (xs (x3 + (1 : Int32)).toNatClampNeg), .int (xs (x3 + (2 : Int32)).toNatClampNeg), .int (xs (x3 + (3 : Int32)).toNatClampNeg), .int (xs (x3 + (4 : Int32)).toNatClampNeg), .int (xs (x3 + (5 : Int32)).toNatClampNeg)]) (rest := []) C cf11 (c_X11_feed l EH (xs (x3 + (1 : Int32)).toNatClampNeg) (xs (x3 + (2 : Int32)).toNatClampNeg) (xs (x3 + (3 : Int32)).toNatClampNeg) (xs (x3 + (4 : Int32)).toNatClampNeg) (xs (x3 + (5 : Int32)).toNatClampNeg) _ _ e1) yv_X11_feed lk_RL_13 rfl aH_0 rfl rfl hl.1 (Nat.le_of_ble_eq_true rfl) (by decide) (by decide) hkc hks hKH hPH hPM hDH hdis hS hA dL_law_210 (fun H locs hPH hPM hDH hS => ?_)
  show W p l e room_1 s m args below meth c H locs kc ks Q (F0 m 213 ls [.int r])
  refine lv_aload_n C.1 C.2.1 dL_law_213 rfl (lv_at hl 2 rfl) ?_
  refine lv_aload_n C.1 C.2.1 dL_law_214 rfl (lv_at hl 0 rfl) ?_
  refine lv_iload_n C.1 C.2.1 dL_law_215 rfl (lv_at hl 3 rfl) ?_
  refine lv_iconst (v := (1 : Int32)) C.1 C.2.1 dL_law_216 (by decide) ?_
  refine lv_iadd C.1 C.2.1 dL_law_217 ?_
  refine va_sld C.1 C.2.1 hX hbl hbA hS h1 dL_law_218 ?_
  refine lv_aload_n C.1 C.2.1 dL_law_219 rfl (lv_at hl 0 rfl) ?_
  refine lv_iload_n C.1 C.2.1 dL_law_220 rfl (lv_at hl 3 rfl) ?_
  refine lv_iconst (v := (2 : Int32)) C.1 C.2.1 dL_law_221 (by decide) ?_
  refine lv_iadd C.1 C.2.1 dL_law_222 ?_
  refine va_sld C.1 C.2.1 hX hbl hbA hS h2 dL_law_223 ?_
  refine lv_aload_n C.1 C.2.1 dL_law_224 rfl (lv_at hl 0 rfl) ?_
  refine lv_iload_n C.1 C.2.1 dL_law_225 rfl (lv_at hl 3 rfl) ?_
  refine lv_iconst (v := (3 : Int32)) C.1 C.2.1 dL_law_226 (by decide) ?_
  refine lv_iadd C.1 C.2.1 dL_law_227 ?_
  refine va_sld C.1 C.2.1 hX hbl hbA hS h3 dL_law_228 ?_
  refine lv_aload_n C.1 C.2.1 dL_law_229 rfl (lv_at hl 0 rfl) ?_
  refine lv_iload_n C.1 C.2.1 dL_law_230 rfl (lv_at hl 3 rfl) ?_
  refine lv_iconst (v := (4 : Int32)) C.1 C.2.1 dL_law_231 (by decide) ?_
  refine lv_iadd C.1 C.2.1 dL_law_232 ?_
  refine va_sld C.1 C.2.1 hX hbl hbA hS h4 dL_law_233 ?_
  refine lv_aload_n C.1 C.2.1 dL_law_234 rfl (lv_at hl 0 rfl) ?_
  refine lv_iload_n C.1 C.2.1 dL_law_235 rfl (lv_at hl 3 rfl) ?_
  refine lv_iconst (v := (5 : Int32)) C.1 C.2.1 dL_law_236 (by decide) ?_
  refine lv_iadd C.1 C.2.1 dL_law_237 ?_
  refine va_sld C.1 C.2.1 hX hbl hbA hS h5 dL_law_238 ?_
  refine lw_V (Y2 := yH) (E2 := EH) (S2 := SH1) (x := (some (.int r), SM1)) (As := [.int (xs (x3 + (1 : Int32)).toNatClampNeg), .int (xs (x3 + (2 : Int32)).toNatClampNeg), .int (xs (x3 + (3 : Int32)).toNatClampNeg), .int (xs (x3 + (4 : Int32)).toNatClampNeg), .int (xs (x3 + (5 : Int32)).toNatClampNeg)]) (rest := [.int r]) C cf12 (c_X12_feed l EM (xs (x3 + (1 : Int32)).toNatClampNeg) (xs (x3 + (2 : Int32)).toNatClampNeg) (xs (x3 + (3 : Int32)).toNatClampNeg) (xs (x3 + (4 : Int32)).toNatClampNeg) (xs (x3 + (5 : Int32)).toNatClampNeg) _ _ e2) yv_X12_feed lk_RL_17 rfl aM_0 rfl rfl hl.1 (Nat.le_of_ble_eq_true rfl) (by decide) (by decide) hkc hks hKM hPM hPH hDM (fun a ha b hb q => hdis b hb a ha q.symm) hS hA dL_law_239 (fun H locs hPM hPH hDM hS => ?_)
  show W p l e room_1 s m args below meth c H locs kc ks Q (F0 m 242 ls [.int r, .int r])
  refine lv_icmp_eq (tgt := 1047) C.1 C.2.1 dL_law_242 (by decide) (fun _ => ?_) (fun hc => absurd rfl hc)
  exact kt SH1 SM1 H locs hS1 ⟨⟨hKH, hKM⟩, ⟨hPH, hPM⟩, ⟨hDH, hDM⟩, hdis, hS⟩
set_option maxHeartbeats 4000000 in
set_option maxRecDepth 100000 in
theorem lc_1 {p : Program} {l : Launch} {e : Env} {s : State} {m : MethodId} {args : Array Value} {below : List Frame} {meth : Method} {c : Code} {EH EM : Ev} {b L kc ks : Nat} {xs : Nat → Int32} {Sim : Hp → Hp → Prop} {Q : State → Prop} (C : ho_I p s m args meth c RL cL_law 4 ret) (hX : va_X b L xs s s.heap) (hbl : b < s.heap.size) (hkc : kc ≤ 600000) (hks : ks ≤ 7302250) (hs : sim_1 Sim) (x3 : Int32) (h1 : vp_in (x3 + (1 : Int32)) L) (SH SM : Hp) (hS0 : Sim SH SM) (H : Heap) (locs : List Loc) (ls : Array Slot) (hR : lw_R EH EM (fun q : Nat => s.heap.size ≤ q) s s.heap H locs SH SM) (hl : lv_has ls 4 [(0, .ref b), (1, .ref (EH.2.1 0)), (2, .ref (EM.2.1 0)), (3, .int x3)])
    (kt : ∀ (SH1 SM1 : Hp) (H1 : Heap) (locs1 : List Loc), Sim SH1 SM1 → lw_R EH EM (fun q : Nat => s.heap.size ≤ q) s s.heap H1 locs1 SH1 SM1 → W p l e room_1 s m args below meth c H1 locs1 kc ks Q (F0 m 1047 ls [])) : W p l e room_1 s m args below meth c H locs kc ks Q (F0 m 247 ls []) := by
  have hA : ∀ q : Nat, s.heap.size ≤ q → (fun q : Nat => s.heap.size ≤ q) q := fun _ h => h
  have hbA : ¬ (fun q : Nat => s.heap.size ≤ q) b := Nat.not_le.mpr hbl
  obtain ⟨r, SH1, SM1, e1, e2, hS1⟩ := hs (xs (x3 + (1 : Int32)).toNatClampNeg) SH SM hS0
  obtain ⟨⟨hKH, hKM⟩, ⟨hPH, hPM⟩, ⟨hDH, hDM⟩, hdis, hS⟩ := hR
  refine lv_aload_n C.1 C.2.1 dL_law_247 rfl (lv_at hl 1 rfl) ?_
  refine lv_aload_n C.1 C.2.1 dL_law_248 rfl (lv_at hl 0 rfl) ?_
  refine lv_iload_n C.1 C.2.1 dL_law_249 rfl (lv_at hl 3 rfl) ?_
  refine lv_iconst (v := (1 : Int32)) C.1 C.2.1 dL_law_250 (by decide) ?_
  refine lv_iadd C.1 C.2.1 dL_law_251 ?_
  refine va_sld C.1 C.2.1 hX hbl hbA hS h1 dL_law_252 ?_
  refine lw_V (Y2 := yM) (E2 := EM) (S2 := SM) (x := (some (.int r), SH1)) (As := [.int (xs (x3 + (1 : Int32)).toNatClampNeg)]) (rest := []) C cf11 (c_X11_end l EH (xs (x3 + (1 : Int32)).toNatClampNeg) _ _ e1) yv_X11_end lk_RL_18 rfl aH_0 rfl rfl hl.1 (Nat.le_of_ble_eq_true rfl) (by decide) (by decide) hkc hks hKH hPH hPM hDH hdis hS hA dL_law_253 (fun H locs hPH hPM hDH hS => ?_)
  show W p l e room_1 s m args below meth c H locs kc ks Q (F0 m 256 ls [.int r])
  refine lv_aload_n C.1 C.2.1 dL_law_256 rfl (lv_at hl 2 rfl) ?_
  refine lv_aload_n C.1 C.2.1 dL_law_257 rfl (lv_at hl 0 rfl) ?_
  refine lv_iload_n C.1 C.2.1 dL_law_258 rfl (lv_at hl 3 rfl) ?_
  refine lv_iconst (v := (1 : Int32)) C.1 C.2.1 dL_law_259 (by decide) ?_
  refine lv_iadd C.1 C.2.1 dL_law_260 ?_
  refine va_sld C.1 C.2.1 hX hbl hbA hS h1 dL_law_261 ?_
  refine lw_V (Y2 := yH) (E2 := EH) (S2 := SH1) (x := (some (.int r), SM1)) (As := [.int (xs (x3 + (1 : Int32)).toNatClampNeg)]) (rest := [.int r]) C cf12 (c_X12_end l EM (xs (x3 + (1 : Int32)).toNatClampNeg) _ _ e2) yv_X12_end lk_RL_22 rfl aM_0 rfl rfl hl.1 (Nat.le_of_ble_eq_true rfl) (by decide) (by decide) hkc hks hKM hPM hPH hDM (fun a ha b hb q => hdis b hb a ha q.symm) hS hA dL_law_262 (fun H locs hPM hPH hDM hS => ?_)
  show W p l e room_1 s m args below meth c H locs kc ks Q (F0 m 265 ls [.int r, .int r])
  refine lv_icmp_eq (tgt := 1047) C.1 C.2.1 dL_law_265 (by decide) (fun _ => ?_) (fun hc => absurd rfl hc)
  exact kt SH1 SM1 H locs hS1 ⟨⟨hKH, hKM⟩, ⟨hPH, hPM⟩, ⟨hDH, hDM⟩, hdis, hS⟩
set_option maxHeartbeats 4000000 in
set_option maxRecDepth 100000 in
theorem lc_2 {p : Program} {l : Launch} {e : Env} {s : State} {m : MethodId} {args : Array Value} {below : List Frame} {meth : Method} {c : Code} {EH EM : Ev} {b L kc ks : Nat} {xs : Nat → Int32} {Sim : Hp → Hp → Prop} {Q : State → Prop} (C : ho_I p s m args meth c RL cL_law 4 ret) (hX : va_X b L xs s s.heap) (hbl : b < s.heap.size) (hkc : kc ≤ 600000) (hks : ks ≤ 7302250) (hs : sim_2 Sim) (x3 : Int32) (SH SM : Hp) (hS0 : Sim SH SM) (H : Heap) (locs : List Loc) (ls : Array Slot) (hR : lw_R EH EM (fun q : Nat => s.heap.size ≤ q) s s.heap H locs SH SM) (hl : lv_has ls 4 [(0, .ref b), (1, .ref (EH.2.1 0)), (2, .ref (EM.2.1 0)), (3, .int x3)])
    (kt : ∀ (SH1 SM1 : Hp) (H1 : Heap) (locs1 : List Loc), Sim SH1 SM1 → lw_R EH EM (fun q : Nat => s.heap.size ≤ q) s s.heap H1 locs1 SH1 SM1 → W p l e room_1 s m args below meth c H1 locs1 kc ks Q (F0 m 1047 ls [])) : W p l e room_1 s m args below meth c H locs kc ks Q (F0 m 270 ls []) := by
  have hA : ∀ q : Nat, s.heap.size ≤ q → (fun q : Nat => s.heap.size ≤ q) q := fun _ h => h
  have hbA : ¬ (fun q : Nat => s.heap.size ≤ q) b := Nat.not_le.mpr hbl
  obtain ⟨r, SH1, SM1, e1, e2, hS1⟩ := hs SH SM hS0
  obtain ⟨⟨hKH, hKM⟩, ⟨hPH, hPM⟩, ⟨hDH, hDM⟩, hdis, hS⟩ := hR
  refine lv_aload_n C.1 C.2.1 dL_law_270 rfl (lv_at hl 1 rfl) ?_
  refine lw_V (Y2 := yM) (E2 := EM) (S2 := SM) (x := (some (.int r), SH1)) (As := []) (rest := []) C cf11 (c_X11_crown l EH _ _ e1) yv_X11_crown lk_RL_23 rfl aH_0 rfl rfl hl.1 (Nat.le_of_ble_eq_true rfl) (by decide) (by decide) hkc hks hKH hPH hPM hDH hdis hS hA dL_law_271 (fun H locs hPH hPM hDH hS => ?_)
  show W p l e room_1 s m args below meth c H locs kc ks Q (F0 m 274 ls [.int r])
  refine lv_aload_n C.1 C.2.1 dL_law_274 rfl (lv_at hl 2 rfl) ?_
  refine lw_V (Y2 := yH) (E2 := EH) (S2 := SH1) (x := (some (.int r), SM1)) (As := []) (rest := [.int r]) C cf12 (c_X12_crown l EM _ _ e2) yv_X12_crown lk_RL_27 rfl aM_0 rfl rfl hl.1 (Nat.le_of_ble_eq_true rfl) (by decide) (by decide) hkc hks hKM hPM hPH hDM (fun a ha b hb q => hdis b hb a ha q.symm) hS hA dL_law_275 (fun H locs hPM hPH hDM hS => ?_)
  show W p l e room_1 s m args below meth c H locs kc ks Q (F0 m 278 ls [.int r, .int r])
  refine lv_icmp_eq (tgt := 1047) C.1 C.2.1 dL_law_278 (by decide) (fun _ => ?_) (fun hc => absurd rfl hc)
  exact kt SH1 SM1 H locs hS1 ⟨⟨hKH, hKM⟩, ⟨hPH, hPM⟩, ⟨hDH, hDM⟩, hdis, hS⟩
set_option maxHeartbeats 4000000 in
set_option maxRecDepth 100000 in
theorem lc_3 {p : Program} {l : Launch} {e : Env} {s : State} {m : MethodId} {args : Array Value} {below : List Frame} {meth : Method} {c : Code} {EH EM : Ev} {b L kc ks : Nat} {xs : Nat → Int32} {Sim : Hp → Hp → Prop} {Q : State → Prop} (C : ho_I p s m args meth c RL cL_law 4 ret) (hX : va_X b L xs s s.heap) (hbl : b < s.heap.size) (hkc : kc ≤ 600000) (hks : ks ≤ 7302250) (hs : sim_3 Sim) (x3 : Int32) (h1 : vp_in (x3 + (1 : Int32)) L) (SH SM : Hp) (hS0 : Sim SH SM) (H : Heap) (locs : List Loc) (ls : Array Slot) (hR : lw_R EH EM (fun q : Nat => s.heap.size ≤ q) s s.heap H locs SH SM) (hl : lv_has ls 4 [(0, .ref b), (1, .ref (EH.2.1 0)), (2, .ref (EM.2.1 0)), (3, .int x3)])
    (kt : ∀ (SH1 SM1 : Hp) (H1 : Heap) (locs1 : List Loc), Sim SH1 SM1 → lw_R EH EM (fun q : Nat => s.heap.size ≤ q) s s.heap H1 locs1 SH1 SM1 → W p l e room_1 s m args below meth c H1 locs1 kc ks Q (F0 m 1047 ls [])) : W p l e room_1 s m args below meth c H locs kc ks Q (F0 m 283 ls []) := by
  have hA : ∀ q : Nat, s.heap.size ≤ q → (fun q : Nat => s.heap.size ≤ q) q := fun _ h => h
  have hbA : ¬ (fun q : Nat => s.heap.size ≤ q) b := Nat.not_le.mpr hbl
  obtain ⟨r, SH1, SM1, e1, e2, hS1⟩ := hs (xs (x3 + (1 : Int32)).toNatClampNeg) SH SM hS0
  obtain ⟨⟨hKH, hKM⟩, ⟨hPH, hPM⟩, ⟨hDH, hDM⟩, hdis, hS⟩ := hR
  refine lv_aload_n C.1 C.2.1 dL_law_283 rfl (lv_at hl 1 rfl) ?_
  refine lv_aload_n C.1 C.2.1 dL_law_284 rfl (lv_at hl 0 rfl) ?_
  refine lv_iload_n C.1 C.2.1 dL_law_285 rfl (lv_at hl 3 rfl) ?_
  refine lv_iconst (v := (1 : Int32)) C.1 C.2.1 dL_law_286 (by decide) ?_
  refine lv_iadd C.1 C.2.1 dL_law_287 ?_
  refine va_sld C.1 C.2.1 hX hbl hbA hS h1 dL_law_288 ?_
  refine lw_V (Y2 := yM) (E2 := EM) (S2 := SM) (x := (some (.int r), SH1)) (As := [.int (xs (x3 + (1 : Int32)).toNatClampNeg)]) (rest := []) C cf11 (c_X11_fault l EH (xs (x3 + (1 : Int32)).toNatClampNeg) _ _ e1) yv_X11_fault lk_RL_28 rfl aH_0 rfl rfl hl.1 (Nat.le_of_ble_eq_true rfl) (by decide) (by decide) hkc hks hKH hPH hPM hDH hdis hS hA dL_law_289 (fun H locs hPH hPM hDH hS => ?_)
  show W p l e room_1 s m args below meth c H locs kc ks Q (F0 m 292 ls [.int r])
  refine lv_aload_n C.1 C.2.1 dL_law_292 rfl (lv_at hl 2 rfl) ?_
  refine lv_aload_n C.1 C.2.1 dL_law_293 rfl (lv_at hl 0 rfl) ?_
  refine lv_iload_n C.1 C.2.1 dL_law_294 rfl (lv_at hl 3 rfl) ?_
  refine lv_iconst (v := (1 : Int32)) C.1 C.2.1 dL_law_295 (by decide) ?_
  refine lv_iadd C.1 C.2.1 dL_law_296 ?_
  refine va_sld C.1 C.2.1 hX hbl hbA hS h1 dL_law_297 ?_
  refine lw_V (Y2 := yH) (E2 := EH) (S2 := SH1) (x := (some (.int r), SM1)) (As := [.int (xs (x3 + (1 : Int32)).toNatClampNeg)]) (rest := [.int r]) C cf12 (c_X12_fault l EM (xs (x3 + (1 : Int32)).toNatClampNeg) _ _ e2) yv_X12_fault lk_RL_32 rfl aM_0 rfl rfl hl.1 (Nat.le_of_ble_eq_true rfl) (by decide) (by decide) hkc hks hKM hPM hPH hDM (fun a ha b hb q => hdis b hb a ha q.symm) hS hA dL_law_298 (fun H locs hPM hPH hDM hS => ?_)
  show W p l e room_1 s m args below meth c H locs kc ks Q (F0 m 301 ls [.int r, .int r])
  refine lv_icmp_eq (tgt := 1047) C.1 C.2.1 dL_law_301 (by decide) (fun _ => ?_) (fun hc => absurd rfl hc)
  exact kt SH1 SM1 H locs hS1 ⟨⟨hKH, hKM⟩, ⟨hPH, hPM⟩, ⟨hDH, hDM⟩, hdis, hS⟩
set_option maxHeartbeats 4000000 in
set_option maxRecDepth 100000 in
theorem lc_4 {p : Program} {l : Launch} {e : Env} {s : State} {m : MethodId} {args : Array Value} {below : List Frame} {meth : Method} {c : Code} {EH EM : Ev} {b L kc ks : Nat} {xs : Nat → Int32} {Sim : Hp → Hp → Prop} {Q : State → Prop} (C : ho_I p s m args meth c RL cL_law 4 ret) (hX : va_X b L xs s s.heap) (hbl : b < s.heap.size) (hkc : kc ≤ 600000) (hks : ks ≤ 7302250) (hs : sim_4 Sim) (x3 : Int32) (h1 : vp_in (x3 + (1 : Int32)) L) (SH SM : Hp) (hS0 : Sim SH SM) (H : Heap) (locs : List Loc) (ls : Array Slot) (hR : lw_R EH EM (fun q : Nat => s.heap.size ≤ q) s s.heap H locs SH SM) (hl : lv_has ls 4 [(0, .ref b), (1, .ref (EH.2.1 0)), (2, .ref (EM.2.1 0)), (3, .int x3)])
    (kt : ∀ (SH1 SM1 : Hp) (H1 : Heap) (locs1 : List Loc), Sim SH1 SM1 → lw_R EH EM (fun q : Nat => s.heap.size ≤ q) s s.heap H1 locs1 SH1 SM1 → W p l e room_1 s m args below meth c H1 locs1 kc ks Q (F0 m 1047 ls [])) : W p l e room_1 s m args below meth c H locs kc ks Q (F0 m 306 ls []) := by
  have hA : ∀ q : Nat, s.heap.size ≤ q → (fun q : Nat => s.heap.size ≤ q) q := fun _ h => h
  have hbA : ¬ (fun q : Nat => s.heap.size ≤ q) b := Nat.not_le.mpr hbl
  obtain ⟨r, SH1, SM1, e1, e2, hS1⟩ := hs (xs (x3 + (1 : Int32)).toNatClampNeg) SH SM hS0
  obtain ⟨⟨hKH, hKM⟩, ⟨hPH, hPM⟩, ⟨hDH, hDM⟩, hdis, hS⟩ := hR
  refine lv_aload_n C.1 C.2.1 dL_law_306 rfl (lv_at hl 1 rfl) ?_
  refine lv_aload_n C.1 C.2.1 dL_law_307 rfl (lv_at hl 0 rfl) ?_
  refine lv_iload_n C.1 C.2.1 dL_law_308 rfl (lv_at hl 3 rfl) ?_
  refine lv_iconst (v := (1 : Int32)) C.1 C.2.1 dL_law_309 (by decide) ?_
  refine lv_iadd C.1 C.2.1 dL_law_310 ?_
  refine va_sld C.1 C.2.1 hX hbl hbA hS h1 dL_law_311 ?_
  refine lw_V (Y2 := yM) (E2 := EM) (S2 := SM) (x := (some (.int r), SH1)) (As := [.int (xs (x3 + (1 : Int32)).toNatClampNeg)]) (rest := []) C cf11 (c_X11_has l EH (xs (x3 + (1 : Int32)).toNatClampNeg) _ _ e1) yv_X11_has lk_RL_33 rfl aH_0 rfl rfl hl.1 (Nat.le_of_ble_eq_true rfl) (by decide) (by decide) hkc hks hKH hPH hPM hDH hdis hS hA dL_law_312 (fun H locs hPH hPM hDH hS => ?_)
  show W p l e room_1 s m args below meth c H locs kc ks Q (F0 m 315 ls [.int r])
  refine lv_aload_n C.1 C.2.1 dL_law_315 rfl (lv_at hl 2 rfl) ?_
  refine lv_aload_n C.1 C.2.1 dL_law_316 rfl (lv_at hl 0 rfl) ?_
  refine lv_iload_n C.1 C.2.1 dL_law_317 rfl (lv_at hl 3 rfl) ?_
  refine lv_iconst (v := (1 : Int32)) C.1 C.2.1 dL_law_318 (by decide) ?_
  refine lv_iadd C.1 C.2.1 dL_law_319 ?_
  refine va_sld C.1 C.2.1 hX hbl hbA hS h1 dL_law_320 ?_
  refine lw_V (Y2 := yH) (E2 := EH) (S2 := SH1) (x := (some (.int r), SM1)) (As := [.int (xs (x3 + (1 : Int32)).toNatClampNeg)]) (rest := [.int r]) C cf12 (c_X12_has l EM (xs (x3 + (1 : Int32)).toNatClampNeg) _ _ e2) yv_X12_has lk_RL_36 rfl aM_0 rfl rfl hl.1 (Nat.le_of_ble_eq_true rfl) (by decide) (by decide) hkc hks hKM hPM hPH hDM (fun a ha b hb q => hdis b hb a ha q.symm) hS hA dL_law_321 (fun H locs hPM hPH hDM hS => ?_)
  show W p l e room_1 s m args below meth c H locs kc ks Q (F0 m 324 ls [.int r, .int r])
  refine lv_icmp_eq (tgt := 1047) C.1 C.2.1 dL_law_324 (by decide) (fun _ => ?_) (fun hc => absurd rfl hc)
  exact kt SH1 SM1 H locs hS1 ⟨⟨hKH, hKM⟩, ⟨hPH, hPM⟩, ⟨hDH, hDM⟩, hdis, hS⟩
set_option maxHeartbeats 4000000 in
set_option maxRecDepth 100000 in
theorem lc_5 {p : Program} {l : Launch} {e : Env} {s : State} {m : MethodId} {args : Array Value} {below : List Frame} {meth : Method} {c : Code} {EH EM : Ev} {b L kc ks : Nat} {xs : Nat → Int32} {Sim : Hp → Hp → Prop} {Q : State → Prop} (C : ho_I p s m args meth c RL cL_law 4 ret) (hX : va_X b L xs s s.heap) (hbl : b < s.heap.size) (hkc : kc ≤ 600000) (hks : ks ≤ 7302250) (hs : sim_5 Sim) (x3 : Int32) (h1 : vp_in (x3 + (1 : Int32)) L) (h2 : vp_in (x3 + (2 : Int32)) L) (h3 : vp_in (x3 + (3 : Int32)) L) (SH SM : Hp) (hS0 : Sim SH SM) (H : Heap) (locs : List Loc) (ls : Array Slot) (hR : lw_R EH EM (fun q : Nat => s.heap.size ≤ q) s s.heap H locs SH SM) (hl : lv_has ls 4 [(0, .ref b), (1, .ref (EH.2.1 0)), (2, .ref (EM.2.1 0)), (3, .int x3)])
    (kt : ∀ (SH1 SM1 : Hp) (H1 : Heap) (locs1 : List Loc), Sim SH1 SM1 → lw_R EH EM (fun q : Nat => s.heap.size ≤ q) s s.heap H1 locs1 SH1 SM1 → W p l e room_1 s m args below meth c H1 locs1 kc ks Q (F0 m 1047 ls [])) : W p l e room_1 s m args below meth c H locs kc ks Q (F0 m 329 ls []) := by
  have hA : ∀ q : Nat, s.heap.size ≤ q → (fun q : Nat => s.heap.size ≤ q) q := fun _ h => h
  have hbA : ¬ (fun q : Nat => s.heap.size ≤ q) b := Nat.not_le.mpr hbl
  obtain ⟨r, SH1, SM1, e1, e2, hS1⟩ := hs (xs (x3 + (1 : Int32)).toNatClampNeg) (xs (x3 + (2 : Int32)).toNatClampNeg) (xs (x3 + (3 : Int32)).toNatClampNeg) SH SM hS0
  obtain ⟨⟨hKH, hKM⟩, ⟨hPH, hPM⟩, ⟨hDH, hDM⟩, hdis, hS⟩ := hR
  refine lv_aload_n C.1 C.2.1 dL_law_329 rfl (lv_at hl 1 rfl) ?_
  refine lv_aload_n C.1 C.2.1 dL_law_330 rfl (lv_at hl 0 rfl) ?_
  refine lv_iload_n C.1 C.2.1 dL_law_331 rfl (lv_at hl 3 rfl) ?_
  refine lv_iconst (v := (1 : Int32)) C.1 C.2.1 dL_law_332 (by decide) ?_
  refine lv_iadd C.1 C.2.1 dL_law_333 ?_
  refine va_sld C.1 C.2.1 hX hbl hbA hS h1 dL_law_334 ?_
  refine lv_aload_n C.1 C.2.1 dL_law_335 rfl (lv_at hl 0 rfl) ?_
  refine lv_iload_n C.1 C.2.1 dL_law_336 rfl (lv_at hl 3 rfl) ?_
  refine lv_iconst (v := (2 : Int32)) C.1 C.2.1 dL_law_337 (by decide) ?_
  refine lv_iadd C.1 C.2.1 dL_law_338 ?_
  refine va_sld C.1 C.2.1 hX hbl hbA hS h2 dL_law_339 ?_
  refine lv_aload_n C.1 C.2.1 dL_law_340 rfl (lv_at hl 0 rfl) ?_
  refine lv_iload_n C.1 C.2.1 dL_law_341 rfl (lv_at hl 3 rfl) ?_
  refine lv_iconst (v := (3 : Int32)) C.1 C.2.1 dL_law_342 (by decide) ?_
  refine lv_iadd C.1 C.2.1 dL_law_343 ?_
  refine va_sld C.1 C.2.1 hX hbl hbA hS h3 dL_law_344 ?_
  refine lw_V (Y2 := yM) (E2 := EM) (S2 := SM) (x := (some (.int r), SH1)) (As := [.int (xs (x3 + (1 : Int32)).toNatClampNeg), .int (xs (x3 + (2 : Int32)).toNatClampNeg), .int (xs (x3 + (3 : Int32)).toNatClampNeg)]) (rest := []) C cf11 (c_X11_letter l EH (xs (x3 + (1 : Int32)).toNatClampNeg) (xs (x3 + (2 : Int32)).toNatClampNeg) (xs (x3 + (3 : Int32)).toNatClampNeg) _ _ e1) yv_X11_letter lk_RL_37 rfl aH_0 rfl rfl hl.1 (Nat.le_of_ble_eq_true rfl) (by decide) (by decide) hkc hks hKH hPH hPM hDH hdis hS hA dL_law_345 (fun H locs hPH hPM hDH hS => ?_)
  show W p l e room_1 s m args below meth c H locs kc ks Q (F0 m 348 ls [.int r])
  refine lv_aload_n C.1 C.2.1 dL_law_348 rfl (lv_at hl 2 rfl) ?_
  refine lv_aload_n C.1 C.2.1 dL_law_349 rfl (lv_at hl 0 rfl) ?_
  refine lv_iload_n C.1 C.2.1 dL_law_350 rfl (lv_at hl 3 rfl) ?_
  refine lv_iconst (v := (1 : Int32)) C.1 C.2.1 dL_law_351 (by decide) ?_
  refine lv_iadd C.1 C.2.1 dL_law_352 ?_
  refine va_sld C.1 C.2.1 hX hbl hbA hS h1 dL_law_353 ?_
  refine lv_aload_n C.1 C.2.1 dL_law_354 rfl (lv_at hl 0 rfl) ?_
  refine lv_iload_n C.1 C.2.1 dL_law_355 rfl (lv_at hl 3 rfl) ?_
  refine lv_iconst (v := (2 : Int32)) C.1 C.2.1 dL_law_356 (by decide) ?_
  refine lv_iadd C.1 C.2.1 dL_law_357 ?_
  refine va_sld C.1 C.2.1 hX hbl hbA hS h2 dL_law_358 ?_
  refine lv_aload_n C.1 C.2.1 dL_law_359 rfl (lv_at hl 0 rfl) ?_
  refine lv_iload_n C.1 C.2.1 dL_law_360 rfl (lv_at hl 3 rfl) ?_
  refine lv_iconst (v := (3 : Int32)) C.1 C.2.1 dL_law_361 (by decide) ?_
  refine lv_iadd C.1 C.2.1 dL_law_362 ?_
  refine va_sld C.1 C.2.1 hX hbl hbA hS h3 dL_law_363 ?_
  refine lw_V (Y2 := yH) (E2 := EH) (S2 := SH1) (x := (some (.int r), SM1)) (As := [.int (xs (x3 + (1 : Int32)).toNatClampNeg), .int (xs (x3 + (2 : Int32)).toNatClampNeg), .int (xs (x3 + (3 : Int32)).toNatClampNeg)]) (rest := [.int r]) C cf12 (c_X12_letter l EM (xs (x3 + (1 : Int32)).toNatClampNeg) (xs (x3 + (2 : Int32)).toNatClampNeg) (xs (x3 + (3 : Int32)).toNatClampNeg) _ _ e2) yv_X12_letter lk_RL_41 rfl aM_0 rfl rfl hl.1 (Nat.le_of_ble_eq_true rfl) (by decide) (by decide) hkc hks hKM hPM hPH hDM (fun a ha b hb q => hdis b hb a ha q.symm) hS hA dL_law_364 (fun H locs hPM hPH hDM hS => ?_)
  show W p l e room_1 s m args below meth c H locs kc ks Q (F0 m 367 ls [.int r, .int r])
  refine lv_icmp_eq (tgt := 1047) C.1 C.2.1 dL_law_367 (by decide) (fun _ => ?_) (fun hc => absurd rfl hc)
  exact kt SH1 SM1 H locs hS1 ⟨⟨hKH, hKM⟩, ⟨hPH, hPM⟩, ⟨hDH, hDM⟩, hdis, hS⟩
set_option maxHeartbeats 4000000 in
set_option maxRecDepth 100000 in
theorem lc_6 {p : Program} {l : Launch} {e : Env} {s : State} {m : MethodId} {args : Array Value} {below : List Frame} {meth : Method} {c : Code} {EH EM : Ev} {b L kc ks : Nat} {xs : Nat → Int32} {Sim : Hp → Hp → Prop} {Q : State → Prop} (C : ho_I p s m args meth c RL cL_law 4 ret) (hX : va_X b L xs s s.heap) (hbl : b < s.heap.size) (hkc : kc ≤ 600000) (hks : ks ≤ 7302250) (hs : sim_6 Sim) (x3 : Int32) (h1 : vp_in (x3 + (1 : Int32)) L) (h2 : vp_in (x3 + (2 : Int32)) L) (SH SM : Hp) (hS0 : Sim SH SM) (H : Heap) (locs : List Loc) (ls : Array Slot) (hR : lw_R EH EM (fun q : Nat => s.heap.size ≤ q) s s.heap H locs SH SM) (hl : lv_has ls 4 [(0, .ref b), (1, .ref (EH.2.1 0)), (2, .ref (EM.2.1 0)), (3, .int x3)])
    (kt : ∀ (SH1 SM1 : Hp) (H1 : Heap) (locs1 : List Loc), Sim SH1 SM1 → lw_R EH EM (fun q : Nat => s.heap.size ≤ q) s s.heap H1 locs1 SH1 SM1 → W p l e room_1 s m args below meth c H1 locs1 kc ks Q (F0 m 1047 ls [])) : W p l e room_1 s m args below meth c H locs kc ks Q (F0 m 372 ls []) := by
  have hA : ∀ q : Nat, s.heap.size ≤ q → (fun q : Nat => s.heap.size ≤ q) q := fun _ h => h
  have hbA : ¬ (fun q : Nat => s.heap.size ≤ q) b := Nat.not_le.mpr hbl
  obtain ⟨r, SH1, SM1, e1, e2, hS1⟩ := hs (xs (x3 + (1 : Int32)).toNatClampNeg) (xs (x3 + (2 : Int32)).toNatClampNeg) SH SM hS0
  obtain ⟨⟨hKH, hKM⟩, ⟨hPH, hPM⟩, ⟨hDH, hDM⟩, hdis, hS⟩ := hR
  refine lv_aload_n C.1 C.2.1 dL_law_372 rfl (lv_at hl 1 rfl) ?_
  refine lv_aload_n C.1 C.2.1 dL_law_373 rfl (lv_at hl 0 rfl) ?_
  refine lv_iload_n C.1 C.2.1 dL_law_374 rfl (lv_at hl 3 rfl) ?_
  refine lv_iconst (v := (1 : Int32)) C.1 C.2.1 dL_law_375 (by decide) ?_
  refine lv_iadd C.1 C.2.1 dL_law_376 ?_
  refine va_sld C.1 C.2.1 hX hbl hbA hS h1 dL_law_377 ?_
  refine lv_aload_n C.1 C.2.1 dL_law_378 rfl (lv_at hl 0 rfl) ?_
  refine lv_iload_n C.1 C.2.1 dL_law_379 rfl (lv_at hl 3 rfl) ?_
  refine lv_iconst (v := (2 : Int32)) C.1 C.2.1 dL_law_380 (by decide) ?_
  refine lv_iadd C.1 C.2.1 dL_law_381 ?_
  refine va_sld C.1 C.2.1 hX hbl hbA hS h2 dL_law_382 ?_
  refine lw_V (Y2 := yM) (E2 := EM) (S2 := SM) (x := (some (.int r), SH1)) (As := [.int (xs (x3 + (1 : Int32)).toNatClampNeg), .int (xs (x3 + (2 : Int32)).toNatClampNeg)]) (rest := []) C cf11 (c_X11_province l EH (xs (x3 + (1 : Int32)).toNatClampNeg) (xs (x3 + (2 : Int32)).toNatClampNeg) _ _ e1) yv_X11_province lk_RL_42 rfl aH_0 rfl rfl hl.1 (Nat.le_of_ble_eq_true rfl) (by decide) (by decide) hkc hks hKH hPH hPM hDH hdis hS hA dL_law_383 (fun H locs hPH hPM hDH hS => ?_)
  show W p l e room_1 s m args below meth c H locs kc ks Q (F0 m 386 ls [.int r])
  refine lv_aload_n C.1 C.2.1 dL_law_386 rfl (lv_at hl 2 rfl) ?_
  refine lv_aload_n C.1 C.2.1 dL_law_387 rfl (lv_at hl 0 rfl) ?_
  refine lv_iload_n C.1 C.2.1 dL_law_388 rfl (lv_at hl 3 rfl) ?_
  refine lv_iconst (v := (1 : Int32)) C.1 C.2.1 dL_law_389 (by decide) ?_
  refine lv_iadd C.1 C.2.1 dL_law_390 ?_
  refine va_sld C.1 C.2.1 hX hbl hbA hS h1 dL_law_391 ?_
  refine lv_aload_n C.1 C.2.1 dL_law_392 rfl (lv_at hl 0 rfl) ?_
  refine lv_iload_n C.1 C.2.1 dL_law_393 rfl (lv_at hl 3 rfl) ?_
  refine lv_iconst (v := (2 : Int32)) C.1 C.2.1 dL_law_394 (by decide) ?_
  refine lv_iadd C.1 C.2.1 dL_law_395 ?_
  refine va_sld C.1 C.2.1 hX hbl hbA hS h2 dL_law_396 ?_
  refine lw_V (Y2 := yH) (E2 := EH) (S2 := SH1) (x := (some (.int r), SM1)) (As := [.int (xs (x3 + (1 : Int32)).toNatClampNeg), .int (xs (x3 + (2 : Int32)).toNatClampNeg)]) (rest := [.int r]) C cf12 (c_X12_province l EM (xs (x3 + (1 : Int32)).toNatClampNeg) (xs (x3 + (2 : Int32)).toNatClampNeg) _ _ e2) yv_X12_province lk_RL_46 rfl aM_0 rfl rfl hl.1 (Nat.le_of_ble_eq_true rfl) (by decide) (by decide) hkc hks hKM hPM hPH hDM (fun a ha b hb q => hdis b hb a ha q.symm) hS hA dL_law_397 (fun H locs hPM hPH hDM hS => ?_)
  show W p l e room_1 s m args below meth c H locs kc ks Q (F0 m 400 ls [.int r, .int r])
  refine lv_icmp_eq (tgt := 1047) C.1 C.2.1 dL_law_400 (by decide) (fun _ => ?_) (fun hc => absurd rfl hc)
  exact kt SH1 SM1 H locs hS1 ⟨⟨hKH, hKM⟩, ⟨hPH, hPM⟩, ⟨hDH, hDM⟩, hdis, hS⟩
set_option maxHeartbeats 4000000 in
set_option maxRecDepth 100000 in
theorem lc_7 {p : Program} {l : Launch} {e : Env} {s : State} {m : MethodId} {args : Array Value} {below : List Frame} {meth : Method} {c : Code} {EH EM : Ev} {b L kc ks : Nat} {xs : Nat → Int32} {Sim : Hp → Hp → Prop} {Q : State → Prop} (C : ho_I p s m args meth c RL cL_law 4 ret) (hX : va_X b L xs s s.heap) (hbl : b < s.heap.size) (hkc : kc ≤ 600000) (hks : ks ≤ 7302250) (hs : sim_7 Sim) (x3 : Int32) (h1 : vp_in (x3 + (1 : Int32)) L) (h2 : vp_in (x3 + (2 : Int32)) L) (SH SM : Hp) (hS0 : Sim SH SM) (H : Heap) (locs : List Loc) (ls : Array Slot) (hR : lw_R EH EM (fun q : Nat => s.heap.size ≤ q) s s.heap H locs SH SM) (hl : lv_has ls 4 [(0, .ref b), (1, .ref (EH.2.1 0)), (2, .ref (EM.2.1 0)), (3, .int x3)])
    (kt : ∀ (SH1 SM1 : Hp) (H1 : Heap) (locs1 : List Loc), Sim SH1 SM1 → lw_R EH EM (fun q : Nat => s.heap.size ≤ q) s s.heap H1 locs1 SH1 SM1 → W p l e room_1 s m args below meth c H1 locs1 kc ks Q (F0 m 1047 ls [])) : W p l e room_1 s m args below meth c H locs kc ks Q (F0 m 405 ls []) := by
  have hA : ∀ q : Nat, s.heap.size ≤ q → (fun q : Nat => s.heap.size ≤ q) q := fun _ h => h
  have hbA : ¬ (fun q : Nat => s.heap.size ≤ q) b := Nat.not_le.mpr hbl
  obtain ⟨r, SH1, SM1, e1, e2, hS1⟩ := hs (xs (x3 + (1 : Int32)).toNatClampNeg) (xs (x3 + (2 : Int32)).toNatClampNeg) SH SM hS0
  obtain ⟨⟨hKH, hKM⟩, ⟨hPH, hPM⟩, ⟨hDH, hDM⟩, hdis, hS⟩ := hR
  refine lv_aload_n C.1 C.2.1 dL_law_405 rfl (lv_at hl 1 rfl) ?_
  refine lv_aload_n C.1 C.2.1 dL_law_406 rfl (lv_at hl 0 rfl) ?_
  refine lv_iload_n C.1 C.2.1 dL_law_407 rfl (lv_at hl 3 rfl) ?_
  refine lv_iconst (v := (1 : Int32)) C.1 C.2.1 dL_law_408 (by decide) ?_
  refine lv_iadd C.1 C.2.1 dL_law_409 ?_
  refine va_sld C.1 C.2.1 hX hbl hbA hS h1 dL_law_410 ?_
  refine lv_aload_n C.1 C.2.1 dL_law_411 rfl (lv_at hl 0 rfl) ?_
  refine lv_iload_n C.1 C.2.1 dL_law_412 rfl (lv_at hl 3 rfl) ?_
  refine lv_iconst (v := (2 : Int32)) C.1 C.2.1 dL_law_413 (by decide) ?_
  refine lv_iadd C.1 C.2.1 dL_law_414 ?_
  refine va_sld C.1 C.2.1 hX hbl hbA hS h2 dL_law_415 ?_
  refine lw_V (Y2 := yM) (E2 := EM) (S2 := SM) (x := (some (.int r), SH1)) (As := [.int (xs (x3 + (1 : Int32)).toNatClampNeg), .int (xs (x3 + (2 : Int32)).toNatClampNeg)]) (rest := []) C cf11 (c_X11_trick l EH (xs (x3 + (1 : Int32)).toNatClampNeg) (xs (x3 + (2 : Int32)).toNatClampNeg) _ _ e1) yv_X11_trick lk_RL_47 rfl aH_0 rfl rfl hl.1 (Nat.le_of_ble_eq_true rfl) (by decide) (by decide) hkc hks hKH hPH hPM hDH hdis hS hA dL_law_416 (fun H locs hPH hPM hDH hS => ?_)
  show W p l e room_1 s m args below meth c H locs kc ks Q (F0 m 419 ls [.int r])
  refine lv_aload_n C.1 C.2.1 dL_law_419 rfl (lv_at hl 2 rfl) ?_
  refine lv_aload_n C.1 C.2.1 dL_law_420 rfl (lv_at hl 0 rfl) ?_
  refine lv_iload_n C.1 C.2.1 dL_law_421 rfl (lv_at hl 3 rfl) ?_
  refine lv_iconst (v := (1 : Int32)) C.1 C.2.1 dL_law_422 (by decide) ?_
  refine lv_iadd C.1 C.2.1 dL_law_423 ?_
  refine va_sld C.1 C.2.1 hX hbl hbA hS h1 dL_law_424 ?_
  refine lv_aload_n C.1 C.2.1 dL_law_425 rfl (lv_at hl 0 rfl) ?_
  refine lv_iload_n C.1 C.2.1 dL_law_426 rfl (lv_at hl 3 rfl) ?_
  refine lv_iconst (v := (2 : Int32)) C.1 C.2.1 dL_law_427 (by decide) ?_
  refine lv_iadd C.1 C.2.1 dL_law_428 ?_
  refine va_sld C.1 C.2.1 hX hbl hbA hS h2 dL_law_429 ?_
  refine lw_V (Y2 := yH) (E2 := EH) (S2 := SH1) (x := (some (.int r), SM1)) (As := [.int (xs (x3 + (1 : Int32)).toNatClampNeg), .int (xs (x3 + (2 : Int32)).toNatClampNeg)]) (rest := [.int r]) C cf12 (c_X12_trick l EM (xs (x3 + (1 : Int32)).toNatClampNeg) (xs (x3 + (2 : Int32)).toNatClampNeg) _ _ e2) yv_X12_trick lk_RL_50 rfl aM_0 rfl rfl hl.1 (Nat.le_of_ble_eq_true rfl) (by decide) (by decide) hkc hks hKM hPM hPH hDM (fun a ha b hb q => hdis b hb a ha q.symm) hS hA dL_law_430 (fun H locs hPM hPH hDM hS => ?_)
  show W p l e room_1 s m args below meth c H locs kc ks Q (F0 m 433 ls [.int r, .int r])
  refine lv_icmp_eq (tgt := 1047) C.1 C.2.1 dL_law_433 (by decide) (fun _ => ?_) (fun hc => absurd rfl hc)
  exact kt SH1 SM1 H locs hS1 ⟨⟨hKH, hKM⟩, ⟨hPH, hPM⟩, ⟨hDH, hDM⟩, hdis, hS⟩
set_option maxHeartbeats 4000000 in
set_option maxRecDepth 100000 in
theorem lc_8 {p : Program} {l : Launch} {e : Env} {s : State} {m : MethodId} {args : Array Value} {below : List Frame} {meth : Method} {c : Code} {EH EM : Ev} {b L kc ks : Nat} {xs : Nat → Int32} {Sim : Hp → Hp → Prop} {Q : State → Prop} (C : ho_I p s m args meth c RL cL_law 4 ret) (hX : va_X b L xs s s.heap) (hbl : b < s.heap.size) (hkc : kc ≤ 600000) (hks : ks ≤ 7302250) (hs : sim_8 Sim) (x3 : Int32) (h1 : vp_in (x3 + (1 : Int32)) L) (h2 : vp_in (x3 + (2 : Int32)) L) (SH SM : Hp) (hS0 : Sim SH SM) (H : Heap) (locs : List Loc) (ls : Array Slot) (hR : lw_R EH EM (fun q : Nat => s.heap.size ≤ q) s s.heap H locs SH SM) (hl : lv_has ls 4 [(0, .ref b), (1, .ref (EH.2.1 0)), (2, .ref (EM.2.1 0)), (3, .int x3)])
    (kt : ∀ (SH1 SM1 : Hp) (H1 : Heap) (locs1 : List Loc), Sim SH1 SM1 → lw_R EH EM (fun q : Nat => s.heap.size ≤ q) s s.heap H1 locs1 SH1 SM1 → W p l e room_1 s m args below meth c H1 locs1 kc ks Q (F0 m 1047 ls [])) : W p l e room_1 s m args below meth c H locs kc ks Q (F0 m 438 ls []) := by
  have hA : ∀ q : Nat, s.heap.size ≤ q → (fun q : Nat => s.heap.size ≤ q) q := fun _ h => h
  have hbA : ¬ (fun q : Nat => s.heap.size ≤ q) b := Nat.not_le.mpr hbl
  obtain ⟨r, SH1, SM1, e1, e2, hS1⟩ := hs (xs (x3 + (1 : Int32)).toNatClampNeg) (xs (x3 + (2 : Int32)).toNatClampNeg) SH SM hS0
  obtain ⟨⟨hKH, hKM⟩, ⟨hPH, hPM⟩, ⟨hDH, hDM⟩, hdis, hS⟩ := hR
  refine lv_aload_n C.1 C.2.1 dL_law_438 rfl (lv_at hl 1 rfl) ?_
  refine lv_aload_n C.1 C.2.1 dL_law_439 rfl (lv_at hl 0 rfl) ?_
  refine lv_iload_n C.1 C.2.1 dL_law_440 rfl (lv_at hl 3 rfl) ?_
  refine lv_iconst (v := (1 : Int32)) C.1 C.2.1 dL_law_441 (by decide) ?_
  refine lv_iadd C.1 C.2.1 dL_law_442 ?_
  refine va_sld C.1 C.2.1 hX hbl hbA hS h1 dL_law_443 ?_
  refine lv_aload_n C.1 C.2.1 dL_law_444 rfl (lv_at hl 0 rfl) ?_
  refine lv_iload_n C.1 C.2.1 dL_law_445 rfl (lv_at hl 3 rfl) ?_
  refine lv_iconst (v := (2 : Int32)) C.1 C.2.1 dL_law_446 (by decide) ?_
  refine lv_iadd C.1 C.2.1 dL_law_447 ?_
  refine va_sld C.1 C.2.1 hX hbl hbA hS h2 dL_law_448 ?_
  refine lw_V (Y2 := yM) (E2 := EM) (S2 := SM) (x := (some (.int r), SH1)) (As := [.int (xs (x3 + (1 : Int32)).toNatClampNeg), .int (xs (x3 + (2 : Int32)).toNatClampNeg)]) (rest := []) C cf11 (c_X11_watcher l EH (xs (x3 + (1 : Int32)).toNatClampNeg) (xs (x3 + (2 : Int32)).toNatClampNeg) _ _ e1) yv_X11_watcher lk_RL_51 rfl aH_0 rfl rfl hl.1 (Nat.le_of_ble_eq_true rfl) (by decide) (by decide) hkc hks hKH hPH hPM hDH hdis hS hA dL_law_449 (fun H locs hPH hPM hDH hS => ?_)
  show W p l e room_1 s m args below meth c H locs kc ks Q (F0 m 452 ls [.int r])
  refine lv_aload_n C.1 C.2.1 dL_law_452 rfl (lv_at hl 2 rfl) ?_
  refine lv_aload_n C.1 C.2.1 dL_law_453 rfl (lv_at hl 0 rfl) ?_
  refine lv_iload_n C.1 C.2.1 dL_law_454 rfl (lv_at hl 3 rfl) ?_
  refine lv_iconst (v := (1 : Int32)) C.1 C.2.1 dL_law_455 (by decide) ?_
  refine lv_iadd C.1 C.2.1 dL_law_456 ?_
  refine va_sld C.1 C.2.1 hX hbl hbA hS h1 dL_law_457 ?_
  refine lv_aload_n C.1 C.2.1 dL_law_458 rfl (lv_at hl 0 rfl) ?_
  refine lv_iload_n C.1 C.2.1 dL_law_459 rfl (lv_at hl 3 rfl) ?_
  refine lv_iconst (v := (2 : Int32)) C.1 C.2.1 dL_law_460 (by decide) ?_
  refine lv_iadd C.1 C.2.1 dL_law_461 ?_
  refine va_sld C.1 C.2.1 hX hbl hbA hS h2 dL_law_462 ?_
  refine lw_V (Y2 := yH) (E2 := EH) (S2 := SH1) (x := (some (.int r), SM1)) (As := [.int (xs (x3 + (1 : Int32)).toNatClampNeg), .int (xs (x3 + (2 : Int32)).toNatClampNeg)]) (rest := [.int r]) C cf12 (c_X12_watcher l EM (xs (x3 + (1 : Int32)).toNatClampNeg) (xs (x3 + (2 : Int32)).toNatClampNeg) _ _ e2) yv_X12_watcher lk_RL_54 rfl aM_0 rfl rfl hl.1 (Nat.le_of_ble_eq_true rfl) (by decide) (by decide) hkc hks hKM hPM hPH hDM (fun a ha b hb q => hdis b hb a ha q.symm) hS hA dL_law_463 (fun H locs hPM hPH hDM hS => ?_)
  show W p l e room_1 s m args below meth c H locs kc ks Q (F0 m 466 ls [.int r, .int r])
  refine lv_icmp_eq (tgt := 1047) C.1 C.2.1 dL_law_466 (by decide) (fun _ => ?_) (fun hc => absurd rfl hc)
  exact kt SH1 SM1 H locs hS1 ⟨⟨hKH, hKM⟩, ⟨hPH, hPM⟩, ⟨hDH, hDM⟩, hdis, hS⟩
set_option maxHeartbeats 4000000 in
set_option maxRecDepth 100000 in
theorem lc_9 {p : Program} {l : Launch} {e : Env} {s : State} {m : MethodId} {args : Array Value} {below : List Frame} {meth : Method} {c : Code} {EH EM : Ev} {b L kc ks : Nat} {xs : Nat → Int32} {Sim : Hp → Hp → Prop} {Q : State → Prop} (C : ho_I p s m args meth c RL cL_law 4 ret) (hX : va_X b L xs s s.heap) (hbl : b < s.heap.size) (hkc : kc ≤ 600000) (hks : ks ≤ 7302250) (hs : sim_9 Sim) (x3 : Int32) (h1 : vp_in (x3 + (1 : Int32)) L) (h2 : vp_in (x3 + (2 : Int32)) L) (SH SM : Hp) (hS0 : Sim SH SM) (H : Heap) (locs : List Loc) (ls : Array Slot) (hR : lw_R EH EM (fun q : Nat => s.heap.size ≤ q) s s.heap H locs SH SM) (hl : lv_has ls 4 [(0, .ref b), (1, .ref (EH.2.1 0)), (2, .ref (EM.2.1 0)), (3, .int x3)])
    (kt : ∀ (SH1 SM1 : Hp) (H1 : Heap) (locs1 : List Loc), Sim SH1 SM1 → lw_R EH EM (fun q : Nat => s.heap.size ≤ q) s s.heap H1 locs1 SH1 SM1 → W p l e room_1 s m args below meth c H1 locs1 kc ks Q (F0 m 1047 ls [])) : W p l e room_1 s m args below meth c H locs kc ks Q (F0 m 471 ls []) := by
  have hA : ∀ q : Nat, s.heap.size ≤ q → (fun q : Nat => s.heap.size ≤ q) q := fun _ h => h
  have hbA : ¬ (fun q : Nat => s.heap.size ≤ q) b := Nat.not_le.mpr hbl
  obtain ⟨r, SH1, SM1, e1, e2, hS1⟩ := hs (xs (x3 + (1 : Int32)).toNatClampNeg) (xs (x3 + (2 : Int32)).toNatClampNeg) SH SM hS0
  obtain ⟨⟨hKH, hKM⟩, ⟨hPH, hPM⟩, ⟨hDH, hDM⟩, hdis, hS⟩ := hR
  refine lv_aload_n C.1 C.2.1 dL_law_471 rfl (lv_at hl 1 rfl) ?_
  refine lv_aload_n C.1 C.2.1 dL_law_472 rfl (lv_at hl 0 rfl) ?_
  refine lv_iload_n C.1 C.2.1 dL_law_473 rfl (lv_at hl 3 rfl) ?_
  refine lv_iconst (v := (1 : Int32)) C.1 C.2.1 dL_law_474 (by decide) ?_
  refine lv_iadd C.1 C.2.1 dL_law_475 ?_
  refine va_sld C.1 C.2.1 hX hbl hbA hS h1 dL_law_476 ?_
  refine lv_aload_n C.1 C.2.1 dL_law_477 rfl (lv_at hl 0 rfl) ?_
  refine lv_iload_n C.1 C.2.1 dL_law_478 rfl (lv_at hl 3 rfl) ?_
  refine lv_iconst (v := (2 : Int32)) C.1 C.2.1 dL_law_479 (by decide) ?_
  refine lv_iadd C.1 C.2.1 dL_law_480 ?_
  refine va_sld C.1 C.2.1 hX hbl hbA hS h2 dL_law_481 ?_
  refine lw_V (Y2 := yM) (E2 := EM) (S2 := SM) (x := (some (.int r), SH1)) (As := [.int (xs (x3 + (1 : Int32)).toNatClampNeg), .int (xs (x3 + (2 : Int32)).toNatClampNeg)]) (rest := []) C cf11 (c_X11_sight l EH (xs (x3 + (1 : Int32)).toNatClampNeg) (xs (x3 + (2 : Int32)).toNatClampNeg) _ _ e1) yv_X11_sight lk_RL_55 rfl aH_0 rfl rfl hl.1 (Nat.le_of_ble_eq_true rfl) (by decide) (by decide) hkc hks hKH hPH hPM hDH hdis hS hA dL_law_482 (fun H locs hPH hPM hDH hS => ?_)
  show W p l e room_1 s m args below meth c H locs kc ks Q (F0 m 485 ls [.int r])
  refine lv_aload_n C.1 C.2.1 dL_law_485 rfl (lv_at hl 2 rfl) ?_
  refine lv_aload_n C.1 C.2.1 dL_law_486 rfl (lv_at hl 0 rfl) ?_
  refine lv_iload_n C.1 C.2.1 dL_law_487 rfl (lv_at hl 3 rfl) ?_
  refine lv_iconst (v := (1 : Int32)) C.1 C.2.1 dL_law_488 (by decide) ?_
  refine lv_iadd C.1 C.2.1 dL_law_489 ?_
  refine va_sld C.1 C.2.1 hX hbl hbA hS h1 dL_law_490 ?_
  refine lv_aload_n C.1 C.2.1 dL_law_491 rfl (lv_at hl 0 rfl) ?_
  refine lv_iload_n C.1 C.2.1 dL_law_492 rfl (lv_at hl 3 rfl) ?_
  refine lv_iconst (v := (2 : Int32)) C.1 C.2.1 dL_law_493 (by decide) ?_
  refine lv_iadd C.1 C.2.1 dL_law_494 ?_
  refine va_sld C.1 C.2.1 hX hbl hbA hS h2 dL_law_495 ?_
  refine lw_V (Y2 := yH) (E2 := EH) (S2 := SH1) (x := (some (.int r), SM1)) (As := [.int (xs (x3 + (1 : Int32)).toNatClampNeg), .int (xs (x3 + (2 : Int32)).toNatClampNeg)]) (rest := [.int r]) C cf12 (c_X12_sight l EM (xs (x3 + (1 : Int32)).toNatClampNeg) (xs (x3 + (2 : Int32)).toNatClampNeg) _ _ e2) yv_X12_sight lk_RL_58 rfl aM_0 rfl rfl hl.1 (Nat.le_of_ble_eq_true rfl) (by decide) (by decide) hkc hks hKM hPM hPH hDM (fun a ha b hb q => hdis b hb a ha q.symm) hS hA dL_law_496 (fun H locs hPM hPH hDM hS => ?_)
  show W p l e room_1 s m args below meth c H locs kc ks Q (F0 m 499 ls [.int r, .int r])
  refine lv_icmp_eq (tgt := 1047) C.1 C.2.1 dL_law_499 (by decide) (fun _ => ?_) (fun hc => absurd rfl hc)
  exact kt SH1 SM1 H locs hS1 ⟨⟨hKH, hKM⟩, ⟨hPH, hPM⟩, ⟨hDH, hDM⟩, hdis, hS⟩
set_option maxHeartbeats 4000000 in
set_option maxRecDepth 100000 in
theorem lc_10 {p : Program} {l : Launch} {e : Env} {s : State} {m : MethodId} {args : Array Value} {below : List Frame} {meth : Method} {c : Code} {EH EM : Ev} {b L kc ks : Nat} {xs : Nat → Int32} {Sim : Hp → Hp → Prop} {Q : State → Prop} (C : ho_I p s m args meth c RL cL_law 4 ret) (hX : va_X b L xs s s.heap) (hbl : b < s.heap.size) (hkc : kc ≤ 600000) (hks : ks ≤ 7302250) (hs : sim_10 Sim) (x3 : Int32) (h1 : vp_in (x3 + (1 : Int32)) L) (h2 : vp_in (x3 + (2 : Int32)) L) (SH SM : Hp) (hS0 : Sim SH SM) (H : Heap) (locs : List Loc) (ls : Array Slot) (hR : lw_R EH EM (fun q : Nat => s.heap.size ≤ q) s s.heap H locs SH SM) (hl : lv_has ls 4 [(0, .ref b), (1, .ref (EH.2.1 0)), (2, .ref (EM.2.1 0)), (3, .int x3)])
    (kt : ∀ (SH1 SM1 : Hp) (H1 : Heap) (locs1 : List Loc), Sim SH1 SM1 → lw_R EH EM (fun q : Nat => s.heap.size ≤ q) s s.heap H1 locs1 SH1 SM1 → W p l e room_1 s m args below meth c H1 locs1 kc ks Q (F0 m 1047 ls [])) : W p l e room_1 s m args below meth c H locs kc ks Q (F0 m 504 ls []) := by
  have hA : ∀ q : Nat, s.heap.size ≤ q → (fun q : Nat => s.heap.size ≤ q) q := fun _ h => h
  have hbA : ¬ (fun q : Nat => s.heap.size ≤ q) b := Nat.not_le.mpr hbl
  obtain ⟨r, SH1, SM1, e1, e2, hS1⟩ := hs (xs (x3 + (1 : Int32)).toNatClampNeg) (xs (x3 + (2 : Int32)).toNatClampNeg) SH SM hS0
  obtain ⟨⟨hKH, hKM⟩, ⟨hPH, hPM⟩, ⟨hDH, hDM⟩, hdis, hS⟩ := hR
  refine lv_aload_n C.1 C.2.1 dL_law_504 rfl (lv_at hl 1 rfl) ?_
  refine lv_aload_n C.1 C.2.1 dL_law_505 rfl (lv_at hl 0 rfl) ?_
  refine lv_iload_n C.1 C.2.1 dL_law_506 rfl (lv_at hl 3 rfl) ?_
  refine lv_iconst (v := (1 : Int32)) C.1 C.2.1 dL_law_507 (by decide) ?_
  refine lv_iadd C.1 C.2.1 dL_law_508 ?_
  refine va_sld C.1 C.2.1 hX hbl hbA hS h1 dL_law_509 ?_
  refine lv_aload_n C.1 C.2.1 dL_law_510 rfl (lv_at hl 0 rfl) ?_
  refine lv_iload_n C.1 C.2.1 dL_law_511 rfl (lv_at hl 3 rfl) ?_
  refine lv_iconst (v := (2 : Int32)) C.1 C.2.1 dL_law_512 (by decide) ?_
  refine lv_iadd C.1 C.2.1 dL_law_513 ?_
  refine va_sld C.1 C.2.1 hX hbl hbA hS h2 dL_law_514 ?_
  refine lw_V (Y2 := yM) (E2 := EM) (S2 := SM) (x := (some (.int r), SH1)) (As := [.int (xs (x3 + (1 : Int32)).toNatClampNeg), .int (xs (x3 + (2 : Int32)).toNatClampNeg)]) (rest := []) C cf11 (c_X11_kept l EH (xs (x3 + (1 : Int32)).toNatClampNeg) (xs (x3 + (2 : Int32)).toNatClampNeg) _ _ e1) yv_X11_kept lk_RL_59 rfl aH_0 rfl rfl hl.1 (Nat.le_of_ble_eq_true rfl) (by decide) (by decide) hkc hks hKH hPH hPM hDH hdis hS hA dL_law_515 (fun H locs hPH hPM hDH hS => ?_)
  show W p l e room_1 s m args below meth c H locs kc ks Q (F0 m 518 ls [.int r])
  refine lv_aload_n C.1 C.2.1 dL_law_518 rfl (lv_at hl 2 rfl) ?_
  refine lv_aload_n C.1 C.2.1 dL_law_519 rfl (lv_at hl 0 rfl) ?_
  refine lv_iload_n C.1 C.2.1 dL_law_520 rfl (lv_at hl 3 rfl) ?_
  refine lv_iconst (v := (1 : Int32)) C.1 C.2.1 dL_law_521 (by decide) ?_
  refine lv_iadd C.1 C.2.1 dL_law_522 ?_
  refine va_sld C.1 C.2.1 hX hbl hbA hS h1 dL_law_523 ?_
  refine lv_aload_n C.1 C.2.1 dL_law_524 rfl (lv_at hl 0 rfl) ?_
  refine lv_iload_n C.1 C.2.1 dL_law_525 rfl (lv_at hl 3 rfl) ?_
  refine lv_iconst (v := (2 : Int32)) C.1 C.2.1 dL_law_526 (by decide) ?_
  refine lv_iadd C.1 C.2.1 dL_law_527 ?_
  refine va_sld C.1 C.2.1 hX hbl hbA hS h2 dL_law_528 ?_
  refine lw_V (Y2 := yH) (E2 := EH) (S2 := SH1) (x := (some (.int r), SM1)) (As := [.int (xs (x3 + (1 : Int32)).toNatClampNeg), .int (xs (x3 + (2 : Int32)).toNatClampNeg)]) (rest := [.int r]) C cf12 (c_X12_kept l EM (xs (x3 + (1 : Int32)).toNatClampNeg) (xs (x3 + (2 : Int32)).toNatClampNeg) _ _ e2) yv_X12_kept lk_RL_62 rfl aM_0 rfl rfl hl.1 (Nat.le_of_ble_eq_true rfl) (by decide) (by decide) hkc hks hKM hPM hPH hDM (fun a ha b hb q => hdis b hb a ha q.symm) hS hA dL_law_529 (fun H locs hPM hPH hDM hS => ?_)
  show W p l e room_1 s m args below meth c H locs kc ks Q (F0 m 532 ls [.int r, .int r])
  refine lv_icmp_eq (tgt := 1047) C.1 C.2.1 dL_law_532 (by decide) (fun _ => ?_) (fun hc => absurd rfl hc)
  exact kt SH1 SM1 H locs hS1 ⟨⟨hKH, hKM⟩, ⟨hPH, hPM⟩, ⟨hDH, hDM⟩, hdis, hS⟩
set_option maxHeartbeats 4000000 in
set_option maxRecDepth 100000 in
theorem lc_11 {p : Program} {l : Launch} {e : Env} {s : State} {m : MethodId} {args : Array Value} {below : List Frame} {meth : Method} {c : Code} {EH EM : Ev} {b L kc ks : Nat} {xs : Nat → Int32} {Sim : Hp → Hp → Prop} {Q : State → Prop} (C : ho_I p s m args meth c RL cL_law 4 ret) (hX : va_X b L xs s s.heap) (hbl : b < s.heap.size) (hkc : kc ≤ 600000) (hks : ks ≤ 7302250) (hs : sim_11 Sim) (x3 : Int32) (h1 : vp_in (x3 + (1 : Int32)) L) (SH SM : Hp) (hS0 : Sim SH SM) (H : Heap) (locs : List Loc) (ls : Array Slot) (hR : lw_R EH EM (fun q : Nat => s.heap.size ≤ q) s s.heap H locs SH SM) (hl : lv_has ls 4 [(0, .ref b), (1, .ref (EH.2.1 0)), (2, .ref (EM.2.1 0)), (3, .int x3)])
    (kt : ∀ (SH1 SM1 : Hp) (H1 : Heap) (locs1 : List Loc), Sim SH1 SM1 → lw_R EH EM (fun q : Nat => s.heap.size ≤ q) s s.heap H1 locs1 SH1 SM1 → W p l e room_1 s m args below meth c H1 locs1 kc ks Q (F0 m 1047 ls [])) : W p l e room_1 s m args below meth c H locs kc ks Q (F0 m 537 ls []) := by
  have hA : ∀ q : Nat, s.heap.size ≤ q → (fun q : Nat => s.heap.size ≤ q) q := fun _ h => h
  have hbA : ¬ (fun q : Nat => s.heap.size ≤ q) b := Nat.not_le.mpr hbl
  obtain ⟨r, SH1, SM1, e1, e2, hS1⟩ := hs (xs (x3 + (1 : Int32)).toNatClampNeg) SH SM hS0
  obtain ⟨⟨hKH, hKM⟩, ⟨hPH, hPM⟩, ⟨hDH, hDM⟩, hdis, hS⟩ := hR
  refine lv_aload_n C.1 C.2.1 dL_law_537 rfl (lv_at hl 1 rfl) ?_
  refine lv_aload_n C.1 C.2.1 dL_law_538 rfl (lv_at hl 0 rfl) ?_
  refine lv_iload_n C.1 C.2.1 dL_law_539 rfl (lv_at hl 3 rfl) ?_
  refine lv_iconst (v := (1 : Int32)) C.1 C.2.1 dL_law_540 (by decide) ?_
  refine lv_iadd C.1 C.2.1 dL_law_541 ?_
  refine va_sld C.1 C.2.1 hX hbl hbA hS h1 dL_law_542 ?_
  refine lw_V (Y2 := yM) (E2 := EM) (S2 := SM) (x := (some (.int r), SH1)) (As := [.int (xs (x3 + (1 : Int32)).toNatClampNeg)]) (rest := []) C cf11 (c_X11_best l EH (xs (x3 + (1 : Int32)).toNatClampNeg) _ _ e1) yv_X11_best lk_RL_63 rfl aH_0 rfl rfl hl.1 (Nat.le_of_ble_eq_true rfl) (by decide) (by decide) hkc hks hKH hPH hPM hDH hdis hS hA dL_law_543 (fun H locs hPH hPM hDH hS => ?_)
  show W p l e room_1 s m args below meth c H locs kc ks Q (F0 m 546 ls [.int r])
  refine lv_aload_n C.1 C.2.1 dL_law_546 rfl (lv_at hl 2 rfl) ?_
  refine lv_aload_n C.1 C.2.1 dL_law_547 rfl (lv_at hl 0 rfl) ?_
  refine lv_iload_n C.1 C.2.1 dL_law_548 rfl (lv_at hl 3 rfl) ?_
  refine lv_iconst (v := (1 : Int32)) C.1 C.2.1 dL_law_549 (by decide) ?_
  refine lv_iadd C.1 C.2.1 dL_law_550 ?_
  refine va_sld C.1 C.2.1 hX hbl hbA hS h1 dL_law_551 ?_
  refine lw_V (Y2 := yH) (E2 := EH) (S2 := SH1) (x := (some (.int r), SM1)) (As := [.int (xs (x3 + (1 : Int32)).toNatClampNeg)]) (rest := [.int r]) C cf12 (c_X12_best l EM (xs (x3 + (1 : Int32)).toNatClampNeg) _ _ e2) yv_X12_best lk_RL_66 rfl aM_0 rfl rfl hl.1 (Nat.le_of_ble_eq_true rfl) (by decide) (by decide) hkc hks hKM hPM hPH hDM (fun a ha b hb q => hdis b hb a ha q.symm) hS hA dL_law_552 (fun H locs hPM hPH hDM hS => ?_)
  show W p l e room_1 s m args below meth c H locs kc ks Q (F0 m 555 ls [.int r, .int r])
  refine lv_icmp_eq (tgt := 1047) C.1 C.2.1 dL_law_555 (by decide) (fun _ => ?_) (fun hc => absurd rfl hc)
  exact kt SH1 SM1 H locs hS1 ⟨⟨hKH, hKM⟩, ⟨hPH, hPM⟩, ⟨hDH, hDM⟩, hdis, hS⟩
set_option maxHeartbeats 4000000 in
set_option maxRecDepth 100000 in
theorem lc_12 {p : Program} {l : Launch} {e : Env} {s : State} {m : MethodId} {args : Array Value} {below : List Frame} {meth : Method} {c : Code} {EH EM : Ev} {b L kc ks : Nat} {xs : Nat → Int32} {Sim : Hp → Hp → Prop} {Q : State → Prop} (C : ho_I p s m args meth c RL cL_law 4 ret) (hX : va_X b L xs s s.heap) (hbl : b < s.heap.size) (hkc : kc ≤ 600000) (hks : ks ≤ 7302250) (hs : sim_12 Sim) (x3 : Int32) (h1 : vp_in (x3 + (1 : Int32)) L) (SH SM : Hp) (hS0 : Sim SH SM) (H : Heap) (locs : List Loc) (ls : Array Slot) (hR : lw_R EH EM (fun q : Nat => s.heap.size ≤ q) s s.heap H locs SH SM) (hl : lv_has ls 4 [(0, .ref b), (1, .ref (EH.2.1 0)), (2, .ref (EM.2.1 0)), (3, .int x3)])
    (kt : ∀ (SH1 SM1 : Hp) (H1 : Heap) (locs1 : List Loc), Sim SH1 SM1 → lw_R EH EM (fun q : Nat => s.heap.size ≤ q) s s.heap H1 locs1 SH1 SM1 → W p l e room_1 s m args below meth c H1 locs1 kc ks Q (F0 m 1047 ls [])) : W p l e room_1 s m args below meth c H locs kc ks Q (F0 m 560 ls []) := by
  have hA : ∀ q : Nat, s.heap.size ≤ q → (fun q : Nat => s.heap.size ≤ q) q := fun _ h => h
  have hbA : ¬ (fun q : Nat => s.heap.size ≤ q) b := Nat.not_le.mpr hbl
  obtain ⟨r, SH1, SM1, e1, e2, hS1⟩ := hs (xs (x3 + (1 : Int32)).toNatClampNeg) SH SM hS0
  obtain ⟨⟨hKH, hKM⟩, ⟨hPH, hPM⟩, ⟨hDH, hDM⟩, hdis, hS⟩ := hR
  refine lv_aload_n C.1 C.2.1 dL_law_560 rfl (lv_at hl 1 rfl) ?_
  refine lv_aload_n C.1 C.2.1 dL_law_561 rfl (lv_at hl 0 rfl) ?_
  refine lv_iload_n C.1 C.2.1 dL_law_562 rfl (lv_at hl 3 rfl) ?_
  refine lv_iconst (v := (1 : Int32)) C.1 C.2.1 dL_law_563 (by decide) ?_
  refine lv_iadd C.1 C.2.1 dL_law_564 ?_
  refine va_sld C.1 C.2.1 hX hbl hbA hS h1 dL_law_565 ?_
  refine lw_V (Y2 := yM) (E2 := EM) (S2 := SM) (x := (some (.int r), SH1)) (As := [.int (xs (x3 + (1 : Int32)).toNatClampNeg)]) (rest := []) C cf11 (c_X11_appears l EH (xs (x3 + (1 : Int32)).toNatClampNeg) _ _ e1) yv_X11_appears lk_RL_67 rfl aH_0 rfl rfl hl.1 (Nat.le_of_ble_eq_true rfl) (by decide) (by decide) hkc hks hKH hPH hPM hDH hdis hS hA dL_law_566 (fun H locs hPH hPM hDH hS => ?_)
  show W p l e room_1 s m args below meth c H locs kc ks Q (F0 m 569 ls [.int r])
  refine lv_aload_n C.1 C.2.1 dL_law_569 rfl (lv_at hl 2 rfl) ?_
  refine lv_aload_n C.1 C.2.1 dL_law_570 rfl (lv_at hl 0 rfl) ?_
  refine lv_iload_n C.1 C.2.1 dL_law_571 rfl (lv_at hl 3 rfl) ?_
  refine lv_iconst (v := (1 : Int32)) C.1 C.2.1 dL_law_572 (by decide) ?_
  refine lv_iadd C.1 C.2.1 dL_law_573 ?_
  refine va_sld C.1 C.2.1 hX hbl hbA hS h1 dL_law_574 ?_
  refine lw_V (Y2 := yH) (E2 := EH) (S2 := SH1) (x := (some (.int r), SM1)) (As := [.int (xs (x3 + (1 : Int32)).toNatClampNeg)]) (rest := [.int r]) C cf12 (c_X12_appears l EM (xs (x3 + (1 : Int32)).toNatClampNeg) _ _ e2) yv_X12_appears lk_RL_70 rfl aM_0 rfl rfl hl.1 (Nat.le_of_ble_eq_true rfl) (by decide) (by decide) hkc hks hKM hPM hPH hDM (fun a ha b hb q => hdis b hb a ha q.symm) hS hA dL_law_575 (fun H locs hPM hPH hDM hS => ?_)
  show W p l e room_1 s m args below meth c H locs kc ks Q (F0 m 578 ls [.int r, .int r])
  refine lv_icmp_eq (tgt := 1047) C.1 C.2.1 dL_law_578 (by decide) (fun _ => ?_) (fun hc => absurd rfl hc)
  exact kt SH1 SM1 H locs hS1 ⟨⟨hKH, hKM⟩, ⟨hPH, hPM⟩, ⟨hDH, hDM⟩, hdis, hS⟩
set_option maxHeartbeats 4000000 in
set_option maxRecDepth 100000 in
theorem lc_13 {p : Program} {l : Launch} {e : Env} {s : State} {m : MethodId} {args : Array Value} {below : List Frame} {meth : Method} {c : Code} {EH EM : Ev} {b L kc ks : Nat} {xs : Nat → Int32} {Sim : Hp → Hp → Prop} {Q : State → Prop} (C : ho_I p s m args meth c RL cL_law 4 ret) (hX : va_X b L xs s s.heap) (hbl : b < s.heap.size) (hkc : kc ≤ 600000) (hks : ks ≤ 7302250) (hs : sim_13 Sim) (x3 : Int32) (h1 : vp_in (x3 + (1 : Int32)) L) (h2 : vp_in (x3 + (2 : Int32)) L) (SH SM : Hp) (hS0 : Sim SH SM) (H : Heap) (locs : List Loc) (ls : Array Slot) (hR : lw_R EH EM (fun q : Nat => s.heap.size ≤ q) s s.heap H locs SH SM) (hl : lv_has ls 4 [(0, .ref b), (1, .ref (EH.2.1 0)), (2, .ref (EM.2.1 0)), (3, .int x3)])
    (kt : ∀ (SH1 SM1 : Hp) (H1 : Heap) (locs1 : List Loc), Sim SH1 SM1 → lw_R EH EM (fun q : Nat => s.heap.size ≤ q) s s.heap H1 locs1 SH1 SM1 → W p l e room_1 s m args below meth c H1 locs1 kc ks Q (F0 m 1047 ls [])) : W p l e room_1 s m args below meth c H locs kc ks Q (F0 m 583 ls []) := by
  have hA : ∀ q : Nat, s.heap.size ≤ q → (fun q : Nat => s.heap.size ≤ q) q := fun _ h => h
  have hbA : ¬ (fun q : Nat => s.heap.size ≤ q) b := Nat.not_le.mpr hbl
  obtain ⟨r, SH1, SM1, e1, e2, hS1⟩ := hs (xs (x3 + (1 : Int32)).toNatClampNeg) (xs (x3 + (2 : Int32)).toNatClampNeg) SH SM hS0
  obtain ⟨⟨hKH, hKM⟩, ⟨hPH, hPM⟩, ⟨hDH, hDM⟩, hdis, hS⟩ := hR
  refine lv_aload_n C.1 C.2.1 dL_law_583 rfl (lv_at hl 1 rfl) ?_
  refine lv_aload_n C.1 C.2.1 dL_law_584 rfl (lv_at hl 0 rfl) ?_
  refine lv_iload_n C.1 C.2.1 dL_law_585 rfl (lv_at hl 3 rfl) ?_
  refine lv_iconst (v := (1 : Int32)) C.1 C.2.1 dL_law_586 (by decide) ?_
  refine lv_iadd C.1 C.2.1 dL_law_587 ?_
  refine va_sld C.1 C.2.1 hX hbl hbA hS h1 dL_law_588 ?_
  refine lv_aload_n C.1 C.2.1 dL_law_589 rfl (lv_at hl 0 rfl) ?_
  refine lv_iload_n C.1 C.2.1 dL_law_590 rfl (lv_at hl 3 rfl) ?_
  refine lv_iconst (v := (2 : Int32)) C.1 C.2.1 dL_law_591 (by decide) ?_
  refine lv_iadd C.1 C.2.1 dL_law_592 ?_
  refine va_sld C.1 C.2.1 hX hbl hbA hS h2 dL_law_593 ?_
  refine lw_V (Y2 := yM) (E2 := EM) (S2 := SM) (x := (some (.int r), SH1)) (As := [.int (xs (x3 + (1 : Int32)).toNatClampNeg), .int (xs (x3 + (2 : Int32)).toNatClampNeg)]) (rest := []) C cf11 (c_X11_later l EH (xs (x3 + (1 : Int32)).toNatClampNeg) (xs (x3 + (2 : Int32)).toNatClampNeg) _ _ e1) yv_X11_later lk_RL_71 rfl aH_0 rfl rfl hl.1 (Nat.le_of_ble_eq_true rfl) (by decide) (by decide) hkc hks hKH hPH hPM hDH hdis hS hA dL_law_594 (fun H locs hPH hPM hDH hS => ?_)
  show W p l e room_1 s m args below meth c H locs kc ks Q (F0 m 597 ls [.int r])
  refine lv_aload_n C.1 C.2.1 dL_law_597 rfl (lv_at hl 2 rfl) ?_
  refine lv_aload_n C.1 C.2.1 dL_law_598 rfl (lv_at hl 0 rfl) ?_
  refine lv_iload_n C.1 C.2.1 dL_law_599 rfl (lv_at hl 3 rfl) ?_
  refine lv_iconst (v := (1 : Int32)) C.1 C.2.1 dL_law_600 (by decide) ?_
  refine lv_iadd C.1 C.2.1 dL_law_601 ?_
  refine va_sld C.1 C.2.1 hX hbl hbA hS h1 dL_law_602 ?_
  refine lv_aload_n C.1 C.2.1 dL_law_603 rfl (lv_at hl 0 rfl) ?_
  refine lv_iload_n C.1 C.2.1 dL_law_604 rfl (lv_at hl 3 rfl) ?_
  refine lv_iconst (v := (2 : Int32)) C.1 C.2.1 dL_law_605 (by decide) ?_
  refine lv_iadd C.1 C.2.1 dL_law_606 ?_
  refine va_sld C.1 C.2.1 hX hbl hbA hS h2 dL_law_607 ?_
  refine lw_V (Y2 := yH) (E2 := EH) (S2 := SH1) (x := (some (.int r), SM1)) (As := [.int (xs (x3 + (1 : Int32)).toNatClampNeg), .int (xs (x3 + (2 : Int32)).toNatClampNeg)]) (rest := [.int r]) C cf12 (c_X12_later l EM (xs (x3 + (1 : Int32)).toNatClampNeg) (xs (x3 + (2 : Int32)).toNatClampNeg) _ _ e2) yv_X12_later lk_RL_74 rfl aM_0 rfl rfl hl.1 (Nat.le_of_ble_eq_true rfl) (by decide) (by decide) hkc hks hKM hPM hPH hDM (fun a ha b hb q => hdis b hb a ha q.symm) hS hA dL_law_608 (fun H locs hPM hPH hDM hS => ?_)
  show W p l e room_1 s m args below meth c H locs kc ks Q (F0 m 611 ls [.int r, .int r])
  refine lv_icmp_eq (tgt := 1047) C.1 C.2.1 dL_law_611 (by decide) (fun _ => ?_) (fun hc => absurd rfl hc)
  exact kt SH1 SM1 H locs hS1 ⟨⟨hKH, hKM⟩, ⟨hPH, hPM⟩, ⟨hDH, hDM⟩, hdis, hS⟩
set_option maxHeartbeats 4000000 in
set_option maxRecDepth 100000 in
theorem lc_14 {p : Program} {l : Launch} {e : Env} {s : State} {m : MethodId} {args : Array Value} {below : List Frame} {meth : Method} {c : Code} {EH EM : Ev} {b L kc ks : Nat} {xs : Nat → Int32} {Sim : Hp → Hp → Prop} {Q : State → Prop} (C : ho_I p s m args meth c RL cL_law 4 ret) (hX : va_X b L xs s s.heap) (hbl : b < s.heap.size) (hkc : kc ≤ 600000) (hks : ks ≤ 7302250) (hs : sim_14 Sim) (x3 : Int32) (SH SM : Hp) (hS0 : Sim SH SM) (H : Heap) (locs : List Loc) (ls : Array Slot) (hR : lw_R EH EM (fun q : Nat => s.heap.size ≤ q) s s.heap H locs SH SM) (hl : lv_has ls 4 [(0, .ref b), (1, .ref (EH.2.1 0)), (2, .ref (EM.2.1 0)), (3, .int x3)])
    (kt : ∀ (SH1 SM1 : Hp) (H1 : Heap) (locs1 : List Loc), Sim SH1 SM1 → lw_R EH EM (fun q : Nat => s.heap.size ≤ q) s s.heap H1 locs1 SH1 SM1 → W p l e room_1 s m args below meth c H1 locs1 kc ks Q (F0 m 1047 ls [])) : W p l e room_1 s m args below meth c H locs kc ks Q (F0 m 616 ls []) := by
  have hA : ∀ q : Nat, s.heap.size ≤ q → (fun q : Nat => s.heap.size ≤ q) q := fun _ h => h
  have hbA : ¬ (fun q : Nat => s.heap.size ≤ q) b := Nat.not_le.mpr hbl
  obtain ⟨r, SH1, SM1, e1, e2, hS1⟩ := hs SH SM hS0
  obtain ⟨⟨hKH, hKM⟩, ⟨hPH, hPM⟩, ⟨hDH, hDM⟩, hdis, hS⟩ := hR
  refine lv_aload_n C.1 C.2.1 dL_law_616 rfl (lv_at hl 1 rfl) ?_
  refine lw_V (Y2 := yM) (E2 := EM) (S2 := SM) (x := (some (.int r), SH1)) (As := []) (rest := []) C cf11 (c_X11_curtain l EH _ _ e1) yv_X11_curtain lk_RL_75 rfl aH_0 rfl rfl hl.1 (Nat.le_of_ble_eq_true rfl) (by decide) (by decide) hkc hks hKH hPH hPM hDH hdis hS hA dL_law_617 (fun H locs hPH hPM hDH hS => ?_)
  show W p l e room_1 s m args below meth c H locs kc ks Q (F0 m 620 ls [.int r])
  refine lv_aload_n C.1 C.2.1 dL_law_620 rfl (lv_at hl 2 rfl) ?_
  refine lw_V (Y2 := yH) (E2 := EH) (S2 := SH1) (x := (some (.int r), SM1)) (As := []) (rest := [.int r]) C cf12 (c_X12_curtain l EM _ _ e2) yv_X12_curtain lk_RL_78 rfl aM_0 rfl rfl hl.1 (Nat.le_of_ble_eq_true rfl) (by decide) (by decide) hkc hks hKM hPM hPH hDM (fun a ha b hb q => hdis b hb a ha q.symm) hS hA dL_law_621 (fun H locs hPM hPH hDM hS => ?_)
  show W p l e room_1 s m args below meth c H locs kc ks Q (F0 m 624 ls [.int r, .int r])
  refine lv_icmp_eq (tgt := 1047) C.1 C.2.1 dL_law_624 (by decide) (fun _ => ?_) (fun hc => absurd rfl hc)
  exact kt SH1 SM1 H locs hS1 ⟨⟨hKH, hKM⟩, ⟨hPH, hPM⟩, ⟨hDH, hDM⟩, hdis, hS⟩
set_option maxHeartbeats 4000000 in
set_option maxRecDepth 100000 in
theorem lc_15 {p : Program} {l : Launch} {e : Env} {s : State} {m : MethodId} {args : Array Value} {below : List Frame} {meth : Method} {c : Code} {EH EM : Ev} {b L kc ks : Nat} {xs : Nat → Int32} {Sim : Hp → Hp → Prop} {Q : State → Prop} (C : ho_I p s m args meth c RL cL_law 4 ret) (hX : va_X b L xs s s.heap) (hbl : b < s.heap.size) (hkc : kc ≤ 600000) (hks : ks ≤ 7302250) (hs : sim_15 Sim) (x3 : Int32) (h1 : vp_in (x3 + (1 : Int32)) L) (SH SM : Hp) (hS0 : Sim SH SM) (H : Heap) (locs : List Loc) (ls : Array Slot) (hR : lw_R EH EM (fun q : Nat => s.heap.size ≤ q) s s.heap H locs SH SM) (hl : lv_has ls 4 [(0, .ref b), (1, .ref (EH.2.1 0)), (2, .ref (EM.2.1 0)), (3, .int x3)])
    (kt : ∀ (SH1 SM1 : Hp) (H1 : Heap) (locs1 : List Loc), Sim SH1 SM1 → lw_R EH EM (fun q : Nat => s.heap.size ≤ q) s s.heap H1 locs1 SH1 SM1 → W p l e room_1 s m args below meth c H1 locs1 kc ks Q (F0 m 1047 ls [])) : W p l e room_1 s m args below meth c H locs kc ks Q (F0 m 629 ls []) := by
  have hA : ∀ q : Nat, s.heap.size ≤ q → (fun q : Nat => s.heap.size ≤ q) q := fun _ h => h
  have hbA : ¬ (fun q : Nat => s.heap.size ≤ q) b := Nat.not_le.mpr hbl
  obtain ⟨r, SH1, SM1, e1, e2, hS1⟩ := hs (xs (x3 + (1 : Int32)).toNatClampNeg) SH SM hS0
  obtain ⟨⟨hKH, hKM⟩, ⟨hPH, hPM⟩, ⟨hDH, hDM⟩, hdis, hS⟩ := hR
  refine lv_aload_n C.1 C.2.1 dL_law_629 rfl (lv_at hl 1 rfl) ?_
  refine lv_aload_n C.1 C.2.1 dL_law_630 rfl (lv_at hl 0 rfl) ?_
  refine lv_iload_n C.1 C.2.1 dL_law_631 rfl (lv_at hl 3 rfl) ?_
  refine lv_iconst (v := (1 : Int32)) C.1 C.2.1 dL_law_632 (by decide) ?_
  refine lv_iadd C.1 C.2.1 dL_law_633 ?_
  refine va_sld C.1 C.2.1 hX hbl hbA hS h1 dL_law_634 ?_
  refine lw_V (Y2 := yM) (E2 := EM) (S2 := SM) (x := (some (.int r), SH1)) (As := [.int (xs (x3 + (1 : Int32)).toNatClampNeg)]) (rest := []) C cf11 (c_X11_both l EH (xs (x3 + (1 : Int32)).toNatClampNeg) _ _ e1) yv_X11_both lk_RL_79 rfl aH_0 rfl rfl hl.1 (Nat.le_of_ble_eq_true rfl) (by decide) (by decide) hkc hks hKH hPH hPM hDH hdis hS hA dL_law_635 (fun H locs hPH hPM hDH hS => ?_)
  show W p l e room_1 s m args below meth c H locs kc ks Q (F0 m 638 ls [.int r])
  refine lv_aload_n C.1 C.2.1 dL_law_638 rfl (lv_at hl 2 rfl) ?_
  refine lv_aload_n C.1 C.2.1 dL_law_639 rfl (lv_at hl 0 rfl) ?_
  refine lv_iload_n C.1 C.2.1 dL_law_640 rfl (lv_at hl 3 rfl) ?_
  refine lv_iconst (v := (1 : Int32)) C.1 C.2.1 dL_law_641 (by decide) ?_
  refine lv_iadd C.1 C.2.1 dL_law_642 ?_
  refine va_sld C.1 C.2.1 hX hbl hbA hS h1 dL_law_643 ?_
  refine lw_V (Y2 := yH) (E2 := EH) (S2 := SH1) (x := (some (.int r), SM1)) (As := [.int (xs (x3 + (1 : Int32)).toNatClampNeg)]) (rest := [.int r]) C cf12 (c_X12_both l EM (xs (x3 + (1 : Int32)).toNatClampNeg) _ _ e2) yv_X12_both lk_RL_82 rfl aM_0 rfl rfl hl.1 (Nat.le_of_ble_eq_true rfl) (by decide) (by decide) hkc hks hKM hPM hPH hDM (fun a ha b hb q => hdis b hb a ha q.symm) hS hA dL_law_644 (fun H locs hPM hPH hDM hS => ?_)
  show W p l e room_1 s m args below meth c H locs kc ks Q (F0 m 647 ls [.int r, .int r])
  refine lv_icmp_eq (tgt := 1047) C.1 C.2.1 dL_law_647 (by decide) (fun _ => ?_) (fun hc => absurd rfl hc)
  exact kt SH1 SM1 H locs hS1 ⟨⟨hKH, hKM⟩, ⟨hPH, hPM⟩, ⟨hDH, hDM⟩, hdis, hS⟩
set_option maxHeartbeats 4000000 in
set_option maxRecDepth 100000 in
theorem lc_16 {p : Program} {l : Launch} {e : Env} {s : State} {m : MethodId} {args : Array Value} {below : List Frame} {meth : Method} {c : Code} {EH EM : Ev} {b L kc ks : Nat} {xs : Nat → Int32} {Sim : Hp → Hp → Prop} {Q : State → Prop} (C : ho_I p s m args meth c RL cL_law 4 ret) (hX : va_X b L xs s s.heap) (hbl : b < s.heap.size) (hkc : kc ≤ 600000) (hks : ks ≤ 7302250) (hs : sim_16 Sim) (x3 : Int32) (h1 : vp_in (x3 + (1 : Int32)) L) (SH SM : Hp) (hS0 : Sim SH SM) (H : Heap) (locs : List Loc) (ls : Array Slot) (hR : lw_R EH EM (fun q : Nat => s.heap.size ≤ q) s s.heap H locs SH SM) (hl : lv_has ls 4 [(0, .ref b), (1, .ref (EH.2.1 0)), (2, .ref (EM.2.1 0)), (3, .int x3)])
    (kt : ∀ (SH1 SM1 : Hp) (H1 : Heap) (locs1 : List Loc), Sim SH1 SM1 → lw_R EH EM (fun q : Nat => s.heap.size ≤ q) s s.heap H1 locs1 SH1 SM1 → W p l e room_1 s m args below meth c H1 locs1 kc ks Q (F0 m 1047 ls [])) : W p l e room_1 s m args below meth c H locs kc ks Q (F0 m 652 ls []) := by
  have hA : ∀ q : Nat, s.heap.size ≤ q → (fun q : Nat => s.heap.size ≤ q) q := fun _ h => h
  have hbA : ¬ (fun q : Nat => s.heap.size ≤ q) b := Nat.not_le.mpr hbl
  obtain ⟨r, SH1, SM1, e1, e2, hS1⟩ := hs (xs (x3 + (1 : Int32)).toNatClampNeg) SH SM hS0
  obtain ⟨⟨hKH, hKM⟩, ⟨hPH, hPM⟩, ⟨hDH, hDM⟩, hdis, hS⟩ := hR
  refine lv_aload_n C.1 C.2.1 dL_law_652 rfl (lv_at hl 1 rfl) ?_
  refine lv_aload_n C.1 C.2.1 dL_law_653 rfl (lv_at hl 0 rfl) ?_
  refine lv_iload_n C.1 C.2.1 dL_law_654 rfl (lv_at hl 3 rfl) ?_
  refine lv_iconst (v := (1 : Int32)) C.1 C.2.1 dL_law_655 (by decide) ?_
  refine lv_iadd C.1 C.2.1 dL_law_656 ?_
  refine va_sld C.1 C.2.1 hX hbl hbA hS h1 dL_law_657 ?_
  refine lw_V (Y2 := yM) (E2 := EM) (S2 := SM) (x := (some (.int r), SH1)) (As := [.int (xs (x3 + (1 : Int32)).toNatClampNeg)]) (rest := []) C cf11 (c_X11_drop l EH (xs (x3 + (1 : Int32)).toNatClampNeg) _ _ e1) yv_X11_drop lk_RL_83 rfl aH_0 rfl rfl hl.1 (Nat.le_of_ble_eq_true rfl) (by decide) (by decide) hkc hks hKH hPH hPM hDH hdis hS hA dL_law_658 (fun H locs hPH hPM hDH hS => ?_)
  show W p l e room_1 s m args below meth c H locs kc ks Q (F0 m 661 ls [.int r])
  refine lv_aload_n C.1 C.2.1 dL_law_661 rfl (lv_at hl 2 rfl) ?_
  refine lv_aload_n C.1 C.2.1 dL_law_662 rfl (lv_at hl 0 rfl) ?_
  refine lv_iload_n C.1 C.2.1 dL_law_663 rfl (lv_at hl 3 rfl) ?_
  refine lv_iconst (v := (1 : Int32)) C.1 C.2.1 dL_law_664 (by decide) ?_
  refine lv_iadd C.1 C.2.1 dL_law_665 ?_
  refine va_sld C.1 C.2.1 hX hbl hbA hS h1 dL_law_666 ?_
  refine lw_V (Y2 := yH) (E2 := EH) (S2 := SH1) (x := (some (.int r), SM1)) (As := [.int (xs (x3 + (1 : Int32)).toNatClampNeg)]) (rest := [.int r]) C cf12 (c_X12_drop l EM (xs (x3 + (1 : Int32)).toNatClampNeg) _ _ e2) yv_X12_drop lk_RL_86 rfl aM_0 rfl rfl hl.1 (Nat.le_of_ble_eq_true rfl) (by decide) (by decide) hkc hks hKM hPM hPH hDM (fun a ha b hb q => hdis b hb a ha q.symm) hS hA dL_law_667 (fun H locs hPM hPH hDM hS => ?_)
  show W p l e room_1 s m args below meth c H locs kc ks Q (F0 m 670 ls [.int r, .int r])
  refine lv_icmp_eq (tgt := 1047) C.1 C.2.1 dL_law_670 (by decide) (fun _ => ?_) (fun hc => absurd rfl hc)
  exact kt SH1 SM1 H locs hS1 ⟨⟨hKH, hKM⟩, ⟨hPH, hPM⟩, ⟨hDH, hDM⟩, hdis, hS⟩
set_option maxHeartbeats 4000000 in
set_option maxRecDepth 100000 in
theorem lc_17 {p : Program} {l : Launch} {e : Env} {s : State} {m : MethodId} {args : Array Value} {below : List Frame} {meth : Method} {c : Code} {EH EM : Ev} {b L kc ks : Nat} {xs : Nat → Int32} {Sim : Hp → Hp → Prop} {Q : State → Prop} (C : ho_I p s m args meth c RL cL_law 4 ret) (hX : va_X b L xs s s.heap) (hbl : b < s.heap.size) (hkc : kc ≤ 600000) (hks : ks ≤ 7302250) (hs : sim_17 Sim) (x3 : Int32) (SH SM : Hp) (hS0 : Sim SH SM) (H : Heap) (locs : List Loc) (ls : Array Slot) (hR : lw_R EH EM (fun q : Nat => s.heap.size ≤ q) s s.heap H locs SH SM) (hl : lv_has ls 4 [(0, .ref b), (1, .ref (EH.2.1 0)), (2, .ref (EM.2.1 0)), (3, .int x3)])
    (kt : ∀ (SH1 SM1 : Hp) (H1 : Heap) (locs1 : List Loc), Sim SH1 SM1 → lw_R EH EM (fun q : Nat => s.heap.size ≤ q) s s.heap H1 locs1 SH1 SM1 → W p l e room_1 s m args below meth c H1 locs1 kc ks Q (F0 m 1047 ls [])) : W p l e room_1 s m args below meth c H locs kc ks Q (F0 m 675 ls []) := by
  have hA : ∀ q : Nat, s.heap.size ≤ q → (fun q : Nat => s.heap.size ≤ q) q := fun _ h => h
  have hbA : ¬ (fun q : Nat => s.heap.size ≤ q) b := Nat.not_le.mpr hbl
  obtain ⟨r, SH1, SM1, e1, e2, hS1⟩ := hs SH SM hS0
  obtain ⟨⟨hKH, hKM⟩, ⟨hPH, hPM⟩, ⟨hDH, hDM⟩, hdis, hS⟩ := hR
  refine lv_aload_n C.1 C.2.1 dL_law_675 rfl (lv_at hl 1 rfl) ?_
  refine lw_V (Y2 := yM) (E2 := EM) (S2 := SM) (x := (some (.int r), SH1)) (As := []) (rest := []) C cf11 (c_X11_count l EH _ _ e1) yv_X11_count lk_RL_87 rfl aH_0 rfl rfl hl.1 (Nat.le_of_ble_eq_true rfl) (by decide) (by decide) hkc hks hKH hPH hPM hDH hdis hS hA dL_law_676 (fun H locs hPH hPM hDH hS => ?_)
  show W p l e room_1 s m args below meth c H locs kc ks Q (F0 m 679 ls [.int r])
  refine lv_aload_n C.1 C.2.1 dL_law_679 rfl (lv_at hl 2 rfl) ?_
  refine lw_V (Y2 := yH) (E2 := EH) (S2 := SH1) (x := (some (.int r), SM1)) (As := []) (rest := [.int r]) C cf12 (c_X12_count l EM _ _ e2) yv_X12_count lk_RL_90 rfl aM_0 rfl rfl hl.1 (Nat.le_of_ble_eq_true rfl) (by decide) (by decide) hkc hks hKM hPM hPH hDM (fun a ha b hb q => hdis b hb a ha q.symm) hS hA dL_law_680 (fun H locs hPM hPH hDM hS => ?_)
  show W p l e room_1 s m args below meth c H locs kc ks Q (F0 m 683 ls [.int r, .int r])
  refine lv_icmp_eq (tgt := 1047) C.1 C.2.1 dL_law_683 (by decide) (fun _ => ?_) (fun hc => absurd rfl hc)
  exact kt SH1 SM1 H locs hS1 ⟨⟨hKH, hKM⟩, ⟨hPH, hPM⟩, ⟨hDH, hDM⟩, hdis, hS⟩
set_option maxHeartbeats 4000000 in
set_option maxRecDepth 100000 in
theorem lc_18 {p : Program} {l : Launch} {e : Env} {s : State} {m : MethodId} {args : Array Value} {below : List Frame} {meth : Method} {c : Code} {EH EM : Ev} {b L kc ks : Nat} {xs : Nat → Int32} {Sim : Hp → Hp → Prop} {Q : State → Prop} (C : ho_I p s m args meth c RL cL_law 4 ret) (hX : va_X b L xs s s.heap) (hbl : b < s.heap.size) (hkc : kc ≤ 600000) (hks : ks ≤ 7302250) (hs : sim_18 Sim) (x3 : Int32) (h1 : vp_in (x3 + (1 : Int32)) L) (SH SM : Hp) (hS0 : Sim SH SM) (H : Heap) (locs : List Loc) (ls : Array Slot) (hR : lw_R EH EM (fun q : Nat => s.heap.size ≤ q) s s.heap H locs SH SM) (hl : lv_has ls 4 [(0, .ref b), (1, .ref (EH.2.1 0)), (2, .ref (EM.2.1 0)), (3, .int x3)])
    (kt : ∀ (SH1 SM1 : Hp) (H1 : Heap) (locs1 : List Loc), Sim SH1 SM1 → lw_R EH EM (fun q : Nat => s.heap.size ≤ q) s s.heap H1 locs1 SH1 SM1 → W p l e room_1 s m args below meth c H1 locs1 kc ks Q (F0 m 1047 ls [])) : W p l e room_1 s m args below meth c H locs kc ks Q (F0 m 688 ls []) := by
  have hA : ∀ q : Nat, s.heap.size ≤ q → (fun q : Nat => s.heap.size ≤ q) q := fun _ h => h
  have hbA : ¬ (fun q : Nat => s.heap.size ≤ q) b := Nat.not_le.mpr hbl
  obtain ⟨r, SH1, SM1, e1, e2, hS1⟩ := hs (xs (x3 + (1 : Int32)).toNatClampNeg) SH SM hS0
  obtain ⟨⟨hKH, hKM⟩, ⟨hPH, hPM⟩, ⟨hDH, hDM⟩, hdis, hS⟩ := hR
  refine lv_aload_n C.1 C.2.1 dL_law_688 rfl (lv_at hl 1 rfl) ?_
  refine lv_aload_n C.1 C.2.1 dL_law_689 rfl (lv_at hl 0 rfl) ?_
  refine lv_iload_n C.1 C.2.1 dL_law_690 rfl (lv_at hl 3 rfl) ?_
  refine lv_iconst (v := (1 : Int32)) C.1 C.2.1 dL_law_691 (by decide) ?_
  refine lv_iadd C.1 C.2.1 dL_law_692 ?_
  refine va_sld C.1 C.2.1 hX hbl hbA hS h1 dL_law_693 ?_
  refine lw_V (Y2 := yM) (E2 := EM) (S2 := SM) (x := (some (.int r), SH1)) (As := [.int (xs (x3 + (1 : Int32)).toNatClampNeg)]) (rest := []) C cf11 (c_X11_shows l EH (xs (x3 + (1 : Int32)).toNatClampNeg) _ _ e1) yv_X11_shows lk_RL_91 rfl aH_0 rfl rfl hl.1 (Nat.le_of_ble_eq_true rfl) (by decide) (by decide) hkc hks hKH hPH hPM hDH hdis hS hA dL_law_694 (fun H locs hPH hPM hDH hS => ?_)
  show W p l e room_1 s m args below meth c H locs kc ks Q (F0 m 697 ls [.int r])
  refine lv_aload_n C.1 C.2.1 dL_law_697 rfl (lv_at hl 2 rfl) ?_
  refine lv_aload_n C.1 C.2.1 dL_law_698 rfl (lv_at hl 0 rfl) ?_
  refine lv_iload_n C.1 C.2.1 dL_law_699 rfl (lv_at hl 3 rfl) ?_
  refine lv_iconst (v := (1 : Int32)) C.1 C.2.1 dL_law_700 (by decide) ?_
  refine lv_iadd C.1 C.2.1 dL_law_701 ?_
  refine va_sld C.1 C.2.1 hX hbl hbA hS h1 dL_law_702 ?_
  refine lw_V (Y2 := yH) (E2 := EH) (S2 := SH1) (x := (some (.int r), SM1)) (As := [.int (xs (x3 + (1 : Int32)).toNatClampNeg)]) (rest := [.int r]) C cf12 (c_X12_shows l EM (xs (x3 + (1 : Int32)).toNatClampNeg) _ _ e2) yv_X12_shows lk_RL_94 rfl aM_0 rfl rfl hl.1 (Nat.le_of_ble_eq_true rfl) (by decide) (by decide) hkc hks hKM hPM hPH hDM (fun a ha b hb q => hdis b hb a ha q.symm) hS hA dL_law_703 (fun H locs hPM hPH hDM hS => ?_)
  show W p l e room_1 s m args below meth c H locs kc ks Q (F0 m 706 ls [.int r, .int r])
  refine lv_icmp_eq (tgt := 1047) C.1 C.2.1 dL_law_706 (by decide) (fun _ => ?_) (fun hc => absurd rfl hc)
  exact kt SH1 SM1 H locs hS1 ⟨⟨hKH, hKM⟩, ⟨hPH, hPM⟩, ⟨hDH, hDM⟩, hdis, hS⟩
set_option maxHeartbeats 4000000 in
set_option maxRecDepth 100000 in
theorem lc_19 {p : Program} {l : Launch} {e : Env} {s : State} {m : MethodId} {args : Array Value} {below : List Frame} {meth : Method} {c : Code} {EH EM : Ev} {b L kc ks : Nat} {xs : Nat → Int32} {Sim : Hp → Hp → Prop} {Q : State → Prop} (C : ho_I p s m args meth c RL cL_law 4 ret) (hX : va_X b L xs s s.heap) (hbl : b < s.heap.size) (hkc : kc ≤ 600000) (hks : ks ≤ 7302250) (hs : sim_19 Sim) (x3 : Int32) (h1 : vp_in (x3 + (1 : Int32)) L) (SH SM : Hp) (hS0 : Sim SH SM) (H : Heap) (locs : List Loc) (ls : Array Slot) (hR : lw_R EH EM (fun q : Nat => s.heap.size ≤ q) s s.heap H locs SH SM) (hl : lv_has ls 4 [(0, .ref b), (1, .ref (EH.2.1 0)), (2, .ref (EM.2.1 0)), (3, .int x3)])
    (kt : ∀ (SH1 SM1 : Hp) (H1 : Heap) (locs1 : List Loc), Sim SH1 SM1 → lw_R EH EM (fun q : Nat => s.heap.size ≤ q) s s.heap H1 locs1 SH1 SM1 → W p l e room_1 s m args below meth c H1 locs1 kc ks Q (F0 m 1047 ls [])) : W p l e room_1 s m args below meth c H locs kc ks Q (F0 m 711 ls []) := by
  have hA : ∀ q : Nat, s.heap.size ≤ q → (fun q : Nat => s.heap.size ≤ q) q := fun _ h => h
  have hbA : ¬ (fun q : Nat => s.heap.size ≤ q) b := Nat.not_le.mpr hbl
  obtain ⟨r, SH1, SM1, e1, e2, hS1⟩ := hs (xs (x3 + (1 : Int32)).toNatClampNeg) SH SM hS0
  obtain ⟨⟨hKH, hKM⟩, ⟨hPH, hPM⟩, ⟨hDH, hDM⟩, hdis, hS⟩ := hR
  refine lv_aload_n C.1 C.2.1 dL_law_711 rfl (lv_at hl 1 rfl) ?_
  refine lv_aload_n C.1 C.2.1 dL_law_712 rfl (lv_at hl 0 rfl) ?_
  refine lv_iload_n C.1 C.2.1 dL_law_713 rfl (lv_at hl 3 rfl) ?_
  refine lv_iconst (v := (1 : Int32)) C.1 C.2.1 dL_law_714 (by decide) ?_
  refine lv_iadd C.1 C.2.1 dL_law_715 ?_
  refine va_sld C.1 C.2.1 hX hbl hbA hS h1 dL_law_716 ?_
  refine lw_V (Y2 := yM) (E2 := EM) (S2 := SM) (x := (some (.int r), SH1)) (As := [.int (xs (x3 + (1 : Int32)).toNatClampNeg)]) (rest := []) C cf11 (c_X11_where l EH (xs (x3 + (1 : Int32)).toNatClampNeg) _ _ e1) yv_X11_where lk_RL_95 rfl aH_0 rfl rfl hl.1 (Nat.le_of_ble_eq_true rfl) (by decide) (by decide) hkc hks hKH hPH hPM hDH hdis hS hA dL_law_717 (fun H locs hPH hPM hDH hS => ?_)
  show W p l e room_1 s m args below meth c H locs kc ks Q (F0 m 720 ls [.int r])
  refine lv_aload_n C.1 C.2.1 dL_law_720 rfl (lv_at hl 2 rfl) ?_
  refine lv_aload_n C.1 C.2.1 dL_law_721 rfl (lv_at hl 0 rfl) ?_
  refine lv_iload_n C.1 C.2.1 dL_law_722 rfl (lv_at hl 3 rfl) ?_
  refine lv_iconst (v := (1 : Int32)) C.1 C.2.1 dL_law_723 (by decide) ?_
  refine lv_iadd C.1 C.2.1 dL_law_724 ?_
  refine va_sld C.1 C.2.1 hX hbl hbA hS h1 dL_law_725 ?_
  refine lw_V (Y2 := yH) (E2 := EH) (S2 := SH1) (x := (some (.int r), SM1)) (As := [.int (xs (x3 + (1 : Int32)).toNatClampNeg)]) (rest := [.int r]) C cf12 (c_X12_where l EM (xs (x3 + (1 : Int32)).toNatClampNeg) _ _ e2) yv_X12_where lk_RL_98 rfl aM_0 rfl rfl hl.1 (Nat.le_of_ble_eq_true rfl) (by decide) (by decide) hkc hks hKM hPM hPH hDM (fun a ha b hb q => hdis b hb a ha q.symm) hS hA dL_law_726 (fun H locs hPM hPH hDM hS => ?_)
  show W p l e room_1 s m args below meth c H locs kc ks Q (F0 m 729 ls [.int r, .int r])
  refine lv_icmp_eq (tgt := 1047) C.1 C.2.1 dL_law_729 (by decide) (fun _ => ?_) (fun hc => absurd rfl hc)
  exact kt SH1 SM1 H locs hS1 ⟨⟨hKH, hKM⟩, ⟨hPH, hPM⟩, ⟨hDH, hDM⟩, hdis, hS⟩
set_option maxHeartbeats 4000000 in
set_option maxRecDepth 100000 in
theorem lc_20 {p : Program} {l : Launch} {e : Env} {s : State} {m : MethodId} {args : Array Value} {below : List Frame} {meth : Method} {c : Code} {EH EM : Ev} {b L kc ks : Nat} {xs : Nat → Int32} {Sim : Hp → Hp → Prop} {Q : State → Prop} (C : ho_I p s m args meth c RL cL_law 4 ret) (hX : va_X b L xs s s.heap) (hbl : b < s.heap.size) (hkc : kc ≤ 600000) (hks : ks ≤ 7302250) (hs : sim_20 Sim) (x3 : Int32) (h1 : vp_in (x3 + (1 : Int32)) L) (SH SM : Hp) (hS0 : Sim SH SM) (H : Heap) (locs : List Loc) (ls : Array Slot) (hR : lw_R EH EM (fun q : Nat => s.heap.size ≤ q) s s.heap H locs SH SM) (hl : lv_has ls 4 [(0, .ref b), (1, .ref (EH.2.1 0)), (2, .ref (EM.2.1 0)), (3, .int x3)])
    (kt : ∀ (SH1 SM1 : Hp) (H1 : Heap) (locs1 : List Loc), Sim SH1 SM1 → lw_R EH EM (fun q : Nat => s.heap.size ≤ q) s s.heap H1 locs1 SH1 SM1 → W p l e room_1 s m args below meth c H1 locs1 kc ks Q (F0 m 1047 ls [])) : W p l e room_1 s m args below meth c H locs kc ks Q (F0 m 734 ls []) := by
  have hA : ∀ q : Nat, s.heap.size ≤ q → (fun q : Nat => s.heap.size ≤ q) q := fun _ h => h
  have hbA : ¬ (fun q : Nat => s.heap.size ≤ q) b := Nat.not_le.mpr hbl
  obtain ⟨r, SH1, SM1, e1, e2, hS1⟩ := hs (xs (x3 + (1 : Int32)).toNatClampNeg) SH SM hS0
  obtain ⟨⟨hKH, hKM⟩, ⟨hPH, hPM⟩, ⟨hDH, hDM⟩, hdis, hS⟩ := hR
  refine lv_aload_n C.1 C.2.1 dL_law_734 rfl (lv_at hl 1 rfl) ?_
  refine lv_aload_n C.1 C.2.1 dL_law_735 rfl (lv_at hl 0 rfl) ?_
  refine lv_iload_n C.1 C.2.1 dL_law_736 rfl (lv_at hl 3 rfl) ?_
  refine lv_iconst (v := (1 : Int32)) C.1 C.2.1 dL_law_737 (by decide) ?_
  refine lv_iadd C.1 C.2.1 dL_law_738 ?_
  refine va_sld C.1 C.2.1 hX hbl hbA hS h1 dL_law_739 ?_
  refine lw_V (Y2 := yM) (E2 := EM) (S2 := SM) (x := (some (.int r), SH1)) (As := [.int (xs (x3 + (1 : Int32)).toNatClampNeg)]) (rest := []) C cf11 (c_X11_watch l EH (xs (x3 + (1 : Int32)).toNatClampNeg) _ _ e1) yv_X11_watch lk_RL_99 rfl aH_0 rfl rfl hl.1 (Nat.le_of_ble_eq_true rfl) (by decide) (by decide) hkc hks hKH hPH hPM hDH hdis hS hA dL_law_740 (fun H locs hPH hPM hDH hS => ?_)
  show W p l e room_1 s m args below meth c H locs kc ks Q (F0 m 743 ls [.int r])
  refine lv_aload_n C.1 C.2.1 dL_law_743 rfl (lv_at hl 2 rfl) ?_
  refine lv_aload_n C.1 C.2.1 dL_law_744 rfl (lv_at hl 0 rfl) ?_
  refine lv_iload_n C.1 C.2.1 dL_law_745 rfl (lv_at hl 3 rfl) ?_
  refine lv_iconst (v := (1 : Int32)) C.1 C.2.1 dL_law_746 (by decide) ?_
  refine lv_iadd C.1 C.2.1 dL_law_747 ?_
  refine va_sld C.1 C.2.1 hX hbl hbA hS h1 dL_law_748 ?_
  refine lw_V (Y2 := yH) (E2 := EH) (S2 := SH1) (x := (some (.int r), SM1)) (As := [.int (xs (x3 + (1 : Int32)).toNatClampNeg)]) (rest := [.int r]) C cf12 (c_X12_watch l EM (xs (x3 + (1 : Int32)).toNatClampNeg) _ _ e2) yv_X12_watch lk_RL_102 rfl aM_0 rfl rfl hl.1 (Nat.le_of_ble_eq_true rfl) (by decide) (by decide) hkc hks hKM hPM hPH hDM (fun a ha b hb q => hdis b hb a ha q.symm) hS hA dL_law_749 (fun H locs hPM hPH hDM hS => ?_)
  show W p l e room_1 s m args below meth c H locs kc ks Q (F0 m 752 ls [.int r, .int r])
  refine lv_icmp_eq (tgt := 1047) C.1 C.2.1 dL_law_752 (by decide) (fun _ => ?_) (fun hc => absurd rfl hc)
  exact kt SH1 SM1 H locs hS1 ⟨⟨hKH, hKM⟩, ⟨hPH, hPM⟩, ⟨hDH, hDM⟩, hdis, hS⟩
set_option maxHeartbeats 4000000 in
set_option maxRecDepth 100000 in
theorem lc_21 {p : Program} {l : Launch} {e : Env} {s : State} {m : MethodId} {args : Array Value} {below : List Frame} {meth : Method} {c : Code} {EH EM : Ev} {b L kc ks : Nat} {xs : Nat → Int32} {Sim : Hp → Hp → Prop} {Q : State → Prop} (C : ho_I p s m args meth c RL cL_law 4 ret) (hX : va_X b L xs s s.heap) (hbl : b < s.heap.size) (hkc : kc ≤ 600000) (hks : ks ≤ 7302250) (hs : sim_21 Sim) (x3 : Int32) (h1 : vp_in (x3 + (1 : Int32)) L) (SH SM : Hp) (hS0 : Sim SH SM) (H : Heap) (locs : List Loc) (ls : Array Slot) (hR : lw_R EH EM (fun q : Nat => s.heap.size ≤ q) s s.heap H locs SH SM) (hl : lv_has ls 4 [(0, .ref b), (1, .ref (EH.2.1 0)), (2, .ref (EM.2.1 0)), (3, .int x3)])
    (kt : ∀ (SH1 SM1 : Hp) (H1 : Heap) (locs1 : List Loc), Sim SH1 SM1 → lw_R EH EM (fun q : Nat => s.heap.size ≤ q) s s.heap H1 locs1 SH1 SM1 → W p l e room_1 s m args below meth c H1 locs1 kc ks Q (F0 m 1047 ls [])) : W p l e room_1 s m args below meth c H locs kc ks Q (F0 m 757 ls []) := by
  have hA : ∀ q : Nat, s.heap.size ≤ q → (fun q : Nat => s.heap.size ≤ q) q := fun _ h => h
  have hbA : ¬ (fun q : Nat => s.heap.size ≤ q) b := Nat.not_le.mpr hbl
  obtain ⟨r, SH1, SM1, e1, e2, hS1⟩ := hs (xs (x3 + (1 : Int32)).toNatClampNeg) SH SM hS0
  obtain ⟨⟨hKH, hKM⟩, ⟨hPH, hPM⟩, ⟨hDH, hDM⟩, hdis, hS⟩ := hR
  refine lv_aload_n C.1 C.2.1 dL_law_757 rfl (lv_at hl 1 rfl) ?_
  refine lv_aload_n C.1 C.2.1 dL_law_758 rfl (lv_at hl 0 rfl) ?_
  refine lv_iload_n C.1 C.2.1 dL_law_759 rfl (lv_at hl 3 rfl) ?_
  refine lv_iconst (v := (1 : Int32)) C.1 C.2.1 dL_law_760 (by decide) ?_
  refine lv_iadd C.1 C.2.1 dL_law_761 ?_
  refine va_sld C.1 C.2.1 hX hbl hbA hS h1 dL_law_762 ?_
  refine lw_V (Y2 := yM) (E2 := EM) (S2 := SM) (x := (some (.int r), SH1)) (As := [.int (xs (x3 + (1 : Int32)).toNatClampNeg)]) (rest := []) C cf11 (c_X11_seat l EH (xs (x3 + (1 : Int32)).toNatClampNeg) _ _ e1) yv_X11_seat lk_RL_103 rfl aH_0 rfl rfl hl.1 (Nat.le_of_ble_eq_true rfl) (by decide) (by decide) hkc hks hKH hPH hPM hDH hdis hS hA dL_law_763 (fun H locs hPH hPM hDH hS => ?_)
  show W p l e room_1 s m args below meth c H locs kc ks Q (F0 m 766 ls [.int r])
  refine lv_aload_n C.1 C.2.1 dL_law_766 rfl (lv_at hl 2 rfl) ?_
  refine lv_aload_n C.1 C.2.1 dL_law_767 rfl (lv_at hl 0 rfl) ?_
  refine lv_iload_n C.1 C.2.1 dL_law_768 rfl (lv_at hl 3 rfl) ?_
  refine lv_iconst (v := (1 : Int32)) C.1 C.2.1 dL_law_769 (by decide) ?_
  refine lv_iadd C.1 C.2.1 dL_law_770 ?_
  refine va_sld C.1 C.2.1 hX hbl hbA hS h1 dL_law_771 ?_
  refine lw_V (Y2 := yH) (E2 := EH) (S2 := SH1) (x := (some (.int r), SM1)) (As := [.int (xs (x3 + (1 : Int32)).toNatClampNeg)]) (rest := [.int r]) C cf12 (c_X12_seat l EM (xs (x3 + (1 : Int32)).toNatClampNeg) _ _ e2) yv_X12_seat lk_RL_106 rfl aM_0 rfl rfl hl.1 (Nat.le_of_ble_eq_true rfl) (by decide) (by decide) hkc hks hKM hPM hPH hDM (fun a ha b hb q => hdis b hb a ha q.symm) hS hA dL_law_772 (fun H locs hPM hPH hDM hS => ?_)
  show W p l e room_1 s m args below meth c H locs kc ks Q (F0 m 775 ls [.int r, .int r])
  refine lv_icmp_eq (tgt := 1047) C.1 C.2.1 dL_law_775 (by decide) (fun _ => ?_) (fun hc => absurd rfl hc)
  exact kt SH1 SM1 H locs hS1 ⟨⟨hKH, hKM⟩, ⟨hPH, hPM⟩, ⟨hDH, hDM⟩, hdis, hS⟩
set_option maxHeartbeats 4000000 in
set_option maxRecDepth 100000 in
theorem lc_22 {p : Program} {l : Launch} {e : Env} {s : State} {m : MethodId} {args : Array Value} {below : List Frame} {meth : Method} {c : Code} {EH EM : Ev} {b L kc ks : Nat} {xs : Nat → Int32} {Sim : Hp → Hp → Prop} {Q : State → Prop} (C : ho_I p s m args meth c RL cL_law 4 ret) (hX : va_X b L xs s s.heap) (hbl : b < s.heap.size) (hkc : kc ≤ 600000) (hks : ks ≤ 7302250) (hs : sim_22 Sim) (x3 : Int32) (h1 : vp_in (x3 + (1 : Int32)) L) (SH SM : Hp) (hS0 : Sim SH SM) (H : Heap) (locs : List Loc) (ls : Array Slot) (hR : lw_R EH EM (fun q : Nat => s.heap.size ≤ q) s s.heap H locs SH SM) (hl : lv_has ls 4 [(0, .ref b), (1, .ref (EH.2.1 0)), (2, .ref (EM.2.1 0)), (3, .int x3)])
    (kt : ∀ (SH1 SM1 : Hp) (H1 : Heap) (locs1 : List Loc), Sim SH1 SM1 → lw_R EH EM (fun q : Nat => s.heap.size ≤ q) s s.heap H1 locs1 SH1 SM1 → W p l e room_1 s m args below meth c H1 locs1 kc ks Q (F0 m 1047 ls [])) : W p l e room_1 s m args below meth c H locs kc ks Q (F0 m 780 ls []) := by
  have hA : ∀ q : Nat, s.heap.size ≤ q → (fun q : Nat => s.heap.size ≤ q) q := fun _ h => h
  have hbA : ¬ (fun q : Nat => s.heap.size ≤ q) b := Nat.not_le.mpr hbl
  obtain ⟨r, SH1, SM1, e1, e2, hS1⟩ := hs (xs (x3 + (1 : Int32)).toNatClampNeg) SH SM hS0
  obtain ⟨⟨hKH, hKM⟩, ⟨hPH, hPM⟩, ⟨hDH, hDM⟩, hdis, hS⟩ := hR
  refine lv_aload_n C.1 C.2.1 dL_law_780 rfl (lv_at hl 1 rfl) ?_
  refine lv_aload_n C.1 C.2.1 dL_law_781 rfl (lv_at hl 0 rfl) ?_
  refine lv_iload_n C.1 C.2.1 dL_law_782 rfl (lv_at hl 3 rfl) ?_
  refine lv_iconst (v := (1 : Int32)) C.1 C.2.1 dL_law_783 (by decide) ?_
  refine lv_iadd C.1 C.2.1 dL_law_784 ?_
  refine va_sld C.1 C.2.1 hX hbl hbA hS h1 dL_law_785 ?_
  refine lw_V (Y2 := yM) (E2 := EM) (S2 := SM) (x := (some (.int r), SH1)) (As := [.int (xs (x3 + (1 : Int32)).toNatClampNeg)]) (rest := []) C cf11 (c_X11_show l EH (xs (x3 + (1 : Int32)).toNatClampNeg) _ _ e1) yv_X11_show lk_RL_107 rfl aH_0 rfl rfl hl.1 (Nat.le_of_ble_eq_true rfl) (by decide) (by decide) hkc hks hKH hPH hPM hDH hdis hS hA dL_law_786 (fun H locs hPH hPM hDH hS => ?_)
  show W p l e room_1 s m args below meth c H locs kc ks Q (F0 m 789 ls [.int r])
  refine lv_aload_n C.1 C.2.1 dL_law_789 rfl (lv_at hl 2 rfl) ?_
  refine lv_aload_n C.1 C.2.1 dL_law_790 rfl (lv_at hl 0 rfl) ?_
  refine lv_iload_n C.1 C.2.1 dL_law_791 rfl (lv_at hl 3 rfl) ?_
  refine lv_iconst (v := (1 : Int32)) C.1 C.2.1 dL_law_792 (by decide) ?_
  refine lv_iadd C.1 C.2.1 dL_law_793 ?_
  refine va_sld C.1 C.2.1 hX hbl hbA hS h1 dL_law_794 ?_
  refine lw_V (Y2 := yH) (E2 := EH) (S2 := SH1) (x := (some (.int r), SM1)) (As := [.int (xs (x3 + (1 : Int32)).toNatClampNeg)]) (rest := [.int r]) C cf12 (c_X12_show l EM (xs (x3 + (1 : Int32)).toNatClampNeg) _ _ e2) yv_X12_show lk_RL_110 rfl aM_0 rfl rfl hl.1 (Nat.le_of_ble_eq_true rfl) (by decide) (by decide) hkc hks hKM hPM hPH hDM (fun a ha b hb q => hdis b hb a ha q.symm) hS hA dL_law_795 (fun H locs hPM hPH hDM hS => ?_)
  show W p l e room_1 s m args below meth c H locs kc ks Q (F0 m 798 ls [.int r, .int r])
  refine lv_icmp_eq (tgt := 1047) C.1 C.2.1 dL_law_798 (by decide) (fun _ => ?_) (fun hc => absurd rfl hc)
  exact kt SH1 SM1 H locs hS1 ⟨⟨hKH, hKM⟩, ⟨hPH, hPM⟩, ⟨hDH, hDM⟩, hdis, hS⟩
set_option maxHeartbeats 4000000 in
set_option maxRecDepth 100000 in
theorem lc_23 {p : Program} {l : Launch} {e : Env} {s : State} {m : MethodId} {args : Array Value} {below : List Frame} {meth : Method} {c : Code} {EH EM : Ev} {b L kc ks : Nat} {xs : Nat → Int32} {Sim : Hp → Hp → Prop} {Q : State → Prop} (C : ho_I p s m args meth c RL cL_law 4 ret) (hX : va_X b L xs s s.heap) (hbl : b < s.heap.size) (hkc : kc ≤ 600000) (hks : ks ≤ 7302250) (hs : sim_23 Sim) (x3 : Int32) (h1 : vp_in (x3 + (1 : Int32)) L) (h2 : vp_in (x3 + (2 : Int32)) L) (SH SM : Hp) (hS0 : Sim SH SM) (H : Heap) (locs : List Loc) (ls : Array Slot) (hR : lw_R EH EM (fun q : Nat => s.heap.size ≤ q) s s.heap H locs SH SM) (hl : lv_has ls 4 [(0, .ref b), (1, .ref (EH.2.1 0)), (2, .ref (EM.2.1 0)), (3, .int x3)])
    (kt : ∀ (SH1 SM1 : Hp) (H1 : Heap) (locs1 : List Loc), Sim SH1 SM1 → lw_R EH EM (fun q : Nat => s.heap.size ≤ q) s s.heap H1 locs1 SH1 SM1 → W p l e room_1 s m args below meth c H1 locs1 kc ks Q (F0 m 1047 ls [])) : W p l e room_1 s m args below meth c H locs kc ks Q (F0 m 803 ls []) := by
  have hA : ∀ q : Nat, s.heap.size ≤ q → (fun q : Nat => s.heap.size ≤ q) q := fun _ h => h
  have hbA : ¬ (fun q : Nat => s.heap.size ≤ q) b := Nat.not_le.mpr hbl
  obtain ⟨r, SH1, SM1, e1, e2, hS1⟩ := hs (xs (x3 + (1 : Int32)).toNatClampNeg) (xs (x3 + (2 : Int32)).toNatClampNeg) SH SM hS0
  obtain ⟨⟨hKH, hKM⟩, ⟨hPH, hPM⟩, ⟨hDH, hDM⟩, hdis, hS⟩ := hR
  refine lv_aload_n C.1 C.2.1 dL_law_803 rfl (lv_at hl 1 rfl) ?_
  refine lv_aload_n C.1 C.2.1 dL_law_804 rfl (lv_at hl 0 rfl) ?_
  refine lv_iload_n C.1 C.2.1 dL_law_805 rfl (lv_at hl 3 rfl) ?_
  refine lv_iconst (v := (1 : Int32)) C.1 C.2.1 dL_law_806 (by decide) ?_
  refine lv_iadd C.1 C.2.1 dL_law_807 ?_
  refine va_sld C.1 C.2.1 hX hbl hbA hS h1 dL_law_808 ?_
  refine lv_aload_n C.1 C.2.1 dL_law_809 rfl (lv_at hl 0 rfl) ?_
  refine lv_iload_n C.1 C.2.1 dL_law_810 rfl (lv_at hl 3 rfl) ?_
  refine lv_iconst (v := (2 : Int32)) C.1 C.2.1 dL_law_811 (by decide) ?_
  refine lv_iadd C.1 C.2.1 dL_law_812 ?_
  refine va_sld C.1 C.2.1 hX hbl hbA hS h2 dL_law_813 ?_
  refine lw_V (Y2 := yM) (E2 := EM) (S2 := SM) (x := (some (.int r), SH1)) (As := [.int (xs (x3 + (1 : Int32)).toNatClampNeg), .int (xs (x3 + (2 : Int32)).toNatClampNeg)]) (rest := []) C cf11 (c_X11_sit l EH (xs (x3 + (1 : Int32)).toNatClampNeg) (xs (x3 + (2 : Int32)).toNatClampNeg) _ _ e1) yv_X11_sit lk_RL_111 rfl aH_0 rfl rfl hl.1 (Nat.le_of_ble_eq_true rfl) (by decide) (by decide) hkc hks hKH hPH hPM hDH hdis hS hA dL_law_814 (fun H locs hPH hPM hDH hS => ?_)
  show W p l e room_1 s m args below meth c H locs kc ks Q (F0 m 817 ls [.int r])
  refine lv_aload_n C.1 C.2.1 dL_law_817 rfl (lv_at hl 2 rfl) ?_
  refine lv_aload_n C.1 C.2.1 dL_law_818 rfl (lv_at hl 0 rfl) ?_
  refine lv_iload_n C.1 C.2.1 dL_law_819 rfl (lv_at hl 3 rfl) ?_
  refine lv_iconst (v := (1 : Int32)) C.1 C.2.1 dL_law_820 (by decide) ?_
  refine lv_iadd C.1 C.2.1 dL_law_821 ?_
  refine va_sld C.1 C.2.1 hX hbl hbA hS h1 dL_law_822 ?_
  refine lv_aload_n C.1 C.2.1 dL_law_823 rfl (lv_at hl 0 rfl) ?_
  refine lv_iload_n C.1 C.2.1 dL_law_824 rfl (lv_at hl 3 rfl) ?_
  refine lv_iconst (v := (2 : Int32)) C.1 C.2.1 dL_law_825 (by decide) ?_
  refine lv_iadd C.1 C.2.1 dL_law_826 ?_
  refine va_sld C.1 C.2.1 hX hbl hbA hS h2 dL_law_827 ?_
  refine lw_V (Y2 := yH) (E2 := EH) (S2 := SH1) (x := (some (.int r), SM1)) (As := [.int (xs (x3 + (1 : Int32)).toNatClampNeg), .int (xs (x3 + (2 : Int32)).toNatClampNeg)]) (rest := [.int r]) C cf12 (c_X12_sit l EM (xs (x3 + (1 : Int32)).toNatClampNeg) (xs (x3 + (2 : Int32)).toNatClampNeg) _ _ e2) yv_X12_sit lk_RL_115 rfl aM_0 rfl rfl hl.1 (Nat.le_of_ble_eq_true rfl) (by decide) (by decide) hkc hks hKM hPM hPH hDM (fun a ha b hb q => hdis b hb a ha q.symm) hS hA dL_law_828 (fun H locs hPM hPH hDM hS => ?_)
  show W p l e room_1 s m args below meth c H locs kc ks Q (F0 m 831 ls [.int r, .int r])
  refine lv_icmp_eq (tgt := 1047) C.1 C.2.1 dL_law_831 (by decide) (fun _ => ?_) (fun hc => absurd rfl hc)
  exact kt SH1 SM1 H locs hS1 ⟨⟨hKH, hKM⟩, ⟨hPH, hPM⟩, ⟨hDH, hDM⟩, hdis, hS⟩
set_option maxHeartbeats 4000000 in
set_option maxRecDepth 100000 in
theorem lc_24 {p : Program} {l : Launch} {e : Env} {s : State} {m : MethodId} {args : Array Value} {below : List Frame} {meth : Method} {c : Code} {EH EM : Ev} {b L kc ks : Nat} {xs : Nat → Int32} {Sim : Hp → Hp → Prop} {Q : State → Prop} (C : ho_I p s m args meth c RL cL_law 4 ret) (hX : va_X b L xs s s.heap) (hbl : b < s.heap.size) (hkc : kc ≤ 600000) (hks : ks ≤ 7302250) (hs : sim_24 Sim) (x3 : Int32) (h1 : vp_in (x3 + (1 : Int32)) L) (h2 : vp_in (x3 + (2 : Int32)) L) (h3 : vp_in (x3 + (3 : Int32)) L) (SH SM : Hp) (hS0 : Sim SH SM) (H : Heap) (locs : List Loc) (ls : Array Slot) (hR : lw_R EH EM (fun q : Nat => s.heap.size ≤ q) s s.heap H locs SH SM) (hl : lv_has ls 4 [(0, .ref b), (1, .ref (EH.2.1 0)), (2, .ref (EM.2.1 0)), (3, .int x3)])
    (kt : ∀ (SH1 SM1 : Hp) (H1 : Heap) (locs1 : List Loc), Sim SH1 SM1 → lw_R EH EM (fun q : Nat => s.heap.size ≤ q) s s.heap H1 locs1 SH1 SM1 → W p l e room_1 s m args below meth c H1 locs1 kc ks Q (F0 m 1047 ls [])) : W p l e room_1 s m args below meth c H locs kc ks Q (F0 m 836 ls []) := by
  have hA : ∀ q : Nat, s.heap.size ≤ q → (fun q : Nat => s.heap.size ≤ q) q := fun _ h => h
  have hbA : ¬ (fun q : Nat => s.heap.size ≤ q) b := Nat.not_le.mpr hbl
  obtain ⟨r, SH1, SM1, e1, e2, hS1⟩ := hs (xs (x3 + (1 : Int32)).toNatClampNeg) (xs (x3 + (2 : Int32)).toNatClampNeg) (xs (x3 + (3 : Int32)).toNatClampNeg) SH SM hS0
  obtain ⟨⟨hKH, hKM⟩, ⟨hPH, hPM⟩, ⟨hDH, hDM⟩, hdis, hS⟩ := hR
  refine lv_aload_n C.1 C.2.1 dL_law_836 rfl (lv_at hl 1 rfl) ?_
  refine lv_aload_n C.1 C.2.1 dL_law_837 rfl (lv_at hl 0 rfl) ?_
  refine lv_iload_n C.1 C.2.1 dL_law_838 rfl (lv_at hl 3 rfl) ?_
  refine lv_iconst (v := (1 : Int32)) C.1 C.2.1 dL_law_839 (by decide) ?_
  refine lv_iadd C.1 C.2.1 dL_law_840 ?_
  refine va_sld C.1 C.2.1 hX hbl hbA hS h1 dL_law_841 ?_
  refine lv_aload_n C.1 C.2.1 dL_law_842 rfl (lv_at hl 0 rfl) ?_
  refine lv_iload_n C.1 C.2.1 dL_law_843 rfl (lv_at hl 3 rfl) ?_
  refine lv_iconst (v := (2 : Int32)) C.1 C.2.1 dL_law_844 (by decide) ?_
  refine lv_iadd C.1 C.2.1 dL_law_845 ?_
  refine va_sld C.1 C.2.1 hX hbl hbA hS h2 dL_law_846 ?_
  refine lv_aload_n C.1 C.2.1 dL_law_847 rfl (lv_at hl 0 rfl) ?_
  refine lv_iload_n C.1 C.2.1 dL_law_848 rfl (lv_at hl 3 rfl) ?_
  refine lv_iconst (v := (3 : Int32)) C.1 C.2.1 dL_law_849 (by decide) ?_
  refine lv_iadd C.1 C.2.1 dL_law_850 ?_
  refine va_sld C.1 C.2.1 hX hbl hbA hS h3 dL_law_851 ?_
  refine lw_V (Y2 := yM) (E2 := EM) (S2 := SM) (x := (some (.int r), SH1)) (As := [.int (xs (x3 + (1 : Int32)).toNatClampNeg), .int (xs (x3 + (2 : Int32)).toNatClampNeg), .int (xs (x3 + (3 : Int32)).toNatClampNeg)]) (rest := []) C cf11 (c_X11_move l EH (xs (x3 + (1 : Int32)).toNatClampNeg) (xs (x3 + (2 : Int32)).toNatClampNeg) (xs (x3 + (3 : Int32)).toNatClampNeg) _ _ e1) yv_X11_move lk_RL_116 rfl aH_0 rfl rfl hl.1 (Nat.le_of_ble_eq_true rfl) (by decide) (by decide) hkc hks hKH hPH hPM hDH hdis hS hA dL_law_852 (fun H locs hPH hPM hDH hS => ?_)
  show W p l e room_1 s m args below meth c H locs kc ks Q (F0 m 855 ls [.int r])
  refine lv_aload_n C.1 C.2.1 dL_law_855 rfl (lv_at hl 2 rfl) ?_
  refine lv_aload_n C.1 C.2.1 dL_law_856 rfl (lv_at hl 0 rfl) ?_
  refine lv_iload_n C.1 C.2.1 dL_law_857 rfl (lv_at hl 3 rfl) ?_
  refine lv_iconst (v := (1 : Int32)) C.1 C.2.1 dL_law_858 (by decide) ?_
  refine lv_iadd C.1 C.2.1 dL_law_859 ?_
  refine va_sld C.1 C.2.1 hX hbl hbA hS h1 dL_law_860 ?_
  refine lv_aload_n C.1 C.2.1 dL_law_861 rfl (lv_at hl 0 rfl) ?_
  refine lv_iload_n C.1 C.2.1 dL_law_862 rfl (lv_at hl 3 rfl) ?_
  refine lv_iconst (v := (2 : Int32)) C.1 C.2.1 dL_law_863 (by decide) ?_
  refine lv_iadd C.1 C.2.1 dL_law_864 ?_
  refine va_sld C.1 C.2.1 hX hbl hbA hS h2 dL_law_865 ?_
  refine lv_aload_n C.1 C.2.1 dL_law_866 rfl (lv_at hl 0 rfl) ?_
  refine lv_iload_n C.1 C.2.1 dL_law_867 rfl (lv_at hl 3 rfl) ?_
  refine lv_iconst (v := (3 : Int32)) C.1 C.2.1 dL_law_868 (by decide) ?_
  refine lv_iadd C.1 C.2.1 dL_law_869 ?_
  refine va_sld C.1 C.2.1 hX hbl hbA hS h3 dL_law_870 ?_
  refine lw_V (Y2 := yH) (E2 := EH) (S2 := SH1) (x := (some (.int r), SM1)) (As := [.int (xs (x3 + (1 : Int32)).toNatClampNeg), .int (xs (x3 + (2 : Int32)).toNatClampNeg), .int (xs (x3 + (3 : Int32)).toNatClampNeg)]) (rest := [.int r]) C cf12 (c_X12_move l EM (xs (x3 + (1 : Int32)).toNatClampNeg) (xs (x3 + (2 : Int32)).toNatClampNeg) (xs (x3 + (3 : Int32)).toNatClampNeg) _ _ e2) yv_X12_move lk_RL_120 rfl aM_0 rfl rfl hl.1 (Nat.le_of_ble_eq_true rfl) (by decide) (by decide) hkc hks hKM hPM hPH hDM (fun a ha b hb q => hdis b hb a ha q.symm) hS hA dL_law_871 (fun H locs hPM hPH hDM hS => ?_)
  show W p l e room_1 s m args below meth c H locs kc ks Q (F0 m 874 ls [.int r, .int r])
  refine lv_icmp_eq (tgt := 1047) C.1 C.2.1 dL_law_874 (by decide) (fun _ => ?_) (fun hc => absurd rfl hc)
  exact kt SH1 SM1 H locs hS1 ⟨⟨hKH, hKM⟩, ⟨hPH, hPM⟩, ⟨hDH, hDM⟩, hdis, hS⟩
set_option maxHeartbeats 4000000 in
set_option maxRecDepth 100000 in
theorem lc_25 {p : Program} {l : Launch} {e : Env} {s : State} {m : MethodId} {args : Array Value} {below : List Frame} {meth : Method} {c : Code} {EH EM : Ev} {b L kc ks : Nat} {xs : Nat → Int32} {Sim : Hp → Hp → Prop} {Q : State → Prop} (C : ho_I p s m args meth c RL cL_law 4 ret) (hX : va_X b L xs s s.heap) (hbl : b < s.heap.size) (hkc : kc ≤ 600000) (hks : ks ≤ 7302250) (hs : sim_25 Sim) (x3 : Int32) (h1 : vp_in (x3 + (1 : Int32)) L) (SH SM : Hp) (hS0 : Sim SH SM) (H : Heap) (locs : List Loc) (ls : Array Slot) (hR : lw_R EH EM (fun q : Nat => s.heap.size ≤ q) s s.heap H locs SH SM) (hl : lv_has ls 4 [(0, .ref b), (1, .ref (EH.2.1 0)), (2, .ref (EM.2.1 0)), (3, .int x3)])
    (kt : ∀ (SH1 SM1 : Hp) (H1 : Heap) (locs1 : List Loc), Sim SH1 SM1 → lw_R EH EM (fun q : Nat => s.heap.size ≤ q) s s.heap H1 locs1 SH1 SM1 → W p l e room_1 s m args below meth c H1 locs1 kc ks Q (F0 m 1047 ls [])) : W p l e room_1 s m args below meth c H locs kc ks Q (F0 m 879 ls []) := by
  have hA : ∀ q : Nat, s.heap.size ≤ q → (fun q : Nat => s.heap.size ≤ q) q := fun _ h => h
  have hbA : ¬ (fun q : Nat => s.heap.size ≤ q) b := Nat.not_le.mpr hbl
  obtain ⟨r, SH1, SM1, e1, e2, hS1⟩ := hs (xs (x3 + (1 : Int32)).toNatClampNeg) SH SM hS0
  obtain ⟨⟨hKH, hKM⟩, ⟨hPH, hPM⟩, ⟨hDH, hDM⟩, hdis, hS⟩ := hR
  refine lv_aload_n C.1 C.2.1 dL_law_879 rfl (lv_at hl 1 rfl) ?_
  refine lv_aload_n C.1 C.2.1 dL_law_880 rfl (lv_at hl 0 rfl) ?_
  refine lv_iload_n C.1 C.2.1 dL_law_881 rfl (lv_at hl 3 rfl) ?_
  refine lv_iconst (v := (1 : Int32)) C.1 C.2.1 dL_law_882 (by decide) ?_
  refine lv_iadd C.1 C.2.1 dL_law_883 ?_
  refine va_sld C.1 C.2.1 hX hbl hbA hS h1 dL_law_884 ?_
  refine lw_V (Y2 := yM) (E2 := EM) (S2 := SM) (x := (some (.int r), SH1)) (As := [.int (xs (x3 + (1 : Int32)).toNatClampNeg)]) (rest := []) C cf11 (c_X11_years l EH (xs (x3 + (1 : Int32)).toNatClampNeg) _ _ e1) yv_X11_years lk_RL_121 rfl aH_0 rfl rfl hl.1 (Nat.le_of_ble_eq_true rfl) (by decide) (by decide) hkc hks hKH hPH hPM hDH hdis hS hA dL_law_885 (fun H locs hPH hPM hDH hS => ?_)
  show W p l e room_1 s m args below meth c H locs kc ks Q (F0 m 888 ls [.int r])
  refine lv_aload_n C.1 C.2.1 dL_law_888 rfl (lv_at hl 2 rfl) ?_
  refine lv_aload_n C.1 C.2.1 dL_law_889 rfl (lv_at hl 0 rfl) ?_
  refine lv_iload_n C.1 C.2.1 dL_law_890 rfl (lv_at hl 3 rfl) ?_
  refine lv_iconst (v := (1 : Int32)) C.1 C.2.1 dL_law_891 (by decide) ?_
  refine lv_iadd C.1 C.2.1 dL_law_892 ?_
  refine va_sld C.1 C.2.1 hX hbl hbA hS h1 dL_law_893 ?_
  refine lw_V (Y2 := yH) (E2 := EH) (S2 := SH1) (x := (some (.int r), SM1)) (As := [.int (xs (x3 + (1 : Int32)).toNatClampNeg)]) (rest := [.int r]) C cf12 (c_X12_years l EM (xs (x3 + (1 : Int32)).toNatClampNeg) _ _ e2) yv_X12_years lk_RL_124 rfl aM_0 rfl rfl hl.1 (Nat.le_of_ble_eq_true rfl) (by decide) (by decide) hkc hks hKM hPM hPH hDM (fun a ha b hb q => hdis b hb a ha q.symm) hS hA dL_law_894 (fun H locs hPM hPH hDM hS => ?_)
  show W p l e room_1 s m args below meth c H locs kc ks Q (F0 m 897 ls [.int r, .int r])
  refine lv_icmp_eq (tgt := 1047) C.1 C.2.1 dL_law_897 (by decide) (fun _ => ?_) (fun hc => absurd rfl hc)
  exact kt SH1 SM1 H locs hS1 ⟨⟨hKH, hKM⟩, ⟨hPH, hPM⟩, ⟨hDH, hDM⟩, hdis, hS⟩
set_option maxHeartbeats 4000000 in
set_option maxRecDepth 100000 in
theorem lc_26 {p : Program} {l : Launch} {e : Env} {s : State} {m : MethodId} {args : Array Value} {below : List Frame} {meth : Method} {c : Code} {EH EM : Ev} {b L kc ks : Nat} {xs : Nat → Int32} {Sim : Hp → Hp → Prop} {Q : State → Prop} (C : ho_I p s m args meth c RL cL_law 4 ret) (hX : va_X b L xs s s.heap) (hbl : b < s.heap.size) (hkc : kc ≤ 600000) (hks : ks ≤ 7302250) (hs : sim_26 Sim) (x3 : Int32) (h1 : vp_in (x3 + (1 : Int32)) L) (SH SM : Hp) (hS0 : Sim SH SM) (H : Heap) (locs : List Loc) (ls : Array Slot) (hR : lw_R EH EM (fun q : Nat => s.heap.size ≤ q) s s.heap H locs SH SM) (hl : lv_has ls 4 [(0, .ref b), (1, .ref (EH.2.1 0)), (2, .ref (EM.2.1 0)), (3, .int x3)])
    (kt : ∀ (SH1 SM1 : Hp) (H1 : Heap) (locs1 : List Loc), Sim SH1 SM1 → lw_R EH EM (fun q : Nat => s.heap.size ≤ q) s s.heap H1 locs1 SH1 SM1 → W p l e room_1 s m args below meth c H1 locs1 kc ks Q (F0 m 1047 ls [])) : W p l e room_1 s m args below meth c H locs kc ks Q (F0 m 902 ls []) := by
  have hA : ∀ q : Nat, s.heap.size ≤ q → (fun q : Nat => s.heap.size ≤ q) q := fun _ h => h
  have hbA : ¬ (fun q : Nat => s.heap.size ≤ q) b := Nat.not_le.mpr hbl
  obtain ⟨r, SH1, SM1, e1, e2, hS1⟩ := hs (xs (x3 + (1 : Int32)).toNatClampNeg) SH SM hS0
  obtain ⟨⟨hKH, hKM⟩, ⟨hPH, hPM⟩, ⟨hDH, hDM⟩, hdis, hS⟩ := hR
  refine lv_aload_n C.1 C.2.1 dL_law_902 rfl (lv_at hl 1 rfl) ?_
  refine lv_aload_n C.1 C.2.1 dL_law_903 rfl (lv_at hl 0 rfl) ?_
  refine lv_iload_n C.1 C.2.1 dL_law_904 rfl (lv_at hl 3 rfl) ?_
  refine lv_iconst (v := (1 : Int32)) C.1 C.2.1 dL_law_905 (by decide) ?_
  refine lv_iadd C.1 C.2.1 dL_law_906 ?_
  refine va_sld C.1 C.2.1 hX hbl hbA hS h1 dL_law_907 ?_
  refine lw_V (Y2 := yM) (E2 := EM) (S2 := SM) (x := (some (.int r), SH1)) (As := [.int (xs (x3 + (1 : Int32)).toNatClampNeg)]) (rest := []) C cf11 (c_X11_chance l EH (xs (x3 + (1 : Int32)).toNatClampNeg) _ _ e1) yv_X11_chance lk_RL_125 rfl aH_0 rfl rfl hl.1 (Nat.le_of_ble_eq_true rfl) (by decide) (by decide) hkc hks hKH hPH hPM hDH hdis hS hA dL_law_908 (fun H locs hPH hPM hDH hS => ?_)
  show W p l e room_1 s m args below meth c H locs kc ks Q (F0 m 911 ls [.int r])
  refine lv_aload_n C.1 C.2.1 dL_law_911 rfl (lv_at hl 2 rfl) ?_
  refine lv_aload_n C.1 C.2.1 dL_law_912 rfl (lv_at hl 0 rfl) ?_
  refine lv_iload_n C.1 C.2.1 dL_law_913 rfl (lv_at hl 3 rfl) ?_
  refine lv_iconst (v := (1 : Int32)) C.1 C.2.1 dL_law_914 (by decide) ?_
  refine lv_iadd C.1 C.2.1 dL_law_915 ?_
  refine va_sld C.1 C.2.1 hX hbl hbA hS h1 dL_law_916 ?_
  refine lw_V (Y2 := yH) (E2 := EH) (S2 := SH1) (x := (some (.int r), SM1)) (As := [.int (xs (x3 + (1 : Int32)).toNatClampNeg)]) (rest := [.int r]) C cf12 (c_X12_chance l EM (xs (x3 + (1 : Int32)).toNatClampNeg) _ _ e2) yv_X12_chance lk_RL_128 rfl aM_0 rfl rfl hl.1 (Nat.le_of_ble_eq_true rfl) (by decide) (by decide) hkc hks hKM hPM hPH hDM (fun a ha b hb q => hdis b hb a ha q.symm) hS hA dL_law_917 (fun H locs hPM hPH hDM hS => ?_)
  show W p l e room_1 s m args below meth c H locs kc ks Q (F0 m 920 ls [.int r, .int r])
  refine lv_icmp_eq (tgt := 1047) C.1 C.2.1 dL_law_920 (by decide) (fun _ => ?_) (fun hc => absurd rfl hc)
  exact kt SH1 SM1 H locs hS1 ⟨⟨hKH, hKM⟩, ⟨hPH, hPM⟩, ⟨hDH, hDM⟩, hdis, hS⟩
set_option maxHeartbeats 4000000 in
set_option maxRecDepth 100000 in
theorem lc_27 {p : Program} {l : Launch} {e : Env} {s : State} {m : MethodId} {args : Array Value} {below : List Frame} {meth : Method} {c : Code} {EH EM : Ev} {b L kc ks : Nat} {xs : Nat → Int32} {Sim : Hp → Hp → Prop} {Q : State → Prop} (C : ho_I p s m args meth c RL cL_law 4 ret) (hX : va_X b L xs s s.heap) (hbl : b < s.heap.size) (hkc : kc ≤ 600000) (hks : ks ≤ 7302250) (hs : sim_27 Sim) (x3 : Int32) (SH SM : Hp) (hS0 : Sim SH SM) (H : Heap) (locs : List Loc) (ls : Array Slot) (hR : lw_R EH EM (fun q : Nat => s.heap.size ≤ q) s s.heap H locs SH SM) (hl : lv_has ls 4 [(0, .ref b), (1, .ref (EH.2.1 0)), (2, .ref (EM.2.1 0)), (3, .int x3)])
    (kt : ∀ (SH1 SM1 : Hp) (H1 : Heap) (locs1 : List Loc), Sim SH1 SM1 → lw_R EH EM (fun q : Nat => s.heap.size ≤ q) s s.heap H1 locs1 SH1 SM1 → W p l e room_1 s m args below meth c H1 locs1 kc ks Q (F0 m 1047 ls [])) : W p l e room_1 s m args below meth c H locs kc ks Q (F0 m 925 ls []) := by
  have hA : ∀ q : Nat, s.heap.size ≤ q → (fun q : Nat => s.heap.size ≤ q) q := fun _ h => h
  have hbA : ¬ (fun q : Nat => s.heap.size ≤ q) b := Nat.not_le.mpr hbl
  obtain ⟨r, SH1, SM1, e1, e2, hS1⟩ := hs SH SM hS0
  obtain ⟨⟨hKH, hKM⟩, ⟨hPH, hPM⟩, ⟨hDH, hDM⟩, hdis, hS⟩ := hR
  refine lv_aload_n C.1 C.2.1 dL_law_925 rfl (lv_at hl 1 rfl) ?_
  refine lw_V (Y2 := yM) (E2 := EM) (S2 := SM) (x := (some (.int r), SH1)) (As := []) (rest := []) C cf11 (c_X11_undo l EH _ _ e1) yv_X11_undo lk_RL_129 rfl aH_0 rfl rfl hl.1 (Nat.le_of_ble_eq_true rfl) (by decide) (by decide) hkc hks hKH hPH hPM hDH hdis hS hA dL_law_926 (fun H locs hPH hPM hDH hS => ?_)
  show W p l e room_1 s m args below meth c H locs kc ks Q (F0 m 929 ls [.int r])
  refine lv_aload_n C.1 C.2.1 dL_law_929 rfl (lv_at hl 2 rfl) ?_
  refine lw_V (Y2 := yH) (E2 := EH) (S2 := SH1) (x := (some (.int r), SM1)) (As := []) (rest := [.int r]) C cf12 (c_X12_undo l EM _ _ e2) yv_X12_undo lk_RL_133 rfl aM_0 rfl rfl hl.1 (Nat.le_of_ble_eq_true rfl) (by decide) (by decide) hkc hks hKM hPM hPH hDM (fun a ha b hb q => hdis b hb a ha q.symm) hS hA dL_law_930 (fun H locs hPM hPH hDM hS => ?_)
  show W p l e room_1 s m args below meth c H locs kc ks Q (F0 m 933 ls [.int r, .int r])
  refine lv_icmp_eq (tgt := 1047) C.1 C.2.1 dL_law_933 (by decide) (fun _ => ?_) (fun hc => absurd rfl hc)
  exact kt SH1 SM1 H locs hS1 ⟨⟨hKH, hKM⟩, ⟨hPH, hPM⟩, ⟨hDH, hDM⟩, hdis, hS⟩
set_option maxHeartbeats 4000000 in
set_option maxRecDepth 100000 in
theorem lc_28 {p : Program} {l : Launch} {e : Env} {s : State} {m : MethodId} {args : Array Value} {below : List Frame} {meth : Method} {c : Code} {EH EM : Ev} {b L kc ks : Nat} {xs : Nat → Int32} {Sim : Hp → Hp → Prop} {Q : State → Prop} (C : ho_I p s m args meth c RL cL_law 4 ret) (hX : va_X b L xs s s.heap) (hbl : b < s.heap.size) (hkc : kc ≤ 600000) (hks : ks ≤ 7302250) (hs : sim_28 Sim) (x3 : Int32) (h1 : vp_in (x3 + (1 : Int32)) L) (SH SM : Hp) (hS0 : Sim SH SM) (H : Heap) (locs : List Loc) (ls : Array Slot) (hR : lw_R EH EM (fun q : Nat => s.heap.size ≤ q) s s.heap H locs SH SM) (hl : lv_has ls 4 [(0, .ref b), (1, .ref (EH.2.1 0)), (2, .ref (EM.2.1 0)), (3, .int x3)])
    (kt : ∀ (SH1 SM1 : Hp) (H1 : Heap) (locs1 : List Loc), Sim SH1 SM1 → lw_R EH EM (fun q : Nat => s.heap.size ≤ q) s s.heap H1 locs1 SH1 SM1 → W p l e room_1 s m args below meth c H1 locs1 kc ks Q (F0 m 1047 ls [])) : W p l e room_1 s m args below meth c H locs kc ks Q (F0 m 938 ls []) := by
  have hA : ∀ q : Nat, s.heap.size ≤ q → (fun q : Nat => s.heap.size ≤ q) q := fun _ h => h
  have hbA : ¬ (fun q : Nat => s.heap.size ≤ q) b := Nat.not_le.mpr hbl
  obtain ⟨r, SH1, SM1, e1, e2, hS1⟩ := hs (xs (x3 + (1 : Int32)).toNatClampNeg) SH SM hS0
  obtain ⟨⟨hKH, hKM⟩, ⟨hPH, hPM⟩, ⟨hDH, hDM⟩, hdis, hS⟩ := hR
  refine lv_aload_n C.1 C.2.1 dL_law_938 rfl (lv_at hl 1 rfl) ?_
  refine lv_aload_n C.1 C.2.1 dL_law_939 rfl (lv_at hl 0 rfl) ?_
  refine lv_iload_n C.1 C.2.1 dL_law_940 rfl (lv_at hl 3 rfl) ?_
  refine lv_iconst (v := (1 : Int32)) C.1 C.2.1 dL_law_941 (by decide) ?_
  refine lv_iadd C.1 C.2.1 dL_law_942 ?_
  refine va_sld C.1 C.2.1 hX hbl hbA hS h1 dL_law_943 ?_
  refine lw_V (Y2 := yM) (E2 := EM) (S2 := SM) (x := (some (.int r), SH1)) (As := [.int (xs (x3 + (1 : Int32)).toNatClampNeg)]) (rest := []) C cf11 (c_X11_seed l EH (xs (x3 + (1 : Int32)).toNatClampNeg) _ _ e1) yv_X11_seed lk_RL_134 rfl aH_0 rfl rfl hl.1 (Nat.le_of_ble_eq_true rfl) (by decide) (by decide) hkc hks hKH hPH hPM hDH hdis hS hA dL_law_944 (fun H locs hPH hPM hDH hS => ?_)
  show W p l e room_1 s m args below meth c H locs kc ks Q (F0 m 947 ls [.int r])
  refine lv_aload_n C.1 C.2.1 dL_law_947 rfl (lv_at hl 2 rfl) ?_
  refine lv_aload_n C.1 C.2.1 dL_law_948 rfl (lv_at hl 0 rfl) ?_
  refine lv_iload_n C.1 C.2.1 dL_law_949 rfl (lv_at hl 3 rfl) ?_
  refine lv_iconst (v := (1 : Int32)) C.1 C.2.1 dL_law_950 (by decide) ?_
  refine lv_iadd C.1 C.2.1 dL_law_951 ?_
  refine va_sld C.1 C.2.1 hX hbl hbA hS h1 dL_law_952 ?_
  refine lw_V (Y2 := yH) (E2 := EH) (S2 := SH1) (x := (some (.int r), SM1)) (As := [.int (xs (x3 + (1 : Int32)).toNatClampNeg)]) (rest := [.int r]) C cf12 (c_X12_seed l EM (xs (x3 + (1 : Int32)).toNatClampNeg) _ _ e2) yv_X12_seed lk_RL_137 rfl aM_0 rfl rfl hl.1 (Nat.le_of_ble_eq_true rfl) (by decide) (by decide) hkc hks hKM hPM hPH hDM (fun a ha b hb q => hdis b hb a ha q.symm) hS hA dL_law_953 (fun H locs hPM hPH hDM hS => ?_)
  show W p l e room_1 s m args below meth c H locs kc ks Q (F0 m 956 ls [.int r, .int r])
  refine lv_icmp_eq (tgt := 1047) C.1 C.2.1 dL_law_956 (by decide) (fun _ => ?_) (fun hc => absurd rfl hc)
  exact kt SH1 SM1 H locs hS1 ⟨⟨hKH, hKM⟩, ⟨hPH, hPM⟩, ⟨hDH, hDM⟩, hdis, hS⟩
set_option maxHeartbeats 4000000 in
set_option maxRecDepth 100000 in
theorem lc_29 {p : Program} {l : Launch} {e : Env} {s : State} {m : MethodId} {args : Array Value} {below : List Frame} {meth : Method} {c : Code} {EH EM : Ev} {b L kc ks : Nat} {xs : Nat → Int32} {Sim : Hp → Hp → Prop} {Q : State → Prop} (C : ho_I p s m args meth c RL cL_law 4 ret) (hX : va_X b L xs s s.heap) (hbl : b < s.heap.size) (hkc : kc ≤ 600000) (hks : ks ≤ 7302250) (hs : sim_29 Sim) (x3 : Int32) (SH SM : Hp) (hS0 : Sim SH SM) (H : Heap) (locs : List Loc) (ls : Array Slot) (hR : lw_R EH EM (fun q : Nat => s.heap.size ≤ q) s s.heap H locs SH SM) (hl : lv_has ls 4 [(0, .ref b), (1, .ref (EH.2.1 0)), (2, .ref (EM.2.1 0)), (3, .int x3)])
    (kt : ∀ (SH1 SM1 : Hp) (H1 : Heap) (locs1 : List Loc), Sim SH1 SM1 → lw_R EH EM (fun q : Nat => s.heap.size ≤ q) s s.heap H1 locs1 SH1 SM1 → W p l e room_1 s m args below meth c H1 locs1 kc ks Q (F0 m 1047 ls [])) : W p l e room_1 s m args below meth c H locs kc ks Q (F0 m 961 ls []) := by
  have hA : ∀ q : Nat, s.heap.size ≤ q → (fun q : Nat => s.heap.size ≤ q) q := fun _ h => h
  have hbA : ¬ (fun q : Nat => s.heap.size ≤ q) b := Nat.not_le.mpr hbl
  obtain ⟨r, SH1, SM1, e1, e2, hS1⟩ := hs SH SM hS0
  obtain ⟨⟨hKH, hKM⟩, ⟨hPH, hPM⟩, ⟨hDH, hDM⟩, hdis, hS⟩ := hR
  refine lv_aload_n C.1 C.2.1 dL_law_961 rfl (lv_at hl 1 rfl) ?_
  refine lw_V (Y2 := yM) (E2 := EM) (S2 := SM) (x := (some (.long r), SH1)) (As := []) (rest := []) C cf11 (c_X11_ask l EH _ _ e1) yv_X11_ask lk_RL_138 rfl aH_0 rfl rfl hl.1 (Nat.le_of_ble_eq_true rfl) (by decide) (by decide) hkc hks hKH hPH hPM hDH hdis hS hA dL_law_962 (fun H locs hPH hPM hDH hS => ?_)
  show W p l e room_1 s m args below meth c H locs kc ks Q (F0 m 965 ls [.long r])
  refine lv_aload_n C.1 C.2.1 dL_law_965 rfl (lv_at hl 2 rfl) ?_
  refine lw_V (Y2 := yH) (E2 := EH) (S2 := SH1) (x := (some (.long r), SM1)) (As := []) (rest := [.long r]) C cf12 (c_X12_ask l EM _ _ e2) yv_X12_ask lk_RL_142 rfl aM_0 rfl rfl hl.1 (Nat.le_of_ble_eq_true rfl) (by decide) (by decide) hkc hks hKM hPM hPH hDM (fun a ha b hb q => hdis b hb a ha q.symm) hS hA dL_law_966 (fun H locs hPM hPH hDM hS => ?_)
  show W p l e room_1 s m args below meth c H locs kc ks Q (F0 m 969 ls [.long r, .long r])
  refine W.lcmp C.1 C.2.1 dL_law_969 ?_
  refine lv_if_eq (tgt := 1047) C.1 C.2.1 dL_law_970 (by decide) (fun _ => ?_) (fun hc => absurd (by simp [lg_cmp]) hc)
  exact kt SH1 SM1 H locs hS1 ⟨⟨hKH, hKM⟩, ⟨hPH, hPM⟩, ⟨hDH, hDM⟩, hdis, hS⟩
set_option maxHeartbeats 4000000 in
set_option maxRecDepth 100000 in
theorem lc_30 {p : Program} {l : Launch} {e : Env} {s : State} {m : MethodId} {args : Array Value} {below : List Frame} {meth : Method} {c : Code} {EH EM : Ev} {b L kc ks : Nat} {xs : Nat → Int32} {Sim : Hp → Hp → Prop} {Q : State → Prop} (C : ho_I p s m args meth c RL cL_law 4 ret) (hX : va_X b L xs s s.heap) (hbl : b < s.heap.size) (hkc : kc ≤ 600000) (hks : ks ≤ 7302250) (hs : sim_30 Sim) (x3 : Int32) (SH SM : Hp) (hS0 : Sim SH SM) (H : Heap) (locs : List Loc) (ls : Array Slot) (hR : lw_R EH EM (fun q : Nat => s.heap.size ≤ q) s s.heap H locs SH SM) (hl : lv_has ls 4 [(0, .ref b), (1, .ref (EH.2.1 0)), (2, .ref (EM.2.1 0)), (3, .int x3)])
    (kt : ∀ (SH1 SM1 : Hp) (H1 : Heap) (locs1 : List Loc), Sim SH1 SM1 → lw_R EH EM (fun q : Nat => s.heap.size ≤ q) s s.heap H1 locs1 SH1 SM1 → W p l e room_1 s m args below meth c H1 locs1 kc ks Q (F0 m 1047 ls [])) : W p l e room_1 s m args below meth c H locs kc ks Q (F0 m 975 ls []) := by
  have hA : ∀ q : Nat, s.heap.size ≤ q → (fun q : Nat => s.heap.size ≤ q) q := fun _ h => h
  have hbA : ¬ (fun q : Nat => s.heap.size ≤ q) b := Nat.not_le.mpr hbl
  obtain ⟨r, SH1, SM1, e1, e2, hS1⟩ := hs SH SM hS0
  obtain ⟨⟨hKH, hKM⟩, ⟨hPH, hPM⟩, ⟨hDH, hDM⟩, hdis, hS⟩ := hR
  refine lv_aload_n C.1 C.2.1 dL_law_975 rfl (lv_at hl 1 rfl) ?_
  refine lw_V (Y2 := yM) (E2 := EM) (S2 := SM) (x := (some (.int r), SH1)) (As := []) (rest := []) C cf11 (c_X11_image l EH _ _ e1) yv_X11_image lk_RL_143 rfl aH_0 rfl rfl hl.1 (Nat.le_of_ble_eq_true rfl) (by decide) (by decide) hkc hks hKH hPH hPM hDH hdis hS hA dL_law_976 (fun H locs hPH hPM hDH hS => ?_)
  show W p l e room_1 s m args below meth c H locs kc ks Q (F0 m 979 ls [.int r])
  refine lv_aload_n C.1 C.2.1 dL_law_979 rfl (lv_at hl 2 rfl) ?_
  refine lw_V (Y2 := yH) (E2 := EH) (S2 := SH1) (x := (some (.int r), SM1)) (As := []) (rest := [.int r]) C cf12 (c_X12_image l EM _ _ e2) yv_X12_image lk_RL_146 rfl aM_0 rfl rfl hl.1 (Nat.le_of_ble_eq_true rfl) (by decide) (by decide) hkc hks hKM hPM hPH hDM (fun a ha b hb q => hdis b hb a ha q.symm) hS hA dL_law_980 (fun H locs hPM hPH hDM hS => ?_)
  show W p l e room_1 s m args below meth c H locs kc ks Q (F0 m 983 ls [.int r, .int r])
  refine lv_icmp_eq (tgt := 1047) C.1 C.2.1 dL_law_983 (by decide) (fun _ => ?_) (fun hc => absurd rfl hc)
  exact kt SH1 SM1 H locs hS1 ⟨⟨hKH, hKM⟩, ⟨hPH, hPM⟩, ⟨hDH, hDM⟩, hdis, hS⟩
set_option maxHeartbeats 4000000 in
set_option maxRecDepth 100000 in
theorem lc_31 {p : Program} {l : Launch} {e : Env} {s : State} {m : MethodId} {args : Array Value} {below : List Frame} {meth : Method} {c : Code} {EH EM : Ev} {b L kc ks : Nat} {xs : Nat → Int32} {Sim : Hp → Hp → Prop} {Q : State → Prop} (C : ho_I p s m args meth c RL cL_law 4 ret) (hX : va_X b L xs s s.heap) (hbl : b < s.heap.size) (hkc : kc ≤ 600000) (hks : ks ≤ 7302250) (hs : sim_31 Sim) (x3 : Int32) (h1 : vp_in (x3 + (1 : Int32)) L) (SH SM : Hp) (hS0 : Sim SH SM) (H : Heap) (locs : List Loc) (ls : Array Slot) (hR : lw_R EH EM (fun q : Nat => s.heap.size ≤ q) s s.heap H locs SH SM) (hl : lv_has ls 4 [(0, .ref b), (1, .ref (EH.2.1 0)), (2, .ref (EM.2.1 0)), (3, .int x3)])
    (kt : ∀ (SH1 SM1 : Hp) (H1 : Heap) (locs1 : List Loc), Sim SH1 SM1 → lw_R EH EM (fun q : Nat => s.heap.size ≤ q) s s.heap H1 locs1 SH1 SM1 → W p l e room_1 s m args below meth c H1 locs1 kc ks Q (F0 m 1047 ls [])) : W p l e room_1 s m args below meth c H locs kc ks Q (F0 m 988 ls []) := by
  have hA : ∀ q : Nat, s.heap.size ≤ q → (fun q : Nat => s.heap.size ≤ q) q := fun _ h => h
  have hbA : ¬ (fun q : Nat => s.heap.size ≤ q) b := Nat.not_le.mpr hbl
  obtain ⟨r, SH1, SM1, e1, e2, hS1⟩ := hs (xs (x3 + (1 : Int32)).toNatClampNeg) SH SM hS0
  obtain ⟨⟨hKH, hKM⟩, ⟨hPH, hPM⟩, ⟨hDH, hDM⟩, hdis, hS⟩ := hR
  refine lv_aload_n C.1 C.2.1 dL_law_988 rfl (lv_at hl 1 rfl) ?_
  refine lv_aload_n C.1 C.2.1 dL_law_989 rfl (lv_at hl 0 rfl) ?_
  refine lv_iload_n C.1 C.2.1 dL_law_990 rfl (lv_at hl 3 rfl) ?_
  refine lv_iconst (v := (1 : Int32)) C.1 C.2.1 dL_law_991 (by decide) ?_
  refine lv_iadd C.1 C.2.1 dL_law_992 ?_
  refine va_sld C.1 C.2.1 hX hbl hbA hS h1 dL_law_993 ?_
  refine lw_V (Y2 := yM) (E2 := EM) (S2 := SM) (x := (some (.int r), SH1)) (As := [.int (xs (x3 + (1 : Int32)).toNatClampNeg)]) (rest := []) C cf11 (c_X11_octet l EH (xs (x3 + (1 : Int32)).toNatClampNeg) _ _ e1) yv_X11_octet lk_RL_147 rfl aH_0 rfl rfl hl.1 (Nat.le_of_ble_eq_true rfl) (by decide) (by decide) hkc hks hKH hPH hPM hDH hdis hS hA dL_law_994 (fun H locs hPH hPM hDH hS => ?_)
  show W p l e room_1 s m args below meth c H locs kc ks Q (F0 m 997 ls [.int r])
  refine lv_aload_n C.1 C.2.1 dL_law_997 rfl (lv_at hl 2 rfl) ?_
  refine lv_aload_n C.1 C.2.1 dL_law_998 rfl (lv_at hl 0 rfl) ?_
  refine lv_iload_n C.1 C.2.1 dL_law_999 rfl (lv_at hl 3 rfl) ?_
  refine lv_iconst (v := (1 : Int32)) C.1 C.2.1 dL_law_1000 (by decide) ?_
  refine lv_iadd C.1 C.2.1 dL_law_1001 ?_
  refine va_sld C.1 C.2.1 hX hbl hbA hS h1 dL_law_1002 ?_
  refine lw_V (Y2 := yH) (E2 := EH) (S2 := SH1) (x := (some (.int r), SM1)) (As := [.int (xs (x3 + (1 : Int32)).toNatClampNeg)]) (rest := [.int r]) C cf12 (c_X12_octet l EM (xs (x3 + (1 : Int32)).toNatClampNeg) _ _ e2) yv_X12_octet lk_RL_150 rfl aM_0 rfl rfl hl.1 (Nat.le_of_ble_eq_true rfl) (by decide) (by decide) hkc hks hKM hPM hPH hDM (fun a ha b hb q => hdis b hb a ha q.symm) hS hA dL_law_1003 (fun H locs hPM hPH hDM hS => ?_)
  show W p l e room_1 s m args below meth c H locs kc ks Q (F0 m 1006 ls [.int r, .int r])
  refine lv_icmp_eq (tgt := 1047) C.1 C.2.1 dL_law_1006 (by decide) (fun _ => ?_) (fun hc => absurd rfl hc)
  exact kt SH1 SM1 H locs hS1 ⟨⟨hKH, hKM⟩, ⟨hPH, hPM⟩, ⟨hDH, hDM⟩, hdis, hS⟩
set_option maxHeartbeats 4000000 in
set_option maxRecDepth 100000 in
theorem lc_32 {p : Program} {l : Launch} {e : Env} {s : State} {m : MethodId} {args : Array Value} {below : List Frame} {meth : Method} {c : Code} {EH EM : Ev} {b L kc ks : Nat} {xs : Nat → Int32} {Sim : Hp → Hp → Prop} {Q : State → Prop} (C : ho_I p s m args meth c RL cL_law 4 ret) (hX : va_X b L xs s s.heap) (hbl : b < s.heap.size) (hkc : kc ≤ 600000) (hks : ks ≤ 7302250) (hs : sim_32 Sim) (x3 : Int32) (SH SM : Hp) (hS0 : Sim SH SM) (H : Heap) (locs : List Loc) (ls : Array Slot) (hR : lw_R EH EM (fun q : Nat => s.heap.size ≤ q) s s.heap H locs SH SM) (hl : lv_has ls 4 [(0, .ref b), (1, .ref (EH.2.1 0)), (2, .ref (EM.2.1 0)), (3, .int x3)])
    (kt : ∀ (SH1 SM1 : Hp) (H1 : Heap) (locs1 : List Loc), Sim SH1 SM1 → lw_R EH EM (fun q : Nat => s.heap.size ≤ q) s s.heap H1 locs1 SH1 SM1 → W p l e room_1 s m args below meth c H1 locs1 kc ks Q (F0 m 1047 ls [])) : W p l e room_1 s m args below meth c H locs kc ks Q (F0 m 1011 ls []) := by
  have hA : ∀ q : Nat, s.heap.size ≤ q → (fun q : Nat => s.heap.size ≤ q) q := fun _ h => h
  have hbA : ¬ (fun q : Nat => s.heap.size ≤ q) b := Nat.not_le.mpr hbl
  obtain ⟨r, SH1, SM1, e1, e2, hS1⟩ := hs SH SM hS0
  obtain ⟨⟨hKH, hKM⟩, ⟨hPH, hPM⟩, ⟨hDH, hDM⟩, hdis, hS⟩ := hR
  refine lv_aload_n C.1 C.2.1 dL_law_1011 rfl (lv_at hl 1 rfl) ?_
  refine lw_V (Y2 := yM) (E2 := EM) (S2 := SM) (x := (some (.int r), SH1)) (As := []) (rest := []) C cf11 (c_X11_on l EH _ _ e1) yv_X11_on lk_RL_151 rfl aH_0 rfl rfl hl.1 (Nat.le_of_ble_eq_true rfl) (by decide) (by decide) hkc hks hKH hPH hPM hDH hdis hS hA dL_law_1012 (fun H locs hPH hPM hDH hS => ?_)
  show W p l e room_1 s m args below meth c H locs kc ks Q (F0 m 1015 ls [.int r])
  refine lv_aload_n C.1 C.2.1 dL_law_1015 rfl (lv_at hl 2 rfl) ?_
  refine lw_V (Y2 := yH) (E2 := EH) (S2 := SH1) (x := (some (.int r), SM1)) (As := []) (rest := [.int r]) C cf12 (c_X12_on l EM _ _ e2) yv_X12_on lk_RL_154 rfl aM_0 rfl rfl hl.1 (Nat.le_of_ble_eq_true rfl) (by decide) (by decide) hkc hks hKM hPM hPH hDM (fun a ha b hb q => hdis b hb a ha q.symm) hS hA dL_law_1016 (fun H locs hPM hPH hDM hS => ?_)
  show W p l e room_1 s m args below meth c H locs kc ks Q (F0 m 1019 ls [.int r, .int r])
  refine lv_icmp_eq (tgt := 1047) C.1 C.2.1 dL_law_1019 (by decide) (fun _ => ?_) (fun hc => absurd rfl hc)
  exact kt SH1 SM1 H locs hS1 ⟨⟨hKH, hKM⟩, ⟨hPH, hPM⟩, ⟨hDH, hDM⟩, hdis, hS⟩
set_option maxHeartbeats 4000000 in
set_option maxRecDepth 100000 in
theorem lc_33 {p : Program} {l : Launch} {e : Env} {s : State} {m : MethodId} {args : Array Value} {below : List Frame} {meth : Method} {c : Code} {EH EM : Ev} {b L kc ks : Nat} {xs : Nat → Int32} {Sim : Hp → Hp → Prop} {Q : State → Prop} (C : ho_I p s m args meth c RL cL_law 4 ret) (hX : va_X b L xs s s.heap) (hbl : b < s.heap.size) (hkc : kc ≤ 600000) (hks : ks ≤ 7302250) (hs : sim_33 Sim) (x3 : Int32) (h1 : vp_in (x3 + (1 : Int32)) L) (SH SM : Hp) (hS0 : Sim SH SM) (H : Heap) (locs : List Loc) (ls : Array Slot) (hR : lw_R EH EM (fun q : Nat => s.heap.size ≤ q) s s.heap H locs SH SM) (hl : lv_has ls 4 [(0, .ref b), (1, .ref (EH.2.1 0)), (2, .ref (EM.2.1 0)), (3, .int x3)])
    (kt : ∀ (SH1 SM1 : Hp) (H1 : Heap) (locs1 : List Loc), Sim SH1 SM1 → lw_R EH EM (fun q : Nat => s.heap.size ≤ q) s s.heap H1 locs1 SH1 SM1 → W p l e room_1 s m args below meth c H1 locs1 kc ks Q (F0 m 1047 ls [])) : W p l e room_1 s m args below meth c H locs kc ks Q (F0 m 1024 ls []) := by
  have hA : ∀ q : Nat, s.heap.size ≤ q → (fun q : Nat => s.heap.size ≤ q) q := fun _ h => h
  have hbA : ¬ (fun q : Nat => s.heap.size ≤ q) b := Nat.not_le.mpr hbl
  obtain ⟨r, SH1, SM1, e1, e2, hS1⟩ := hs (xs (x3 + (1 : Int32)).toNatClampNeg) SH SM hS0
  obtain ⟨⟨hKH, hKM⟩, ⟨hPH, hPM⟩, ⟨hDH, hDM⟩, hdis, hS⟩ := hR
  refine lv_aload_n C.1 C.2.1 dL_law_1024 rfl (lv_at hl 1 rfl) ?_
  refine lv_aload_n C.1 C.2.1 dL_law_1025 rfl (lv_at hl 0 rfl) ?_
  refine lv_iload_n C.1 C.2.1 dL_law_1026 rfl (lv_at hl 3 rfl) ?_
  refine lv_iconst (v := (1 : Int32)) C.1 C.2.1 dL_law_1027 (by decide) ?_
  refine lv_iadd C.1 C.2.1 dL_law_1028 ?_
  refine va_sld C.1 C.2.1 hX hbl hbA hS h1 dL_law_1029 ?_
  refine lw_V (Y2 := yM) (E2 := EM) (S2 := SM) (x := (some (.int r), SH1)) (As := [.int (xs (x3 + (1 : Int32)).toNatClampNeg)]) (rest := []) C cf11 (c_X11_status l EH (xs (x3 + (1 : Int32)).toNatClampNeg) _ _ e1) yv_X11_status lk_RL_155 rfl aH_0 rfl rfl hl.1 (Nat.le_of_ble_eq_true rfl) (by decide) (by decide) hkc hks hKH hPH hPM hDH hdis hS hA dL_law_1030 (fun H locs hPH hPM hDH hS => ?_)
  show W p l e room_1 s m args below meth c H locs kc ks Q (F0 m 1033 ls [.int r])
  refine lv_aload_n C.1 C.2.1 dL_law_1033 rfl (lv_at hl 2 rfl) ?_
  refine lv_aload_n C.1 C.2.1 dL_law_1034 rfl (lv_at hl 0 rfl) ?_
  refine lv_iload_n C.1 C.2.1 dL_law_1035 rfl (lv_at hl 3 rfl) ?_
  refine lv_iconst (v := (1 : Int32)) C.1 C.2.1 dL_law_1036 (by decide) ?_
  refine lv_iadd C.1 C.2.1 dL_law_1037 ?_
  refine va_sld C.1 C.2.1 hX hbl hbA hS h1 dL_law_1038 ?_
  refine lw_V (Y2 := yH) (E2 := EH) (S2 := SH1) (x := (some (.int r), SM1)) (As := [.int (xs (x3 + (1 : Int32)).toNatClampNeg)]) (rest := [.int r]) C cf12 (c_X12_status l EM (xs (x3 + (1 : Int32)).toNatClampNeg) _ _ e2) yv_X12_status lk_RL_158 rfl aM_0 rfl rfl hl.1 (Nat.le_of_ble_eq_true rfl) (by decide) (by decide) hkc hks hKM hPM hPH hDM (fun a ha b hb q => hdis b hb a ha q.symm) hS hA dL_law_1039 (fun H locs hPM hPH hDM hS => ?_)
  show W p l e room_1 s m args below meth c H locs kc ks Q (F0 m 1042 ls [.int r, .int r])
  refine lv_icmp_eq (tgt := 1047) C.1 C.2.1 dL_law_1042 (by decide) (fun _ => ?_) (fun hc => absurd rfl hc)
  exact kt SH1 SM1 H locs hS1 ⟨⟨hKH, hKM⟩, ⟨hPH, hPM⟩, ⟨hDH, hDM⟩, hdis, hS⟩
theorem law_ix {j L : Nat} {v : Int32} (q : Nat) (hv : v = nI q) (h : j + q < L) (hL : L < 2 ^ 31) : vp_in (nI j + v) L := by
  rw [hv, nI_add]
  exact vp_in_nI h hL
theorem law_ofNat (L : Nat) : Int32.ofNat L = nI L := rfl
theorem law_dif {L : Nat} (hL : L ≤ 3072) : (Int32.ofNat L - (6 : Int32)).toInt = (L : Int) - 6 := by
  have h := pk_sub_toInt (a := L) (b := 6) (by omega) (by decide)
  exact h
theorem law_in {j L : Nat} (hc : ¬ Int32.ofNat L - (6 : Int32) < nI j) (hL : L ≤ 3072) (hj : j ≤ 4000) : j + 6 ≤ L := by
  have h1 := law_dif hL
  have h2 : (nI j).toInt = (j : Int) := nI_toInt (by omega)
  rw [Int32.lt_iff_toInt_lt, h1, h2] at hc
  omega
theorem law_out {j L : Nat} (h : L + 1 ≤ j) (hL : L ≤ 3072) (hj : j ≤ 4000) : Int32.ofNat L - (6 : Int32) < nI j := by
  have h1 := law_dif hL
  have h2 : (nI j).toInt = (j : Int) := nI_toInt (by omega)
  rw [Int32.lt_iff_toInt_lt, h1, h2]
  omega
set_option maxHeartbeats 4000000 in
set_option maxRecDepth 100000 in
theorem law_loop {p : Program} {l : Launch} {e : Env} {s : State} {m : MethodId} {below : List Frame} {meth : Method} {c : Code} {EH EM : Ev} {b L kc ks : Nat} {xs : Nat → Int32} {Sim : Hp → Hp → Prop} (hL : L ≤ 3072) (C : ho_I p s m #[Value.ref b] meth c RL cL_law 4 ret) (hX : va_X b L xs s s.heap) (hbl : b < s.heap.size) (hkc : kc ≤ 600000) (hks : ks ≤ 7302250) (hsim : simOK Sim) :
    ∀ (n j : Nat) (SH SM : Hp), Sim SH SM → L + 1 ≤ j + n → j ≤ 4000 → ∀ (H : Heap) (locs : List Loc) (ls : Array Slot), lw_R EH EM (fun q : Nat => s.heap.size ≤ q) s s.heap H locs SH SM → lv_has ls 4 [(0, .ref b), (1, .ref (EH.2.1 0)), (2, .ref (EM.2.1 0)), (3, .int (nI j))] → W p l e room_1 s m #[Value.ref b] below meth c H locs kc ks (lw_Z below #[Value.ref b] s) (F0 m 18 ls []) := by
  have hA : ∀ q : Nat, s.heap.size ≤ q → (fun q : Nat => s.heap.size ≤ q) q := fun _ h => h
  have hbA : ¬ (fun q : Nat => s.heap.size ≤ q) b := Nat.not_le.mpr hbl
  intro n
  induction n with
  | zero =>
    intro j SH SM hS0 hn hj H locs ls hR hl
    refine lv_iload_n C.1 C.2.1 dL_law_18 rfl (lv_at hl 3 rfl) ?_
    refine lv_aload_n C.1 C.2.1 dL_law_19 rfl (lv_at hl 0 rfl) ?_
    refine va_slen C.1 C.2.1 hX hbl hbA hR.2.2.2.2 dL_law_20 ?_
    refine lv_bipush (v := (6 : Int32)) C.1 C.2.1 dL_law_21 (by decide) ?_
    refine lv_isub C.1 C.2.1 dL_law_23 ?_
    refine lv_icmp_gt (tgt := 1053) C.1 C.2.1 dL_law_24 (by decide) (fun _ => ?_) (fun hc => ?_)
    · refine lv_iconst (v := 1) C.1 C.2.1 dL_law_1053 (by decide) ?_
      refine va_forget (fun q hq => hR.2.2.2.2.2.2 q hq) ?_
      refine W.widen (k := 600000) (n := 7302250) hkc hks ?_
      exact lw_ret C.1 C.2.1 C.2.2.2.1 C.2.2.2.2.2.2 dL_law_1054
    · exact absurd (law_out (by omega) hL hj) hc
  | succ n ih =>
    intro j SH SM hS0 hn hj H locs ls hR hl
    refine lv_iload_n C.1 C.2.1 dL_law_18 rfl (lv_at hl 3 rfl) ?_
    refine lv_aload_n C.1 C.2.1 dL_law_19 rfl (lv_at hl 0 rfl) ?_
    refine va_slen C.1 C.2.1 hX hbl hbA hR.2.2.2.2 dL_law_20 ?_
    refine lv_bipush (v := (6 : Int32)) C.1 C.2.1 dL_law_21 (by decide) ?_
    refine lv_isub C.1 C.2.1 dL_law_23 ?_
    refine lv_icmp_gt (tgt := 1053) C.1 C.2.1 dL_law_24 (by decide) (fun _ => ?_) (fun hc => ?_)
    · refine lv_iconst (v := 1) C.1 C.2.1 dL_law_1053 (by decide) ?_
      refine va_forget (fun q hq => hR.2.2.2.2.2.2 q hq) ?_
      refine W.widen (k := 600000) (n := 7302250) hkc hks ?_
      exact lw_ret C.1 C.2.1 C.2.2.2.1 C.2.2.2.2.2.2 dL_law_1054
    · have hlt : j + 6 ≤ L := law_in hc hL hj
      have h0 : vp_in (nI j) L := vp_in_nI (by omega) (by omega)
      have h1 : vp_in (nI j + (1 : Int32)) L := law_ix 1 rfl (by omega) (by omega)
      have h2 : vp_in (nI j + (2 : Int32)) L := law_ix 2 rfl (by omega) (by omega)
      have h3 : vp_in (nI j + (3 : Int32)) L := law_ix 3 rfl (by omega) (by omega)
      have h4 : vp_in (nI j + (4 : Int32)) L := law_ix 4 rfl (by omega) (by omega)
      have h5 : vp_in (nI j + (5 : Int32)) L := law_ix 5 rfl (by omega) (by omega)
      have kt : ∀ (SH1 SM1 : Hp) (H1 : Heap) (locs1 : List Loc), Sim SH1 SM1 → lw_R EH EM (fun q : Nat => s.heap.size ≤ q) s s.heap H1 locs1 SH1 SM1 → W p l e room_1 s m #[Value.ref b] below meth c H1 locs1 kc ks (lw_Z below #[Value.ref b] s) (F0 m 1047 ls []) := by
        intro SH1 SM1 H1 locs1 hS1 hR1
        refine lv_iinc (v := nI (j + 6)) (lv' := [(3, .int (nI (j + 6))), (0, .ref b), (1, .ref (EH.2.1 0)), (2, .ref (EM.2.1 0))]) C.1 C.2.1 dL_law_1047 hl (k := 3) rfl (nI_add j 6) (by decide) rfl (fun ls hl => ?_)
        refine lv_goto (tgt := 18) C.1 C.2.1 dL_law_1050 (by decide) ?_
        exact ih (j + 6) SH1 SM1 hS1 (by omega) (by omega) H1 locs1 ls hR1 (lv_sub hl [1, 2, 3, 0] rfl)
      refine lv_aload_n C.1 C.2.1 dL_law_27 rfl (lv_at hl 0 rfl) ?_
      refine lv_iload_n C.1 C.2.1 dL_law_28 rfl (lv_at hl 3 rfl) ?_
      refine va_sld C.1 C.2.1 hX hbl hbA hR.2.2.2.2 h0 dL_law_29 ?_
      refine lv_bipush (v := (63 : Int32)) C.1 C.2.1 dL_law_30 (by decide) ?_
      refine lv_iand C.1 C.2.1 dL_law_32 ?_
      refine lv_topi (fun y ey => ?_)
      obtain ⟨q0, q1, q2, q3, q4, q5, q6, q7, q8, q9, q10, q11, q12, q13, q14, q15, q16, q17, q18, q19, q20, q21, q22, q23, q24, q25, q26, q27, q28, q29, q30, q31, q32, q33⟩ := hsim
      by_cases hc0 : y = (0 : Int32)
      · have hx : y.toInt = 0 := by rw [hc0]; decide
        refine lv_tableIn (off := 151) (tgt := 184) C.1 C.2.1 dL_law_33 (by rw [hx]; decide) (by rw [hx]; decide) (by rw [hx]; decide) (by decide) ?_
        exact lc_0 C hX hbl hkc hks q0 (nI j) h1 h2 h3 h4 h5 SH SM hS0 H locs ls hR hl kt
      by_cases hc1 : y = (1 : Int32)
      · have hx : y.toInt = 1 := by rw [hc1]; decide
        refine lv_tableIn (off := 214) (tgt := 247) C.1 C.2.1 dL_law_33 (by rw [hx]; decide) (by rw [hx]; decide) (by rw [hx]; decide) (by decide) ?_
        exact lc_1 C hX hbl hkc hks q1 (nI j) h1 SH SM hS0 H locs ls hR hl kt
      by_cases hc2 : y = (2 : Int32)
      · have hx : y.toInt = 2 := by rw [hc2]; decide
        refine lv_tableIn (off := 237) (tgt := 270) C.1 C.2.1 dL_law_33 (by rw [hx]; decide) (by rw [hx]; decide) (by rw [hx]; decide) (by decide) ?_
        exact lc_2 C hX hbl hkc hks q2 (nI j) SH SM hS0 H locs ls hR hl kt
      by_cases hc3 : y = (3 : Int32)
      · have hx : y.toInt = 3 := by rw [hc3]; decide
        refine lv_tableIn (off := 250) (tgt := 283) C.1 C.2.1 dL_law_33 (by rw [hx]; decide) (by rw [hx]; decide) (by rw [hx]; decide) (by decide) ?_
        exact lc_3 C hX hbl hkc hks q3 (nI j) h1 SH SM hS0 H locs ls hR hl kt
      by_cases hc4 : y = (4 : Int32)
      · have hx : y.toInt = 4 := by rw [hc4]; decide
        refine lv_tableIn (off := 273) (tgt := 306) C.1 C.2.1 dL_law_33 (by rw [hx]; decide) (by rw [hx]; decide) (by rw [hx]; decide) (by decide) ?_
        exact lc_4 C hX hbl hkc hks q4 (nI j) h1 SH SM hS0 H locs ls hR hl kt
      by_cases hc5 : y = (5 : Int32)
      · have hx : y.toInt = 5 := by rw [hc5]; decide
        refine lv_tableIn (off := 296) (tgt := 329) C.1 C.2.1 dL_law_33 (by rw [hx]; decide) (by rw [hx]; decide) (by rw [hx]; decide) (by decide) ?_
        exact lc_5 C hX hbl hkc hks q5 (nI j) h1 h2 h3 SH SM hS0 H locs ls hR hl kt
      by_cases hc6 : y = (6 : Int32)
      · have hx : y.toInt = 6 := by rw [hc6]; decide
        refine lv_tableIn (off := 339) (tgt := 372) C.1 C.2.1 dL_law_33 (by rw [hx]; decide) (by rw [hx]; decide) (by rw [hx]; decide) (by decide) ?_
        exact lc_6 C hX hbl hkc hks q6 (nI j) h1 h2 SH SM hS0 H locs ls hR hl kt
      by_cases hc7 : y = (7 : Int32)
      · have hx : y.toInt = 7 := by rw [hc7]; decide
        refine lv_tableIn (off := 372) (tgt := 405) C.1 C.2.1 dL_law_33 (by rw [hx]; decide) (by rw [hx]; decide) (by rw [hx]; decide) (by decide) ?_
        exact lc_7 C hX hbl hkc hks q7 (nI j) h1 h2 SH SM hS0 H locs ls hR hl kt
      by_cases hc8 : y = (8 : Int32)
      · have hx : y.toInt = 8 := by rw [hc8]; decide
        refine lv_tableIn (off := 405) (tgt := 438) C.1 C.2.1 dL_law_33 (by rw [hx]; decide) (by rw [hx]; decide) (by rw [hx]; decide) (by decide) ?_
        exact lc_8 C hX hbl hkc hks q8 (nI j) h1 h2 SH SM hS0 H locs ls hR hl kt
      by_cases hc9 : y = (9 : Int32)
      · have hx : y.toInt = 9 := by rw [hc9]; decide
        refine lv_tableIn (off := 438) (tgt := 471) C.1 C.2.1 dL_law_33 (by rw [hx]; decide) (by rw [hx]; decide) (by rw [hx]; decide) (by decide) ?_
        exact lc_9 C hX hbl hkc hks q9 (nI j) h1 h2 SH SM hS0 H locs ls hR hl kt
      by_cases hc10 : y = (10 : Int32)
      · have hx : y.toInt = 10 := by rw [hc10]; decide
        refine lv_tableIn (off := 471) (tgt := 504) C.1 C.2.1 dL_law_33 (by rw [hx]; decide) (by rw [hx]; decide) (by rw [hx]; decide) (by decide) ?_
        exact lc_10 C hX hbl hkc hks q10 (nI j) h1 h2 SH SM hS0 H locs ls hR hl kt
      by_cases hc11 : y = (11 : Int32)
      · have hx : y.toInt = 11 := by rw [hc11]; decide
        refine lv_tableIn (off := 504) (tgt := 537) C.1 C.2.1 dL_law_33 (by rw [hx]; decide) (by rw [hx]; decide) (by rw [hx]; decide) (by decide) ?_
        exact lc_11 C hX hbl hkc hks q11 (nI j) h1 SH SM hS0 H locs ls hR hl kt
      by_cases hc12 : y = (12 : Int32)
      · have hx : y.toInt = 12 := by rw [hc12]; decide
        refine lv_tableIn (off := 527) (tgt := 560) C.1 C.2.1 dL_law_33 (by rw [hx]; decide) (by rw [hx]; decide) (by rw [hx]; decide) (by decide) ?_
        exact lc_12 C hX hbl hkc hks q12 (nI j) h1 SH SM hS0 H locs ls hR hl kt
      by_cases hc13 : y = (13 : Int32)
      · have hx : y.toInt = 13 := by rw [hc13]; decide
        refine lv_tableIn (off := 550) (tgt := 583) C.1 C.2.1 dL_law_33 (by rw [hx]; decide) (by rw [hx]; decide) (by rw [hx]; decide) (by decide) ?_
        exact lc_13 C hX hbl hkc hks q13 (nI j) h1 h2 SH SM hS0 H locs ls hR hl kt
      by_cases hc14 : y = (14 : Int32)
      · have hx : y.toInt = 14 := by rw [hc14]; decide
        refine lv_tableIn (off := 583) (tgt := 616) C.1 C.2.1 dL_law_33 (by rw [hx]; decide) (by rw [hx]; decide) (by rw [hx]; decide) (by decide) ?_
        exact lc_14 C hX hbl hkc hks q14 (nI j) SH SM hS0 H locs ls hR hl kt
      by_cases hc15 : y = (15 : Int32)
      · have hx : y.toInt = 15 := by rw [hc15]; decide
        refine lv_tableIn (off := 596) (tgt := 629) C.1 C.2.1 dL_law_33 (by rw [hx]; decide) (by rw [hx]; decide) (by rw [hx]; decide) (by decide) ?_
        exact lc_15 C hX hbl hkc hks q15 (nI j) h1 SH SM hS0 H locs ls hR hl kt
      by_cases hc16 : y = (16 : Int32)
      · have hx : y.toInt = 16 := by rw [hc16]; decide
        refine lv_tableIn (off := 619) (tgt := 652) C.1 C.2.1 dL_law_33 (by rw [hx]; decide) (by rw [hx]; decide) (by rw [hx]; decide) (by decide) ?_
        exact lc_16 C hX hbl hkc hks q16 (nI j) h1 SH SM hS0 H locs ls hR hl kt
      by_cases hc17 : y = (17 : Int32)
      · have hx : y.toInt = 17 := by rw [hc17]; decide
        refine lv_tableIn (off := 642) (tgt := 675) C.1 C.2.1 dL_law_33 (by rw [hx]; decide) (by rw [hx]; decide) (by rw [hx]; decide) (by decide) ?_
        exact lc_17 C hX hbl hkc hks q17 (nI j) SH SM hS0 H locs ls hR hl kt
      by_cases hc18 : y = (18 : Int32)
      · have hx : y.toInt = 18 := by rw [hc18]; decide
        refine lv_tableIn (off := 655) (tgt := 688) C.1 C.2.1 dL_law_33 (by rw [hx]; decide) (by rw [hx]; decide) (by rw [hx]; decide) (by decide) ?_
        exact lc_18 C hX hbl hkc hks q18 (nI j) h1 SH SM hS0 H locs ls hR hl kt
      by_cases hc19 : y = (19 : Int32)
      · have hx : y.toInt = 19 := by rw [hc19]; decide
        refine lv_tableIn (off := 678) (tgt := 711) C.1 C.2.1 dL_law_33 (by rw [hx]; decide) (by rw [hx]; decide) (by rw [hx]; decide) (by decide) ?_
        exact lc_19 C hX hbl hkc hks q19 (nI j) h1 SH SM hS0 H locs ls hR hl kt
      by_cases hc20 : y = (20 : Int32)
      · have hx : y.toInt = 20 := by rw [hc20]; decide
        refine lv_tableIn (off := 701) (tgt := 734) C.1 C.2.1 dL_law_33 (by rw [hx]; decide) (by rw [hx]; decide) (by rw [hx]; decide) (by decide) ?_
        exact lc_20 C hX hbl hkc hks q20 (nI j) h1 SH SM hS0 H locs ls hR hl kt
      by_cases hc21 : y = (21 : Int32)
      · have hx : y.toInt = 21 := by rw [hc21]; decide
        refine lv_tableIn (off := 724) (tgt := 757) C.1 C.2.1 dL_law_33 (by rw [hx]; decide) (by rw [hx]; decide) (by rw [hx]; decide) (by decide) ?_
        exact lc_21 C hX hbl hkc hks q21 (nI j) h1 SH SM hS0 H locs ls hR hl kt
      by_cases hc22 : y = (22 : Int32)
      · have hx : y.toInt = 22 := by rw [hc22]; decide
        refine lv_tableIn (off := 747) (tgt := 780) C.1 C.2.1 dL_law_33 (by rw [hx]; decide) (by rw [hx]; decide) (by rw [hx]; decide) (by decide) ?_
        exact lc_22 C hX hbl hkc hks q22 (nI j) h1 SH SM hS0 H locs ls hR hl kt
      by_cases hc23 : y = (23 : Int32)
      · have hx : y.toInt = 23 := by rw [hc23]; decide
        refine lv_tableIn (off := 770) (tgt := 803) C.1 C.2.1 dL_law_33 (by rw [hx]; decide) (by rw [hx]; decide) (by rw [hx]; decide) (by decide) ?_
        exact lc_23 C hX hbl hkc hks q23 (nI j) h1 h2 SH SM hS0 H locs ls hR hl kt
      by_cases hc24 : y = (24 : Int32)
      · have hx : y.toInt = 24 := by rw [hc24]; decide
        refine lv_tableIn (off := 803) (tgt := 836) C.1 C.2.1 dL_law_33 (by rw [hx]; decide) (by rw [hx]; decide) (by rw [hx]; decide) (by decide) ?_
        exact lc_24 C hX hbl hkc hks q24 (nI j) h1 h2 h3 SH SM hS0 H locs ls hR hl kt
      by_cases hc25 : y = (25 : Int32)
      · have hx : y.toInt = 25 := by rw [hc25]; decide
        refine lv_tableIn (off := 846) (tgt := 879) C.1 C.2.1 dL_law_33 (by rw [hx]; decide) (by rw [hx]; decide) (by rw [hx]; decide) (by decide) ?_
        exact lc_25 C hX hbl hkc hks q25 (nI j) h1 SH SM hS0 H locs ls hR hl kt
      by_cases hc26 : y = (26 : Int32)
      · have hx : y.toInt = 26 := by rw [hc26]; decide
        refine lv_tableIn (off := 869) (tgt := 902) C.1 C.2.1 dL_law_33 (by rw [hx]; decide) (by rw [hx]; decide) (by rw [hx]; decide) (by decide) ?_
        exact lc_26 C hX hbl hkc hks q26 (nI j) h1 SH SM hS0 H locs ls hR hl kt
      by_cases hc27 : y = (27 : Int32)
      · have hx : y.toInt = 27 := by rw [hc27]; decide
        refine lv_tableIn (off := 892) (tgt := 925) C.1 C.2.1 dL_law_33 (by rw [hx]; decide) (by rw [hx]; decide) (by rw [hx]; decide) (by decide) ?_
        exact lc_27 C hX hbl hkc hks q27 (nI j) SH SM hS0 H locs ls hR hl kt
      by_cases hc28 : y = (28 : Int32)
      · have hx : y.toInt = 28 := by rw [hc28]; decide
        refine lv_tableIn (off := 905) (tgt := 938) C.1 C.2.1 dL_law_33 (by rw [hx]; decide) (by rw [hx]; decide) (by rw [hx]; decide) (by decide) ?_
        exact lc_28 C hX hbl hkc hks q28 (nI j) h1 SH SM hS0 H locs ls hR hl kt
      by_cases hc29 : y = (29 : Int32)
      · have hx : y.toInt = 29 := by rw [hc29]; decide
        refine lv_tableIn (off := 928) (tgt := 961) C.1 C.2.1 dL_law_33 (by rw [hx]; decide) (by rw [hx]; decide) (by rw [hx]; decide) (by decide) ?_
        exact lc_29 C hX hbl hkc hks q29 (nI j) SH SM hS0 H locs ls hR hl kt
      by_cases hc30 : y = (30 : Int32)
      · have hx : y.toInt = 30 := by rw [hc30]; decide
        refine lv_tableIn (off := 942) (tgt := 975) C.1 C.2.1 dL_law_33 (by rw [hx]; decide) (by rw [hx]; decide) (by rw [hx]; decide) (by decide) ?_
        exact lc_30 C hX hbl hkc hks q30 (nI j) SH SM hS0 H locs ls hR hl kt
      by_cases hc31 : y = (31 : Int32)
      · have hx : y.toInt = 31 := by rw [hc31]; decide
        refine lv_tableIn (off := 955) (tgt := 988) C.1 C.2.1 dL_law_33 (by rw [hx]; decide) (by rw [hx]; decide) (by rw [hx]; decide) (by decide) ?_
        exact lc_31 C hX hbl hkc hks q31 (nI j) h1 SH SM hS0 H locs ls hR hl kt
      by_cases hc32 : y = (32 : Int32)
      · have hx : y.toInt = 32 := by rw [hc32]; decide
        refine lv_tableIn (off := 978) (tgt := 1011) C.1 C.2.1 dL_law_33 (by rw [hx]; decide) (by rw [hx]; decide) (by rw [hx]; decide) (by decide) ?_
        exact lc_32 C hX hbl hkc hks q32 (nI j) SH SM hS0 H locs ls hR hl kt
      by_cases hc33 : y = (33 : Int32)
      · have hx : y.toInt = 33 := by rw [hc33]; decide
        refine lv_tableIn (off := 991) (tgt := 1024) C.1 C.2.1 dL_law_33 (by rw [hx]; decide) (by rw [hx]; decide) (by rw [hx]; decide) (by decide) ?_
        exact lc_33 C hX hbl hkc hks q33 (nI j) h1 SH SM hS0 H locs ls hR hl kt
      have hx0 := lv_neT hc0 (a := 0) (by decide)
      have hx1 := lv_neT hc1 (a := 1) (by decide)
      have hx2 := lv_neT hc2 (a := 2) (by decide)
      have hx3 := lv_neT hc3 (a := 3) (by decide)
      have hx4 := lv_neT hc4 (a := 4) (by decide)
      have hx5 := lv_neT hc5 (a := 5) (by decide)
      have hx6 := lv_neT hc6 (a := 6) (by decide)
      have hx7 := lv_neT hc7 (a := 7) (by decide)
      have hx8 := lv_neT hc8 (a := 8) (by decide)
      have hx9 := lv_neT hc9 (a := 9) (by decide)
      have hx10 := lv_neT hc10 (a := 10) (by decide)
      have hx11 := lv_neT hc11 (a := 11) (by decide)
      have hx12 := lv_neT hc12 (a := 12) (by decide)
      have hx13 := lv_neT hc13 (a := 13) (by decide)
      have hx14 := lv_neT hc14 (a := 14) (by decide)
      have hx15 := lv_neT hc15 (a := 15) (by decide)
      have hx16 := lv_neT hc16 (a := 16) (by decide)
      have hx17 := lv_neT hc17 (a := 17) (by decide)
      have hx18 := lv_neT hc18 (a := 18) (by decide)
      have hx19 := lv_neT hc19 (a := 19) (by decide)
      have hx20 := lv_neT hc20 (a := 20) (by decide)
      have hx21 := lv_neT hc21 (a := 21) (by decide)
      have hx22 := lv_neT hc22 (a := 22) (by decide)
      have hx23 := lv_neT hc23 (a := 23) (by decide)
      have hx24 := lv_neT hc24 (a := 24) (by decide)
      have hx25 := lv_neT hc25 (a := 25) (by decide)
      have hx26 := lv_neT hc26 (a := 26) (by decide)
      have hx27 := lv_neT hc27 (a := 27) (by decide)
      have hx28 := lv_neT hc28 (a := 28) (by decide)
      have hx29 := lv_neT hc29 (a := 29) (by decide)
      have hx30 := lv_neT hc30 (a := 30) (by decide)
      have hx31 := lv_neT hc31 (a := 31) (by decide)
      have hx32 := lv_neT hc32 (a := 32) (by decide)
      have hx33 := lv_neT hc33 (a := 33) (by decide)
      refine lv_tableOut (tgt := 1047) C.1 C.2.1 dL_law_33 (by omega) (by decide) ?_
      exact kt SH SM H locs hS0 hR
