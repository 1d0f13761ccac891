/-! THE CLAIM OUT OF ONE WALK OF THE LAW'S BODY. Your part is whole_start (and what it stands on); all else here is the same for every law, but numbers. -/
def R_law : String := "PartedLandLaw"
def lw_P (b : Addr) (xs : List Int32) (args : Array Value) (s : State) : Prop := args = #[.ref b] ∧ s.IntsAt b xs ∧ xs.length ≤ 3072 ∧ (Jvm.Cond.and given_1 narrow_1).before args s = true
def lw_Q (_ : Array Value) (s : State) (o : Outcome) (t : State) : Prop := o = .returned (some (.int 1)) ∧ Framed s o t [] 600000 7302250
def lw_Z (below : List Frame) (a : Array Value) (s : State) : State → Prop := fun t => ∃ o, t.status = .running ∧ Ended t below o ∧ lw_Q a s o t
/-- the law's own end, with 1 on the stack, nothing written that was there before, its room as the claim has it -/
theorem lw_ret {p : Program} {l : Launch} {e : Env} {s : State} {m : MethodId} {below : List Frame} {meth : Method} {c : Code} {b : Nat} (hx : p.tables.exec = Jvm.exec) (hb : c.code = code) (hr : meth.sig.returnType = ret) (hlocks : meth.locks = false) {pc : Nat} {H : Heap} {ls : Array Slot} (hdg : decode code pc = .ok (.ireturn, 1)) : W p l e room_1 s m #[Value.ref b] below meth c H [] 600000 7302250 (lw_Z below #[Value.ref b] s) (F0 m pc ls [.int 1]) := by
  intro T hT X
  obtain ⟨fs, hret, hrun, hended, hW, hframe⟩ := X.leave (v := some (.int 1)) (hlocks := hlocks) (fun h => by rw [hr] at h; cases h)
  have hmeth' : T.vm.method? m = some meth := X.method'
  refine ⟨T.setFrames fs, ?_, .returned (some (.int 1)), hrun, hended, rfl, ⟨_, rfl⟩, hW, hframe⟩
  jvm_step X.here [X.here.top, hx, hb, hdg, hmeth', hr, ret, narrow_b1]
  (try refine ⟨rfl, ?_⟩); (try refine ⟨rfl, ?_⟩)
  first | (intro acts; rw [hret _ acts rfl rfl rfl]) | rw [hret _ _ rfl rfl rfl]
  exact Steps.refl _
/-- what holds at the law's entry: the machine, the code, the tables' words (any of lw_tbl by 'hts w (by decide +kernel)'), the script of L ints xs at the cell b, what the Statement gives of the start (any of its parts by flat_of_before) -/
def lw_At (p : Program) (s : State) (m : MethodId) (meth : Method) (c : Code) (b L : Nat) (xs : Nat → Int32) : Prop :=
  p.tables.exec = Jvm.exec ∧ c.code = code ∧ meth.sig.returnType = ret ∧ c.maxLocals = 4 ∧ s.vm.findClass R_law = some m.cls ∧ (∀ w ∈ lw_tbl, w.before #[Value.ref b] s = true) ∧ va_X b L xs s s.heap ∧ b < s.heap.size ∧ meth.locks = false ∧ (Jvm.Cond.and given_1 narrow_1).before #[Value.ref b] s = true
/-! the law's walk (printed) -/
abbrev kL_law : pKi := (code, "PartedLandLaw", 4, ret, room_1, 108, 1780)
theorem dL_law_0 : decode code 0 = .ok (.new 7, 3) := by decide +kernel
theorem dL_law_3 : decode code 3 = .ok (.dup, 1) := by decide +kernel
theorem dL_law_4 : decode code 4 = .ok (.invokespecial 9, 3) := by decide +kernel
theorem dL_law_7 : decode code 7 = .ok (.astore_n 1, 1) := by decide +kernel
theorem dL_law_8 : decode code 8 = .ok (.new 10, 3) := by decide +kernel
theorem dL_law_11 : decode code 11 = .ok (.dup, 1) := by decide +kernel
theorem dL_law_12 : decode code 12 = .ok (.invokespecial 12, 3) := by decide +kernel
theorem dL_law_15 : decode code 15 = .ok (.astore_n 2, 1) := by decide +kernel
theorem dL_law_16 : decode code 16 = .ok (.iconst 0, 1) := by decide +kernel
theorem dL_law_17 : decode code 17 = .ok (.istore_n 3, 1) := by decide +kernel
theorem dL_law_18 : decode code 18 = .ok (.iload_n 3, 1) := by decide +kernel
theorem dL_law_19 : decode code 19 = .ok (.aload_n 0, 1) := by decide +kernel
theorem dL_law_20 : decode code 20 = .ok (.arraylength, 1) := by decide +kernel
theorem dL_law_21 : decode code 21 = .ok (.bipush 6, 2) := by decide +kernel
theorem dL_law_23 : decode code 23 = .ok (.isub, 1) := by decide +kernel
theorem dL_law_24 : decode code 24 = .ok (.if_icmp .gt 1270, 3) := by decide +kernel
theorem dL_law_27 : decode code 27 = .ok (.aload_n 0, 1) := by decide +kernel
theorem dL_law_28 : decode code 28 = .ok (.iload_n 3, 1) := by decide +kernel
theorem dL_law_29 : decode code 29 = .ok (.iaload, 1) := by decide +kernel
theorem dL_law_30 : decode code 30 = .ok (.bipush 31, 2) := by decide +kernel
theorem dL_law_32 : decode code 32 = .ok (.iand, 1) := by decide +kernel
theorem dL_law_33 : decode code 33 = .ok (.tableswitch 1255 0 27 #[127, 160, 223, 246, 279, 312, 345, 378, 441, 454, 467, 480, 503, 566, 661, 730, 763, 796, 849, 892, 935, 978, 1021, 1054, 1087, 1156, 1199, 1232], 127) := by decide +kernel
theorem dL_law_160 : decode code 160 = .ok (.aload_n 1, 1) := by decide +kernel
theorem dL_law_161 : decode code 161 = .ok (.aload_n 0, 1) := by decide +kernel
theorem dL_law_162 : decode code 162 = .ok (.iload_n 3, 1) := by decide +kernel
theorem dL_law_163 : decode code 163 = .ok (.iconst 1, 1) := by decide +kernel
theorem dL_law_164 : decode code 164 = .ok (.iadd, 1) := by decide +kernel
theorem dL_law_165 : decode code 165 = .ok (.iaload, 1) := by decide +kernel
theorem dL_law_166 : decode code 166 = .ok (.aload_n 0, 1) := by decide +kernel
theorem dL_law_167 : decode code 167 = .ok (.iload_n 3, 1) := by decide +kernel
theorem dL_law_168 : decode code 168 = .ok (.iconst 2, 1) := by decide +kernel
theorem dL_law_169 : decode code 169 = .ok (.iadd, 1) := by decide +kernel
theorem dL_law_170 : decode code 170 = .ok (.iaload, 1) := by decide +kernel
theorem dL_law_171 : decode code 171 = .ok (.invokevirtual 13, 3) := by decide +kernel
theorem dL_law_174 : decode code 174 = .ok (.aload_n 2, 1) := by decide +kernel
theorem dL_law_175 : decode code 175 = .ok (.aload_n 0, 1) := by decide +kernel
theorem dL_law_176 : decode code 176 = .ok (.iload_n 3, 1) := by decide +kernel
theorem dL_law_177 : decode code 177 = .ok (.iconst 1, 1) := by decide +kernel
theorem dL_law_178 : decode code 178 = .ok (.iadd, 1) := by decide +kernel
theorem dL_law_179 : decode code 179 = .ok (.iaload, 1) := by decide +kernel
theorem dL_law_180 : decode code 180 = .ok (.aload_n 0, 1) := by decide +kernel
theorem dL_law_181 : decode code 181 = .ok (.iload_n 3, 1) := by decide +kernel
theorem dL_law_182 : decode code 182 = .ok (.iconst 2, 1) := by decide +kernel
theorem dL_law_183 : decode code 183 = .ok (.iadd, 1) := by decide +kernel
theorem dL_law_184 : decode code 184 = .ok (.iaload, 1) := by decide +kernel
theorem dL_law_185 : decode code 185 = .ok (.invokevirtual 17, 3) := by decide +kernel
theorem dL_law_188 : decode code 188 = .ok (.if_icmp .eq 1100, 3) := by decide +kernel
theorem dL_law_191 : decode code 191 = .ok (.iconst 0, 1) := by decide +kernel
theorem dL_law_192 : decode code 192 = .ok (.ireturn, 1) := by decide +kernel
theorem dL_law_193 : decode code 193 = .ok (.aload_n 1, 1) := by decide +kernel
theorem dL_law_194 : decode code 194 = .ok (.aload_n 0, 1) := by decide +kernel
theorem dL_law_195 : decode code 195 = .ok (.iload_n 3, 1) := by decide +kernel
theorem dL_law_196 : decode code 196 = .ok (.iconst 1, 1) := by decide +kernel
theorem dL_law_197 : decode code 197 = .ok (.iadd, 1) := by decide +kernel
theorem dL_law_198 : decode code 198 = .ok (.iaload, 1) := by decide +kernel
theorem dL_law_199 : decode code 199 = .ok (.aload_n 0, 1) := by decide +kernel
theorem dL_law_200 : decode code 200 = .ok (.iload_n 3, 1) := by decide +kernel
theorem dL_law_201 : decode code 201 = .ok (.iconst 2, 1) := by decide +kernel
theorem dL_law_202 : decode code 202 = .ok (.iadd, 1) := by decide +kernel
theorem dL_law_203 : decode code 203 = .ok (.iaload, 1) := by decide +kernel
theorem dL_law_204 : decode code 204 = .ok (.aload_n 0, 1) := by decide +kernel
theorem dL_law_205 : decode code 205 = .ok (.iload_n 3, 1) := by decide +kernel
theorem dL_law_206 : decode code 206 = .ok (.iconst 3, 1) := by decide +kernel
theorem dL_law_207 : decode code 207 = .ok (.iadd, 1) := by decide +kernel
theorem dL_law_208 : decode code 208 = .ok (.iaload, 1) := by decide +kernel
theorem dL_law_209 : decode code 209 = .ok (.aload_n 0, 1) := by decide +kernel
theorem dL_law_210 : decode code 210 = .ok (.iload_n 3, 1) := by decide +kernel
theorem dL_law_211 : decode code 211 = .ok (.iconst 4, 1) := by decide +kernel
theorem dL_law_212 : decode code 212 = .ok (.iadd, 1) := by decide +kernel
theorem dL_law_213 : decode code 213 = .ok (.iaload, 1) := by decide +kernel
theorem dL_law_214 : decode code 214 = .ok (.aload_n 0, 1) := by decide +kernel
theorem dL_law_215 : decode code 215 = .ok (.iload_n 3, 1) := by decide +kernel
theorem dL_law_216 : decode code 216 = .ok (.iconst 5, 1) := by decide +kernel
theorem dL_law_217 : decode code 217 = .ok (.iadd, 1) := by decide +kernel
theorem dL_law_218 : decode code 218 = .ok (.iaload, 1) := by decide +kernel
theorem dL_law_219 : decode code 219 = .ok (.invokevirtual 18, 3) := by decide +kernel
theorem dL_law_222 : decode code 222 = .ok (.aload_n 2, 1) := by decide +kernel
theorem dL_law_223 : decode code 223 = .ok (.aload_n 0, 1) := by decide +kernel
theorem dL_law_224 : decode code 224 = .ok (.iload_n 3, 1) := by decide +kernel
theorem dL_law_225 : decode code 225 = .ok (.iconst 1, 1) := by decide +kernel
theorem dL_law_226 : decode code 226 = .ok (.iadd, 1) := by decide +kernel
theorem dL_law_227 : decode code 227 = .ok (.iaload, 1) := by decide +kernel
theorem dL_law_228 : decode code 228 = .ok (.aload_n 0, 1) := by decide +kernel
theorem dL_law_229 : decode code 229 = .ok (.iload_n 3, 1) := by decide +kernel
theorem dL_law_230 : decode code 230 = .ok (.iconst 2, 1) := by decide +kernel
theorem dL_law_231 : decode code 231 = .ok (.iadd, 1) := by decide +kernel
theorem dL_law_232 : decode code 232 = .ok (.iaload, 1) := by decide +kernel
theorem dL_law_233 : decode code 233 = .ok (.aload_n 0, 1) := by decide +kernel
theorem dL_law_234 : decode code 234 = .ok (.iload_n 3, 1) := by decide +kernel
theorem dL_law_235 : decode code 235 = .ok (.iconst 3, 1) := by decide +kernel
theorem dL_law_236 : decode code 236 = .ok (.iadd, 1) := by decide +kernel
theorem dL_law_237 : decode code 237 = .ok (.iaload, 1) := by decide +kernel
theorem dL_law_238 : decode code 238 = .ok (.aload_n 0, 1) := by decide +kernel
theorem dL_law_239 : decode code 239 = .ok (.iload_n 3, 1) := by decide +kernel
theorem dL_law_240 : decode code 240 = .ok (.iconst 4, 1) := by decide +kernel
theorem dL_law_241 : decode code 241 = .ok (.iadd, 1) := by decide +kernel
theorem dL_law_242 : decode code 242 = .ok (.iaload, 1) := by decide +kernel
theorem dL_law_243 : decode code 243 = .ok (.aload_n 0, 1) := by decide +kernel
theorem dL_law_244 : decode code 244 = .ok (.iload_n 3, 1) := by decide +kernel
theorem dL_law_245 : decode code 245 = .ok (.iconst 5, 1) := by decide +kernel
theorem dL_law_246 : decode code 246 = .ok (.iadd, 1) := by decide +kernel
theorem dL_law_247 : decode code 247 = .ok (.iaload, 1) := by decide +kernel
theorem dL_law_248 : decode code 248 = .ok (.invokevirtual 22, 3) := by decide +kernel
theorem dL_law_251 : decode code 251 = .ok (.if_icmp .eq 1037, 3) := by decide +kernel
theorem dL_law_254 : decode code 254 = .ok (.iconst 0, 1) := by decide +kernel
theorem dL_law_255 : decode code 255 = .ok (.ireturn, 1) := by decide +kernel
theorem dL_law_256 : decode code 256 = .ok (.aload_n 1, 1) := by decide +kernel
theorem dL_law_257 : decode code 257 = .ok (.aload_n 0, 1) := by decide +kernel
theorem dL_law_258 : decode code 258 = .ok (.iload_n 3, 1) := by decide +kernel
theorem dL_law_259 : decode code 259 = .ok (.iconst 1, 1) := by decide +kernel
theorem dL_law_260 : decode code 260 = .ok (.iadd, 1) := by decide +kernel
theorem dL_law_261 : decode code 261 = .ok (.iaload, 1) := by decide +kernel
theorem dL_law_262 : decode code 262 = .ok (.invokevirtual 23, 3) := by decide +kernel
theorem dL_law_265 : decode code 265 = .ok (.aload_n 2, 1) := by decide +kernel
theorem dL_law_266 : decode code 266 = .ok (.aload_n 0, 1) := by decide +kernel
theorem dL_law_267 : decode code 267 = .ok (.iload_n 3, 1) := by decide +kernel
theorem dL_law_268 : decode code 268 = .ok (.iconst 1, 1) := by decide +kernel
theorem dL_law_269 : decode code 269 = .ok (.iadd, 1) := by decide +kernel
theorem dL_law_270 : decode code 270 = .ok (.iaload, 1) := by decide +kernel
theorem dL_law_271 : decode code 271 = .ok (.invokevirtual 27, 3) := by decide +kernel
theorem dL_law_274 : decode code 274 = .ok (.if_icmp .eq 1014, 3) := by decide +kernel
theorem dL_law_277 : decode code 277 = .ok (.iconst 0, 1) := by decide +kernel
theorem dL_law_278 : decode code 278 = .ok (.ireturn, 1) := by decide +kernel
theorem dL_law_279 : decode code 279 = .ok (.aload_n 1, 1) := by decide +kernel
theorem dL_law_280 : decode code 280 = .ok (.aload_n 0, 1) := by decide +kernel
theorem dL_law_281 : decode code 281 = .ok (.iload_n 3, 1) := by decide +kernel
theorem dL_law_282 : decode code 282 = .ok (.iconst 1, 1) := by decide +kernel
theorem dL_law_283 : decode code 283 = .ok (.iadd, 1) := by decide +kernel
theorem dL_law_284 : decode code 284 = .ok (.iaload, 1) := by decide +kernel
theorem dL_law_285 : decode code 285 = .ok (.aload_n 0, 1) := by decide +kernel
theorem dL_law_286 : decode code 286 = .ok (.iload_n 3, 1) := by decide +kernel
theorem dL_law_287 : decode code 287 = .ok (.iconst 2, 1) := by decide +kernel
theorem dL_law_288 : decode code 288 = .ok (.iadd, 1) := by decide +kernel
theorem dL_law_289 : decode code 289 = .ok (.iaload, 1) := by decide +kernel
theorem dL_law_290 : decode code 290 = .ok (.invokevirtual 28, 3) := by decide +kernel
theorem dL_law_293 : decode code 293 = .ok (.aload_n 2, 1) := by decide +kernel
theorem dL_law_294 : decode code 294 = .ok (.aload_n 0, 1) := by decide +kernel
theorem dL_law_295 : decode code 295 = .ok (.iload_n 3, 1) := by decide +kernel
theorem dL_law_296 : decode code 296 = .ok (.iconst 1, 1) := by decide +kernel
theorem dL_law_297 : decode code 297 = .ok (.iadd, 1) := by decide +kernel
theorem dL_law_298 : decode code 298 = .ok (.iaload, 1) := by decide +kernel
theorem dL_law_299 : decode code 299 = .ok (.aload_n 0, 1) := by decide +kernel
theorem dL_law_300 : decode code 300 = .ok (.iload_n 3, 1) := by decide +kernel
theorem dL_law_301 : decode code 301 = .ok (.iconst 2, 1) := by decide +kernel
theorem dL_law_302 : decode code 302 = .ok (.iadd, 1) := by decide +kernel
theorem dL_law_303 : decode code 303 = .ok (.iaload, 1) := by decide +kernel
theorem dL_law_304 : decode code 304 = .ok (.invokevirtual 31, 3) := by decide +kernel
theorem dL_law_307 : decode code 307 = .ok (.if_icmp .eq 981, 3) := by decide +kernel
theorem dL_law_310 : decode code 310 = .ok (.iconst 0, 1) := by decide +kernel
theorem dL_law_311 : decode code 311 = .ok (.ireturn, 1) := by decide +kernel
theorem dL_law_312 : decode code 312 = .ok (.aload_n 1, 1) := by decide +kernel
theorem dL_law_313 : decode code 313 = .ok (.aload_n 0, 1) := by decide +kernel
theorem dL_law_314 : decode code 314 = .ok (.iload_n 3, 1) := by decide +kernel
theorem dL_law_315 : decode code 315 = .ok (.iconst 1, 1) := by decide +kernel
theorem dL_law_316 : decode code 316 = .ok (.iadd, 1) := by decide +kernel
theorem dL_law_317 : decode code 317 = .ok (.iaload, 1) := by decide +kernel
theorem dL_law_318 : decode code 318 = .ok (.aload_n 0, 1) := by decide +kernel
theorem dL_law_319 : decode code 319 = .ok (.iload_n 3, 1) := by decide +kernel
theorem dL_law_320 : decode code 320 = .ok (.iconst 2, 1) := by decide +kernel
theorem dL_law_321 : decode code 321 = .ok (.iadd, 1) := by decide +kernel
theorem dL_law_322 : decode code 322 = .ok (.iaload, 1) := by decide +kernel
theorem dL_law_323 : decode code 323 = .ok (.invokevirtual 32, 3) := by decide +kernel
theorem dL_law_326 : decode code 326 = .ok (.aload_n 2, 1) := by decide +kernel
theorem dL_law_327 : decode code 327 = .ok (.aload_n 0, 1) := by decide +kernel
theorem dL_law_328 : decode code 328 = .ok (.iload_n 3, 1) := by decide +kernel
theorem dL_law_329 : decode code 329 = .ok (.iconst 1, 1) := by decide +kernel
theorem dL_law_330 : decode code 330 = .ok (.iadd, 1) := by decide +kernel
theorem dL_law_331 : decode code 331 = .ok (.iaload, 1) := by decide +kernel
theorem dL_law_332 : decode code 332 = .ok (.aload_n 0, 1) := by decide +kernel
theorem dL_law_333 : decode code 333 = .ok (.iload_n 3, 1) := by decide +kernel
theorem dL_law_334 : decode code 334 = .ok (.iconst 2, 1) := by decide +kernel
theorem dL_law_335 : decode code 335 = .ok (.iadd, 1) := by decide +kernel
theorem dL_law_336 : decode code 336 = .ok (.iaload, 1) := by decide +kernel
theorem dL_law_337 : decode code 337 = .ok (.invokevirtual 35, 3) := by decide +kernel
theorem dL_law_340 : decode code 340 = .ok (.if_icmp .eq 948, 3) := by decide +kernel
theorem dL_law_343 : decode code 343 = .ok (.iconst 0, 1) := by decide +kernel
theorem dL_law_344 : decode code 344 = .ok (.ireturn, 1) := by decide +kernel
theorem dL_law_345 : decode code 345 = .ok (.aload_n 1, 1) := by decide +kernel
theorem dL_law_346 : decode code 346 = .ok (.aload_n 0, 1) := by decide +kernel
theorem dL_law_347 : decode code 347 = .ok (.iload_n 3, 1) := by decide +kernel
theorem dL_law_348 : decode code 348 = .ok (.iconst 1, 1) := by decide +kernel
theorem dL_law_349 : decode code 349 = .ok (.iadd, 1) := by decide +kernel
theorem dL_law_350 : decode code 350 = .ok (.iaload, 1) := by decide +kernel
theorem dL_law_351 : decode code 351 = .ok (.aload_n 0, 1) := by decide +kernel
theorem dL_law_352 : decode code 352 = .ok (.iload_n 3, 1) := by decide +kernel
theorem dL_law_353 : decode code 353 = .ok (.iconst 2, 1) := by decide +kernel
theorem dL_law_354 : decode code 354 = .ok (.iadd, 1) := by decide +kernel
theorem dL_law_355 : decode code 355 = .ok (.iaload, 1) := by decide +kernel
theorem dL_law_356 : decode code 356 = .ok (.invokevirtual 36, 3) := by decide +kernel
theorem dL_law_359 : decode code 359 = .ok (.aload_n 2, 1) := by decide +kernel
theorem dL_law_360 : decode code 360 = .ok (.aload_n 0, 1) := by decide +kernel
theorem dL_law_361 : decode code 361 = .ok (.iload_n 3, 1) := by decide +kernel
theorem dL_law_362 : decode code 362 = .ok (.iconst 1, 1) := by decide +kernel
theorem dL_law_363 : decode code 363 = .ok (.iadd, 1) := by decide +kernel
theorem dL_law_364 : decode code 364 = .ok (.iaload, 1) := by decide +kernel
theorem dL_law_365 : decode code 365 = .ok (.aload_n 0, 1) := by decide +kernel
theorem dL_law_366 : decode code 366 = .ok (.iload_n 3, 1) := by decide +kernel
theorem dL_law_367 : decode code 367 = .ok (.iconst 2, 1) := by decide +kernel
theorem dL_law_368 : decode code 368 = .ok (.iadd, 1) := by decide +kernel
theorem dL_law_369 : decode code 369 = .ok (.iaload, 1) := by decide +kernel
theorem dL_law_370 : decode code 370 = .ok (.invokevirtual 39, 3) := by decide +kernel
theorem dL_law_373 : decode code 373 = .ok (.if_icmp .eq 915, 3) := by decide +kernel
theorem dL_law_376 : decode code 376 = .ok (.iconst 0, 1) := by decide +kernel
theorem dL_law_377 : decode code 377 = .ok (.ireturn, 1) := by decide +kernel
theorem dL_law_378 : decode code 378 = .ok (.aload_n 1, 1) := by decide +kernel
theorem dL_law_379 : decode code 379 = .ok (.aload_n 0, 1) := by decide +kernel
theorem dL_law_380 : decode code 380 = .ok (.iload_n 3, 1) := by decide +kernel
theorem dL_law_381 : decode code 381 = .ok (.iconst 1, 1) := by decide +kernel
theorem dL_law_382 : decode code 382 = .ok (.iadd, 1) := by decide +kernel
theorem dL_law_383 : decode code 383 = .ok (.iaload, 1) := by decide +kernel
theorem dL_law_384 : decode code 384 = .ok (.aload_n 0, 1) := by decide +kernel
theorem dL_law_385 : decode code 385 = .ok (.iload_n 3, 1) := by decide +kernel
theorem dL_law_386 : decode code 386 = .ok (.iconst 2, 1) := by decide +kernel
theorem dL_law_387 : decode code 387 = .ok (.iadd, 1) := by decide +kernel
theorem dL_law_388 : decode code 388 = .ok (.iaload, 1) := by decide +kernel
theorem dL_law_389 : decode code 389 = .ok (.invokevirtual 40, 3) := by decide +kernel
theorem dL_law_392 : decode code 392 = .ok (.aload_n 2, 1) := by decide +kernel
theorem dL_law_393 : decode code 393 = .ok (.aload_n 0, 1) := by decide +kernel
theorem dL_law_394 : decode code 394 = .ok (.iload_n 3, 1) := by decide +kernel
theorem dL_law_395 : decode code 395 = .ok (.iconst 1, 1) := by decide +kernel
theorem dL_law_396 : decode code 396 = .ok (.iadd, 1) := by decide +kernel
theorem dL_law_397 : decode code 397 = .ok (.iaload, 1) := by decide +kernel
theorem dL_law_398 : decode code 398 = .ok (.aload_n 0, 1) := by decide +kernel
theorem dL_law_399 : decode code 399 = .ok (.iload_n 3, 1) := by decide +kernel
theorem dL_law_400 : decode code 400 = .ok (.iconst 2, 1) := by decide +kernel
theorem dL_law_401 : decode code 401 = .ok (.iadd, 1) := by decide +kernel
theorem dL_law_402 : decode code 402 = .ok (.iaload, 1) := by decide +kernel
theorem dL_law_403 : decode code 403 = .ok (.invokevirtual 43, 3) := by decide +kernel
theorem dL_law_406 : decode code 406 = .ok (.if_icmp .eq 882, 3) := by decide +kernel
theorem dL_law_409 : decode code 409 = .ok (.iconst 0, 1) := by decide +kernel
theorem dL_law_410 : decode code 410 = .ok (.ireturn, 1) := by decide +kernel
theorem dL_law_411 : decode code 411 = .ok (.aload_n 1, 1) := by decide +kernel
theorem dL_law_412 : decode code 412 = .ok (.aload_n 0, 1) := by decide +kernel
theorem dL_law_413 : decode code 413 = .ok (.iload_n 3, 1) := by decide +kernel
theorem dL_law_414 : decode code 414 = .ok (.iconst 1, 1) := by decide +kernel
theorem dL_law_415 : decode code 415 = .ok (.iadd, 1) := by decide +kernel
theorem dL_law_416 : decode code 416 = .ok (.iaload, 1) := by decide +kernel
theorem dL_law_417 : decode code 417 = .ok (.i2l, 1) := by decide +kernel
theorem dL_law_418 : decode code 418 = .ok (.bipush 32, 2) := by decide +kernel
theorem dL_law_420 : decode code 420 = .ok (.lshl, 1) := by decide +kernel
theorem dL_law_421 : decode code 421 = .ok (.aload_n 0, 1) := by decide +kernel
theorem dL_law_422 : decode code 422 = .ok (.iload_n 3, 1) := by decide +kernel
theorem dL_law_423 : decode code 423 = .ok (.iconst 2, 1) := by decide +kernel
theorem dL_law_424 : decode code 424 = .ok (.iadd, 1) := by decide +kernel
theorem dL_law_425 : decode code 425 = .ok (.iaload, 1) := by decide +kernel
theorem dL_law_426 : decode code 426 = .ok (.i2l, 1) := by decide +kernel
theorem dL_law_427 : decode code 427 = .ok (.ldc2_w 44, 3) := by decide +kernel
theorem dL_law_430 : decode code 430 = .ok (.land, 1) := by decide +kernel
theorem dL_law_431 : decode code 431 = .ok (.lor, 1) := by decide +kernel
theorem dL_law_432 : decode code 432 = .ok (.aload_n 0, 1) := by decide +kernel
theorem dL_law_433 : decode code 433 = .ok (.iload_n 3, 1) := by decide +kernel
theorem dL_law_434 : decode code 434 = .ok (.iconst 3, 1) := by decide +kernel
theorem dL_law_435 : decode code 435 = .ok (.iadd, 1) := by decide +kernel
theorem dL_law_436 : decode code 436 = .ok (.iaload, 1) := by decide +kernel
theorem dL_law_437 : decode code 437 = .ok (.invokevirtual 46, 3) := by decide +kernel
theorem dL_law_440 : decode code 440 = .ok (.aload_n 2, 1) := by decide +kernel
theorem dL_law_441 : decode code 441 = .ok (.aload_n 0, 1) := by decide +kernel
theorem dL_law_442 : decode code 442 = .ok (.iload_n 3, 1) := by decide +kernel
theorem dL_law_443 : decode code 443 = .ok (.iconst 1, 1) := by decide +kernel
theorem dL_law_444 : decode code 444 = .ok (.iadd, 1) := by decide +kernel
theorem dL_law_445 : decode code 445 = .ok (.iaload, 1) := by decide +kernel
theorem dL_law_446 : decode code 446 = .ok (.i2l, 1) := by decide +kernel
theorem dL_law_447 : decode code 447 = .ok (.bipush 32, 2) := by decide +kernel
theorem dL_law_449 : decode code 449 = .ok (.lshl, 1) := by decide +kernel
theorem dL_law_450 : decode code 450 = .ok (.aload_n 0, 1) := by decide +kernel
theorem dL_law_451 : decode code 451 = .ok (.iload_n 3, 1) := by decide +kernel
theorem dL_law_452 : decode code 452 = .ok (.iconst 2, 1) := by decide +kernel
theorem dL_law_453 : decode code 453 = .ok (.iadd, 1) := by decide +kernel
theorem dL_law_454 : decode code 454 = .ok (.iaload, 1) := by decide +kernel
theorem dL_law_455 : decode code 455 = .ok (.i2l, 1) := by decide +kernel
theorem dL_law_456 : decode code 456 = .ok (.ldc2_w 44, 3) := by decide +kernel
theorem dL_law_459 : decode code 459 = .ok (.land, 1) := by decide +kernel
theorem dL_law_460 : decode code 460 = .ok (.lor, 1) := by decide +kernel
theorem dL_law_461 : decode code 461 = .ok (.aload_n 0, 1) := by decide +kernel
theorem dL_law_462 : decode code 462 = .ok (.iload_n 3, 1) := by decide +kernel
theorem dL_law_463 : decode code 463 = .ok (.iconst 3, 1) := by decide +kernel
theorem dL_law_464 : decode code 464 = .ok (.iadd, 1) := by decide +kernel
theorem dL_law_465 : decode code 465 = .ok (.iaload, 1) := by decide +kernel
theorem dL_law_466 : decode code 466 = .ok (.invokevirtual 50, 3) := by decide +kernel
theorem dL_law_469 : decode code 469 = .ok (.if_icmp .eq 819, 3) := by decide +kernel
theorem dL_law_472 : decode code 472 = .ok (.iconst 0, 1) := by decide +kernel
theorem dL_law_473 : decode code 473 = .ok (.ireturn, 1) := by decide +kernel
theorem dL_law_474 : decode code 474 = .ok (.aload_n 1, 1) := by decide +kernel
theorem dL_law_475 : decode code 475 = .ok (.invokevirtual 51, 3) := by decide +kernel
theorem dL_law_478 : decode code 478 = .ok (.aload_n 2, 1) := by decide +kernel
theorem dL_law_479 : decode code 479 = .ok (.invokevirtual 55, 3) := by decide +kernel
theorem dL_law_482 : decode code 482 = .ok (.if_icmp .eq 806, 3) := by decide +kernel
theorem dL_law_485 : decode code 485 = .ok (.iconst 0, 1) := by decide +kernel
theorem dL_law_486 : decode code 486 = .ok (.ireturn, 1) := by decide +kernel
theorem dL_law_487 : decode code 487 = .ok (.aload_n 1, 1) := by decide +kernel
theorem dL_law_488 : decode code 488 = .ok (.invokevirtual 56, 3) := by decide +kernel
theorem dL_law_491 : decode code 491 = .ok (.aload_n 2, 1) := by decide +kernel
theorem dL_law_492 : decode code 492 = .ok (.invokevirtual 59, 3) := by decide +kernel
theorem dL_law_495 : decode code 495 = .ok (.if_icmp .eq 793, 3) := by decide +kernel
theorem dL_law_498 : decode code 498 = .ok (.iconst 0, 1) := by decide +kernel
theorem dL_law_499 : decode code 499 = .ok (.ireturn, 1) := by decide +kernel
theorem dL_law_500 : decode code 500 = .ok (.aload_n 1, 1) := by decide +kernel
theorem dL_law_501 : decode code 501 = .ok (.invokevirtual 60, 3) := by decide +kernel
theorem dL_law_504 : decode code 504 = .ok (.aload_n 2, 1) := by decide +kernel
theorem dL_law_505 : decode code 505 = .ok (.invokevirtual 63, 3) := by decide +kernel
theorem dL_law_508 : decode code 508 = .ok (.if_icmp .eq 780, 3) := by decide +kernel
theorem dL_law_511 : decode code 511 = .ok (.iconst 0, 1) := by decide +kernel
theorem dL_law_512 : decode code 512 = .ok (.ireturn, 1) := by decide +kernel
theorem dL_law_513 : decode code 513 = .ok (.aload_n 1, 1) := by decide +kernel
theorem dL_law_514 : decode code 514 = .ok (.aload_n 0, 1) := by decide +kernel
theorem dL_law_515 : decode code 515 = .ok (.iload_n 3, 1) := by decide +kernel
theorem dL_law_516 : decode code 516 = .ok (.iconst 1, 1) := by decide +kernel
theorem dL_law_517 : decode code 517 = .ok (.iadd, 1) := by decide +kernel
theorem dL_law_518 : decode code 518 = .ok (.iaload, 1) := by decide +kernel
theorem dL_law_519 : decode code 519 = .ok (.invokevirtual 64, 3) := by decide +kernel
theorem dL_law_522 : decode code 522 = .ok (.aload_n 2, 1) := by decide +kernel
theorem dL_law_523 : decode code 523 = .ok (.aload_n 0, 1) := by decide +kernel
theorem dL_law_524 : decode code 524 = .ok (.iload_n 3, 1) := by decide +kernel
theorem dL_law_525 : decode code 525 = .ok (.iconst 1, 1) := by decide +kernel
theorem dL_law_526 : decode code 526 = .ok (.iadd, 1) := by decide +kernel
theorem dL_law_527 : decode code 527 = .ok (.iaload, 1) := by decide +kernel
theorem dL_law_528 : decode code 528 = .ok (.invokevirtual 67, 3) := by decide +kernel
theorem dL_law_531 : decode code 531 = .ok (.if_icmp .eq 757, 3) := by decide +kernel
theorem dL_law_534 : decode code 534 = .ok (.iconst 0, 1) := by decide +kernel
theorem dL_law_535 : decode code 535 = .ok (.ireturn, 1) := by decide +kernel
theorem dL_law_536 : decode code 536 = .ok (.aload_n 1, 1) := by decide +kernel
theorem dL_law_537 : decode code 537 = .ok (.aload_n 0, 1) := by decide +kernel
theorem dL_law_538 : decode code 538 = .ok (.iload_n 3, 1) := by decide +kernel
theorem dL_law_539 : decode code 539 = .ok (.iconst 1, 1) := by decide +kernel
theorem dL_law_540 : decode code 540 = .ok (.iadd, 1) := by decide +kernel
theorem dL_law_541 : decode code 541 = .ok (.iaload, 1) := by decide +kernel
theorem dL_law_542 : decode code 542 = .ok (.aload_n 0, 1) := by decide +kernel
theorem dL_law_543 : decode code 543 = .ok (.iload_n 3, 1) := by decide +kernel
theorem dL_law_544 : decode code 544 = .ok (.iconst 2, 1) := by decide +kernel
theorem dL_law_545 : decode code 545 = .ok (.iadd, 1) := by decide +kernel
theorem dL_law_546 : decode code 546 = .ok (.iaload, 1) := by decide +kernel
theorem dL_law_547 : decode code 547 = .ok (.aload_n 0, 1) := by decide +kernel
theorem dL_law_548 : decode code 548 = .ok (.iload_n 3, 1) := by decide +kernel
theorem dL_law_549 : decode code 549 = .ok (.iconst 3, 1) := by decide +kernel
theorem dL_law_550 : decode code 550 = .ok (.iadd, 1) := by decide +kernel
theorem dL_law_551 : decode code 551 = .ok (.iaload, 1) := by decide +kernel
theorem dL_law_552 : decode code 552 = .ok (.aload_n 0, 1) := by decide +kernel
theorem dL_law_553 : decode code 553 = .ok (.iload_n 3, 1) := by decide +kernel
theorem dL_law_554 : decode code 554 = .ok (.iconst 4, 1) := by decide +kernel
theorem dL_law_555 : decode code 555 = .ok (.iadd, 1) := by decide +kernel
theorem dL_law_556 : decode code 556 = .ok (.iaload, 1) := by decide +kernel
theorem dL_law_557 : decode code 557 = .ok (.aload_n 0, 1) := by decide +kernel
theorem dL_law_558 : decode code 558 = .ok (.iload_n 3, 1) := by decide +kernel
theorem dL_law_559 : decode code 559 = .ok (.iconst 5, 1) := by decide +kernel
theorem dL_law_560 : decode code 560 = .ok (.iadd, 1) := by decide +kernel
theorem dL_law_561 : decode code 561 = .ok (.iaload, 1) := by decide +kernel
theorem dL_law_562 : decode code 562 = .ok (.invokevirtual 68, 3) := by decide +kernel
theorem dL_law_565 : decode code 565 = .ok (.aload_n 2, 1) := by decide +kernel
theorem dL_law_566 : decode code 566 = .ok (.aload_n 0, 1) := by decide +kernel
theorem dL_law_567 : decode code 567 = .ok (.iload_n 3, 1) := by decide +kernel
theorem dL_law_568 : decode code 568 = .ok (.iconst 1, 1) := by decide +kernel
theorem dL_law_569 : decode code 569 = .ok (.iadd, 1) := by decide +kernel
theorem dL_law_570 : decode code 570 = .ok (.iaload, 1) := by decide +kernel
theorem dL_law_571 : decode code 571 = .ok (.aload_n 0, 1) := by decide +kernel
theorem dL_law_572 : decode code 572 = .ok (.iload_n 3, 1) := by decide +kernel
theorem dL_law_573 : decode code 573 = .ok (.iconst 2, 1) := by decide +kernel
theorem dL_law_574 : decode code 574 = .ok (.iadd, 1) := by decide +kernel
theorem dL_law_575 : decode code 575 = .ok (.iaload, 1) := by decide +kernel
theorem dL_law_576 : decode code 576 = .ok (.aload_n 0, 1) := by decide +kernel
theorem dL_law_577 : decode code 577 = .ok (.iload_n 3, 1) := by decide +kernel
theorem dL_law_578 : decode code 578 = .ok (.iconst 3, 1) := by decide +kernel
theorem dL_law_579 : decode code 579 = .ok (.iadd, 1) := by decide +kernel
theorem dL_law_580 : decode code 580 = .ok (.iaload, 1) := by decide +kernel
theorem dL_law_581 : decode code 581 = .ok (.aload_n 0, 1) := by decide +kernel
theorem dL_law_582 : decode code 582 = .ok (.iload_n 3, 1) := by decide +kernel
theorem dL_law_583 : decode code 583 = .ok (.iconst 4, 1) := by decide +kernel
theorem dL_law_584 : decode code 584 = .ok (.iadd, 1) := by decide +kernel
theorem dL_law_585 : decode code 585 = .ok (.iaload, 1) := by decide +kernel
theorem dL_law_586 : decode code 586 = .ok (.aload_n 0, 1) := by decide +kernel
theorem dL_law_587 : decode code 587 = .ok (.iload_n 3, 1) := by decide +kernel
theorem dL_law_588 : decode code 588 = .ok (.iconst 5, 1) := by decide +kernel
theorem dL_law_589 : decode code 589 = .ok (.iadd, 1) := by decide +kernel
theorem dL_law_590 : decode code 590 = .ok (.iaload, 1) := by decide +kernel
theorem dL_law_591 : decode code 591 = .ok (.invokevirtual 71, 3) := by decide +kernel
theorem dL_law_594 : decode code 594 = .ok (.if_icmp .eq 694, 3) := by decide +kernel
theorem dL_law_597 : decode code 597 = .ok (.iconst 0, 1) := by decide +kernel
theorem dL_law_598 : decode code 598 = .ok (.ireturn, 1) := by decide +kernel
theorem dL_law_599 : decode code 599 = .ok (.aload_n 1, 1) := by decide +kernel
theorem dL_law_600 : decode code 600 = .ok (.aload_n 0, 1) := by decide +kernel
theorem dL_law_601 : decode code 601 = .ok (.iload_n 3, 1) := by decide +kernel
theorem dL_law_602 : decode code 602 = .ok (.iconst 1, 1) := by decide +kernel
theorem dL_law_603 : decode code 603 = .ok (.iadd, 1) := by decide +kernel
theorem dL_law_604 : decode code 604 = .ok (.iaload, 1) := by decide +kernel
theorem dL_law_605 : decode code 605 = .ok (.aload_n 0, 1) := by decide +kernel
theorem dL_law_606 : decode code 606 = .ok (.iload_n 3, 1) := by decide +kernel
theorem dL_law_607 : decode code 607 = .ok (.iconst 2, 1) := by decide +kernel
theorem dL_law_608 : decode code 608 = .ok (.iadd, 1) := by decide +kernel
theorem dL_law_609 : decode code 609 = .ok (.iaload, 1) := by decide +kernel
theorem dL_law_610 : decode code 610 = .ok (.aload_n 0, 1) := by decide +kernel
theorem dL_law_611 : decode code 611 = .ok (.iload_n 3, 1) := by decide +kernel
theorem dL_law_612 : decode code 612 = .ok (.iconst 3, 1) := by decide +kernel
theorem dL_law_613 : decode code 613 = .ok (.iadd, 1) := by decide +kernel
theorem dL_law_614 : decode code 614 = .ok (.iaload, 1) := by decide +kernel
theorem dL_law_615 : decode code 615 = .ok (.ifCond .eq 7, 3) := by decide +kernel
theorem dL_law_618 : decode code 618 = .ok (.iconst 1, 1) := by decide +kernel
theorem dL_law_619 : decode code 619 = .ok (.goto 4, 3) := by decide +kernel
theorem dL_law_622 : decode code 622 = .ok (.iconst 0, 1) := by decide +kernel
theorem dL_law_623 : decode code 623 = .ok (.aload_n 0, 1) := by decide +kernel
theorem dL_law_624 : decode code 624 = .ok (.iload_n 3, 1) := by decide +kernel
theorem dL_law_625 : decode code 625 = .ok (.iconst 4, 1) := by decide +kernel
theorem dL_law_626 : decode code 626 = .ok (.iadd, 1) := by decide +kernel
theorem dL_law_627 : decode code 627 = .ok (.iaload, 1) := by decide +kernel
theorem dL_law_628 : decode code 628 = .ok (.ifCond .eq 7, 3) := by decide +kernel
theorem dL_law_631 : decode code 631 = .ok (.iconst 1, 1) := by decide +kernel
theorem dL_law_632 : decode code 632 = .ok (.goto 4, 3) := by decide +kernel
theorem dL_law_635 : decode code 635 = .ok (.iconst 0, 1) := by decide +kernel
theorem dL_law_636 : decode code 636 = .ok (.aload_n 0, 1) := by decide +kernel
theorem dL_law_637 : decode code 637 = .ok (.iload_n 3, 1) := by decide +kernel
theorem dL_law_638 : decode code 638 = .ok (.iconst 5, 1) := by decide +kernel
theorem dL_law_639 : decode code 639 = .ok (.iadd, 1) := by decide +kernel
theorem dL_law_640 : decode code 640 = .ok (.iaload, 1) := by decide +kernel
theorem dL_law_641 : decode code 641 = .ok (.invokevirtual 72, 3) := by decide +kernel
theorem dL_law_644 : decode code 644 = .ok (.aload_n 2, 1) := by decide +kernel
theorem dL_law_645 : decode code 645 = .ok (.aload_n 0, 1) := by decide +kernel
theorem dL_law_646 : decode code 646 = .ok (.iload_n 3, 1) := by decide +kernel
theorem dL_law_647 : decode code 647 = .ok (.iconst 1, 1) := by decide +kernel
theorem dL_law_648 : decode code 648 = .ok (.iadd, 1) := by decide +kernel
theorem dL_law_649 : decode code 649 = .ok (.iaload, 1) := by decide +kernel
theorem dL_law_650 : decode code 650 = .ok (.aload_n 0, 1) := by decide +kernel
theorem dL_law_651 : decode code 651 = .ok (.iload_n 3, 1) := by decide +kernel
theorem dL_law_652 : decode code 652 = .ok (.iconst 2, 1) := by decide +kernel
theorem dL_law_653 : decode code 653 = .ok (.iadd, 1) := by decide +kernel
theorem dL_law_654 : decode code 654 = .ok (.iaload, 1) := by decide +kernel
theorem dL_law_655 : decode code 655 = .ok (.aload_n 0, 1) := by decide +kernel
theorem dL_law_656 : decode code 656 = .ok (.iload_n 3, 1) := by decide +kernel
theorem dL_law_657 : decode code 657 = .ok (.iconst 3, 1) := by decide +kernel
theorem dL_law_658 : decode code 658 = .ok (.iadd, 1) := by decide +kernel
theorem dL_law_659 : decode code 659 = .ok (.iaload, 1) := by decide +kernel
theorem dL_law_660 : decode code 660 = .ok (.ifCond .eq 7, 3) := by decide +kernel
theorem dL_law_663 : decode code 663 = .ok (.iconst 1, 1) := by decide +kernel
theorem dL_law_664 : decode code 664 = .ok (.goto 4, 3) := by decide +kernel
theorem dL_law_667 : decode code 667 = .ok (.iconst 0, 1) := by decide +kernel
theorem dL_law_668 : decode code 668 = .ok (.aload_n 0, 1) := by decide +kernel
theorem dL_law_669 : decode code 669 = .ok (.iload_n 3, 1) := by decide +kernel
theorem dL_law_670 : decode code 670 = .ok (.iconst 4, 1) := by decide +kernel
theorem dL_law_671 : decode code 671 = .ok (.iadd, 1) := by decide +kernel
theorem dL_law_672 : decode code 672 = .ok (.iaload, 1) := by decide +kernel
theorem dL_law_673 : decode code 673 = .ok (.ifCond .eq 7, 3) := by decide +kernel
theorem dL_law_676 : decode code 676 = .ok (.iconst 1, 1) := by decide +kernel
theorem dL_law_677 : decode code 677 = .ok (.goto 4, 3) := by decide +kernel
theorem dL_law_680 : decode code 680 = .ok (.iconst 0, 1) := by decide +kernel
theorem dL_law_681 : decode code 681 = .ok (.aload_n 0, 1) := by decide +kernel
theorem dL_law_682 : decode code 682 = .ok (.iload_n 3, 1) := by decide +kernel
theorem dL_law_683 : decode code 683 = .ok (.iconst 5, 1) := by decide +kernel
theorem dL_law_684 : decode code 684 = .ok (.iadd, 1) := by decide +kernel
theorem dL_law_685 : decode code 685 = .ok (.iaload, 1) := by decide +kernel
theorem dL_law_686 : decode code 686 = .ok (.invokevirtual 76, 3) := by decide +kernel
theorem dL_law_689 : decode code 689 = .ok (.if_icmp .eq 599, 3) := by decide +kernel
theorem dL_law_692 : decode code 692 = .ok (.iconst 0, 1) := by decide +kernel
theorem dL_law_693 : decode code 693 = .ok (.ireturn, 1) := by decide +kernel
theorem dL_law_694 : decode code 694 = .ok (.aload_n 1, 1) := by decide +kernel
theorem dL_law_695 : decode code 695 = .ok (.aload_n 0, 1) := by decide +kernel
theorem dL_law_696 : decode code 696 = .ok (.iload_n 3, 1) := by decide +kernel
theorem dL_law_697 : decode code 697 = .ok (.iconst 1, 1) := by decide +kernel
theorem dL_law_698 : decode code 698 = .ok (.iadd, 1) := by decide +kernel
theorem dL_law_699 : decode code 699 = .ok (.iaload, 1) := by decide +kernel
theorem dL_law_700 : decode code 700 = .ok (.aload_n 0, 1) := by decide +kernel
theorem dL_law_701 : decode code 701 = .ok (.iload_n 3, 1) := by decide +kernel
theorem dL_law_702 : decode code 702 = .ok (.iconst 2, 1) := by decide +kernel
theorem dL_law_703 : decode code 703 = .ok (.iadd, 1) := by decide +kernel
theorem dL_law_704 : decode code 704 = .ok (.iaload, 1) := by decide +kernel
theorem dL_law_705 : decode code 705 = .ok (.aload_n 0, 1) := by decide +kernel
theorem dL_law_706 : decode code 706 = .ok (.iload_n 3, 1) := by decide +kernel
theorem dL_law_707 : decode code 707 = .ok (.iconst 3, 1) := by decide +kernel
theorem dL_law_708 : decode code 708 = .ok (.iadd, 1) := by decide +kernel
theorem dL_law_709 : decode code 709 = .ok (.iaload, 1) := by decide +kernel
theorem dL_law_710 : decode code 710 = .ok (.ifCond .eq 7, 3) := by decide +kernel
theorem dL_law_713 : decode code 713 = .ok (.iconst 1, 1) := by decide +kernel
theorem dL_law_714 : decode code 714 = .ok (.goto 4, 3) := by decide +kernel
theorem dL_law_717 : decode code 717 = .ok (.iconst 0, 1) := by decide +kernel
theorem dL_law_718 : decode code 718 = .ok (.aload_n 0, 1) := by decide +kernel
theorem dL_law_719 : decode code 719 = .ok (.iload_n 3, 1) := by decide +kernel
theorem dL_law_720 : decode code 720 = .ok (.iconst 4, 1) := by decide +kernel
theorem dL_law_721 : decode code 721 = .ok (.iadd, 1) := by decide +kernel
theorem dL_law_722 : decode code 722 = .ok (.iaload, 1) := by decide +kernel
theorem dL_law_723 : decode code 723 = .ok (.invokevirtual 77, 3) := by decide +kernel
theorem dL_law_726 : decode code 726 = .ok (.aload_n 2, 1) := by decide +kernel
theorem dL_law_727 : decode code 727 = .ok (.aload_n 0, 1) := by decide +kernel
theorem dL_law_728 : decode code 728 = .ok (.iload_n 3, 1) := by decide +kernel
theorem dL_law_729 : decode code 729 = .ok (.iconst 1, 1) := by decide +kernel
theorem dL_law_730 : decode code 730 = .ok (.iadd, 1) := by decide +kernel
theorem dL_law_731 : decode code 731 = .ok (.iaload, 1) := by decide +kernel
theorem dL_law_732 : decode code 732 = .ok (.aload_n 0, 1) := by decide +kernel
theorem dL_law_733 : decode code 733 = .ok (.iload_n 3, 1) := by decide +kernel
theorem dL_law_734 : decode code 734 = .ok (.iconst 2, 1) := by decide +kernel
theorem dL_law_735 : decode code 735 = .ok (.iadd, 1) := by decide +kernel
theorem dL_law_736 : decode code 736 = .ok (.iaload, 1) := by decide +kernel
theorem dL_law_737 : decode code 737 = .ok (.aload_n 0, 1) := by decide +kernel
theorem dL_law_738 : decode code 738 = .ok (.iload_n 3, 1) := by decide +kernel
theorem dL_law_739 : decode code 739 = .ok (.iconst 3, 1) := by decide +kernel
theorem dL_law_740 : decode code 740 = .ok (.iadd, 1) := by decide +kernel
theorem dL_law_741 : decode code 741 = .ok (.iaload, 1) := by decide +kernel
theorem dL_law_742 : decode code 742 = .ok (.ifCond .eq 7, 3) := by decide +kernel
theorem dL_law_745 : decode code 745 = .ok (.iconst 1, 1) := by decide +kernel
theorem dL_law_746 : decode code 746 = .ok (.goto 4, 3) := by decide +kernel
theorem dL_law_749 : decode code 749 = .ok (.iconst 0, 1) := by decide +kernel
theorem dL_law_750 : decode code 750 = .ok (.aload_n 0, 1) := by decide +kernel
theorem dL_law_751 : decode code 751 = .ok (.iload_n 3, 1) := by decide +kernel
theorem dL_law_752 : decode code 752 = .ok (.iconst 4, 1) := by decide +kernel
theorem dL_law_753 : decode code 753 = .ok (.iadd, 1) := by decide +kernel
theorem dL_law_754 : decode code 754 = .ok (.iaload, 1) := by decide +kernel
theorem dL_law_755 : decode code 755 = .ok (.invokevirtual 81, 3) := by decide +kernel
theorem dL_law_758 : decode code 758 = .ok (.if_icmp .eq 530, 3) := by decide +kernel
theorem dL_law_761 : decode code 761 = .ok (.iconst 0, 1) := by decide +kernel
theorem dL_law_762 : decode code 762 = .ok (.ireturn, 1) := by decide +kernel
theorem dL_law_763 : decode code 763 = .ok (.aload_n 1, 1) := by decide +kernel
theorem dL_law_764 : decode code 764 = .ok (.aload_n 0, 1) := by decide +kernel
theorem dL_law_765 : decode code 765 = .ok (.iload_n 3, 1) := by decide +kernel
theorem dL_law_766 : decode code 766 = .ok (.iconst 1, 1) := by decide +kernel
theorem dL_law_767 : decode code 767 = .ok (.iadd, 1) := by decide +kernel
theorem dL_law_768 : decode code 768 = .ok (.iaload, 1) := by decide +kernel
theorem dL_law_769 : decode code 769 = .ok (.aload_n 0, 1) := by decide +kernel
theorem dL_law_770 : decode code 770 = .ok (.iload_n 3, 1) := by decide +kernel
theorem dL_law_771 : decode code 771 = .ok (.iconst 2, 1) := by decide +kernel
theorem dL_law_772 : decode code 772 = .ok (.iadd, 1) := by decide +kernel
theorem dL_law_773 : decode code 773 = .ok (.iaload, 1) := by decide +kernel
theorem dL_law_774 : decode code 774 = .ok (.invokevirtual 82, 3) := by decide +kernel
theorem dL_law_777 : decode code 777 = .ok (.aload_n 2, 1) := by decide +kernel
theorem dL_law_778 : decode code 778 = .ok (.aload_n 0, 1) := by decide +kernel
theorem dL_law_779 : decode code 779 = .ok (.iload_n 3, 1) := by decide +kernel
theorem dL_law_780 : decode code 780 = .ok (.iconst 1, 1) := by decide +kernel
theorem dL_law_781 : decode code 781 = .ok (.iadd, 1) := by decide +kernel
theorem dL_law_782 : decode code 782 = .ok (.iaload, 1) := by decide +kernel
theorem dL_law_783 : decode code 783 = .ok (.aload_n 0, 1) := by decide +kernel
theorem dL_law_784 : decode code 784 = .ok (.iload_n 3, 1) := by decide +kernel
theorem dL_law_785 : decode code 785 = .ok (.iconst 2, 1) := by decide +kernel
theorem dL_law_786 : decode code 786 = .ok (.iadd, 1) := by decide +kernel
theorem dL_law_787 : decode code 787 = .ok (.iaload, 1) := by decide +kernel
theorem dL_law_788 : decode code 788 = .ok (.invokevirtual 85, 3) := by decide +kernel
theorem dL_law_791 : decode code 791 = .ok (.if_icmp .eq 497, 3) := by decide +kernel
theorem dL_law_794 : decode code 794 = .ok (.iconst 0, 1) := by decide +kernel
theorem dL_law_795 : decode code 795 = .ok (.ireturn, 1) := by decide +kernel
theorem dL_law_796 : decode code 796 = .ok (.aload_n 1, 1) := by decide +kernel
theorem dL_law_797 : decode code 797 = .ok (.aload_n 0, 1) := by decide +kernel
theorem dL_law_798 : decode code 798 = .ok (.iload_n 3, 1) := by decide +kernel
theorem dL_law_799 : decode code 799 = .ok (.iconst 1, 1) := by decide +kernel
theorem dL_law_800 : decode code 800 = .ok (.iadd, 1) := by decide +kernel
theorem dL_law_801 : decode code 801 = .ok (.iaload, 1) := by decide +kernel
theorem dL_law_802 : decode code 802 = .ok (.aload_n 0, 1) := by decide +kernel
theorem dL_law_803 : decode code 803 = .ok (.iload_n 3, 1) := by decide +kernel
theorem dL_law_804 : decode code 804 = .ok (.iconst 2, 1) := by decide +kernel
theorem dL_law_805 : decode code 805 = .ok (.iadd, 1) := by decide +kernel
theorem dL_law_806 : decode code 806 = .ok (.iaload, 1) := by decide +kernel
theorem dL_law_807 : decode code 807 = .ok (.invokevirtual 86, 3) := by decide +kernel
theorem dL_law_810 : decode code 810 = .ok (.aload_n 2, 1) := by decide +kernel
theorem dL_law_811 : decode code 811 = .ok (.aload_n 0, 1) := by decide +kernel
theorem dL_law_812 : decode code 812 = .ok (.iload_n 3, 1) := by decide +kernel
theorem dL_law_813 : decode code 813 = .ok (.iconst 1, 1) := by decide +kernel
theorem dL_law_814 : decode code 814 = .ok (.iadd, 1) := by decide +kernel
theorem dL_law_815 : decode code 815 = .ok (.iaload, 1) := by decide +kernel
theorem dL_law_816 : decode code 816 = .ok (.aload_n 0, 1) := by decide +kernel
theorem dL_law_817 : decode code 817 = .ok (.iload_n 3, 1) := by decide +kernel
theorem dL_law_818 : decode code 818 = .ok (.iconst 2, 1) := by decide +kernel
theorem dL_law_819 : decode code 819 = .ok (.iadd, 1) := by decide +kernel
theorem dL_law_820 : decode code 820 = .ok (.iaload, 1) := by decide +kernel
theorem dL_law_821 : decode code 821 = .ok (.invokevirtual 89, 3) := by decide +kernel
theorem dL_law_824 : decode code 824 = .ok (.if_icmp .eq 464, 3) := by decide +kernel
theorem dL_law_827 : decode code 827 = .ok (.iconst 0, 1) := by decide +kernel
theorem dL_law_828 : decode code 828 = .ok (.ireturn, 1) := by decide +kernel
theorem dL_law_829 : decode code 829 = .ok (.aload_n 1, 1) := by decide +kernel
theorem dL_law_830 : decode code 830 = .ok (.aload_n 0, 1) := by decide +kernel
theorem dL_law_831 : decode code 831 = .ok (.iload_n 3, 1) := by decide +kernel
theorem dL_law_832 : decode code 832 = .ok (.iconst 1, 1) := by decide +kernel
theorem dL_law_833 : decode code 833 = .ok (.iadd, 1) := by decide +kernel
theorem dL_law_834 : decode code 834 = .ok (.iaload, 1) := by decide +kernel
theorem dL_law_835 : decode code 835 = .ok (.aload_n 0, 1) := by decide +kernel
theorem dL_law_836 : decode code 836 = .ok (.iload_n 3, 1) := by decide +kernel
theorem dL_law_837 : decode code 837 = .ok (.iconst 2, 1) := by decide +kernel
theorem dL_law_838 : decode code 838 = .ok (.iadd, 1) := by decide +kernel
theorem dL_law_839 : decode code 839 = .ok (.iaload, 1) := by decide +kernel
theorem dL_law_840 : decode code 840 = .ok (.aload_n 0, 1) := by decide +kernel
theorem dL_law_841 : decode code 841 = .ok (.iload_n 3, 1) := by decide +kernel
theorem dL_law_842 : decode code 842 = .ok (.iconst 3, 1) := by decide +kernel
theorem dL_law_843 : decode code 843 = .ok (.iadd, 1) := by decide +kernel
theorem dL_law_844 : decode code 844 = .ok (.iaload, 1) := by decide +kernel
theorem dL_law_845 : decode code 845 = .ok (.aload_n 0, 1) := by decide +kernel
theorem dL_law_846 : decode code 846 = .ok (.iload_n 3, 1) := by decide +kernel
theorem dL_law_847 : decode code 847 = .ok (.iconst 4, 1) := by decide +kernel
theorem dL_law_848 : decode code 848 = .ok (.iadd, 1) := by decide +kernel
theorem dL_law_849 : decode code 849 = .ok (.iaload, 1) := by decide +kernel
theorem dL_law_850 : decode code 850 = .ok (.invokevirtual 90, 3) := by decide +kernel
theorem dL_law_853 : decode code 853 = .ok (.aload_n 2, 1) := by decide +kernel
theorem dL_law_854 : decode code 854 = .ok (.aload_n 0, 1) := by decide +kernel
theorem dL_law_855 : decode code 855 = .ok (.iload_n 3, 1) := by decide +kernel
theorem dL_law_856 : decode code 856 = .ok (.iconst 1, 1) := by decide +kernel
theorem dL_law_857 : decode code 857 = .ok (.iadd, 1) := by decide +kernel
theorem dL_law_858 : decode code 858 = .ok (.iaload, 1) := by decide +kernel
theorem dL_law_859 : decode code 859 = .ok (.aload_n 0, 1) := by decide +kernel
theorem dL_law_860 : decode code 860 = .ok (.iload_n 3, 1) := by decide +kernel
theorem dL_law_861 : decode code 861 = .ok (.iconst 2, 1) := by decide +kernel
theorem dL_law_862 : decode code 862 = .ok (.iadd, 1) := by decide +kernel
theorem dL_law_863 : decode code 863 = .ok (.iaload, 1) := by decide +kernel
theorem dL_law_864 : decode code 864 = .ok (.aload_n 0, 1) := by decide +kernel
theorem dL_law_865 : decode code 865 = .ok (.iload_n 3, 1) := by decide +kernel
theorem dL_law_866 : decode code 866 = .ok (.iconst 3, 1) := by decide +kernel
theorem dL_law_867 : decode code 867 = .ok (.iadd, 1) := by decide +kernel
theorem dL_law_868 : decode code 868 = .ok (.iaload, 1) := by decide +kernel
theorem dL_law_869 : decode code 869 = .ok (.aload_n 0, 1) := by decide +kernel
theorem dL_law_870 : decode code 870 = .ok (.iload_n 3, 1) := by decide +kernel
theorem dL_law_871 : decode code 871 = .ok (.iconst 4, 1) := by decide +kernel
theorem dL_law_872 : decode code 872 = .ok (.iadd, 1) := by decide +kernel
theorem dL_law_873 : decode code 873 = .ok (.iaload, 1) := by decide +kernel
theorem dL_law_874 : decode code 874 = .ok (.invokevirtual 94, 3) := by decide +kernel
theorem dL_law_877 : decode code 877 = .ok (.if_icmp .eq 411, 3) := by decide +kernel
theorem dL_law_880 : decode code 880 = .ok (.iconst 0, 1) := by decide +kernel
theorem dL_law_881 : decode code 881 = .ok (.ireturn, 1) := by decide +kernel
theorem dL_law_882 : decode code 882 = .ok (.aload_n 1, 1) := by decide +kernel
theorem dL_law_883 : decode code 883 = .ok (.aload_n 0, 1) := by decide +kernel
theorem dL_law_884 : decode code 884 = .ok (.iload_n 3, 1) := by decide +kernel
theorem dL_law_885 : decode code 885 = .ok (.iconst 1, 1) := by decide +kernel
theorem dL_law_886 : decode code 886 = .ok (.iadd, 1) := by decide +kernel
theorem dL_law_887 : decode code 887 = .ok (.iaload, 1) := by decide +kernel
theorem dL_law_888 : decode code 888 = .ok (.aload_n 0, 1) := by decide +kernel
theorem dL_law_889 : decode code 889 = .ok (.iload_n 3, 1) := by decide +kernel
theorem dL_law_890 : decode code 890 = .ok (.iconst 2, 1) := by decide +kernel
theorem dL_law_891 : decode code 891 = .ok (.iadd, 1) := by decide +kernel
theorem dL_law_892 : decode code 892 = .ok (.iaload, 1) := by decide +kernel
theorem dL_law_893 : decode code 893 = .ok (.aload_n 0, 1) := by decide +kernel
theorem dL_law_894 : decode code 894 = .ok (.iload_n 3, 1) := by decide +kernel
theorem dL_law_895 : decode code 895 = .ok (.iconst 3, 1) := by decide +kernel
theorem dL_law_896 : decode code 896 = .ok (.iadd, 1) := by decide +kernel
theorem dL_law_897 : decode code 897 = .ok (.iaload, 1) := by decide +kernel
theorem dL_law_898 : decode code 898 = .ok (.invokevirtual 95, 3) := by decide +kernel
theorem dL_law_901 : decode code 901 = .ok (.aload_n 2, 1) := by decide +kernel
theorem dL_law_902 : decode code 902 = .ok (.aload_n 0, 1) := by decide +kernel
theorem dL_law_903 : decode code 903 = .ok (.iload_n 3, 1) := by decide +kernel
theorem dL_law_904 : decode code 904 = .ok (.iconst 1, 1) := by decide +kernel
theorem dL_law_905 : decode code 905 = .ok (.iadd, 1) := by decide +kernel
theorem dL_law_906 : decode code 906 = .ok (.iaload, 1) := by decide +kernel
theorem dL_law_907 : decode code 907 = .ok (.aload_n 0, 1) := by decide +kernel
theorem dL_law_908 : decode code 908 = .ok (.iload_n 3, 1) := by decide +kernel
theorem dL_law_909 : decode code 909 = .ok (.iconst 2, 1) := by decide +kernel
theorem dL_law_910 : decode code 910 = .ok (.iadd, 1) := by decide +kernel
theorem dL_law_911 : decode code 911 = .ok (.iaload, 1) := by decide +kernel
theorem dL_law_912 : decode code 912 = .ok (.aload_n 0, 1) := by decide +kernel
theorem dL_law_913 : decode code 913 = .ok (.iload_n 3, 1) := by decide +kernel
theorem dL_law_914 : decode code 914 = .ok (.iconst 3, 1) := by decide +kernel
theorem dL_law_915 : decode code 915 = .ok (.iadd, 1) := by decide +kernel
theorem dL_law_916 : decode code 916 = .ok (.iaload, 1) := by decide +kernel
theorem dL_law_917 : decode code 917 = .ok (.invokevirtual 99, 3) := by decide +kernel
theorem dL_law_920 : decode code 920 = .ok (.if_icmp .eq 368, 3) := by decide +kernel
theorem dL_law_923 : decode code 923 = .ok (.iconst 0, 1) := by decide +kernel
theorem dL_law_924 : decode code 924 = .ok (.ireturn, 1) := by decide +kernel
theorem dL_law_925 : decode code 925 = .ok (.aload_n 1, 1) := by decide +kernel
theorem dL_law_926 : decode code 926 = .ok (.aload_n 0, 1) := by decide +kernel
theorem dL_law_927 : decode code 927 = .ok (.iload_n 3, 1) := by decide +kernel
theorem dL_law_928 : decode code 928 = .ok (.iconst 1, 1) := by decide +kernel
theorem dL_law_929 : decode code 929 = .ok (.iadd, 1) := by decide +kernel
theorem dL_law_930 : decode code 930 = .ok (.iaload, 1) := by decide +kernel
theorem dL_law_931 : decode code 931 = .ok (.aload_n 0, 1) := by decide +kernel
theorem dL_law_932 : decode code 932 = .ok (.iload_n 3, 1) := by decide +kernel
theorem dL_law_933 : decode code 933 = .ok (.iconst 2, 1) := by decide +kernel
theorem dL_law_934 : decode code 934 = .ok (.iadd, 1) := by decide +kernel
theorem dL_law_935 : decode code 935 = .ok (.iaload, 1) := by decide +kernel
theorem dL_law_936 : decode code 936 = .ok (.aload_n 0, 1) := by decide +kernel
theorem dL_law_937 : decode code 937 = .ok (.iload_n 3, 1) := by decide +kernel
theorem dL_law_938 : decode code 938 = .ok (.iconst 3, 1) := by decide +kernel
theorem dL_law_939 : decode code 939 = .ok (.iadd, 1) := by decide +kernel
theorem dL_law_940 : decode code 940 = .ok (.iaload, 1) := by decide +kernel
theorem dL_law_941 : decode code 941 = .ok (.invokevirtual 100, 3) := by decide +kernel
theorem dL_law_944 : decode code 944 = .ok (.aload_n 2, 1) := by decide +kernel
theorem dL_law_945 : decode code 945 = .ok (.aload_n 0, 1) := by decide +kernel
theorem dL_law_946 : decode code 946 = .ok (.iload_n 3, 1) := by decide +kernel
theorem dL_law_947 : decode code 947 = .ok (.iconst 1, 1) := by decide +kernel
theorem dL_law_948 : decode code 948 = .ok (.iadd, 1) := by decide +kernel
theorem dL_law_949 : decode code 949 = .ok (.iaload, 1) := by decide +kernel
theorem dL_law_950 : decode code 950 = .ok (.aload_n 0, 1) := by decide +kernel
theorem dL_law_951 : decode code 951 = .ok (.iload_n 3, 1) := by decide +kernel
theorem dL_law_952 : decode code 952 = .ok (.iconst 2, 1) := by decide +kernel
theorem dL_law_953 : decode code 953 = .ok (.iadd, 1) := by decide +kernel
theorem dL_law_954 : decode code 954 = .ok (.iaload, 1) := by decide +kernel
theorem dL_law_955 : decode code 955 = .ok (.aload_n 0, 1) := by decide +kernel
theorem dL_law_956 : decode code 956 = .ok (.iload_n 3, 1) := by decide +kernel
theorem dL_law_957 : decode code 957 = .ok (.iconst 3, 1) := by decide +kernel
theorem dL_law_958 : decode code 958 = .ok (.iadd, 1) := by decide +kernel
theorem dL_law_959 : decode code 959 = .ok (.iaload, 1) := by decide +kernel
theorem dL_law_960 : decode code 960 = .ok (.invokevirtual 103, 3) := by decide +kernel
theorem dL_law_963 : decode code 963 = .ok (.if_icmp .eq 325, 3) := by decide +kernel
theorem dL_law_966 : decode code 966 = .ok (.iconst 0, 1) := by decide +kernel
theorem dL_law_967 : decode code 967 = .ok (.ireturn, 1) := by decide +kernel
theorem dL_law_968 : decode code 968 = .ok (.aload_n 1, 1) := by decide +kernel
theorem dL_law_969 : decode code 969 = .ok (.aload_n 0, 1) := by decide +kernel
theorem dL_law_970 : decode code 970 = .ok (.iload_n 3, 1) := by decide +kernel
theorem dL_law_971 : decode code 971 = .ok (.iconst 1, 1) := by decide +kernel
theorem dL_law_972 : decode code 972 = .ok (.iadd, 1) := by decide +kernel
theorem dL_law_973 : decode code 973 = .ok (.iaload, 1) := by decide +kernel
theorem dL_law_974 : decode code 974 = .ok (.aload_n 0, 1) := by decide +kernel
theorem dL_law_975 : decode code 975 = .ok (.iload_n 3, 1) := by decide +kernel
theorem dL_law_976 : decode code 976 = .ok (.iconst 2, 1) := by decide +kernel
theorem dL_law_977 : decode code 977 = .ok (.iadd, 1) := by decide +kernel
theorem dL_law_978 : decode code 978 = .ok (.iaload, 1) := by decide +kernel
theorem dL_law_979 : decode code 979 = .ok (.aload_n 0, 1) := by decide +kernel
theorem dL_law_980 : decode code 980 = .ok (.iload_n 3, 1) := by decide +kernel
theorem dL_law_981 : decode code 981 = .ok (.iconst 3, 1) := by decide +kernel
theorem dL_law_982 : decode code 982 = .ok (.iadd, 1) := by decide +kernel
theorem dL_law_983 : decode code 983 = .ok (.iaload, 1) := by decide +kernel
theorem dL_law_984 : decode code 984 = .ok (.invokevirtual 104, 3) := by decide +kernel
theorem dL_law_987 : decode code 987 = .ok (.aload_n 2, 1) := by decide +kernel
theorem dL_law_988 : decode code 988 = .ok (.aload_n 0, 1) := by decide +kernel
theorem dL_law_989 : decode code 989 = .ok (.iload_n 3, 1) := by decide +kernel
theorem dL_law_990 : decode code 990 = .ok (.iconst 1, 1) := by decide +kernel
theorem dL_law_991 : decode code 991 = .ok (.iadd, 1) := by decide +kernel
theorem dL_law_992 : decode code 992 = .ok (.iaload, 1) := by decide +kernel
theorem dL_law_993 : decode code 993 = .ok (.aload_n 0, 1) := by decide +kernel
theorem dL_law_994 : decode code 994 = .ok (.iload_n 3, 1) := by decide +kernel
theorem dL_law_995 : decode code 995 = .ok (.iconst 2, 1) := by decide +kernel
theorem dL_law_996 : decode code 996 = .ok (.iadd, 1) := by decide +kernel
theorem dL_law_997 : decode code 997 = .ok (.iaload, 1) := by decide +kernel
theorem dL_law_998 : decode code 998 = .ok (.aload_n 0, 1) := by decide +kernel
theorem dL_law_999 : decode code 999 = .ok (.iload_n 3, 1) := by decide +kernel
theorem dL_law_1000 : decode code 1000 = .ok (.iconst 3, 1) := by decide +kernel
theorem dL_law_1001 : decode code 1001 = .ok (.iadd, 1) := by decide +kernel
theorem dL_law_1002 : decode code 1002 = .ok (.iaload, 1) := by decide +kernel
theorem dL_law_1003 : decode code 1003 = .ok (.invokevirtual 107, 3) := by decide +kernel
theorem dL_law_1006 : decode code 1006 = .ok (.if_icmp .eq 282, 3) := by decide +kernel
theorem dL_law_1009 : decode code 1009 = .ok (.iconst 0, 1) := by decide +kernel
theorem dL_law_1010 : decode code 1010 = .ok (.ireturn, 1) := by decide +kernel
theorem dL_law_1011 : decode code 1011 = .ok (.aload_n 1, 1) := by decide +kernel
theorem dL_law_1012 : decode code 1012 = .ok (.aload_n 0, 1) := by decide +kernel
theorem dL_law_1013 : decode code 1013 = .ok (.iload_n 3, 1) := by decide +kernel
theorem dL_law_1014 : decode code 1014 = .ok (.iconst 1, 1) := by decide +kernel
theorem dL_law_1015 : decode code 1015 = .ok (.iadd, 1) := by decide +kernel
theorem dL_law_1016 : decode code 1016 = .ok (.iaload, 1) := by decide +kernel
theorem dL_law_1017 : decode code 1017 = .ok (.aload_n 0, 1) := by decide +kernel
theorem dL_law_1018 : decode code 1018 = .ok (.iload_n 3, 1) := by decide +kernel
theorem dL_law_1019 : decode code 1019 = .ok (.iconst 2, 1) := by decide +kernel
theorem dL_law_1020 : decode code 1020 = .ok (.iadd, 1) := by decide +kernel
theorem dL_law_1021 : decode code 1021 = .ok (.iaload, 1) := by decide +kernel
theorem dL_law_1022 : decode code 1022 = .ok (.aload_n 0, 1) := by decide +kernel
theorem dL_law_1023 : decode code 1023 = .ok (.iload_n 3, 1) := by decide +kernel
theorem dL_law_1024 : decode code 1024 = .ok (.iconst 3, 1) := by decide +kernel
theorem dL_law_1025 : decode code 1025 = .ok (.iadd, 1) := by decide +kernel
theorem dL_law_1026 : decode code 1026 = .ok (.iaload, 1) := by decide +kernel
theorem dL_law_1027 : decode code 1027 = .ok (.invokevirtual 108, 3) := by decide +kernel
theorem dL_law_1030 : decode code 1030 = .ok (.aload_n 2, 1) := by decide +kernel
theorem dL_law_1031 : decode code 1031 = .ok (.aload_n 0, 1) := by decide +kernel
theorem dL_law_1032 : decode code 1032 = .ok (.iload_n 3, 1) := by decide +kernel
theorem dL_law_1033 : decode code 1033 = .ok (.iconst 1, 1) := by decide +kernel
theorem dL_law_1034 : decode code 1034 = .ok (.iadd, 1) := by decide +kernel
theorem dL_law_1035 : decode code 1035 = .ok (.iaload, 1) := by decide +kernel
theorem dL_law_1036 : decode code 1036 = .ok (.aload_n 0, 1) := by decide +kernel
theorem dL_law_1037 : decode code 1037 = .ok (.iload_n 3, 1) := by decide +kernel
theorem dL_law_1038 : decode code 1038 = .ok (.iconst 2, 1) := by decide +kernel
theorem dL_law_1039 : decode code 1039 = .ok (.iadd, 1) := by decide +kernel
theorem dL_law_1040 : decode code 1040 = .ok (.iaload, 1) := by decide +kernel
theorem dL_law_1041 : decode code 1041 = .ok (.aload_n 0, 1) := by decide +kernel
theorem dL_law_1042 : decode code 1042 = .ok (.iload_n 3, 1) := by decide +kernel
theorem dL_law_1043 : decode code 1043 = .ok (.iconst 3, 1) := by decide +kernel
theorem dL_law_1044 : decode code 1044 = .ok (.iadd, 1) := by decide +kernel
theorem dL_law_1045 : decode code 1045 = .ok (.iaload, 1) := by decide +kernel
theorem dL_law_1046 : decode code 1046 = .ok (.invokevirtual 111, 3) := by decide +kernel
theorem dL_law_1049 : decode code 1049 = .ok (.if_icmp .eq 239, 3) := by decide +kernel
theorem dL_law_1052 : decode code 1052 = .ok (.iconst 0, 1) := by decide +kernel
theorem dL_law_1053 : decode code 1053 = .ok (.ireturn, 1) := by decide +kernel
theorem dL_law_1054 : decode code 1054 = .ok (.aload_n 1, 1) := by decide +kernel
theorem dL_law_1055 : decode code 1055 = .ok (.aload_n 0, 1) := by decide +kernel
theorem dL_law_1056 : decode code 1056 = .ok (.iload_n 3, 1) := by decide +kernel
theorem dL_law_1057 : decode code 1057 = .ok (.iconst 1, 1) := by decide +kernel
theorem dL_law_1058 : decode code 1058 = .ok (.iadd, 1) := by decide +kernel
theorem dL_law_1059 : decode code 1059 = .ok (.iaload, 1) := by decide +kernel
theorem dL_law_1060 : decode code 1060 = .ok (.aload_n 0, 1) := by decide +kernel
theorem dL_law_1061 : decode code 1061 = .ok (.iload_n 3, 1) := by decide +kernel
theorem dL_law_1062 : decode code 1062 = .ok (.iconst 2, 1) := by decide +kernel
theorem dL_law_1063 : decode code 1063 = .ok (.iadd, 1) := by decide +kernel
theorem dL_law_1064 : decode code 1064 = .ok (.iaload, 1) := by decide +kernel
theorem dL_law_1065 : decode code 1065 = .ok (.invokevirtual 112, 3) := by decide +kernel
theorem dL_law_1068 : decode code 1068 = .ok (.aload_n 2, 1) := by decide +kernel
theorem dL_law_1069 : decode code 1069 = .ok (.aload_n 0, 1) := by decide +kernel
theorem dL_law_1070 : decode code 1070 = .ok (.iload_n 3, 1) := by decide +kernel
theorem dL_law_1071 : decode code 1071 = .ok (.iconst 1, 1) := by decide +kernel
theorem dL_law_1072 : decode code 1072 = .ok (.iadd, 1) := by decide +kernel
theorem dL_law_1073 : decode code 1073 = .ok (.iaload, 1) := by decide +kernel
theorem dL_law_1074 : decode code 1074 = .ok (.aload_n 0, 1) := by decide +kernel
theorem dL_law_1075 : decode code 1075 = .ok (.iload_n 3, 1) := by decide +kernel
theorem dL_law_1076 : decode code 1076 = .ok (.iconst 2, 1) := by decide +kernel
theorem dL_law_1077 : decode code 1077 = .ok (.iadd, 1) := by decide +kernel
theorem dL_law_1078 : decode code 1078 = .ok (.iaload, 1) := by decide +kernel
theorem dL_law_1079 : decode code 1079 = .ok (.invokevirtual 115, 3) := by decide +kernel
theorem dL_law_1082 : decode code 1082 = .ok (.if_icmp .eq 206, 3) := by decide +kernel
theorem dL_law_1085 : decode code 1085 = .ok (.iconst 0, 1) := by decide +kernel
theorem dL_law_1086 : decode code 1086 = .ok (.ireturn, 1) := by decide +kernel
theorem dL_law_1087 : decode code 1087 = .ok (.aload_n 1, 1) := by decide +kernel
theorem dL_law_1088 : decode code 1088 = .ok (.aload_n 0, 1) := by decide +kernel
theorem dL_law_1089 : decode code 1089 = .ok (.iload_n 3, 1) := by decide +kernel
theorem dL_law_1090 : decode code 1090 = .ok (.iconst 1, 1) := by decide +kernel
theorem dL_law_1091 : decode code 1091 = .ok (.iadd, 1) := by decide +kernel
theorem dL_law_1092 : decode code 1092 = .ok (.iaload, 1) := by decide +kernel
theorem dL_law_1093 : decode code 1093 = .ok (.aload_n 0, 1) := by decide +kernel
theorem dL_law_1094 : decode code 1094 = .ok (.iload_n 3, 1) := by decide +kernel
theorem dL_law_1095 : decode code 1095 = .ok (.iconst 2, 1) := by decide +kernel
theorem dL_law_1096 : decode code 1096 = .ok (.iadd, 1) := by decide +kernel
theorem dL_law_1097 : decode code 1097 = .ok (.iaload, 1) := by decide +kernel
theorem dL_law_1098 : decode code 1098 = .ok (.invokevirtual 116, 3) := by decide +kernel
theorem dL_law_1101 : decode code 1101 = .ok (.aload_n 2, 1) := by decide +kernel
theorem dL_law_1102 : decode code 1102 = .ok (.aload_n 0, 1) := by decide +kernel
theorem dL_law_1103 : decode code 1103 = .ok (.iload_n 3, 1) := by decide +kernel
theorem dL_law_1104 : decode code 1104 = .ok (.iconst 1, 1) := by decide +kernel
theorem dL_law_1105 : decode code 1105 = .ok (.iadd, 1) := by decide +kernel
theorem dL_law_1106 : decode code 1106 = .ok (.iaload, 1) := by decide +kernel
theorem dL_law_1107 : decode code 1107 = .ok (.aload_n 0, 1) := by decide +kernel
theorem dL_law_1108 : decode code 1108 = .ok (.iload_n 3, 1) := by decide +kernel
theorem dL_law_1109 : decode code 1109 = .ok (.iconst 2, 1) := by decide +kernel
theorem dL_law_1110 : decode code 1110 = .ok (.iadd, 1) := by decide +kernel
theorem dL_law_1111 : decode code 1111 = .ok (.iaload, 1) := by decide +kernel
theorem dL_law_1112 : decode code 1112 = .ok (.invokevirtual 119, 3) := by decide +kernel
theorem dL_law_1115 : decode code 1115 = .ok (.if_icmp .eq 173, 3) := by decide +kernel
theorem dL_law_1118 : decode code 1118 = .ok (.iconst 0, 1) := by decide +kernel
theorem dL_law_1119 : decode code 1119 = .ok (.ireturn, 1) := by decide +kernel
theorem dL_law_1120 : decode code 1120 = .ok (.aload_n 1, 1) := by decide +kernel
theorem dL_law_1121 : decode code 1121 = .ok (.aload_n 0, 1) := by decide +kernel
theorem dL_law_1122 : decode code 1122 = .ok (.iload_n 3, 1) := by decide +kernel
theorem dL_law_1123 : decode code 1123 = .ok (.iconst 1, 1) := by decide +kernel
theorem dL_law_1124 : decode code 1124 = .ok (.iadd, 1) := by decide +kernel
theorem dL_law_1125 : decode code 1125 = .ok (.iaload, 1) := by decide +kernel
theorem dL_law_1126 : decode code 1126 = .ok (.aload_n 0, 1) := by decide +kernel
theorem dL_law_1127 : decode code 1127 = .ok (.iload_n 3, 1) := by decide +kernel
theorem dL_law_1128 : decode code 1128 = .ok (.iconst 2, 1) := by decide +kernel
theorem dL_law_1129 : decode code 1129 = .ok (.iadd, 1) := by decide +kernel
theorem dL_law_1130 : decode code 1130 = .ok (.iaload, 1) := by decide +kernel
theorem dL_law_1131 : decode code 1131 = .ok (.aload_n 0, 1) := by decide +kernel
theorem dL_law_1132 : decode code 1132 = .ok (.iload_n 3, 1) := by decide +kernel
theorem dL_law_1133 : decode code 1133 = .ok (.iconst 3, 1) := by decide +kernel
theorem dL_law_1134 : decode code 1134 = .ok (.iadd, 1) := by decide +kernel
theorem dL_law_1135 : decode code 1135 = .ok (.iaload, 1) := by decide +kernel
theorem dL_law_1136 : decode code 1136 = .ok (.aload_n 0, 1) := by decide +kernel
theorem dL_law_1137 : decode code 1137 = .ok (.iload_n 3, 1) := by decide +kernel
theorem dL_law_1138 : decode code 1138 = .ok (.iconst 4, 1) := by decide +kernel
theorem dL_law_1139 : decode code 1139 = .ok (.iadd, 1) := by decide +kernel
theorem dL_law_1140 : decode code 1140 = .ok (.iaload, 1) := by decide +kernel
theorem dL_law_1141 : decode code 1141 = .ok (.ifCond .eq 7, 3) := by decide +kernel
theorem dL_law_1144 : decode code 1144 = .ok (.iconst 1, 1) := by decide +kernel
theorem dL_law_1145 : decode code 1145 = .ok (.goto 4, 3) := by decide +kernel
theorem dL_law_1148 : decode code 1148 = .ok (.iconst 0, 1) := by decide +kernel
theorem dL_law_1149 : decode code 1149 = .ok (.invokevirtual 120, 3) := by decide +kernel
theorem dL_law_1152 : decode code 1152 = .ok (.aload_n 2, 1) := by decide +kernel
theorem dL_law_1153 : decode code 1153 = .ok (.aload_n 0, 1) := by decide +kernel
theorem dL_law_1154 : decode code 1154 = .ok (.iload_n 3, 1) := by decide +kernel
theorem dL_law_1155 : decode code 1155 = .ok (.iconst 1, 1) := by decide +kernel
theorem dL_law_1156 : decode code 1156 = .ok (.iadd, 1) := by decide +kernel
theorem dL_law_1157 : decode code 1157 = .ok (.iaload, 1) := by decide +kernel
theorem dL_law_1158 : decode code 1158 = .ok (.aload_n 0, 1) := by decide +kernel
theorem dL_law_1159 : decode code 1159 = .ok (.iload_n 3, 1) := by decide +kernel
theorem dL_law_1160 : decode code 1160 = .ok (.iconst 2, 1) := by decide +kernel
theorem dL_law_1161 : decode code 1161 = .ok (.iadd, 1) := by decide +kernel
theorem dL_law_1162 : decode code 1162 = .ok (.iaload, 1) := by decide +kernel
theorem dL_law_1163 : decode code 1163 = .ok (.aload_n 0, 1) := by decide +kernel
theorem dL_law_1164 : decode code 1164 = .ok (.iload_n 3, 1) := by decide +kernel
theorem dL_law_1165 : decode code 1165 = .ok (.iconst 3, 1) := by decide +kernel
theorem dL_law_1166 : decode code 1166 = .ok (.iadd, 1) := by decide +kernel
theorem dL_law_1167 : decode code 1167 = .ok (.iaload, 1) := by decide +kernel
theorem dL_law_1168 : decode code 1168 = .ok (.aload_n 0, 1) := by decide +kernel
theorem dL_law_1169 : decode code 1169 = .ok (.iload_n 3, 1) := by decide +kernel
theorem dL_law_1170 : decode code 1170 = .ok (.iconst 4, 1) := by decide +kernel
theorem dL_law_1171 : decode code 1171 = .ok (.iadd, 1) := by decide +kernel
theorem dL_law_1172 : decode code 1172 = .ok (.iaload, 1) := by decide +kernel
theorem dL_law_1173 : decode code 1173 = .ok (.ifCond .eq 7, 3) := by decide +kernel
theorem dL_law_1176 : decode code 1176 = .ok (.iconst 1, 1) := by decide +kernel
theorem dL_law_1177 : decode code 1177 = .ok (.goto 4, 3) := by decide +kernel
theorem dL_law_1180 : decode code 1180 = .ok (.iconst 0, 1) := by decide +kernel
theorem dL_law_1181 : decode code 1181 = .ok (.invokevirtual 124, 3) := by decide +kernel
theorem dL_law_1184 : decode code 1184 = .ok (.if_icmp .eq 104, 3) := by decide +kernel
theorem dL_law_1187 : decode code 1187 = .ok (.iconst 0, 1) := by decide +kernel
theorem dL_law_1188 : decode code 1188 = .ok (.ireturn, 1) := by decide +kernel
theorem dL_law_1189 : decode code 1189 = .ok (.aload_n 1, 1) := by decide +kernel
theorem dL_law_1190 : decode code 1190 = .ok (.aload_n 0, 1) := by decide +kernel
theorem dL_law_1191 : decode code 1191 = .ok (.iload_n 3, 1) := by decide +kernel
theorem dL_law_1192 : decode code 1192 = .ok (.iconst 1, 1) := by decide +kernel
theorem dL_law_1193 : decode code 1193 = .ok (.iadd, 1) := by decide +kernel
theorem dL_law_1194 : decode code 1194 = .ok (.iaload, 1) := by decide +kernel
theorem dL_law_1195 : decode code 1195 = .ok (.aload_n 0, 1) := by decide +kernel
theorem dL_law_1196 : decode code 1196 = .ok (.iload_n 3, 1) := by decide +kernel
theorem dL_law_1197 : decode code 1197 = .ok (.iconst 2, 1) := by decide +kernel
theorem dL_law_1198 : decode code 1198 = .ok (.iadd, 1) := by decide +kernel
theorem dL_law_1199 : decode code 1199 = .ok (.iaload, 1) := by decide +kernel
theorem dL_law_1200 : decode code 1200 = .ok (.aload_n 0, 1) := by decide +kernel
theorem dL_law_1201 : decode code 1201 = .ok (.iload_n 3, 1) := by decide +kernel
theorem dL_law_1202 : decode code 1202 = .ok (.iconst 3, 1) := by decide +kernel
theorem dL_law_1203 : decode code 1203 = .ok (.iadd, 1) := by decide +kernel
theorem dL_law_1204 : decode code 1204 = .ok (.iaload, 1) := by decide +kernel
theorem dL_law_1205 : decode code 1205 = .ok (.invokevirtual 125, 3) := by decide +kernel
theorem dL_law_1208 : decode code 1208 = .ok (.aload_n 2, 1) := by decide +kernel
theorem dL_law_1209 : decode code 1209 = .ok (.aload_n 0, 1) := by decide +kernel
theorem dL_law_1210 : decode code 1210 = .ok (.iload_n 3, 1) := by decide +kernel
theorem dL_law_1211 : decode code 1211 = .ok (.iconst 1, 1) := by decide +kernel
theorem dL_law_1212 : decode code 1212 = .ok (.iadd, 1) := by decide +kernel
theorem dL_law_1213 : decode code 1213 = .ok (.iaload, 1) := by decide +kernel
theorem dL_law_1214 : decode code 1214 = .ok (.aload_n 0, 1) := by decide +kernel
theorem dL_law_1215 : decode code 1215 = .ok (.iload_n 3, 1) := by decide +kernel
theorem dL_law_1216 : decode code 1216 = .ok (.iconst 2, 1) := by decide +kernel
theorem dL_law_1217 : decode code 1217 = .ok (.iadd, 1) := by decide +kernel
theorem dL_law_1218 : decode code 1218 = .ok (.iaload, 1) := by decide +kernel
theorem dL_law_1219 : decode code 1219 = .ok (.aload_n 0, 1) := by decide +kernel
theorem dL_law_1220 : decode code 1220 = .ok (.iload_n 3, 1) := by decide +kernel
theorem dL_law_1221 : decode code 1221 = .ok (.iconst 3, 1) := by decide +kernel
theorem dL_law_1222 : decode code 1222 = .ok (.iadd, 1) := by decide +kernel
theorem dL_law_1223 : decode code 1223 = .ok (.iaload, 1) := by decide +kernel
theorem dL_law_1224 : decode code 1224 = .ok (.invokevirtual 128, 3) := by decide +kernel
theorem dL_law_1227 : decode code 1227 = .ok (.if_icmp .eq 61, 3) := by decide +kernel
theorem dL_law_1230 : decode code 1230 = .ok (.iconst 0, 1) := by decide +kernel
theorem dL_law_1231 : decode code 1231 = .ok (.ireturn, 1) := by decide +kernel
theorem dL_law_1232 : decode code 1232 = .ok (.aload_n 1, 1) := by decide +kernel
theorem dL_law_1233 : decode code 1233 = .ok (.aload_n 0, 1) := by decide +kernel
theorem dL_law_1234 : decode code 1234 = .ok (.iload_n 3, 1) := by decide +kernel
theorem dL_law_1235 : decode code 1235 = .ok (.iconst 1, 1) := by decide +kernel
theorem dL_law_1236 : decode code 1236 = .ok (.iadd, 1) := by decide +kernel
theorem dL_law_1237 : decode code 1237 = .ok (.iaload, 1) := by decide +kernel
theorem dL_law_1238 : decode code 1238 = .ok (.aload_n 0, 1) := by decide +kernel
theorem dL_law_1239 : decode code 1239 = .ok (.iload_n 3, 1) := by decide +kernel
theorem dL_law_1240 : decode code 1240 = .ok (.iconst 2, 1) := by decide +kernel
theorem dL_law_1241 : decode code 1241 = .ok (.iadd, 1) := by decide +kernel
theorem dL_law_1242 : decode code 1242 = .ok (.iaload, 1) := by decide +kernel
theorem dL_law_1243 : decode code 1243 = .ok (.invokevirtual 129, 3) := by decide +kernel
theorem dL_law_1246 : decode code 1246 = .ok (.aload_n 2, 1) := by decide +kernel
theorem dL_law_1247 : decode code 1247 = .ok (.aload_n 0, 1) := by decide +kernel
theorem dL_law_1248 : decode code 1248 = .ok (.iload_n 3, 1) := by decide +kernel
theorem dL_law_1249 : decode code 1249 = .ok (.iconst 1, 1) := by decide +kernel
theorem dL_law_1250 : decode code 1250 = .ok (.iadd, 1) := by decide +kernel
theorem dL_law_1251 : decode code 1251 = .ok (.iaload, 1) := by decide +kernel
theorem dL_law_1252 : decode code 1252 = .ok (.aload_n 0, 1) := by decide +kernel
theorem dL_law_1253 : decode code 1253 = .ok (.iload_n 3, 1) := by decide +kernel
theorem dL_law_1254 : decode code 1254 = .ok (.iconst 2, 1) := by decide +kernel
theorem dL_law_1255 : decode code 1255 = .ok (.iadd, 1) := by decide +kernel
theorem dL_law_1256 : decode code 1256 = .ok (.iaload, 1) := by decide +kernel
theorem dL_law_1257 : decode code 1257 = .ok (.invokevirtual 132, 3) := by decide +kernel
theorem dL_law_1260 : decode code 1260 = .ok (.if_icmp .eq 28, 3) := by decide +kernel
theorem dL_law_1263 : decode code 1263 = .ok (.iconst 0, 1) := by decide +kernel
theorem dL_law_1264 : decode code 1264 = .ok (.ireturn, 1) := by decide +kernel
theorem dL_law_1265 : decode code 1265 = .ok (.aload_n 1, 1) := by decide +kernel
theorem dL_law_1266 : decode code 1266 = .ok (.aload_n 0, 1) := by decide +kernel
theorem dL_law_1267 : decode code 1267 = .ok (.iload_n 3, 1) := by decide +kernel
theorem dL_law_1268 : decode code 1268 = .ok (.iconst 1, 1) := by decide +kernel
theorem dL_law_1269 : decode code 1269 = .ok (.iadd, 1) := by decide +kernel
theorem dL_law_1270 : decode code 1270 = .ok (.iaload, 1) := by decide +kernel
theorem dL_law_1271 : decode code 1271 = .ok (.invokevirtual 133, 3) := by decide +kernel
theorem dL_law_1274 : decode code 1274 = .ok (.aload_n 2, 1) := by decide +kernel
theorem dL_law_1275 : decode code 1275 = .ok (.aload_n 0, 1) := by decide +kernel
theorem dL_law_1276 : decode code 1276 = .ok (.iload_n 3, 1) := by decide +kernel
theorem dL_law_1277 : decode code 1277 = .ok (.iconst 1, 1) := by decide +kernel
theorem dL_law_1278 : decode code 1278 = .ok (.iadd, 1) := by decide +kernel
theorem dL_law_1279 : decode code 1279 = .ok (.iaload, 1) := by decide +kernel
theorem dL_law_1280 : decode code 1280 = .ok (.invokevirtual 136, 3) := by decide +kernel
theorem dL_law_1283 : decode code 1283 = .ok (.if_icmp .eq 5, 3) := by decide +kernel
theorem dL_law_1286 : decode code 1286 = .ok (.iconst 0, 1) := by decide +kernel
theorem dL_law_1287 : decode code 1287 = .ok (.ireturn, 1) := by decide +kernel
theorem dL_law_1288 : decode code 1288 = .ok (.iinc 3 6, 3) := by decide +kernel
theorem dL_law_1291 : decode code 1291 = .ok (.goto (-1273), 3) := by decide +kernel
theorem dL_law_1294 : decode code 1294 = .ok (.iconst 1, 1) := by decide +kernel
theorem dL_law_1295 : decode code 1295 = .ok (.ireturn, 1) := by decide +kernel
def zLaw (b L : Nat) (xs : Nat → Int32) : pZt := (fun s q => s.heap.size ≤ q, fun s args => args = #[.ref b] ∧ va_X b L xs s s.heap ∧ b < s.heap.size, fun s args below => lw_Z below args s)
section LW
variable {E : pEv} {b L : Nat} {xs : Nat → Int32} {pc : Nat} {lv : List (Nat × Value)} {st : List Value} {m : pMem}
theorem g_sld {i : Int32} (hd : decode code pc = .ok (.iaload, 1)) (hi : ¬ oob i L) (h : gG E kL_law (zLaw b L xs) (pc + 1) lv (.int (xs i.toNatClampNeg) :: st) m) : gG E kL_law (zLaw b L xs) pc lv (.int i :: .ref b :: st) m := by
  intro p e s mm args below meth c H locs ls C hl hP hS
  obtain ⟨-, hX, hb⟩ := C.2.2.2.2.2.2.2.2.2.2.2
  exact va_sld C.1 C.2.1 hX hb (Nat.not_le.mpr hb) hS hi hd (h p e s mm args below meth c H locs ls C hl hP hS)
theorem g_sln (hd : decode code pc = .ok (.arraylength, 1)) (h : gG E kL_law (zLaw b L xs) (pc + 1) lv (.int (Int32.ofNat L) :: st) m) : gG E kL_law (zLaw b L xs) pc lv (.ref b :: st) m := by
  intro p e s mm args below meth c H locs ls C hl hP hS
  obtain ⟨-, hX, hb⟩ := C.2.2.2.2.2.2.2.2.2.2.2
  exact va_slen C.1 C.2.1 hX hb (Nat.not_le.mpr hb) hS hd (h p e s mm args below meth c H locs ls C hl hP hS)
theorem g_lret (hd : decode code pc = .ok (.ireturn, 1)) : gG E kL_law (zLaw b L xs) pc lv [.int 1] m := by
  intro p e s mm args below meth c H locs ls C hl hP hS
  obtain ⟨rfl, -, -⟩ := C.2.2.2.2.2.2.2.2.2.2.2
  refine va_forget (fun q hq => hS.2.2 q hq) ?_
  refine W.widen (k := 600000) (n := 7302250) (Nat.le_of_ble_eq_true rfl) (Nat.le_of_ble_eq_true rfl) ?_
  exact lw_ret C.1 C.2.1 C.2.2.2.2.2.1 C.2.2.2.2.2.2.1 hd
end LW
theorem kB_31 : (Int8.ofInt 31).toInt32 = 31 := by decide
theorem kI_6 : Int32.ofInt 6 = 6 := by decide
/-- nothing answers otherwise: the law as a function -/
def sL_law_b1288 (L : Nat) (xs : Nat → Int32) (k18 : Int32 → pMem → gO) (l3 : Int32) (m : pMem) : gO :=
  k18 (l3 + 6) m
def sL_law_b1181 (L : Nat) (xs : Nat → Int32) (k18 : Int32 → pMem → gO) (l3 : Int32) (t0 : Int32) (t1 : Int32) (t2 : Int32) (t3 : Int32) (t5 : Int32) (m : pMem) : gO :=
  cbE (sX9_without t3 t2 t1 t0 m) fun r344 m346 =>
  if t5 = r344 then
    sL_law_b1288 L xs k18 l3 m346
  else
    some (0, m346)
def sL_law_b1149 (L : Nat) (xs : Nat → Int32) (k18 : Int32 → pMem → gO) (l3 : Int32) (t0 : Int32) (t1 : Int32) (t2 : Int32) (t3 : Int32) (m : pMem) : gO :=
  cbE (sX8_without t3 t2 t1 t0 m) fun r323 m325 =>
  if oob (l3 + (1 : Int32)) L then none else
  if oob (l3 + (2 : Int32)) L then none else
  if oob (l3 + (3 : Int32)) L then none else
  if oob (l3 + (4 : Int32)) L then none else
  if (xs (l3 + (4 : Int32)).toNatClampNeg) = 0 then
    sL_law_b1181 L xs k18 l3 0 (xs (l3 + (3 : Int32)).toNatClampNeg) (xs (l3 + (2 : Int32)).toNatClampNeg) (xs (l3 + (1 : Int32)).toNatClampNeg) r323 m325
  else
    sL_law_b1181 L xs k18 l3 1 (xs (l3 + (3 : Int32)).toNatClampNeg) (xs (l3 + (2 : Int32)).toNatClampNeg) (xs (l3 + (1 : Int32)).toNatClampNeg) r323 m325
def sL_law_b750 (L : Nat) (xs : Nat → Int32) (k18 : Int32 → pMem → gO) (l3 : Int32) (t0 : Int32) (t1 : Int32) (t2 : Int32) (t4 : Int32) (m : pMem) : gO :=
  if oob (l3 + (4 : Int32)) L then none else
  cbE (sX9_voice t2 t1 t0 (xs (l3 + (4 : Int32)).toNatClampNeg) m) fun r340 m342 =>
  if t4 = r340 then
    sL_law_b1288 L xs k18 l3 m342
  else
    some (0, m342)
def sL_law_b718 (L : Nat) (xs : Nat → Int32) (k18 : Int32 → pMem → gO) (l3 : Int32) (t0 : Int32) (t1 : Int32) (t2 : Int32) (m : pMem) : gO :=
  if oob (l3 + (4 : Int32)) L then none else
  cbE (sX8_voice t2 t1 t0 (xs (l3 + (4 : Int32)).toNatClampNeg) m) fun r316 m318 =>
  if oob (l3 + (1 : Int32)) L then none else
  if oob (l3 + (2 : Int32)) L then none else
  if oob (l3 + (3 : Int32)) L then none else
  if (xs (l3 + (3 : Int32)).toNatClampNeg) = 0 then
    sL_law_b750 L xs k18 l3 0 (xs (l3 + (2 : Int32)).toNatClampNeg) (xs (l3 + (1 : Int32)).toNatClampNeg) r316 m318
  else
    sL_law_b750 L xs k18 l3 1 (xs (l3 + (2 : Int32)).toNatClampNeg) (xs (l3 + (1 : Int32)).toNatClampNeg) r316 m318
def sL_law_b681 (L : Nat) (xs : Nat → Int32) (k18 : Int32 → pMem → gO) (l3 : Int32) (t0 : Int32) (t1 : Int32) (t2 : Int32) (t3 : Int32) (t5 : Int32) (m : pMem) : gO :=
  if oob (l3 + (5 : Int32)) L then none else
  cbE (sX9_word t3 t2 t1 t0 (xs (l3 + (5 : Int32)).toNatClampNeg) m) fun r351 m353 =>
  if t5 = r351 then
    sL_law_b1288 L xs k18 l3 m353
  else
    some (0, m353)
def sL_law_b668 (L : Nat) (xs : Nat → Int32) (k18 : Int32 → pMem → gO) (l3 : Int32) (t0 : Int32) (t1 : Int32) (t2 : Int32) (t4 : Int32) (m : pMem) : gO :=
  if oob (l3 + (4 : Int32)) L then none else
  if (xs (l3 + (4 : Int32)).toNatClampNeg) = 0 then
    sL_law_b681 L xs k18 l3 0 t0 t1 t2 t4 m
  else
    sL_law_b681 L xs k18 l3 1 t0 t1 t2 t4 m
def sL_law_b636 (L : Nat) (xs : Nat → Int32) (k18 : Int32 → pMem → gO) (l3 : Int32) (t0 : Int32) (t1 : Int32) (t2 : Int32) (t3 : Int32) (m : pMem) : gO :=
  if oob (l3 + (5 : Int32)) L then none else
  cbE (sX8_word t3 t2 t1 t0 (xs (l3 + (5 : Int32)).toNatClampNeg) m) fun r332 m334 =>
  if oob (l3 + (1 : Int32)) L then none else
  if oob (l3 + (2 : Int32)) L then none else
  if oob (l3 + (3 : Int32)) L then none else
  if (xs (l3 + (3 : Int32)).toNatClampNeg) = 0 then
    sL_law_b668 L xs k18 l3 0 (xs (l3 + (2 : Int32)).toNatClampNeg) (xs (l3 + (1 : Int32)).toNatClampNeg) r332 m334
  else
    sL_law_b668 L xs k18 l3 1 (xs (l3 + (2 : Int32)).toNatClampNeg) (xs (l3 + (1 : Int32)).toNatClampNeg) r332 m334
def sL_law_b623 (L : Nat) (xs : Nat → Int32) (k18 : Int32 → pMem → gO) (l3 : Int32) (t0 : Int32) (t1 : Int32) (t2 : Int32) (m : pMem) : gO :=
  if oob (l3 + (4 : Int32)) L then none else
  if (xs (l3 + (4 : Int32)).toNatClampNeg) = 0 then
    sL_law_b636 L xs k18 l3 0 t0 t1 t2 m
  else
    sL_law_b636 L xs k18 l3 1 t0 t1 t2 m
def sL_law_b18 (L : Nat) (xs : Nat → Int32) (k18 : Int32 → pMem → gO) (l3 : Int32) (m : pMem) : gO :=
  if ((Int32.ofNat L) - (6 : Int32)) < l3 then
    some (1, m)
  else
    if oob l3 L then none else
    if ((xs l3.toNatClampNeg) &&& (31 : Int32)) = 0 then
      if oob (l3 + (1 : Int32)) L then none else
      if oob (l3 + (2 : Int32)) L then none else
      cbE (sX8_ground (xs (l3 + (1 : Int32)).toNatClampNeg) (xs (l3 + (2 : Int32)).toNatClampNeg) m) fun r6 m8 =>
      if oob (l3 + (1 : Int32)) L then none else
      if oob (l3 + (2 : Int32)) L then none else
      cbE (sX9_ground (xs (l3 + (1 : Int32)).toNatClampNeg) (xs (l3 + (2 : Int32)).toNatClampNeg) m8) fun r11 m13 =>
      if r6 = r11 then
        sL_law_b1288 L xs k18 l3 m13
      else
        some (0, m13)
    else if ((xs l3.toNatClampNeg) &&& (31 : Int32)) = 1 then
      if oob (l3 + (1 : Int32)) L then none else
      if oob (l3 + (2 : Int32)) L then none else
      if oob (l3 + (3 : Int32)) L then none else
      if oob (l3 + (4 : Int32)) L then none else
      if oob (l3 + (5 : Int32)) L then none else
      cbE (sX8_change (xs (l3 + (1 : Int32)).toNatClampNeg) (xs (l3 + (2 : Int32)).toNatClampNeg) (xs (l3 + (3 : Int32)).toNatClampNeg) (xs (l3 + (4 : Int32)).toNatClampNeg) (xs (l3 + (5 : Int32)).toNatClampNeg) m) fun r21 m23 =>
      if oob (l3 + (1 : Int32)) L then none else
      if oob (l3 + (2 : Int32)) L then none else
      if oob (l3 + (3 : Int32)) L then none else
      if oob (l3 + (4 : Int32)) L then none else
      if oob (l3 + (5 : Int32)) L then none else
      cbE (sX9_change (xs (l3 + (1 : Int32)).toNatClampNeg) (xs (l3 + (2 : Int32)).toNatClampNeg) (xs (l3 + (3 : Int32)).toNatClampNeg) (xs (l3 + (4 : Int32)).toNatClampNeg) (xs (l3 + (5 : Int32)).toNatClampNeg) m23) fun r29 m31 =>
      if r21 = r29 then
        sL_law_b1288 L xs k18 l3 m31
      else
        some (0, m31)
    else if ((xs l3.toNatClampNeg) &&& (31 : Int32)) = 2 then
      if oob (l3 + (1 : Int32)) L then none else
      cbR (sX8_lands (xs (l3 + (1 : Int32)).toNatClampNeg) m) fun r35 =>
      if oob (l3 + (1 : Int32)) L then none else
      cbR (sX9_lands (xs (l3 + (1 : Int32)).toNatClampNeg) m) fun r38 =>
      if r35 = r38 then
        sL_law_b1288 L xs k18 l3 m
      else
        some (0, m)
    else if ((xs l3.toNatClampNeg) &&& (31 : Int32)) = 3 then
      if oob (l3 + (1 : Int32)) L then none else
      if oob (l3 + (2 : Int32)) L then none else
      cbR (sX8_has (xs (l3 + (1 : Int32)).toNatClampNeg) (xs (l3 + (2 : Int32)).toNatClampNeg) m) fun r44 =>
      if oob (l3 + (1 : Int32)) L then none else
      if oob (l3 + (2 : Int32)) L then none else
      cbR (sX9_has (xs (l3 + (1 : Int32)).toNatClampNeg) (xs (l3 + (2 : Int32)).toNatClampNeg) m) fun r48 =>
      if r44 = r48 then
        sL_law_b1288 L xs k18 l3 m
      else
        some (0, m)
    else if ((xs l3.toNatClampNeg) &&& (31 : Int32)) = 4 then
      if oob (l3 + (1 : Int32)) L then none else
      if oob (l3 + (2 : Int32)) L then none else
      cbR (sX8_whose (xs (l3 + (1 : Int32)).toNatClampNeg) (xs (l3 + (2 : Int32)).toNatClampNeg) m) fun r54 =>
      if oob (l3 + (1 : Int32)) L then none else
      if oob (l3 + (2 : Int32)) L then none else
      cbR (sX9_whose (xs (l3 + (1 : Int32)).toNatClampNeg) (xs (l3 + (2 : Int32)).toNatClampNeg) m) fun r58 =>
      if r54 = r58 then
        sL_law_b1288 L xs k18 l3 m
      else
        some (0, m)
    else if ((xs l3.toNatClampNeg) &&& (31 : Int32)) = 5 then
      if oob (l3 + (1 : Int32)) L then none else
      if oob (l3 + (2 : Int32)) L then none else
      cbR (sX8_from (xs (l3 + (1 : Int32)).toNatClampNeg) (xs (l3 + (2 : Int32)).toNatClampNeg) m) fun r64 =>
      if oob (l3 + (1 : Int32)) L then none else
      if oob (l3 + (2 : Int32)) L then none else
      cbR (sX9_from (xs (l3 + (1 : Int32)).toNatClampNeg) (xs (l3 + (2 : Int32)).toNatClampNeg) m) fun r68 =>
      if r64 = r68 then
        sL_law_b1288 L xs k18 l3 m
      else
        some (0, m)
    else if ((xs l3.toNatClampNeg) &&& (31 : Int32)) = 6 then
      if oob (l3 + (1 : Int32)) L then none else
      if oob (l3 + (2 : Int32)) L then none else
      cbR (sX8_heir (xs (l3 + (1 : Int32)).toNatClampNeg) (xs (l3 + (2 : Int32)).toNatClampNeg) m) fun r74 =>
      if oob (l3 + (1 : Int32)) L then none else
      if oob (l3 + (2 : Int32)) L then none else
      cbR (sX9_heir (xs (l3 + (1 : Int32)).toNatClampNeg) (xs (l3 + (2 : Int32)).toNatClampNeg) m) fun r78 =>
      if r74 = r78 then
        sL_law_b1288 L xs k18 l3 m
      else
        some (0, m)
    else if ((xs l3.toNatClampNeg) &&& (31 : Int32)) = 7 then
      if oob (l3 + (1 : Int32)) L then none else
      if oob (l3 + (2 : Int32)) L then none else
      if oob (l3 + (3 : Int32)) L then none else
      cbE (sX8_write ((((xs (l3 + (1 : Int32)).toNatClampNeg).toInt64) <<< ((32 : Int32).toInt64 &&& 63)) ||| (((xs (l3 + (2 : Int32)).toNatClampNeg).toInt64) &&& (4294967295 : Int64))) (xs (l3 + (3 : Int32)).toNatClampNeg) m) fun r85 m87 =>
      if oob (l3 + (1 : Int32)) L then none else
      if oob (l3 + (2 : Int32)) L then none else
      if oob (l3 + (3 : Int32)) L then none else
      cbE (sX9_write ((((xs (l3 + (1 : Int32)).toNatClampNeg).toInt64) <<< ((32 : Int32).toInt64 &&& 63)) ||| (((xs (l3 + (2 : Int32)).toNatClampNeg).toInt64) &&& (4294967295 : Int64))) (xs (l3 + (3 : Int32)).toNatClampNeg) m87) fun r91 m93 =>
      if r85 = r91 then
        sL_law_b1288 L xs k18 l3 m93
      else
        some (0, m93)
    else if ((xs l3.toNatClampNeg) &&& (31 : Int32)) = 8 then
      cbE (sX8_erase m) fun r96 m98 =>
      cbE (sX9_erase m98) fun r99 m101 =>
      if r96 = r99 then
        sL_law_b1288 L xs k18 l3 m101
      else
        some (0, m101)
    else if ((xs l3.toNatClampNeg) &&& (31 : Int32)) = 9 then
      cbE (sX8_fault m) fun r104 m106 =>
      cbE (sX9_fault m106) fun r107 m109 =>
      if r104 = r107 then
        sL_law_b1288 L xs k18 l3 m109
      else
        some (0, m109)
    else if ((xs l3.toNatClampNeg) &&& (31 : Int32)) = 10 then
      cbE (sX8_rules m) fun r112 m114 =>
      cbE (sX9_rules m114) fun r115 m117 =>
      if r112 = r115 then
        sL_law_b1288 L xs k18 l3 m117
      else
        some (0, m117)
    else if ((xs l3.toNatClampNeg) &&& (31 : Int32)) = 11 then
      if oob (l3 + (1 : Int32)) L then none else
      cbR (sX8_rule (xs (l3 + (1 : Int32)).toNatClampNeg) m) fun r121 =>
      if oob (l3 + (1 : Int32)) L then none else
      cbR (sX9_rule (xs (l3 + (1 : Int32)).toNatClampNeg) m) fun r124 =>
      if r121 = r124 then
        sL_law_b1288 L xs k18 l3 m
      else
        some (0, m)
    else if ((xs l3.toNatClampNeg) &&& (31 : Int32)) = 12 then
      if oob (l3 + (1 : Int32)) L then none else
      if oob (l3 + (2 : Int32)) L then none else
      if oob (l3 + (3 : Int32)) L then none else
      if oob (l3 + (4 : Int32)) L then none else
      if oob (l3 + (5 : Int32)) L then none else
      cbE (sX8_pact (xs (l3 + (1 : Int32)).toNatClampNeg) (xs (l3 + (2 : Int32)).toNatClampNeg) (xs (l3 + (3 : Int32)).toNatClampNeg) (xs (l3 + (4 : Int32)).toNatClampNeg) (xs (l3 + (5 : Int32)).toNatClampNeg) m) fun r133 m135 =>
      if oob (l3 + (1 : Int32)) L then none else
      if oob (l3 + (2 : Int32)) L then none else
      if oob (l3 + (3 : Int32)) L then none else
      if oob (l3 + (4 : Int32)) L then none else
      if oob (l3 + (5 : Int32)) L then none else
      cbE (sX9_pact (xs (l3 + (1 : Int32)).toNatClampNeg) (xs (l3 + (2 : Int32)).toNatClampNeg) (xs (l3 + (3 : Int32)).toNatClampNeg) (xs (l3 + (4 : Int32)).toNatClampNeg) (xs (l3 + (5 : Int32)).toNatClampNeg) m135) fun r141 m143 =>
      if r133 = r141 then
        sL_law_b1288 L xs k18 l3 m143
      else
        some (0, m143)
    else if ((xs l3.toNatClampNeg) &&& (31 : Int32)) = 13 then
      if oob (l3 + (1 : Int32)) L then none else
      if oob (l3 + (2 : Int32)) L then none else
      if oob (l3 + (3 : Int32)) L then none else
      if (xs (l3 + (3 : Int32)).toNatClampNeg) = 0 then
        sL_law_b623 L xs k18 l3 0 (xs (l3 + (2 : Int32)).toNatClampNeg) (xs (l3 + (1 : Int32)).toNatClampNeg) m
      else
        sL_law_b623 L xs k18 l3 1 (xs (l3 + (2 : Int32)).toNatClampNeg) (xs (l3 + (1 : Int32)).toNatClampNeg) m
    else if ((xs l3.toNatClampNeg) &&& (31 : Int32)) = 14 then
      if oob (l3 + (1 : Int32)) L then none else
      if oob (l3 + (2 : Int32)) L then none else
      if oob (l3 + (3 : Int32)) L then none else
      if (xs (l3 + (3 : Int32)).toNatClampNeg) = 0 then
        sL_law_b718 L xs k18 l3 0 (xs (l3 + (2 : Int32)).toNatClampNeg) (xs (l3 + (1 : Int32)).toNatClampNeg) m
      else
        sL_law_b718 L xs k18 l3 1 (xs (l3 + (2 : Int32)).toNatClampNeg) (xs (l3 + (1 : Int32)).toNatClampNeg) m
    else if ((xs l3.toNatClampNeg) &&& (31 : Int32)) = 15 then
      if oob (l3 + (1 : Int32)) L then none else
      if oob (l3 + (2 : Int32)) L then none else
      cbE (sX8_bound (xs (l3 + (1 : Int32)).toNatClampNeg) (xs (l3 + (2 : Int32)).toNatClampNeg) m) fun r158 m160 =>
      if oob (l3 + (1 : Int32)) L then none else
      if oob (l3 + (2 : Int32)) L then none else
      cbE (sX9_bound (xs (l3 + (1 : Int32)).toNatClampNeg) (xs (l3 + (2 : Int32)).toNatClampNeg) m160) fun r163 m165 =>
      if r158 = r163 then
        sL_law_b1288 L xs k18 l3 m165
      else
        some (0, m165)
    else if ((xs l3.toNatClampNeg) &&& (31 : Int32)) = 16 then
      if oob (l3 + (1 : Int32)) L then none else
      if oob (l3 + (2 : Int32)) L then none else
      cbE (sX8_since (xs (l3 + (1 : Int32)).toNatClampNeg) (xs (l3 + (2 : Int32)).toNatClampNeg) m) fun r170 m172 =>
      if oob (l3 + (1 : Int32)) L then none else
      if oob (l3 + (2 : Int32)) L then none else
      cbE (sX9_since (xs (l3 + (1 : Int32)).toNatClampNeg) (xs (l3 + (2 : Int32)).toNatClampNeg) m172) fun r175 m177 =>
      if r170 = r175 then
        sL_law_b1288 L xs k18 l3 m177
      else
        some (0, m177)
    else if ((xs l3.toNatClampNeg) &&& (31 : Int32)) = 17 then
      if oob (l3 + (1 : Int32)) L then none else
      if oob (l3 + (2 : Int32)) L then none else
      if oob (l3 + (3 : Int32)) L then none else
      if oob (l3 + (4 : Int32)) L then none else
      cbE (sX8_debt (xs (l3 + (1 : Int32)).toNatClampNeg) (xs (l3 + (2 : Int32)).toNatClampNeg) (xs (l3 + (3 : Int32)).toNatClampNeg) (xs (l3 + (4 : Int32)).toNatClampNeg) m) fun r184 m186 =>
      if oob (l3 + (1 : Int32)) L then none else
      if oob (l3 + (2 : Int32)) L then none else
      if oob (l3 + (3 : Int32)) L then none else
      if oob (l3 + (4 : Int32)) L then none else
      cbE (sX9_debt (xs (l3 + (1 : Int32)).toNatClampNeg) (xs (l3 + (2 : Int32)).toNatClampNeg) (xs (l3 + (3 : Int32)).toNatClampNeg) (xs (l3 + (4 : Int32)).toNatClampNeg) m186) fun r191 m193 =>
      if r184 = r191 then
        sL_law_b1288 L xs k18 l3 m193
      else
        some (0, m193)
    else if ((xs l3.toNatClampNeg) &&& (31 : Int32)) = 18 then
      if oob (l3 + (1 : Int32)) L then none else
      if oob (l3 + (2 : Int32)) L then none else
      if oob (l3 + (3 : Int32)) L then none else
      cbE (sX8_owes (xs (l3 + (1 : Int32)).toNatClampNeg) (xs (l3 + (2 : Int32)).toNatClampNeg) (xs (l3 + (3 : Int32)).toNatClampNeg) m) fun r199 m201 =>
      if oob (l3 + (1 : Int32)) L then none else
      if oob (l3 + (2 : Int32)) L then none else
      if oob (l3 + (3 : Int32)) L then none else
      cbE (sX9_owes (xs (l3 + (1 : Int32)).toNatClampNeg) (xs (l3 + (2 : Int32)).toNatClampNeg) (xs (l3 + (3 : Int32)).toNatClampNeg) m201) fun r205 m207 =>
      if r199 = r205 then
        sL_law_b1288 L xs k18 l3 m207
      else
        some (0, m207)
    else if ((xs l3.toNatClampNeg) &&& (31 : Int32)) = 19 then
      if oob (l3 + (1 : Int32)) L then none else
      if oob (l3 + (2 : Int32)) L then none else
      if oob (l3 + (3 : Int32)) L then none else
      cbE (sX8_thing (xs (l3 + (1 : Int32)).toNatClampNeg) (xs (l3 + (2 : Int32)).toNatClampNeg) (xs (l3 + (3 : Int32)).toNatClampNeg) m) fun r213 m215 =>
      if oob (l3 + (1 : Int32)) L then none else
      if oob (l3 + (2 : Int32)) L then none else
      if oob (l3 + (3 : Int32)) L then none else
      cbE (sX9_thing (xs (l3 + (1 : Int32)).toNatClampNeg) (xs (l3 + (2 : Int32)).toNatClampNeg) (xs (l3 + (3 : Int32)).toNatClampNeg) m215) fun r219 m221 =>
      if r213 = r219 then
        sL_law_b1288 L xs k18 l3 m221
      else
        some (0, m221)
    else if ((xs l3.toNatClampNeg) &&& (31 : Int32)) = 20 then
      if oob (l3 + (1 : Int32)) L then none else
      if oob (l3 + (2 : Int32)) L then none else
      if oob (l3 + (3 : Int32)) L then none else
      cbE (sX8_owns (xs (l3 + (1 : Int32)).toNatClampNeg) (xs (l3 + (2 : Int32)).toNatClampNeg) (xs (l3 + (3 : Int32)).toNatClampNeg) m) fun r227 m229 =>
      if oob (l3 + (1 : Int32)) L then none else
      if oob (l3 + (2 : Int32)) L then none else
      if oob (l3 + (3 : Int32)) L then none else
      cbE (sX9_owns (xs (l3 + (1 : Int32)).toNatClampNeg) (xs (l3 + (2 : Int32)).toNatClampNeg) (xs (l3 + (3 : Int32)).toNatClampNeg) m229) fun r233 m235 =>
      if r227 = r233 then
        sL_law_b1288 L xs k18 l3 m235
      else
        some (0, m235)
    else if ((xs l3.toNatClampNeg) &&& (31 : Int32)) = 21 then
      if oob (l3 + (1 : Int32)) L then none else
      if oob (l3 + (2 : Int32)) L then none else
      if oob (l3 + (3 : Int32)) L then none else
      cbE (sX8_served (xs (l3 + (1 : Int32)).toNatClampNeg) (xs (l3 + (2 : Int32)).toNatClampNeg) (xs (l3 + (3 : Int32)).toNatClampNeg) m) fun r241 m243 =>
      if oob (l3 + (1 : Int32)) L then none else
      if oob (l3 + (2 : Int32)) L then none else
      if oob (l3 + (3 : Int32)) L then none else
      cbE (sX9_served (xs (l3 + (1 : Int32)).toNatClampNeg) (xs (l3 + (2 : Int32)).toNatClampNeg) (xs (l3 + (3 : Int32)).toNatClampNeg) m243) fun r247 m249 =>
      if r241 = r247 then
        sL_law_b1288 L xs k18 l3 m249
      else
        some (0, m249)
    else if ((xs l3.toNatClampNeg) &&& (31 : Int32)) = 22 then
      if oob (l3 + (1 : Int32)) L then none else
      if oob (l3 + (2 : Int32)) L then none else
      cbR (sX8_paid (xs (l3 + (1 : Int32)).toNatClampNeg) (xs (l3 + (2 : Int32)).toNatClampNeg) m) fun r254 =>
      if oob (l3 + (1 : Int32)) L then none else
      if oob (l3 + (2 : Int32)) L then none else
      cbR (sX9_paid (xs (l3 + (1 : Int32)).toNatClampNeg) (xs (l3 + (2 : Int32)).toNatClampNeg) m) fun r258 =>
      if r254 = r258 then
        sL_law_b1288 L xs k18 l3 m
      else
        some (0, m)
    else if ((xs l3.toNatClampNeg) &&& (31 : Int32)) = 23 then
      if oob (l3 + (1 : Int32)) L then none else
      if oob (l3 + (2 : Int32)) L then none else
      cbE (sX8_hangs (xs (l3 + (1 : Int32)).toNatClampNeg) (xs (l3 + (2 : Int32)).toNatClampNeg) m) fun r264 m266 =>
      if oob (l3 + (1 : Int32)) L then none else
      if oob (l3 + (2 : Int32)) L then none else
      cbE (sX9_hangs (xs (l3 + (1 : Int32)).toNatClampNeg) (xs (l3 + (2 : Int32)).toNatClampNeg) m266) fun r269 m271 =>
      if r264 = r269 then
        sL_law_b1288 L xs k18 l3 m271
      else
        some (0, m271)
    else if ((xs l3.toNatClampNeg) &&& (31 : Int32)) = 24 then
      if oob (l3 + (1 : Int32)) L then none else
      if oob (l3 + (2 : Int32)) L then none else
      if oob (l3 + (3 : Int32)) L then none else
      if oob (l3 + (4 : Int32)) L then none else
      if (xs (l3 + (4 : Int32)).toNatClampNeg) = 0 then
        sL_law_b1149 L xs k18 l3 0 (xs (l3 + (3 : Int32)).toNatClampNeg) (xs (l3 + (2 : Int32)).toNatClampNeg) (xs (l3 + (1 : Int32)).toNatClampNeg) m
      else
        sL_law_b1149 L xs k18 l3 1 (xs (l3 + (3 : Int32)).toNatClampNeg) (xs (l3 + (2 : Int32)).toNatClampNeg) (xs (l3 + (1 : Int32)).toNatClampNeg) m
    else if ((xs l3.toNatClampNeg) &&& (31 : Int32)) = 25 then
      if oob (l3 + (1 : Int32)) L then none else
      if oob (l3 + (2 : Int32)) L then none else
      if oob (l3 + (3 : Int32)) L then none else
      cbE (sX8_burden (xs (l3 + (1 : Int32)).toNatClampNeg) (xs (l3 + (2 : Int32)).toNatClampNeg) (xs (l3 + (3 : Int32)).toNatClampNeg) m) fun r283 m285 =>
      if oob (l3 + (1 : Int32)) L then none else
      if oob (l3 + (2 : Int32)) L then none else
      if oob (l3 + (3 : Int32)) L then none else
      cbE (sX9_burden (xs (l3 + (1 : Int32)).toNatClampNeg) (xs (l3 + (2 : Int32)).toNatClampNeg) (xs (l3 + (3 : Int32)).toNatClampNeg) m285) fun r289 m291 =>
      if r283 = r289 then
        sL_law_b1288 L xs k18 l3 m291
      else
        some (0, m291)
    else if ((xs l3.toNatClampNeg) &&& (31 : Int32)) = 26 then
      if oob (l3 + (1 : Int32)) L then none else
      if oob (l3 + (2 : Int32)) L then none else
      cbE (sX8_best (xs (l3 + (1 : Int32)).toNatClampNeg) (xs (l3 + (2 : Int32)).toNatClampNeg) m) fun r296 m298 =>
      if oob (l3 + (1 : Int32)) L then none else
      if oob (l3 + (2 : Int32)) L then none else
      cbE (sX9_best (xs (l3 + (1 : Int32)).toNatClampNeg) (xs (l3 + (2 : Int32)).toNatClampNeg) m298) fun r301 m303 =>
      if r296 = r301 then
        sL_law_b1288 L xs k18 l3 m303
      else
        some (0, m303)
    else if ((xs l3.toNatClampNeg) &&& (31 : Int32)) = 27 then
      if oob (l3 + (1 : Int32)) L then none else
      cbR (sX8_count (xs (l3 + (1 : Int32)).toNatClampNeg) m) fun r307 =>
      if oob (l3 + (1 : Int32)) L then none else
      cbR (sX9_count (xs (l3 + (1 : Int32)).toNatClampNeg) m) fun r310 =>
      if r307 = r310 then
        sL_law_b1288 L xs k18 l3 m
      else
        some (0, m)
    else 
      sL_law_b1288 L xs k18 l3 m
def sL_law_l18 (L : Nat) (xs : Nat → Int32) (n : Nat) : Int32 → pMem → gO := fixN (fun _ _ => none) (sL_law_b18 L xs) n
theorem wL_law_b1288 (E : pEv) (z : pMem) (b L : Nat) (xs : Nat → Int32) (k18 : Int32 → pMem → gO) (ih18 : ∀ (l3 : Int32) (m : pMem), k18 l3 m = some (1, z) → gG E kL_law (zLaw b L xs) 18 [(0, .ref b), (1, .ref (eA E 0)), (2, .ref (eA E 9)), (3, .int l3)] [] m) (l3 : Int32) (m : pMem) (hf : sL_law_b1288 L xs k18 l3 m = some (1, z)) : gG E kL_law (zLaw b L xs) 1288 [(0, .ref b), (1, .ref (eA E 0)), (2, .ref (eA E 9)), (3, .int l3)] [] m := by
  unfold sL_law_b1288 at hf
  refine g_iinc (q := 3) (v := l3 + 6) dL_law_1288 rfl (by rw [kI_6]) (Nat.le_of_ble_eq_true rfl) rfl ?_
  refine g_goto (tgt := 18) dL_law_1291 (by decide) ?_
  refine g_lv [1, 2, 3, 0] rfl ?_
  exact ih18 (l3 + 6) m hf
theorem wL_law_b1181 (E : pEv) (z : pMem) (b L : Nat) (xs : Nat → Int32) (k18 : Int32 → pMem → gO) (ih18 : ∀ (l3 : Int32) (m : pMem), k18 l3 m = some (1, z) → gG E kL_law (zLaw b L xs) 18 [(0, .ref b), (1, .ref (eA E 0)), (2, .ref (eA E 9)), (3, .int l3)] [] m) (l3 : Int32) (t0 : Int32) (t1 : Int32) (t2 : Int32) (t3 : Int32) (t5 : Int32) (m : pMem) (hf : sL_law_b1181 L xs k18 l3 t0 t1 t2 t3 t5 m = some (1, z)) : gG E kL_law (zLaw b L xs) 1181 [(0, .ref b), (1, .ref (eA E 0)), (2, .ref (eA E 9)), (3, .int l3)] [.int t0, .int t1, .int t2, .int t3, .ref (eA E 9), .int t5] m := by
  unfold sL_law_b1181 at hf
  obtain ⟨r344, m346, q345, hf⟩ := cbE_ hf
  refine g_cV (As := [.int t3, .int t2, .int t1, .int t0]) dL_law_1181 (tX9_without E m t3 t2 t1 t0 q345) gyX9_without giX9_without gsX9_without mL_124 (⟨rfl, rfl, Nat.le_of_ble_eq_true rfl, Nat.le_of_ble_eq_true rfl, Nat.le_of_ble_eq_true rfl, Nat.le_of_ble_eq_true rfl⟩) rfl (obX9 E m) rfl rfl rfl (Nat.le_of_ble_eq_true rfl) ?_
  refine g_icmp_eq (tgt := 1288) dL_law_1184 (by decide) (fun c347 => ?_) (fun c347 => ?_)
  · have hf := it_ hf c347
    exact wL_law_b1288 E z b L xs k18 ih18 l3 m346 hf
  · have hf := ie_ hf c347
    refine g_iconst (v := 0) dL_law_1187 kI_0 ?_
    exact absurd (show (0 : Int32) = 1 from congrArg Prod.fst (Option.some.inj hf)) (by decide)
theorem wL_law_b1149 (E : pEv) (z : pMem) (b L : Nat) (xs : Nat → Int32) (k18 : Int32 → pMem → gO) (ih18 : ∀ (l3 : Int32) (m : pMem), k18 l3 m = some (1, z) → gG E kL_law (zLaw b L xs) 18 [(0, .ref b), (1, .ref (eA E 0)), (2, .ref (eA E 9)), (3, .int l3)] [] m) (l3 : Int32) (t0 : Int32) (t1 : Int32) (t2 : Int32) (t3 : Int32) (m : pMem) (hf : sL_law_b1149 L xs k18 l3 t0 t1 t2 t3 m = some (1, z)) : gG E kL_law (zLaw b L xs) 1149 [(0, .ref b), (1, .ref (eA E 0)), (2, .ref (eA E 9)), (3, .int l3)] [.int t0, .int t1, .int t2, .int t3, .ref (eA E 0)] m := by
  unfold sL_law_b1149 at hf
  obtain ⟨r323, m325, q324, hf⟩ := cbE_ hf
  refine g_cV (As := [.int t3, .int t2, .int t1, .int t0]) dL_law_1149 (tX8_without E m t3 t2 t1 t0 q324) gyX8_without giX8_without gsX8_without mL_120 (⟨rfl, rfl, Nat.le_of_ble_eq_true rfl, Nat.le_of_ble_eq_true rfl, Nat.le_of_ble_eq_true rfl, Nat.le_of_ble_eq_true rfl⟩) rfl (obX8 E m) rfl rfl rfl (Nat.le_of_ble_eq_true rfl) ?_
  refine g_aload_n (q := 2) dL_law_1152 rfl rfl ?_
  refine g_aload_n (q := 0) dL_law_1153 rfl rfl ?_
  refine g_iload_n (q := 3) dL_law_1154 rfl rfl ?_
  refine g_iconst (v := 1) dL_law_1155 kI_1 ?_
  refine g_iadd dL_law_1156 ?_
  obtain ⟨h326, hf⟩ := gd_ hf
  refine g_sld dL_law_1157 h326 ?_
  refine g_aload_n (q := 0) dL_law_1158 rfl rfl ?_
  refine g_iload_n (q := 3) dL_law_1159 rfl rfl ?_
  refine g_iconst (v := 2) dL_law_1160 kI_2 ?_
  refine g_iadd dL_law_1161 ?_
  obtain ⟨h327, hf⟩ := gd_ hf
  refine g_sld dL_law_1162 h327 ?_
  refine g_aload_n (q := 0) dL_law_1163 rfl rfl ?_
  refine g_iload_n (q := 3) dL_law_1164 rfl rfl ?_
  refine g_iconst (v := 3) dL_law_1165 kI_3 ?_
  refine g_iadd dL_law_1166 ?_
  obtain ⟨h328, hf⟩ := gd_ hf
  refine g_sld dL_law_1167 h328 ?_
  refine g_aload_n (q := 0) dL_law_1168 rfl rfl ?_
  refine g_iload_n (q := 3) dL_law_1169 rfl rfl ?_
  refine g_iconst (v := 4) dL_law_1170 kI_4 ?_
  refine g_iadd dL_law_1171 ?_
  obtain ⟨h329, hf⟩ := gd_ hf
  refine g_sld dL_law_1172 h329 ?_
  refine g_if_eq (tgt := 1180) dL_law_1173 (by decide) (fun c330 => ?_) (fun c330 => ?_)
  · have hf := it_ hf c330
    refine g_iconst (v := 0) dL_law_1180 kI_0 ?_
    exact wL_law_b1181 E z b L xs k18 ih18 l3 0 (xs (l3 + (3 : Int32)).toNatClampNeg) (xs (l3 + (2 : Int32)).toNatClampNeg) (xs (l3 + (1 : Int32)).toNatClampNeg) r323 m325 hf
  · have hf := ie_ hf c330
    refine g_iconst (v := 1) dL_law_1176 kI_1 ?_
    refine g_goto (tgt := 1181) dL_law_1177 (by decide) ?_
    exact wL_law_b1181 E z b L xs k18 ih18 l3 1 (xs (l3 + (3 : Int32)).toNatClampNeg) (xs (l3 + (2 : Int32)).toNatClampNeg) (xs (l3 + (1 : Int32)).toNatClampNeg) r323 m325 hf
theorem wL_law_b750 (E : pEv) (z : pMem) (b L : Nat) (xs : Nat → Int32) (k18 : Int32 → pMem → gO) (ih18 : ∀ (l3 : Int32) (m : pMem), k18 l3 m = some (1, z) → gG E kL_law (zLaw b L xs) 18 [(0, .ref b), (1, .ref (eA E 0)), (2, .ref (eA E 9)), (3, .int l3)] [] m) (l3 : Int32) (t0 : Int32) (t1 : Int32) (t2 : Int32) (t4 : Int32) (m : pMem) (hf : sL_law_b750 L xs k18 l3 t0 t1 t2 t4 m = some (1, z)) : gG E kL_law (zLaw b L xs) 750 [(0, .ref b), (1, .ref (eA E 0)), (2, .ref (eA E 9)), (3, .int l3)] [.int t0, .int t1, .int t2, .ref (eA E 9), .int t4] m := by
  unfold sL_law_b750 at hf
  refine g_aload_n (q := 0) dL_law_750 rfl rfl ?_
  refine g_iload_n (q := 3) dL_law_751 rfl rfl ?_
  refine g_iconst (v := 4) dL_law_752 kI_4 ?_
  refine g_iadd dL_law_753 ?_
  obtain ⟨h339, hf⟩ := gd_ hf
  refine g_sld dL_law_754 h339 ?_
  obtain ⟨r340, m342, q341, hf⟩ := cbE_ hf
  refine g_cV (As := [.int t2, .int t1, .int t0, .int (xs (l3 + (4 : Int32)).toNatClampNeg)]) dL_law_755 (tX9_voice E m t2 t1 t0 (xs (l3 + (4 : Int32)).toNatClampNeg) q341) gyX9_voice giX9_voice gsX9_voice mL_81 (⟨rfl, rfl, Nat.le_of_ble_eq_true rfl, Nat.le_of_ble_eq_true rfl, Nat.le_of_ble_eq_true rfl, Nat.le_of_ble_eq_true rfl⟩) rfl (obX9 E m) rfl rfl rfl (Nat.le_of_ble_eq_true rfl) ?_
  refine g_icmp_eq (tgt := 1288) dL_law_758 (by decide) (fun c343 => ?_) (fun c343 => ?_)
  · have hf := it_ hf c343
    exact wL_law_b1288 E z b L xs k18 ih18 l3 m342 hf
  · have hf := ie_ hf c343
    refine g_iconst (v := 0) dL_law_761 kI_0 ?_
    exact absurd (show (0 : Int32) = 1 from congrArg Prod.fst (Option.some.inj hf)) (by decide)
theorem wL_law_b718 (E : pEv) (z : pMem) (b L : Nat) (xs : Nat → Int32) (k18 : Int32 → pMem → gO) (ih18 : ∀ (l3 : Int32) (m : pMem), k18 l3 m = some (1, z) → gG E kL_law (zLaw b L xs) 18 [(0, .ref b), (1, .ref (eA E 0)), (2, .ref (eA E 9)), (3, .int l3)] [] m) (l3 : Int32) (t0 : Int32) (t1 : Int32) (t2 : Int32) (m : pMem) (hf : sL_law_b718 L xs k18 l3 t0 t1 t2 m = some (1, z)) : gG E kL_law (zLaw b L xs) 718 [(0, .ref b), (1, .ref (eA E 0)), (2, .ref (eA E 9)), (3, .int l3)] [.int t0, .int t1, .int t2, .ref (eA E 0)] m := by
  unfold sL_law_b718 at hf
  refine g_aload_n (q := 0) dL_law_718 rfl rfl ?_
  refine g_iload_n (q := 3) dL_law_719 rfl rfl ?_
  refine g_iconst (v := 4) dL_law_720 kI_4 ?_
  refine g_iadd dL_law_721 ?_
  obtain ⟨h315, hf⟩ := gd_ hf
  refine g_sld dL_law_722 h315 ?_
  obtain ⟨r316, m318, q317, hf⟩ := cbE_ hf
  refine g_cV (As := [.int t2, .int t1, .int t0, .int (xs (l3 + (4 : Int32)).toNatClampNeg)]) dL_law_723 (tX8_voice E m t2 t1 t0 (xs (l3 + (4 : Int32)).toNatClampNeg) q317) gyX8_voice giX8_voice gsX8_voice mL_77 (⟨rfl, rfl, Nat.le_of_ble_eq_true rfl, Nat.le_of_ble_eq_true rfl, Nat.le_of_ble_eq_true rfl, Nat.le_of_ble_eq_true rfl⟩) rfl (obX8 E m) rfl rfl rfl (Nat.le_of_ble_eq_true rfl) ?_
  refine g_aload_n (q := 2) dL_law_726 rfl rfl ?_
  refine g_aload_n (q := 0) dL_law_727 rfl rfl ?_
  refine g_iload_n (q := 3) dL_law_728 rfl rfl ?_
  refine g_iconst (v := 1) dL_law_729 kI_1 ?_
  refine g_iadd dL_law_730 ?_
  obtain ⟨h319, hf⟩ := gd_ hf
  refine g_sld dL_law_731 h319 ?_
  refine g_aload_n (q := 0) dL_law_732 rfl rfl ?_
  refine g_iload_n (q := 3) dL_law_733 rfl rfl ?_
  refine g_iconst (v := 2) dL_law_734 kI_2 ?_
  refine g_iadd dL_law_735 ?_
  obtain ⟨h320, hf⟩ := gd_ hf
  refine g_sld dL_law_736 h320 ?_
  refine g_aload_n (q := 0) dL_law_737 rfl rfl ?_
  refine g_iload_n (q := 3) dL_law_738 rfl rfl ?_
  refine g_iconst (v := 3) dL_law_739 kI_3 ?_
  refine g_iadd dL_law_740 ?_
  obtain ⟨h321, hf⟩ := gd_ hf
  refine g_sld dL_law_741 h321 ?_
  refine g_if_eq (tgt := 749) dL_law_742 (by decide) (fun c322 => ?_) (fun c322 => ?_)
  · have hf := it_ hf c322
    refine g_iconst (v := 0) dL_law_749 kI_0 ?_
    exact wL_law_b750 E z b L xs k18 ih18 l3 0 (xs (l3 + (2 : Int32)).toNatClampNeg) (xs (l3 + (1 : Int32)).toNatClampNeg) r316 m318 hf
  · have hf := ie_ hf c322
    refine g_iconst (v := 1) dL_law_745 kI_1 ?_
    refine g_goto (tgt := 750) dL_law_746 (by decide) ?_
    exact wL_law_b750 E z b L xs k18 ih18 l3 1 (xs (l3 + (2 : Int32)).toNatClampNeg) (xs (l3 + (1 : Int32)).toNatClampNeg) r316 m318 hf
theorem wL_law_b681 (E : pEv) (z : pMem) (b L : Nat) (xs : Nat → Int32) (k18 : Int32 → pMem → gO) (ih18 : ∀ (l3 : Int32) (m : pMem), k18 l3 m = some (1, z) → gG E kL_law (zLaw b L xs) 18 [(0, .ref b), (1, .ref (eA E 0)), (2, .ref (eA E 9)), (3, .int l3)] [] m) (l3 : Int32) (t0 : Int32) (t1 : Int32) (t2 : Int32) (t3 : Int32) (t5 : Int32) (m : pMem) (hf : sL_law_b681 L xs k18 l3 t0 t1 t2 t3 t5 m = some (1, z)) : gG E kL_law (zLaw b L xs) 681 [(0, .ref b), (1, .ref (eA E 0)), (2, .ref (eA E 9)), (3, .int l3)] [.int t0, .int t1, .int t2, .int t3, .ref (eA E 9), .int t5] m := by
  unfold sL_law_b681 at hf
  refine g_aload_n (q := 0) dL_law_681 rfl rfl ?_
  refine g_iload_n (q := 3) dL_law_682 rfl rfl ?_
  refine g_iconst (v := 5) dL_law_683 kI_5 ?_
  refine g_iadd dL_law_684 ?_
  obtain ⟨h350, hf⟩ := gd_ hf
  refine g_sld dL_law_685 h350 ?_
  obtain ⟨r351, m353, q352, hf⟩ := cbE_ hf
  refine g_cV (As := [.int t3, .int t2, .int t1, .int t0, .int (xs (l3 + (5 : Int32)).toNatClampNeg)]) dL_law_686 (tX9_word E m t3 t2 t1 t0 (xs (l3 + (5 : Int32)).toNatClampNeg) q352) gyX9_word giX9_word gsX9_word mL_76 (⟨rfl, rfl, Nat.le_of_ble_eq_true rfl, Nat.le_of_ble_eq_true rfl, Nat.le_of_ble_eq_true rfl, Nat.le_of_ble_eq_true rfl⟩) rfl (obX9 E m) rfl rfl rfl (Nat.le_of_ble_eq_true rfl) ?_
  refine g_icmp_eq (tgt := 1288) dL_law_689 (by decide) (fun c354 => ?_) (fun c354 => ?_)
  · have hf := it_ hf c354
    exact wL_law_b1288 E z b L xs k18 ih18 l3 m353 hf
  · have hf := ie_ hf c354
    refine g_iconst (v := 0) dL_law_692 kI_0 ?_
    exact absurd (show (0 : Int32) = 1 from congrArg Prod.fst (Option.some.inj hf)) (by decide)
theorem wL_law_b668 (E : pEv) (z : pMem) (b L : Nat) (xs : Nat → Int32) (k18 : Int32 → pMem → gO) (ih18 : ∀ (l3 : Int32) (m : pMem), k18 l3 m = some (1, z) → gG E kL_law (zLaw b L xs) 18 [(0, .ref b), (1, .ref (eA E 0)), (2, .ref (eA E 9)), (3, .int l3)] [] m) (l3 : Int32) (t0 : Int32) (t1 : Int32) (t2 : Int32) (t4 : Int32) (m : pMem) (hf : sL_law_b668 L xs k18 l3 t0 t1 t2 t4 m = some (1, z)) : gG E kL_law (zLaw b L xs) 668 [(0, .ref b), (1, .ref (eA E 0)), (2, .ref (eA E 9)), (3, .int l3)] [.int t0, .int t1, .int t2, .ref (eA E 9), .int t4] m := by
  unfold sL_law_b668 at hf
  refine g_aload_n (q := 0) dL_law_668 rfl rfl ?_
  refine g_iload_n (q := 3) dL_law_669 rfl rfl ?_
  refine g_iconst (v := 4) dL_law_670 kI_4 ?_
  refine g_iadd dL_law_671 ?_
  obtain ⟨h348, hf⟩ := gd_ hf
  refine g_sld dL_law_672 h348 ?_
  refine g_if_eq (tgt := 680) dL_law_673 (by decide) (fun c349 => ?_) (fun c349 => ?_)
  · have hf := it_ hf c349
    refine g_iconst (v := 0) dL_law_680 kI_0 ?_
    exact wL_law_b681 E z b L xs k18 ih18 l3 0 t0 t1 t2 t4 m hf
  · have hf := ie_ hf c349
    refine g_iconst (v := 1) dL_law_676 kI_1 ?_
    refine g_goto (tgt := 681) dL_law_677 (by decide) ?_
    exact wL_law_b681 E z b L xs k18 ih18 l3 1 t0 t1 t2 t4 m hf
theorem wL_law_b636 (E : pEv) (z : pMem) (b L : Nat) (xs : Nat → Int32) (k18 : Int32 → pMem → gO) (ih18 : ∀ (l3 : Int32) (m : pMem), k18 l3 m = some (1, z) → gG E kL_law (zLaw b L xs) 18 [(0, .ref b), (1, .ref (eA E 0)), (2, .ref (eA E 9)), (3, .int l3)] [] m) (l3 : Int32) (t0 : Int32) (t1 : Int32) (t2 : Int32) (t3 : Int32) (m : pMem) (hf : sL_law_b636 L xs k18 l3 t0 t1 t2 t3 m = some (1, z)) : gG E kL_law (zLaw b L xs) 636 [(0, .ref b), (1, .ref (eA E 0)), (2, .ref (eA E 9)), (3, .int l3)] [.int t0, .int t1, .int t2, .int t3, .ref (eA E 0)] m := by
  unfold sL_law_b636 at hf
  refine g_aload_n (q := 0) dL_law_636 rfl rfl ?_
  refine g_iload_n (q := 3) dL_law_637 rfl rfl ?_
  refine g_iconst (v := 5) dL_law_638 kI_5 ?_
  refine g_iadd dL_law_639 ?_
  obtain ⟨h331, hf⟩ := gd_ hf
  refine g_sld dL_law_640 h331 ?_
  obtain ⟨r332, m334, q333, hf⟩ := cbE_ hf
  refine g_cV (As := [.int t3, .int t2, .int t1, .int t0, .int (xs (l3 + (5 : Int32)).toNatClampNeg)]) dL_law_641 (tX8_word E m t3 t2 t1 t0 (xs (l3 + (5 : Int32)).toNatClampNeg) q333) gyX8_word giX8_word gsX8_word mL_72 (⟨rfl, rfl, Nat.le_of_ble_eq_true rfl, Nat.le_of_ble_eq_true rfl, Nat.le_of_ble_eq_true rfl, Nat.le_of_ble_eq_true rfl⟩) rfl (obX8 E m) rfl rfl rfl (Nat.le_of_ble_eq_true rfl) ?_
  refine g_aload_n (q := 2) dL_law_644 rfl rfl ?_
  refine g_aload_n (q := 0) dL_law_645 rfl rfl ?_
  refine g_iload_n (q := 3) dL_law_646 rfl rfl ?_
  refine g_iconst (v := 1) dL_law_647 kI_1 ?_
  refine g_iadd dL_law_648 ?_
  obtain ⟨h335, hf⟩ := gd_ hf
  refine g_sld dL_law_649 h335 ?_
  refine g_aload_n (q := 0) dL_law_650 rfl rfl ?_
  refine g_iload_n (q := 3) dL_law_651 rfl rfl ?_
  refine g_iconst (v := 2) dL_law_652 kI_2 ?_
  refine g_iadd dL_law_653 ?_
  obtain ⟨h336, hf⟩ := gd_ hf
  refine g_sld dL_law_654 h336 ?_
  refine g_aload_n (q := 0) dL_law_655 rfl rfl ?_
  refine g_iload_n (q := 3) dL_law_656 rfl rfl ?_
  refine g_iconst (v := 3) dL_law_657 kI_3 ?_
  refine g_iadd dL_law_658 ?_
  obtain ⟨h337, hf⟩ := gd_ hf
  refine g_sld dL_law_659 h337 ?_
  refine g_if_eq (tgt := 667) dL_law_660 (by decide) (fun c338 => ?_) (fun c338 => ?_)
  · have hf := it_ hf c338
    refine g_iconst (v := 0) dL_law_667 kI_0 ?_
    exact wL_law_b668 E z b L xs k18 ih18 l3 0 (xs (l3 + (2 : Int32)).toNatClampNeg) (xs (l3 + (1 : Int32)).toNatClampNeg) r332 m334 hf
  · have hf := ie_ hf c338
    refine g_iconst (v := 1) dL_law_663 kI_1 ?_
    refine g_goto (tgt := 668) dL_law_664 (by decide) ?_
    exact wL_law_b668 E z b L xs k18 ih18 l3 1 (xs (l3 + (2 : Int32)).toNatClampNeg) (xs (l3 + (1 : Int32)).toNatClampNeg) r332 m334 hf
theorem wL_law_b623 (E : pEv) (z : pMem) (b L : Nat) (xs : Nat → Int32) (k18 : Int32 → pMem → gO) (ih18 : ∀ (l3 : Int32) (m : pMem), k18 l3 m = some (1, z) → gG E kL_law (zLaw b L xs) 18 [(0, .ref b), (1, .ref (eA E 0)), (2, .ref (eA E 9)), (3, .int l3)] [] m) (l3 : Int32) (t0 : Int32) (t1 : Int32) (t2 : Int32) (m : pMem) (hf : sL_law_b623 L xs k18 l3 t0 t1 t2 m = some (1, z)) : gG E kL_law (zLaw b L xs) 623 [(0, .ref b), (1, .ref (eA E 0)), (2, .ref (eA E 9)), (3, .int l3)] [.int t0, .int t1, .int t2, .ref (eA E 0)] m := by
  unfold sL_law_b623 at hf
  refine g_aload_n (q := 0) dL_law_623 rfl rfl ?_
  refine g_iload_n (q := 3) dL_law_624 rfl rfl ?_
  refine g_iconst (v := 4) dL_law_625 kI_4 ?_
  refine g_iadd dL_law_626 ?_
  obtain ⟨h313, hf⟩ := gd_ hf
  refine g_sld dL_law_627 h313 ?_
  refine g_if_eq (tgt := 635) dL_law_628 (by decide) (fun c314 => ?_) (fun c314 => ?_)
  · have hf := it_ hf c314
    refine g_iconst (v := 0) dL_law_635 kI_0 ?_
    exact wL_law_b636 E z b L xs k18 ih18 l3 0 t0 t1 t2 m hf
  · have hf := ie_ hf c314
    refine g_iconst (v := 1) dL_law_631 kI_1 ?_
    refine g_goto (tgt := 636) dL_law_632 (by decide) ?_
    exact wL_law_b636 E z b L xs k18 ih18 l3 1 t0 t1 t2 m hf
theorem wL_law_b18 (E : pEv) (z : pMem) (b L : Nat) (xs : Nat → Int32) (k18 : Int32 → pMem → gO) (ih18 : ∀ (l3 : Int32) (m : pMem), k18 l3 m = some (1, z) → gG E kL_law (zLaw b L xs) 18 [(0, .ref b), (1, .ref (eA E 0)), (2, .ref (eA E 9)), (3, .int l3)] [] m) (l3 : Int32) (m : pMem) (hf : sL_law_b18 L xs k18 l3 m = some (1, z)) : gG E kL_law (zLaw b L xs) 18 [(0, .ref b), (1, .ref (eA E 0)), (2, .ref (eA E 9)), (3, .int l3)] [] m := by
  unfold sL_law_b18 at hf
  refine g_iload_n (q := 3) dL_law_18 rfl rfl ?_
  refine g_aload_n (q := 0) dL_law_19 rfl rfl ?_
  refine g_sln dL_law_20 ?_
  refine g_bipush (v := 6) dL_law_21 kB_6 ?_
  refine g_isub dL_law_23 ?_
  refine g_icmp_gt (tgt := 1294) dL_law_24 (by decide) (fun c1 => ?_) (fun c1 => ?_)
  · have hf := it_ hf c1
    refine g_iconst (v := 1) dL_law_1294 kI_1 ?_
    exact g_lret dL_law_1295
  · have hf := ie_ hf c1
    refine g_aload_n (q := 0) dL_law_27 rfl rfl ?_
    refine g_iload_n (q := 3) dL_law_28 rfl rfl ?_
    obtain ⟨h2, hf⟩ := gd_ hf
    refine g_sld dL_law_29 h2 ?_
    refine g_bipush (v := 31) dL_law_30 kB_31 ?_
    refine g_iand dL_law_32 ?_
    by_cases c3 : ((xs l3.toNatClampNeg) &&& (31 : Int32)) = 0
    · have hf := it_ hf c3
      refine g_tableIn (tgt := 160) (off := 127) dL_law_33 (by rw [c3]; decide) (by rw [c3]; decide) (by rw [c3]; decide) (by decide) ?_
      refine g_aload_n (q := 1) dL_law_160 rfl rfl ?_
      refine g_aload_n (q := 0) dL_law_161 rfl rfl ?_
      refine g_iload_n (q := 3) dL_law_162 rfl rfl ?_
      refine g_iconst (v := 1) dL_law_163 kI_1 ?_
      refine g_iadd dL_law_164 ?_
      obtain ⟨h4, hf⟩ := gd_ hf
      refine g_sld dL_law_165 h4 ?_
      refine g_aload_n (q := 0) dL_law_166 rfl rfl ?_
      refine g_iload_n (q := 3) dL_law_167 rfl rfl ?_
      refine g_iconst (v := 2) dL_law_168 kI_2 ?_
      refine g_iadd dL_law_169 ?_
      obtain ⟨h5, hf⟩ := gd_ hf
      refine g_sld dL_law_170 h5 ?_
      obtain ⟨r6, m8, q7, hf⟩ := cbE_ hf
      refine g_cV (As := [.int (xs (l3 + (1 : Int32)).toNatClampNeg), .int (xs (l3 + (2 : Int32)).toNatClampNeg)]) dL_law_171 (tX8_ground E m (xs (l3 + (1 : Int32)).toNatClampNeg) (xs (l3 + (2 : Int32)).toNatClampNeg) q7) gyX8_ground giX8_ground gsX8_ground mL_13 (⟨rfl, rfl, Nat.le_of_ble_eq_true rfl, Nat.le_of_ble_eq_true rfl, Nat.le_of_ble_eq_true rfl, Nat.le_of_ble_eq_true rfl⟩) rfl (obX8 E m) rfl rfl rfl (Nat.le_of_ble_eq_true rfl) ?_
      refine g_aload_n (q := 2) dL_law_174 rfl rfl ?_
      refine g_aload_n (q := 0) dL_law_175 rfl rfl ?_
      refine g_iload_n (q := 3) dL_law_176 rfl rfl ?_
      refine g_iconst (v := 1) dL_law_177 kI_1 ?_
      refine g_iadd dL_law_178 ?_
      obtain ⟨h9, hf⟩ := gd_ hf
      refine g_sld dL_law_179 h9 ?_
      refine g_aload_n (q := 0) dL_law_180 rfl rfl ?_
      refine g_iload_n (q := 3) dL_law_181 rfl rfl ?_
      refine g_iconst (v := 2) dL_law_182 kI_2 ?_
      refine g_iadd dL_law_183 ?_
      obtain ⟨h10, hf⟩ := gd_ hf
      refine g_sld dL_law_184 h10 ?_
      obtain ⟨r11, m13, q12, hf⟩ := cbE_ hf
      refine g_cV (As := [.int (xs (l3 + (1 : Int32)).toNatClampNeg), .int (xs (l3 + (2 : Int32)).toNatClampNeg)]) dL_law_185 (tX9_ground E m8 (xs (l3 + (1 : Int32)).toNatClampNeg) (xs (l3 + (2 : Int32)).toNatClampNeg) q12) gyX9_ground giX9_ground gsX9_ground mL_17 (⟨rfl, rfl, Nat.le_of_ble_eq_true rfl, Nat.le_of_ble_eq_true rfl, Nat.le_of_ble_eq_true rfl, Nat.le_of_ble_eq_true rfl⟩) rfl (obX9 E m8) rfl rfl rfl (Nat.le_of_ble_eq_true rfl) ?_
      refine g_icmp_eq (tgt := 1288) dL_law_188 (by decide) (fun c14 => ?_) (fun c14 => ?_)
      · have hf := it_ hf c14
        exact wL_law_b1288 E z b L xs k18 ih18 l3 m13 hf
      · have hf := ie_ hf c14
        refine g_iconst (v := 0) dL_law_191 kI_0 ?_
        exact absurd (show (0 : Int32) = 1 from congrArg Prod.fst (Option.some.inj hf)) (by decide)
    · have hf := ie_ hf c3
      by_cases c15 : ((xs l3.toNatClampNeg) &&& (31 : Int32)) = 1
      · have hf := it_ hf c15
        refine g_tableIn (tgt := 193) (off := 160) dL_law_33 (by rw [c15]; decide) (by rw [c15]; decide) (by rw [c15]; decide) (by decide) ?_
        refine g_aload_n (q := 1) dL_law_193 rfl rfl ?_
        refine g_aload_n (q := 0) dL_law_194 rfl rfl ?_
        refine g_iload_n (q := 3) dL_law_195 rfl rfl ?_
        refine g_iconst (v := 1) dL_law_196 kI_1 ?_
        refine g_iadd dL_law_197 ?_
        obtain ⟨h16, hf⟩ := gd_ hf
        refine g_sld dL_law_198 h16 ?_
        refine g_aload_n (q := 0) dL_law_199 rfl rfl ?_
        refine g_iload_n (q := 3) dL_law_200 rfl rfl ?_
        refine g_iconst (v := 2) dL_law_201 kI_2 ?_
        refine g_iadd dL_law_202 ?_
        obtain ⟨h17, hf⟩ := gd_ hf
        refine g_sld dL_law_203 h17 ?_
        refine g_aload_n (q := 0) dL_law_204 rfl rfl ?_
        refine g_iload_n (q := 3) dL_law_205 rfl rfl ?_
        refine g_iconst (v := 3) dL_law_206 kI_3 ?_
        refine g_iadd dL_law_207 ?_
        obtain ⟨h18, hf⟩ := gd_ hf
        refine g_sld dL_law_208 h18 ?_
        refine g_aload_n (q := 0) dL_law_209 rfl rfl ?_
        refine g_iload_n (q := 3) dL_law_210 rfl rfl ?_
        refine g_iconst (v := 4) dL_law_211 kI_4 ?_
        refine g_iadd dL_law_212 ?_
        obtain ⟨h19, hf⟩ := gd_ hf
        refine g_sld dL_law_213 h19 ?_
        refine g_aload_n (q := 0) dL_law_214 rfl rfl ?_
        refine g_iload_n (q := 3) dL_law_215 rfl rfl ?_
        refine g_iconst (v := 5) dL_law_216 kI_5 ?_
        refine g_iadd dL_law_217 ?_
        obtain ⟨h20, hf⟩ := gd_ hf
        refine g_sld dL_law_218 h20 ?_
        obtain ⟨r21, m23, q22, hf⟩ := cbE_ hf
        refine g_cV (As := [.int (xs (l3 + (1 : Int32)).toNatClampNeg), .int (xs (l3 + (2 : Int32)).toNatClampNeg), .int (xs (l3 + (3 : Int32)).toNatClampNeg), .int (xs (l3 + (4 : Int32)).toNatClampNeg), .int (xs (l3 + (5 : Int32)).toNatClampNeg)]) dL_law_219 (tX8_change E m (xs (l3 + (1 : Int32)).toNatClampNeg) (xs (l3 + (2 : Int32)).toNatClampNeg) (xs (l3 + (3 : Int32)).toNatClampNeg) (xs (l3 + (4 : Int32)).toNatClampNeg) (xs (l3 + (5 : Int32)).toNatClampNeg) q22) gyX8_change giX8_change gsX8_change mL_18 (⟨rfl, rfl, Nat.le_of_ble_eq_true rfl, Nat.le_of_ble_eq_true rfl, Nat.le_of_ble_eq_true rfl, Nat.le_of_ble_eq_true rfl⟩) rfl (obX8 E m) rfl rfl rfl (Nat.le_of_ble_eq_true rfl) ?_
        refine g_aload_n (q := 2) dL_law_222 rfl rfl ?_
        refine g_aload_n (q := 0) dL_law_223 rfl rfl ?_
        refine g_iload_n (q := 3) dL_law_224 rfl rfl ?_
        refine g_iconst (v := 1) dL_law_225 kI_1 ?_
        refine g_iadd dL_law_226 ?_
        obtain ⟨h24, hf⟩ := gd_ hf
        refine g_sld dL_law_227 h24 ?_
        refine g_aload_n (q := 0) dL_law_228 rfl rfl ?_
        refine g_iload_n (q := 3) dL_law_229 rfl rfl ?_
        refine g_iconst (v := 2) dL_law_230 kI_2 ?_
        refine g_iadd dL_law_231 ?_
        obtain ⟨h25, hf⟩ := gd_ hf
        refine g_sld dL_law_232 h25 ?_
        refine g_aload_n (q := 0) dL_law_233 rfl rfl ?_
        refine g_iload_n (q := 3) dL_law_234 rfl rfl ?_
        refine g_iconst (v := 3) dL_law_235 kI_3 ?_
        refine g_iadd dL_law_236 ?_
        obtain ⟨h26, hf⟩ := gd_ hf
        refine g_sld dL_law_237 h26 ?_
        refine g_aload_n (q := 0) dL_law_238 rfl rfl ?_
        refine g_iload_n (q := 3) dL_law_239 rfl rfl ?_
        refine g_iconst (v := 4) dL_law_240 kI_4 ?_
        refine g_iadd dL_law_241 ?_
        obtain ⟨h27, hf⟩ := gd_ hf
        refine g_sld dL_law_242 h27 ?_
        refine g_aload_n (q := 0) dL_law_243 rfl rfl ?_
        refine g_iload_n (q := 3) dL_law_244 rfl rfl ?_
        refine g_iconst (v := 5) dL_law_245 kI_5 ?_
        refine g_iadd dL_law_246 ?_
        obtain ⟨h28, hf⟩ := gd_ hf
        refine g_sld dL_law_247 h28 ?_
        obtain ⟨r29, m31, q30, hf⟩ := cbE_ hf
        refine g_cV (As := [.int (xs (l3 + (1 : Int32)).toNatClampNeg), .int (xs (l3 + (2 : Int32)).toNatClampNeg), .int (xs (l3 + (3 : Int32)).toNatClampNeg), .int (xs (l3 + (4 : Int32)).toNatClampNeg), .int (xs (l3 + (5 : Int32)).toNatClampNeg)]) dL_law_248 (tX9_change E m23 (xs (l3 + (1 : Int32)).toNatClampNeg) (xs (l3 + (2 : Int32)).toNatClampNeg) (xs (l3 + (3 : Int32)).toNatClampNeg) (xs (l3 + (4 : Int32)).toNatClampNeg) (xs (l3 + (5 : Int32)).toNatClampNeg) q30) gyX9_change giX9_change gsX9_change mL_22 (⟨rfl, rfl, Nat.le_of_ble_eq_true rfl, Nat.le_of_ble_eq_true rfl, Nat.le_of_ble_eq_true rfl, Nat.le_of_ble_eq_true rfl⟩) rfl (obX9 E m23) rfl rfl rfl (Nat.le_of_ble_eq_true rfl) ?_
        refine g_icmp_eq (tgt := 1288) dL_law_251 (by decide) (fun c32 => ?_) (fun c32 => ?_)
        · have hf := it_ hf c32
          exact wL_law_b1288 E z b L xs k18 ih18 l3 m31 hf
        · have hf := ie_ hf c32
          refine g_iconst (v := 0) dL_law_254 kI_0 ?_
          exact absurd (show (0 : Int32) = 1 from congrArg Prod.fst (Option.some.inj hf)) (by decide)
      · have hf := ie_ hf c15
        by_cases c33 : ((xs l3.toNatClampNeg) &&& (31 : Int32)) = 2
        · have hf := it_ hf c33
          refine g_tableIn (tgt := 256) (off := 223) dL_law_33 (by rw [c33]; decide) (by rw [c33]; decide) (by rw [c33]; decide) (by decide) ?_
          refine g_aload_n (q := 1) dL_law_256 rfl rfl ?_
          refine g_aload_n (q := 0) dL_law_257 rfl rfl ?_
          refine g_iload_n (q := 3) dL_law_258 rfl rfl ?_
          refine g_iconst (v := 1) dL_law_259 kI_1 ?_
          refine g_iadd dL_law_260 ?_
          obtain ⟨h34, hf⟩ := gd_ hf
          refine g_sld dL_law_261 h34 ?_
          obtain ⟨r35, q36, hf⟩ := cbR_ hf
          refine g_cV (As := [.int (xs (l3 + (1 : Int32)).toNatClampNeg)]) dL_law_262 (tX8_lands E m (xs (l3 + (1 : Int32)).toNatClampNeg) q36) gyX8_lands giX8_lands gsX8_lands mL_23 (⟨rfl, rfl, Nat.le_of_ble_eq_true rfl, Nat.le_of_ble_eq_true rfl, Nat.le_of_ble_eq_true rfl, Nat.le_of_ble_eq_true rfl⟩) rfl (obX8 E m) rfl rfl rfl (Nat.le_of_ble_eq_true rfl) ?_
          refine g_aload_n (q := 2) dL_law_265 rfl rfl ?_
          refine g_aload_n (q := 0) dL_law_266 rfl rfl ?_
          refine g_iload_n (q := 3) dL_law_267 rfl rfl ?_
          refine g_iconst (v := 1) dL_law_268 kI_1 ?_
          refine g_iadd dL_law_269 ?_
          obtain ⟨h37, hf⟩ := gd_ hf
          refine g_sld dL_law_270 h37 ?_
          obtain ⟨r38, q39, hf⟩ := cbR_ hf
          refine g_cV (As := [.int (xs (l3 + (1 : Int32)).toNatClampNeg)]) dL_law_271 (tX9_lands E m (xs (l3 + (1 : Int32)).toNatClampNeg) q39) gyX9_lands giX9_lands gsX9_lands mL_27 (⟨rfl, rfl, Nat.le_of_ble_eq_true rfl, Nat.le_of_ble_eq_true rfl, Nat.le_of_ble_eq_true rfl, Nat.le_of_ble_eq_true rfl⟩) rfl (obX9 E m) rfl rfl rfl (Nat.le_of_ble_eq_true rfl) ?_
          refine g_icmp_eq (tgt := 1288) dL_law_274 (by decide) (fun c40 => ?_) (fun c40 => ?_)
          · have hf := it_ hf c40
            exact wL_law_b1288 E z b L xs k18 ih18 l3 m hf
          · have hf := ie_ hf c40
            refine g_iconst (v := 0) dL_law_277 kI_0 ?_
            exact absurd (show (0 : Int32) = 1 from congrArg Prod.fst (Option.some.inj hf)) (by decide)
        · have hf := ie_ hf c33
          by_cases c41 : ((xs l3.toNatClampNeg) &&& (31 : Int32)) = 3
          · have hf := it_ hf c41
            refine g_tableIn (tgt := 279) (off := 246) dL_law_33 (by rw [c41]; decide) (by rw [c41]; decide) (by rw [c41]; decide) (by decide) ?_
            refine g_aload_n (q := 1) dL_law_279 rfl rfl ?_
            refine g_aload_n (q := 0) dL_law_280 rfl rfl ?_
            refine g_iload_n (q := 3) dL_law_281 rfl rfl ?_
            refine g_iconst (v := 1) dL_law_282 kI_1 ?_
            refine g_iadd dL_law_283 ?_
            obtain ⟨h42, hf⟩ := gd_ hf
            refine g_sld dL_law_284 h42 ?_
            refine g_aload_n (q := 0) dL_law_285 rfl rfl ?_
            refine g_iload_n (q := 3) dL_law_286 rfl rfl ?_
            refine g_iconst (v := 2) dL_law_287 kI_2 ?_
            refine g_iadd dL_law_288 ?_
            obtain ⟨h43, hf⟩ := gd_ hf
            refine g_sld dL_law_289 h43 ?_
            obtain ⟨r44, q45, hf⟩ := cbR_ hf
            refine g_cV (As := [.int (xs (l3 + (1 : Int32)).toNatClampNeg), .int (xs (l3 + (2 : Int32)).toNatClampNeg)]) dL_law_290 (tX8_has E m (xs (l3 + (1 : Int32)).toNatClampNeg) (xs (l3 + (2 : Int32)).toNatClampNeg) q45) gyX8_has giX8_has gsX8_has mL_28 (⟨rfl, rfl, Nat.le_of_ble_eq_true rfl, Nat.le_of_ble_eq_true rfl, Nat.le_of_ble_eq_true rfl, Nat.le_of_ble_eq_true rfl⟩) rfl (obX8 E m) rfl rfl rfl (Nat.le_of_ble_eq_true rfl) ?_
            refine g_aload_n (q := 2) dL_law_293 rfl rfl ?_
            refine g_aload_n (q := 0) dL_law_294 rfl rfl ?_
            refine g_iload_n (q := 3) dL_law_295 rfl rfl ?_
            refine g_iconst (v := 1) dL_law_296 kI_1 ?_
            refine g_iadd dL_law_297 ?_
            obtain ⟨h46, hf⟩ := gd_ hf
            refine g_sld dL_law_298 h46 ?_
            refine g_aload_n (q := 0) dL_law_299 rfl rfl ?_
            refine g_iload_n (q := 3) dL_law_300 rfl rfl ?_
            refine g_iconst (v := 2) dL_law_301 kI_2 ?_
            refine g_iadd dL_law_302 ?_
            obtain ⟨h47, hf⟩ := gd_ hf
            refine g_sld dL_law_303 h47 ?_
            obtain ⟨r48, q49, hf⟩ := cbR_ hf
            refine g_cV (As := [.int (xs (l3 + (1 : Int32)).toNatClampNeg), .int (xs (l3 + (2 : Int32)).toNatClampNeg)]) dL_law_304 (tX9_has E m (xs (l3 + (1 : Int32)).toNatClampNeg) (xs (l3 + (2 : Int32)).toNatClampNeg) q49) gyX9_has giX9_has gsX9_has mL_31 (⟨rfl, rfl, Nat.le_of_ble_eq_true rfl, Nat.le_of_ble_eq_true rfl, Nat.le_of_ble_eq_true rfl, Nat.le_of_ble_eq_true rfl⟩) rfl (obX9 E m) rfl rfl rfl (Nat.le_of_ble_eq_true rfl) ?_
            refine g_icmp_eq (tgt := 1288) dL_law_307 (by decide) (fun c50 => ?_) (fun c50 => ?_)
            · have hf := it_ hf c50
              exact wL_law_b1288 E z b L xs k18 ih18 l3 m hf
            · have hf := ie_ hf c50
              refine g_iconst (v := 0) dL_law_310 kI_0 ?_
              exact absurd (show (0 : Int32) = 1 from congrArg Prod.fst (Option.some.inj hf)) (by decide)
          · have hf := ie_ hf c41
            by_cases c51 : ((xs l3.toNatClampNeg) &&& (31 : Int32)) = 4
            · have hf := it_ hf c51
              refine g_tableIn (tgt := 312) (off := 279) dL_law_33 (by rw [c51]; decide) (by rw [c51]; decide) (by rw [c51]; decide) (by decide) ?_
              refine g_aload_n (q := 1) dL_law_312 rfl rfl ?_
              refine g_aload_n (q := 0) dL_law_313 rfl rfl ?_
              refine g_iload_n (q := 3) dL_law_314 rfl rfl ?_
              refine g_iconst (v := 1) dL_law_315 kI_1 ?_
              refine g_iadd dL_law_316 ?_
              obtain ⟨h52, hf⟩ := gd_ hf
              refine g_sld dL_law_317 h52 ?_
              refine g_aload_n (q := 0) dL_law_318 rfl rfl ?_
              refine g_iload_n (q := 3) dL_law_319 rfl rfl ?_
              refine g_iconst (v := 2) dL_law_320 kI_2 ?_
              refine g_iadd dL_law_321 ?_
              obtain ⟨h53, hf⟩ := gd_ hf
              refine g_sld dL_law_322 h53 ?_
              obtain ⟨r54, q55, hf⟩ := cbR_ hf
              refine g_cV (As := [.int (xs (l3 + (1 : Int32)).toNatClampNeg), .int (xs (l3 + (2 : Int32)).toNatClampNeg)]) dL_law_323 (tX8_whose E m (xs (l3 + (1 : Int32)).toNatClampNeg) (xs (l3 + (2 : Int32)).toNatClampNeg) q55) gyX8_whose giX8_whose gsX8_whose mL_32 (⟨rfl, rfl, Nat.le_of_ble_eq_true rfl, Nat.le_of_ble_eq_true rfl, Nat.le_of_ble_eq_true rfl, Nat.le_of_ble_eq_true rfl⟩) rfl (obX8 E m) rfl rfl rfl (Nat.le_of_ble_eq_true rfl) ?_
              refine g_aload_n (q := 2) dL_law_326 rfl rfl ?_
              refine g_aload_n (q := 0) dL_law_327 rfl rfl ?_
              refine g_iload_n (q := 3) dL_law_328 rfl rfl ?_
              refine g_iconst (v := 1) dL_law_329 kI_1 ?_
              refine g_iadd dL_law_330 ?_
              obtain ⟨h56, hf⟩ := gd_ hf
              refine g_sld dL_law_331 h56 ?_
              refine g_aload_n (q := 0) dL_law_332 rfl rfl ?_
              refine g_iload_n (q := 3) dL_law_333 rfl rfl ?_
              refine g_iconst (v := 2) dL_law_334 kI_2 ?_
              refine g_iadd dL_law_335 ?_
              obtain ⟨h57, hf⟩ := gd_ hf
              refine g_sld dL_law_336 h57 ?_
              obtain ⟨r58, q59, hf⟩ := cbR_ hf
              refine g_cV (As := [.int (xs (l3 + (1 : Int32)).toNatClampNeg), .int (xs (l3 + (2 : Int32)).toNatClampNeg)]) dL_law_337 (tX9_whose E m (xs (l3 + (1 : Int32)).toNatClampNeg) (xs (l3 + (2 : Int32)).toNatClampNeg) q59) gyX9_whose giX9_whose gsX9_whose mL_35 (⟨rfl, rfl, Nat.le_of_ble_eq_true rfl, Nat.le_of_ble_eq_true rfl, Nat.le_of_ble_eq_true rfl, Nat.le_of_ble_eq_true rfl⟩) rfl (obX9 E m) rfl rfl rfl (Nat.le_of_ble_eq_true rfl) ?_
              refine g_icmp_eq (tgt := 1288) dL_law_340 (by decide) (fun c60 => ?_) (fun c60 => ?_)
              · have hf := it_ hf c60
                exact wL_law_b1288 E z b L xs k18 ih18 l3 m hf
              · have hf := ie_ hf c60
                refine g_iconst (v := 0) dL_law_343 kI_0 ?_
                exact absurd (show (0 : Int32) = 1 from congrArg Prod.fst (Option.some.inj hf)) (by decide)
            · have hf := ie_ hf c51
              by_cases c61 : ((xs l3.toNatClampNeg) &&& (31 : Int32)) = 5
              · have hf := it_ hf c61
                refine g_tableIn (tgt := 345) (off := 312) dL_law_33 (by rw [c61]; decide) (by rw [c61]; decide) (by rw [c61]; decide) (by decide) ?_
                refine g_aload_n (q := 1) dL_law_345 rfl rfl ?_
                refine g_aload_n (q := 0) dL_law_346 rfl rfl ?_
                refine g_iload_n (q := 3) dL_law_347 rfl rfl ?_
                refine g_iconst (v := 1) dL_law_348 kI_1 ?_
                refine g_iadd dL_law_349 ?_
                obtain ⟨h62, hf⟩ := gd_ hf
                refine g_sld dL_law_350 h62 ?_
                refine g_aload_n (q := 0) dL_law_351 rfl rfl ?_
                refine g_iload_n (q := 3) dL_law_352 rfl rfl ?_
                refine g_iconst (v := 2) dL_law_353 kI_2 ?_
                refine g_iadd dL_law_354 ?_
                obtain ⟨h63, hf⟩ := gd_ hf
                refine g_sld dL_law_355 h63 ?_
                obtain ⟨r64, q65, hf⟩ := cbR_ hf
                refine g_cV (As := [.int (xs (l3 + (1 : Int32)).toNatClampNeg), .int (xs (l3 + (2 : Int32)).toNatClampNeg)]) dL_law_356 (tX8_from E m (xs (l3 + (1 : Int32)).toNatClampNeg) (xs (l3 + (2 : Int32)).toNatClampNeg) q65) gyX8_from giX8_from gsX8_from mL_36 (⟨rfl, rfl, Nat.le_of_ble_eq_true rfl, Nat.le_of_ble_eq_true rfl, Nat.le_of_ble_eq_true rfl, Nat.le_of_ble_eq_true rfl⟩) rfl (obX8 E m) rfl rfl rfl (Nat.le_of_ble_eq_true rfl) ?_
                refine g_aload_n (q := 2) dL_law_359 rfl rfl ?_
                refine g_aload_n (q := 0) dL_law_360 rfl rfl ?_
                refine g_iload_n (q := 3) dL_law_361 rfl rfl ?_
                refine g_iconst (v := 1) dL_law_362 kI_1 ?_
                refine g_iadd dL_law_363 ?_
                obtain ⟨h66, hf⟩ := gd_ hf
                refine g_sld dL_law_364 h66 ?_
                refine g_aload_n (q := 0) dL_law_365 rfl rfl ?_
                refine g_iload_n (q := 3) dL_law_366 rfl rfl ?_
                refine g_iconst (v := 2) dL_law_367 kI_2 ?_
                refine g_iadd dL_law_368 ?_
                obtain ⟨h67, hf⟩ := gd_ hf
                refine g_sld dL_law_369 h67 ?_
                obtain ⟨r68, q69, hf⟩ := cbR_ hf
                refine g_cV (As := [.int (xs (l3 + (1 : Int32)).toNatClampNeg), .int (xs (l3 + (2 : Int32)).toNatClampNeg)]) dL_law_370 (tX9_from E m (xs (l3 + (1 : Int32)).toNatClampNeg) (xs (l3 + (2 : Int32)).toNatClampNeg) q69) gyX9_from giX9_from gsX9_from mL_39 (⟨rfl, rfl, Nat.le_of_ble_eq_true rfl, Nat.le_of_ble_eq_true rfl, Nat.le_of_ble_eq_true rfl, Nat.le_of_ble_eq_true rfl⟩) rfl (obX9 E m) rfl rfl rfl (Nat.le_of_ble_eq_true rfl) ?_
                refine g_icmp_eq (tgt := 1288) dL_law_373 (by decide) (fun c70 => ?_) (fun c70 => ?_)
                · have hf := it_ hf c70
                  exact wL_law_b1288 E z b L xs k18 ih18 l3 m hf
                · have hf := ie_ hf c70
                  refine g_iconst (v := 0) dL_law_376 kI_0 ?_
                  exact absurd (show (0 : Int32) = 1 from congrArg Prod.fst (Option.some.inj hf)) (by decide)
              · have hf := ie_ hf c61
                by_cases c71 : ((xs l3.toNatClampNeg) &&& (31 : Int32)) = 6
                · have hf := it_ hf c71
                  refine g_tableIn (tgt := 378) (off := 345) dL_law_33 (by rw [c71]; decide) (by rw [c71]; decide) (by rw [c71]; decide) (by decide) ?_
                  refine g_aload_n (q := 1) dL_law_378 rfl rfl ?_
                  refine g_aload_n (q := 0) dL_law_379 rfl rfl ?_
                  refine g_iload_n (q := 3) dL_law_380 rfl rfl ?_
                  refine g_iconst (v := 1) dL_law_381 kI_1 ?_
                  refine g_iadd dL_law_382 ?_
                  obtain ⟨h72, hf⟩ := gd_ hf
                  refine g_sld dL_law_383 h72 ?_
                  refine g_aload_n (q := 0) dL_law_384 rfl rfl ?_
                  refine g_iload_n (q := 3) dL_law_385 rfl rfl ?_
                  refine g_iconst (v := 2) dL_law_386 kI_2 ?_
                  refine g_iadd dL_law_387 ?_
                  obtain ⟨h73, hf⟩ := gd_ hf
                  refine g_sld dL_law_388 h73 ?_
                  obtain ⟨r74, q75, hf⟩ := cbR_ hf
                  refine g_cV (As := [.int (xs (l3 + (1 : Int32)).toNatClampNeg), .int (xs (l3 + (2 : Int32)).toNatClampNeg)]) dL_law_389 (tX8_heir E m (xs (l3 + (1 : Int32)).toNatClampNeg) (xs (l3 + (2 : Int32)).toNatClampNeg) q75) gyX8_heir giX8_heir gsX8_heir mL_40 (⟨rfl, rfl, Nat.le_of_ble_eq_true rfl, Nat.le_of_ble_eq_true rfl, Nat.le_of_ble_eq_true rfl, Nat.le_of_ble_eq_true rfl⟩) rfl (obX8 E m) rfl rfl rfl (Nat.le_of_ble_eq_true rfl) ?_
                  refine g_aload_n (q := 2) dL_law_392 rfl rfl ?_
                  refine g_aload_n (q := 0) dL_law_393 rfl rfl ?_
                  refine g_iload_n (q := 3) dL_law_394 rfl rfl ?_
                  refine g_iconst (v := 1) dL_law_395 kI_1 ?_
                  refine g_iadd dL_law_396 ?_
                  obtain ⟨h76, hf⟩ := gd_ hf
                  refine g_sld dL_law_397 h76 ?_
                  refine g_aload_n (q := 0) dL_law_398 rfl rfl ?_
                  refine g_iload_n (q := 3) dL_law_399 rfl rfl ?_
                  refine g_iconst (v := 2) dL_law_400 kI_2 ?_
                  refine g_iadd dL_law_401 ?_
                  obtain ⟨h77, hf⟩ := gd_ hf
                  refine g_sld dL_law_402 h77 ?_
                  obtain ⟨r78, q79, hf⟩ := cbR_ hf
                  refine g_cV (As := [.int (xs (l3 + (1 : Int32)).toNatClampNeg), .int (xs (l3 + (2 : Int32)).toNatClampNeg)]) dL_law_403 (tX9_heir E m (xs (l3 + (1 : Int32)).toNatClampNeg) (xs (l3 + (2 : Int32)).toNatClampNeg) q79) gyX9_heir giX9_heir gsX9_heir mL_43 (⟨rfl, rfl, Nat.le_of_ble_eq_true rfl, Nat.le_of_ble_eq_true rfl, Nat.le_of_ble_eq_true rfl, Nat.le_of_ble_eq_true rfl⟩) rfl (obX9 E m) rfl rfl rfl (Nat.le_of_ble_eq_true rfl) ?_
                  refine g_icmp_eq (tgt := 1288) dL_law_406 (by decide) (fun c80 => ?_) (fun c80 => ?_)
                  · have hf := it_ hf c80
                    exact wL_law_b1288 E z b L xs k18 ih18 l3 m hf
                  · have hf := ie_ hf c80
                    refine g_iconst (v := 0) dL_law_409 kI_0 ?_
                    exact absurd (show (0 : Int32) = 1 from congrArg Prod.fst (Option.some.inj hf)) (by decide)
                · have hf := ie_ hf c71
                  by_cases c81 : ((xs l3.toNatClampNeg) &&& (31 : Int32)) = 7
                  · have hf := it_ hf c81
                    refine g_tableIn (tgt := 411) (off := 378) dL_law_33 (by rw [c81]; decide) (by rw [c81]; decide) (by rw [c81]; decide) (by decide) ?_
                    refine g_aload_n (q := 1) dL_law_411 rfl rfl ?_
                    refine g_aload_n (q := 0) dL_law_412 rfl rfl ?_
                    refine g_iload_n (q := 3) dL_law_413 rfl rfl ?_
                    refine g_iconst (v := 1) dL_law_414 kI_1 ?_
                    refine g_iadd dL_law_415 ?_
                    obtain ⟨h82, hf⟩ := gd_ hf
                    refine g_sld dL_law_416 h82 ?_
                    refine g_i2l dL_law_417 ?_
                    refine g_bipush (v := 32) dL_law_418 kB_32 ?_
                    refine g_lshl dL_law_420 ?_
                    refine g_aload_n (q := 0) dL_law_421 rfl rfl ?_
                    refine g_iload_n (q := 3) dL_law_422 rfl rfl ?_
                    refine g_iconst (v := 2) dL_law_423 kI_2 ?_
                    refine g_iadd dL_law_424 ?_
                    obtain ⟨h83, hf⟩ := gd_ hf
                    refine g_sld dL_law_425 h83 ?_
                    refine g_i2l dL_law_426 ?_
                    refine g_ldc2 dL_law_427 cL_44 ?_
                    refine g_land dL_law_430 ?_
                    refine g_lor dL_law_431 ?_
                    refine g_aload_n (q := 0) dL_law_432 rfl rfl ?_
                    refine g_iload_n (q := 3) dL_law_433 rfl rfl ?_
                    refine g_iconst (v := 3) dL_law_434 kI_3 ?_
                    refine g_iadd dL_law_435 ?_
                    obtain ⟨h84, hf⟩ := gd_ hf
                    refine g_sld dL_law_436 h84 ?_
                    obtain ⟨r85, m87, q86, hf⟩ := cbE_ hf
                    refine g_cV (As := [.long ((((xs (l3 + (1 : Int32)).toNatClampNeg).toInt64) <<< ((32 : Int32).toInt64 &&& 63)) ||| (((xs (l3 + (2 : Int32)).toNatClampNeg).toInt64) &&& (4294967295 : Int64))), .int (xs (l3 + (3 : Int32)).toNatClampNeg)]) dL_law_437 (tX8_write E m ((((xs (l3 + (1 : Int32)).toNatClampNeg).toInt64) <<< ((32 : Int32).toInt64 &&& 63)) ||| (((xs (l3 + (2 : Int32)).toNatClampNeg).toInt64) &&& (4294967295 : Int64))) (xs (l3 + (3 : Int32)).toNatClampNeg) q86) gyX8_write giX8_write gsX8_write mL_46 (⟨rfl, rfl, Nat.le_of_ble_eq_true rfl, Nat.le_of_ble_eq_true rfl, Nat.le_of_ble_eq_true rfl, Nat.le_of_ble_eq_true rfl⟩) rfl (obX8 E m) rfl rfl rfl (Nat.le_of_ble_eq_true rfl) ?_
                    refine g_aload_n (q := 2) dL_law_440 rfl rfl ?_
                    refine g_aload_n (q := 0) dL_law_441 rfl rfl ?_
                    refine g_iload_n (q := 3) dL_law_442 rfl rfl ?_
                    refine g_iconst (v := 1) dL_law_443 kI_1 ?_
                    refine g_iadd dL_law_444 ?_
                    obtain ⟨h88, hf⟩ := gd_ hf
                    refine g_sld dL_law_445 h88 ?_
                    refine g_i2l dL_law_446 ?_
                    refine g_bipush (v := 32) dL_law_447 kB_32 ?_
                    refine g_lshl dL_law_449 ?_
                    refine g_aload_n (q := 0) dL_law_450 rfl rfl ?_
                    refine g_iload_n (q := 3) dL_law_451 rfl rfl ?_
                    refine g_iconst (v := 2) dL_law_452 kI_2 ?_
                    refine g_iadd dL_law_453 ?_
                    obtain ⟨h89, hf⟩ := gd_ hf
                    refine g_sld dL_law_454 h89 ?_
                    refine g_i2l dL_law_455 ?_
                    refine g_ldc2 dL_law_456 cL_44 ?_
                    refine g_land dL_law_459 ?_
                    refine g_lor dL_law_460 ?_
                    refine g_aload_n (q := 0) dL_law_461 rfl rfl ?_
                    refine g_iload_n (q := 3) dL_law_462 rfl rfl ?_
                    refine g_iconst (v := 3) dL_law_463 kI_3 ?_
                    refine g_iadd dL_law_464 ?_
                    obtain ⟨h90, hf⟩ := gd_ hf
                    refine g_sld dL_law_465 h90 ?_
                    obtain ⟨r91, m93, q92, hf⟩ := cbE_ hf
                    refine g_cV (As := [.long ((((xs (l3 + (1 : Int32)).toNatClampNeg).toInt64) <<< ((32 : Int32).toInt64 &&& 63)) ||| (((xs (l3 + (2 : Int32)).toNatClampNeg).toInt64) &&& (4294967295 : Int64))), .int (xs (l3 + (3 : Int32)).toNatClampNeg)]) dL_law_466 (tX9_write E m87 ((((xs (l3 + (1 : Int32)).toNatClampNeg).toInt64) <<< ((32 : Int32).toInt64 &&& 63)) ||| (((xs (l3 + (2 : Int32)).toNatClampNeg).toInt64) &&& (4294967295 : Int64))) (xs (l3 + (3 : Int32)).toNatClampNeg) q92) gyX9_write giX9_write gsX9_write mL_50 (⟨rfl, rfl, Nat.le_of_ble_eq_true rfl, Nat.le_of_ble_eq_true rfl, Nat.le_of_ble_eq_true rfl, Nat.le_of_ble_eq_true rfl⟩) rfl (obX9 E m87) rfl rfl rfl (Nat.le_of_ble_eq_true rfl) ?_
                    refine g_icmp_eq (tgt := 1288) dL_law_469 (by decide) (fun c94 => ?_) (fun c94 => ?_)
                    · have hf := it_ hf c94
                      exact wL_law_b1288 E z b L xs k18 ih18 l3 m93 hf
                    · have hf := ie_ hf c94
                      refine g_iconst (v := 0) dL_law_472 kI_0 ?_
                      exact absurd (show (0 : Int32) = 1 from congrArg Prod.fst (Option.some.inj hf)) (by decide)
                  · have hf := ie_ hf c81
                    by_cases c95 : ((xs l3.toNatClampNeg) &&& (31 : Int32)) = 8
                    · have hf := it_ hf c95
                      refine g_tableIn (tgt := 474) (off := 441) dL_law_33 (by rw [c95]; decide) (by rw [c95]; decide) (by rw [c95]; decide) (by decide) ?_
                      refine g_aload_n (q := 1) dL_law_474 rfl rfl ?_
                      obtain ⟨r96, m98, q97, hf⟩ := cbE_ hf
                      refine g_cV (As := []) dL_law_475 (tX8_erase E m q97) gyX8_erase giX8_erase gsX8_erase mL_51 (⟨rfl, rfl, Nat.le_of_ble_eq_true rfl, Nat.le_of_ble_eq_true rfl, Nat.le_of_ble_eq_true rfl, Nat.le_of_ble_eq_true rfl⟩) rfl (obX8 E m) rfl rfl rfl (Nat.le_of_ble_eq_true rfl) ?_
                      refine g_aload_n (q := 2) dL_law_478 rfl rfl ?_
                      obtain ⟨r99, m101, q100, hf⟩ := cbE_ hf
                      refine g_cV (As := []) dL_law_479 (tX9_erase E m98 q100) gyX9_erase giX9_erase gsX9_erase mL_55 (⟨rfl, rfl, Nat.le_of_ble_eq_true rfl, Nat.le_of_ble_eq_true rfl, Nat.le_of_ble_eq_true rfl, Nat.le_of_ble_eq_true rfl⟩) rfl (obX9 E m98) rfl rfl rfl (Nat.le_of_ble_eq_true rfl) ?_
                      refine g_icmp_eq (tgt := 1288) dL_law_482 (by decide) (fun c102 => ?_) (fun c102 => ?_)
                      · have hf := it_ hf c102
                        exact wL_law_b1288 E z b L xs k18 ih18 l3 m101 hf
                      · have hf := ie_ hf c102
                        refine g_iconst (v := 0) dL_law_485 kI_0 ?_
                        exact absurd (show (0 : Int32) = 1 from congrArg Prod.fst (Option.some.inj hf)) (by decide)
                    · have hf := ie_ hf c95
                      by_cases c103 : ((xs l3.toNatClampNeg) &&& (31 : Int32)) = 9
                      · have hf := it_ hf c103
                        refine g_tableIn (tgt := 487) (off := 454) dL_law_33 (by rw [c103]; decide) (by rw [c103]; decide) (by rw [c103]; decide) (by decide) ?_
                        refine g_aload_n (q := 1) dL_law_487 rfl rfl ?_
                        obtain ⟨r104, m106, q105, hf⟩ := cbE_ hf
                        refine g_cV (As := []) dL_law_488 (tX8_fault E m q105) gyX8_fault giX8_fault gsX8_fault mL_56 (⟨rfl, rfl, Nat.le_of_ble_eq_true rfl, Nat.le_of_ble_eq_true rfl, Nat.le_of_ble_eq_true rfl, Nat.le_of_ble_eq_true rfl⟩) rfl (obX8 E m) rfl rfl rfl (Nat.le_of_ble_eq_true rfl) ?_
                        refine g_aload_n (q := 2) dL_law_491 rfl rfl ?_
                        obtain ⟨r107, m109, q108, hf⟩ := cbE_ hf
                        refine g_cV (As := []) dL_law_492 (tX9_fault E m106 q108) gyX9_fault giX9_fault gsX9_fault mL_59 (⟨rfl, rfl, Nat.le_of_ble_eq_true rfl, Nat.le_of_ble_eq_true rfl, Nat.le_of_ble_eq_true rfl, Nat.le_of_ble_eq_true rfl⟩) rfl (obX9 E m106) rfl rfl rfl (Nat.le_of_ble_eq_true rfl) ?_
                        refine g_icmp_eq (tgt := 1288) dL_law_495 (by decide) (fun c110 => ?_) (fun c110 => ?_)
                        · have hf := it_ hf c110
                          exact wL_law_b1288 E z b L xs k18 ih18 l3 m109 hf
                        · have hf := ie_ hf c110
                          refine g_iconst (v := 0) dL_law_498 kI_0 ?_
                          exact absurd (show (0 : Int32) = 1 from congrArg Prod.fst (Option.some.inj hf)) (by decide)
                      · have hf := ie_ hf c103
                        by_cases c111 : ((xs l3.toNatClampNeg) &&& (31 : Int32)) = 10
                        · have hf := it_ hf c111
                          refine g_tableIn (tgt := 500) (off := 467) dL_law_33 (by rw [c111]; decide) (by rw [c111]; decide) (by rw [c111]; decide) (by decide) ?_
                          refine g_aload_n (q := 1) dL_law_500 rfl rfl ?_
                          obtain ⟨r112, m114, q113, hf⟩ := cbE_ hf
                          refine g_cV (As := []) dL_law_501 (tX8_rules E m q113) gyX8_rules giX8_rules gsX8_rules mL_60 (⟨rfl, rfl, Nat.le_of_ble_eq_true rfl, Nat.le_of_ble_eq_true rfl, Nat.le_of_ble_eq_true rfl, Nat.le_of_ble_eq_true rfl⟩) rfl (obX8 E m) rfl rfl rfl (Nat.le_of_ble_eq_true rfl) ?_
                          refine g_aload_n (q := 2) dL_law_504 rfl rfl ?_
                          obtain ⟨r115, m117, q116, hf⟩ := cbE_ hf
                          refine g_cV (As := []) dL_law_505 (tX9_rules E m114 q116) gyX9_rules giX9_rules gsX9_rules mL_63 (⟨rfl, rfl, Nat.le_of_ble_eq_true rfl, Nat.le_of_ble_eq_true rfl, Nat.le_of_ble_eq_true rfl, Nat.le_of_ble_eq_true rfl⟩) rfl (obX9 E m114) rfl rfl rfl (Nat.le_of_ble_eq_true rfl) ?_
                          refine g_icmp_eq (tgt := 1288) dL_law_508 (by decide) (fun c118 => ?_) (fun c118 => ?_)
                          · have hf := it_ hf c118
                            exact wL_law_b1288 E z b L xs k18 ih18 l3 m117 hf
                          · have hf := ie_ hf c118
                            refine g_iconst (v := 0) dL_law_511 kI_0 ?_
                            exact absurd (show (0 : Int32) = 1 from congrArg Prod.fst (Option.some.inj hf)) (by decide)
                        · have hf := ie_ hf c111
                          by_cases c119 : ((xs l3.toNatClampNeg) &&& (31 : Int32)) = 11
                          · have hf := it_ hf c119
                            refine g_tableIn (tgt := 513) (off := 480) dL_law_33 (by rw [c119]; decide) (by rw [c119]; decide) (by rw [c119]; decide) (by decide) ?_
                            refine g_aload_n (q := 1) dL_law_513 rfl rfl ?_
                            refine g_aload_n (q := 0) dL_law_514 rfl rfl ?_
                            refine g_iload_n (q := 3) dL_law_515 rfl rfl ?_
                            refine g_iconst (v := 1) dL_law_516 kI_1 ?_
                            refine g_iadd dL_law_517 ?_
                            obtain ⟨h120, hf⟩ := gd_ hf
                            refine g_sld dL_law_518 h120 ?_
                            obtain ⟨r121, q122, hf⟩ := cbR_ hf
                            refine g_cV (As := [.int (xs (l3 + (1 : Int32)).toNatClampNeg)]) dL_law_519 (tX8_rule E m (xs (l3 + (1 : Int32)).toNatClampNeg) q122) gyX8_rule giX8_rule gsX8_rule mL_64 (⟨rfl, rfl, Nat.le_of_ble_eq_true rfl, Nat.le_of_ble_eq_true rfl, Nat.le_of_ble_eq_true rfl, Nat.le_of_ble_eq_true rfl⟩) rfl (obX8 E m) rfl rfl rfl (Nat.le_of_ble_eq_true rfl) ?_
                            refine g_aload_n (q := 2) dL_law_522 rfl rfl ?_
                            refine g_aload_n (q := 0) dL_law_523 rfl rfl ?_
                            refine g_iload_n (q := 3) dL_law_524 rfl rfl ?_
                            refine g_iconst (v := 1) dL_law_525 kI_1 ?_
                            refine g_iadd dL_law_526 ?_
                            obtain ⟨h123, hf⟩ := gd_ hf
                            refine g_sld dL_law_527 h123 ?_
                            obtain ⟨r124, q125, hf⟩ := cbR_ hf
                            refine g_cV (As := [.int (xs (l3 + (1 : Int32)).toNatClampNeg)]) dL_law_528 (tX9_rule E m (xs (l3 + (1 : Int32)).toNatClampNeg) q125) gyX9_rule giX9_rule gsX9_rule mL_67 (⟨rfl, rfl, Nat.le_of_ble_eq_true rfl, Nat.le_of_ble_eq_true rfl, Nat.le_of_ble_eq_true rfl, Nat.le_of_ble_eq_true rfl⟩) rfl (obX9 E m) rfl rfl rfl (Nat.le_of_ble_eq_true rfl) ?_
                            refine g_icmp_eq (tgt := 1288) dL_law_531 (by decide) (fun c126 => ?_) (fun c126 => ?_)
                            · have hf := it_ hf c126
                              exact wL_law_b1288 E z b L xs k18 ih18 l3 m hf
                            · have hf := ie_ hf c126
                              refine g_iconst (v := 0) dL_law_534 kI_0 ?_
                              exact absurd (show (0 : Int32) = 1 from congrArg Prod.fst (Option.some.inj hf)) (by decide)
                          · have hf := ie_ hf c119
                            by_cases c127 : ((xs l3.toNatClampNeg) &&& (31 : Int32)) = 12
                            · have hf := it_ hf c127
                              refine g_tableIn (tgt := 536) (off := 503) dL_law_33 (by rw [c127]; decide) (by rw [c127]; decide) (by rw [c127]; decide) (by decide) ?_
                              refine g_aload_n (q := 1) dL_law_536 rfl rfl ?_
                              refine g_aload_n (q := 0) dL_law_537 rfl rfl ?_
                              refine g_iload_n (q := 3) dL_law_538 rfl rfl ?_
                              refine g_iconst (v := 1) dL_law_539 kI_1 ?_
                              refine g_iadd dL_law_540 ?_
                              obtain ⟨h128, hf⟩ := gd_ hf
                              refine g_sld dL_law_541 h128 ?_
                              refine g_aload_n (q := 0) dL_law_542 rfl rfl ?_
                              refine g_iload_n (q := 3) dL_law_543 rfl rfl ?_
                              refine g_iconst (v := 2) dL_law_544 kI_2 ?_
                              refine g_iadd dL_law_545 ?_
                              obtain ⟨h129, hf⟩ := gd_ hf
                              refine g_sld dL_law_546 h129 ?_
                              refine g_aload_n (q := 0) dL_law_547 rfl rfl ?_
                              refine g_iload_n (q := 3) dL_law_548 rfl rfl ?_
                              refine g_iconst (v := 3) dL_law_549 kI_3 ?_
                              refine g_iadd dL_law_550 ?_
                              obtain ⟨h130, hf⟩ := gd_ hf
                              refine g_sld dL_law_551 h130 ?_
                              refine g_aload_n (q := 0) dL_law_552 rfl rfl ?_
                              refine g_iload_n (q := 3) dL_law_553 rfl rfl ?_
                              refine g_iconst (v := 4) dL_law_554 kI_4 ?_
                              refine g_iadd dL_law_555 ?_
                              obtain ⟨h131, hf⟩ := gd_ hf
                              refine g_sld dL_law_556 h131 ?_
                              refine g_aload_n (q := 0) dL_law_557 rfl rfl ?_
                              refine g_iload_n (q := 3) dL_law_558 rfl rfl ?_
                              refine g_iconst (v := 5) dL_law_559 kI_5 ?_
                              refine g_iadd dL_law_560 ?_
                              obtain ⟨h132, hf⟩ := gd_ hf
                              refine g_sld dL_law_561 h132 ?_
                              obtain ⟨r133, m135, q134, hf⟩ := cbE_ hf
                              refine g_cV (As := [.int (xs (l3 + (1 : Int32)).toNatClampNeg), .int (xs (l3 + (2 : Int32)).toNatClampNeg), .int (xs (l3 + (3 : Int32)).toNatClampNeg), .int (xs (l3 + (4 : Int32)).toNatClampNeg), .int (xs (l3 + (5 : Int32)).toNatClampNeg)]) dL_law_562 (tX8_pact E m (xs (l3 + (1 : Int32)).toNatClampNeg) (xs (l3 + (2 : Int32)).toNatClampNeg) (xs (l3 + (3 : Int32)).toNatClampNeg) (xs (l3 + (4 : Int32)).toNatClampNeg) (xs (l3 + (5 : Int32)).toNatClampNeg) q134) gyX8_pact giX8_pact gsX8_pact mL_68 (⟨rfl, rfl, Nat.le_of_ble_eq_true rfl, Nat.le_of_ble_eq_true rfl, Nat.le_of_ble_eq_true rfl, Nat.le_of_ble_eq_true rfl⟩) rfl (obX8 E m) rfl rfl rfl (Nat.le_of_ble_eq_true rfl) ?_
                              refine g_aload_n (q := 2) dL_law_565 rfl rfl ?_
                              refine g_aload_n (q := 0) dL_law_566 rfl rfl ?_
                              refine g_iload_n (q := 3) dL_law_567 rfl rfl ?_
                              refine g_iconst (v := 1) dL_law_568 kI_1 ?_
                              refine g_iadd dL_law_569 ?_
                              obtain ⟨h136, hf⟩ := gd_ hf
                              refine g_sld dL_law_570 h136 ?_
                              refine g_aload_n (q := 0) dL_law_571 rfl rfl ?_
                              refine g_iload_n (q := 3) dL_law_572 rfl rfl ?_
                              refine g_iconst (v := 2) dL_law_573 kI_2 ?_
                              refine g_iadd dL_law_574 ?_
                              obtain ⟨h137, hf⟩ := gd_ hf
                              refine g_sld dL_law_575 h137 ?_
                              refine g_aload_n (q := 0) dL_law_576 rfl rfl ?_
                              refine g_iload_n (q := 3) dL_law_577 rfl rfl ?_
                              refine g_iconst (v := 3) dL_law_578 kI_3 ?_
                              refine g_iadd dL_law_579 ?_
                              obtain ⟨h138, hf⟩ := gd_ hf
                              refine g_sld dL_law_580 h138 ?_
                              refine g_aload_n (q := 0) dL_law_581 rfl rfl ?_
                              refine g_iload_n (q := 3) dL_law_582 rfl rfl ?_
                              refine g_iconst (v := 4) dL_law_583 kI_4 ?_
                              refine g_iadd dL_law_584 ?_
                              obtain ⟨h139, hf⟩ := gd_ hf
                              refine g_sld dL_law_585 h139 ?_
                              refine g_aload_n (q := 0) dL_law_586 rfl rfl ?_
                              refine g_iload_n (q := 3) dL_law_587 rfl rfl ?_
                              refine g_iconst (v := 5) dL_law_588 kI_5 ?_
                              refine g_iadd dL_law_589 ?_
                              obtain ⟨h140, hf⟩ := gd_ hf
                              refine g_sld dL_law_590 h140 ?_
                              obtain ⟨r141, m143, q142, hf⟩ := cbE_ hf
                              refine g_cV (As := [.int (xs (l3 + (1 : Int32)).toNatClampNeg), .int (xs (l3 + (2 : Int32)).toNatClampNeg), .int (xs (l3 + (3 : Int32)).toNatClampNeg), .int (xs (l3 + (4 : Int32)).toNatClampNeg), .int (xs (l3 + (5 : Int32)).toNatClampNeg)]) dL_law_591 (tX9_pact E m135 (xs (l3 + (1 : Int32)).toNatClampNeg) (xs (l3 + (2 : Int32)).toNatClampNeg) (xs (l3 + (3 : Int32)).toNatClampNeg) (xs (l3 + (4 : Int32)).toNatClampNeg) (xs (l3 + (5 : Int32)).toNatClampNeg) q142) gyX9_pact giX9_pact gsX9_pact mL_71 (⟨rfl, rfl, Nat.le_of_ble_eq_true rfl, Nat.le_of_ble_eq_true rfl, Nat.le_of_ble_eq_true rfl, Nat.le_of_ble_eq_true rfl⟩) rfl (obX9 E m135) rfl rfl rfl (Nat.le_of_ble_eq_true rfl) ?_
                              refine g_icmp_eq (tgt := 1288) dL_law_594 (by decide) (fun c144 => ?_) (fun c144 => ?_)
                              · have hf := it_ hf c144
                                exact wL_law_b1288 E z b L xs k18 ih18 l3 m143 hf
                              · have hf := ie_ hf c144
                                refine g_iconst (v := 0) dL_law_597 kI_0 ?_
                                exact absurd (show (0 : Int32) = 1 from congrArg Prod.fst (Option.some.inj hf)) (by decide)
                            · have hf := ie_ hf c127
                              by_cases c145 : ((xs l3.toNatClampNeg) &&& (31 : Int32)) = 13
                              · have hf := it_ hf c145
                                refine g_tableIn (tgt := 599) (off := 566) dL_law_33 (by rw [c145]; decide) (by rw [c145]; decide) (by rw [c145]; decide) (by decide) ?_
                                refine g_aload_n (q := 1) dL_law_599 rfl rfl ?_
                                refine g_aload_n (q := 0) dL_law_600 rfl rfl ?_
                                refine g_iload_n (q := 3) dL_law_601 rfl rfl ?_
                                refine g_iconst (v := 1) dL_law_602 kI_1 ?_
                                refine g_iadd dL_law_603 ?_
                                obtain ⟨h146, hf⟩ := gd_ hf
                                refine g_sld dL_law_604 h146 ?_
                                refine g_aload_n (q := 0) dL_law_605 rfl rfl ?_
                                refine g_iload_n (q := 3) dL_law_606 rfl rfl ?_
                                refine g_iconst (v := 2) dL_law_607 kI_2 ?_
                                refine g_iadd dL_law_608 ?_
                                obtain ⟨h147, hf⟩ := gd_ hf
                                refine g_sld dL_law_609 h147 ?_
                                refine g_aload_n (q := 0) dL_law_610 rfl rfl ?_
                                refine g_iload_n (q := 3) dL_law_611 rfl rfl ?_
                                refine g_iconst (v := 3) dL_law_612 kI_3 ?_
                                refine g_iadd dL_law_613 ?_
                                obtain ⟨h148, hf⟩ := gd_ hf
                                refine g_sld dL_law_614 h148 ?_
                                refine g_if_eq (tgt := 622) dL_law_615 (by decide) (fun c149 => ?_) (fun c149 => ?_)
                                · have hf := it_ hf c149
                                  refine g_iconst (v := 0) dL_law_622 kI_0 ?_
                                  exact wL_law_b623 E z b L xs k18 ih18 l3 0 (xs (l3 + (2 : Int32)).toNatClampNeg) (xs (l3 + (1 : Int32)).toNatClampNeg) m hf
                                · have hf := ie_ hf c149
                                  refine g_iconst (v := 1) dL_law_618 kI_1 ?_
                                  refine g_goto (tgt := 623) dL_law_619 (by decide) ?_
                                  exact wL_law_b623 E z b L xs k18 ih18 l3 1 (xs (l3 + (2 : Int32)).toNatClampNeg) (xs (l3 + (1 : Int32)).toNatClampNeg) m hf
                              · have hf := ie_ hf c145
                                by_cases c150 : ((xs l3.toNatClampNeg) &&& (31 : Int32)) = 14
                                · have hf := it_ hf c150
                                  refine g_tableIn (tgt := 694) (off := 661) dL_law_33 (by rw [c150]; decide) (by rw [c150]; decide) (by rw [c150]; decide) (by decide) ?_
                                  refine g_aload_n (q := 1) dL_law_694 rfl rfl ?_
                                  refine g_aload_n (q := 0) dL_law_695 rfl rfl ?_
                                  refine g_iload_n (q := 3) dL_law_696 rfl rfl ?_
                                  refine g_iconst (v := 1) dL_law_697 kI_1 ?_
                                  refine g_iadd dL_law_698 ?_
                                  obtain ⟨h151, hf⟩ := gd_ hf
                                  refine g_sld dL_law_699 h151 ?_
                                  refine g_aload_n (q := 0) dL_law_700 rfl rfl ?_
                                  refine g_iload_n (q := 3) dL_law_701 rfl rfl ?_
                                  refine g_iconst (v := 2) dL_law_702 kI_2 ?_
                                  refine g_iadd dL_law_703 ?_
                                  obtain ⟨h152, hf⟩ := gd_ hf
                                  refine g_sld dL_law_704 h152 ?_
                                  refine g_aload_n (q := 0) dL_law_705 rfl rfl ?_
                                  refine g_iload_n (q := 3) dL_law_706 rfl rfl ?_
                                  refine g_iconst (v := 3) dL_law_707 kI_3 ?_
                                  refine g_iadd dL_law_708 ?_
                                  obtain ⟨h153, hf⟩ := gd_ hf
                                  refine g_sld dL_law_709 h153 ?_
                                  refine g_if_eq (tgt := 717) dL_law_710 (by decide) (fun c154 => ?_) (fun c154 => ?_)
                                  · have hf := it_ hf c154
                                    refine g_iconst (v := 0) dL_law_717 kI_0 ?_
                                    exact wL_law_b718 E z b L xs k18 ih18 l3 0 (xs (l3 + (2 : Int32)).toNatClampNeg) (xs (l3 + (1 : Int32)).toNatClampNeg) m hf
                                  · have hf := ie_ hf c154
                                    refine g_iconst (v := 1) dL_law_713 kI_1 ?_
                                    refine g_goto (tgt := 718) dL_law_714 (by decide) ?_
                                    exact wL_law_b718 E z b L xs k18 ih18 l3 1 (xs (l3 + (2 : Int32)).toNatClampNeg) (xs (l3 + (1 : Int32)).toNatClampNeg) m hf
                                · have hf := ie_ hf c150
                                  by_cases c155 : ((xs l3.toNatClampNeg) &&& (31 : Int32)) = 15
                                  · have hf := it_ hf c155
                                    refine g_tableIn (tgt := 763) (off := 730) dL_law_33 (by rw [c155]; decide) (by rw [c155]; decide) (by rw [c155]; decide) (by decide) ?_
                                    refine g_aload_n (q := 1) dL_law_763 rfl rfl ?_
                                    refine g_aload_n (q := 0) dL_law_764 rfl rfl ?_
                                    refine g_iload_n (q := 3) dL_law_765 rfl rfl ?_
                                    refine g_iconst (v := 1) dL_law_766 kI_1 ?_
                                    refine g_iadd dL_law_767 ?_
                                    obtain ⟨h156, hf⟩ := gd_ hf
                                    refine g_sld dL_law_768 h156 ?_
                                    refine g_aload_n (q := 0) dL_law_769 rfl rfl ?_
                                    refine g_iload_n (q := 3) dL_law_770 rfl rfl ?_
                                    refine g_iconst (v := 2) dL_law_771 kI_2 ?_
                                    refine g_iadd dL_law_772 ?_
                                    obtain ⟨h157, hf⟩ := gd_ hf
                                    refine g_sld dL_law_773 h157 ?_
                                    obtain ⟨r158, m160, q159, hf⟩ := cbE_ hf
                                    refine g_cV (As := [.int (xs (l3 + (1 : Int32)).toNatClampNeg), .int (xs (l3 + (2 : Int32)).toNatClampNeg)]) dL_law_774 (tX8_bound E m (xs (l3 + (1 : Int32)).toNatClampNeg) (xs (l3 + (2 : Int32)).toNatClampNeg) q159) gyX8_bound giX8_bound gsX8_bound mL_82 (⟨rfl, rfl, Nat.le_of_ble_eq_true rfl, Nat.le_of_ble_eq_true rfl, Nat.le_of_ble_eq_true rfl, Nat.le_of_ble_eq_true rfl⟩) rfl (obX8 E m) rfl rfl rfl (Nat.le_of_ble_eq_true rfl) ?_
                                    refine g_aload_n (q := 2) dL_law_777 rfl rfl ?_
                                    refine g_aload_n (q := 0) dL_law_778 rfl rfl ?_
                                    refine g_iload_n (q := 3) dL_law_779 rfl rfl ?_
                                    refine g_iconst (v := 1) dL_law_780 kI_1 ?_
                                    refine g_iadd dL_law_781 ?_
                                    obtain ⟨h161, hf⟩ := gd_ hf
                                    refine g_sld dL_law_782 h161 ?_
                                    refine g_aload_n (q := 0) dL_law_783 rfl rfl ?_
                                    refine g_iload_n (q := 3) dL_law_784 rfl rfl ?_
                                    refine g_iconst (v := 2) dL_law_785 kI_2 ?_
                                    refine g_iadd dL_law_786 ?_
                                    obtain ⟨h162, hf⟩ := gd_ hf
                                    refine g_sld dL_law_787 h162 ?_
                                    obtain ⟨r163, m165, q164, hf⟩ := cbE_ hf
                                    refine g_cV (As := [.int (xs (l3 + (1 : Int32)).toNatClampNeg), .int (xs (l3 + (2 : Int32)).toNatClampNeg)]) dL_law_788 (tX9_bound E m160 (xs (l3 + (1 : Int32)).toNatClampNeg) (xs (l3 + (2 : Int32)).toNatClampNeg) q164) gyX9_bound giX9_bound gsX9_bound mL_85 (⟨rfl, rfl, Nat.le_of_ble_eq_true rfl, Nat.le_of_ble_eq_true rfl, Nat.le_of_ble_eq_true rfl, Nat.le_of_ble_eq_true rfl⟩) rfl (obX9 E m160) rfl rfl rfl (Nat.le_of_ble_eq_true rfl) ?_
                                    refine g_icmp_eq (tgt := 1288) dL_law_791 (by decide) (fun c166 => ?_) (fun c166 => ?_)
                                    · have hf := it_ hf c166
                                      exact wL_law_b1288 E z b L xs k18 ih18 l3 m165 hf
                                    · have hf := ie_ hf c166
                                      refine g_iconst (v := 0) dL_law_794 kI_0 ?_
                                      exact absurd (show (0 : Int32) = 1 from congrArg Prod.fst (Option.some.inj hf)) (by decide)
                                  · have hf := ie_ hf c155
                                    by_cases c167 : ((xs l3.toNatClampNeg) &&& (31 : Int32)) = 16
                                    · have hf := it_ hf c167
                                      refine g_tableIn (tgt := 796) (off := 763) dL_law_33 (by rw [c167]; decide) (by rw [c167]; decide) (by rw [c167]; decide) (by decide) ?_
                                      refine g_aload_n (q := 1) dL_law_796 rfl rfl ?_
                                      refine g_aload_n (q := 0) dL_law_797 rfl rfl ?_
                                      refine g_iload_n (q := 3) dL_law_798 rfl rfl ?_
                                      refine g_iconst (v := 1) dL_law_799 kI_1 ?_
                                      refine g_iadd dL_law_800 ?_
                                      obtain ⟨h168, hf⟩ := gd_ hf
                                      refine g_sld dL_law_801 h168 ?_
                                      refine g_aload_n (q := 0) dL_law_802 rfl rfl ?_
                                      refine g_iload_n (q := 3) dL_law_803 rfl rfl ?_
                                      refine g_iconst (v := 2) dL_law_804 kI_2 ?_
                                      refine g_iadd dL_law_805 ?_
                                      obtain ⟨h169, hf⟩ := gd_ hf
                                      refine g_sld dL_law_806 h169 ?_
                                      obtain ⟨r170, m172, q171, hf⟩ := cbE_ hf
                                      refine g_cV (As := [.int (xs (l3 + (1 : Int32)).toNatClampNeg), .int (xs (l3 + (2 : Int32)).toNatClampNeg)]) dL_law_807 (tX8_since E m (xs (l3 + (1 : Int32)).toNatClampNeg) (xs (l3 + (2 : Int32)).toNatClampNeg) q171) gyX8_since giX8_since gsX8_since mL_86 (⟨rfl, rfl, Nat.le_of_ble_eq_true rfl, Nat.le_of_ble_eq_true rfl, Nat.le_of_ble_eq_true rfl, Nat.le_of_ble_eq_true rfl⟩) rfl (obX8 E m) rfl rfl rfl (Nat.le_of_ble_eq_true rfl) ?_
                                      refine g_aload_n (q := 2) dL_law_810 rfl rfl ?_
                                      refine g_aload_n (q := 0) dL_law_811 rfl rfl ?_
                                      refine g_iload_n (q := 3) dL_law_812 rfl rfl ?_
                                      refine g_iconst (v := 1) dL_law_813 kI_1 ?_
                                      refine g_iadd dL_law_814 ?_
                                      obtain ⟨h173, hf⟩ := gd_ hf
                                      refine g_sld dL_law_815 h173 ?_
                                      refine g_aload_n (q := 0) dL_law_816 rfl rfl ?_
                                      refine g_iload_n (q := 3) dL_law_817 rfl rfl ?_
                                      refine g_iconst (v := 2) dL_law_818 kI_2 ?_
                                      refine g_iadd dL_law_819 ?_
                                      obtain ⟨h174, hf⟩ := gd_ hf
                                      refine g_sld dL_law_820 h174 ?_
                                      obtain ⟨r175, m177, q176, hf⟩ := cbE_ hf
                                      refine g_cV (As := [.int (xs (l3 + (1 : Int32)).toNatClampNeg), .int (xs (l3 + (2 : Int32)).toNatClampNeg)]) dL_law_821 (tX9_since E m172 (xs (l3 + (1 : Int32)).toNatClampNeg) (xs (l3 + (2 : Int32)).toNatClampNeg) q176) gyX9_since giX9_since gsX9_since mL_89 (⟨rfl, rfl, Nat.le_of_ble_eq_true rfl, Nat.le_of_ble_eq_true rfl, Nat.le_of_ble_eq_true rfl, Nat.le_of_ble_eq_true rfl⟩) rfl (obX9 E m172) rfl rfl rfl (Nat.le_of_ble_eq_true rfl) ?_
                                      refine g_icmp_eq (tgt := 1288) dL_law_824 (by decide) (fun c178 => ?_) (fun c178 => ?_)
                                      · have hf := it_ hf c178
                                        exact wL_law_b1288 E z b L xs k18 ih18 l3 m177 hf
                                      · have hf := ie_ hf c178
                                        refine g_iconst (v := 0) dL_law_827 kI_0 ?_
                                        exact absurd (show (0 : Int32) = 1 from congrArg Prod.fst (Option.some.inj hf)) (by decide)
                                    · have hf := ie_ hf c167
                                      by_cases c179 : ((xs l3.toNatClampNeg) &&& (31 : Int32)) = 17
                                      · have hf := it_ hf c179
                                        refine g_tableIn (tgt := 829) (off := 796) dL_law_33 (by rw [c179]; decide) (by rw [c179]; decide) (by rw [c179]; decide) (by decide) ?_
                                        refine g_aload_n (q := 1) dL_law_829 rfl rfl ?_
                                        refine g_aload_n (q := 0) dL_law_830 rfl rfl ?_
                                        refine g_iload_n (q := 3) dL_law_831 rfl rfl ?_
                                        refine g_iconst (v := 1) dL_law_832 kI_1 ?_
                                        refine g_iadd dL_law_833 ?_
                                        obtain ⟨h180, hf⟩ := gd_ hf
                                        refine g_sld dL_law_834 h180 ?_
                                        refine g_aload_n (q := 0) dL_law_835 rfl rfl ?_
                                        refine g_iload_n (q := 3) dL_law_836 rfl rfl ?_
                                        refine g_iconst (v := 2) dL_law_837 kI_2 ?_
                                        refine g_iadd dL_law_838 ?_
                                        obtain ⟨h181, hf⟩ := gd_ hf
                                        refine g_sld dL_law_839 h181 ?_
                                        refine g_aload_n (q := 0) dL_law_840 rfl rfl ?_
                                        refine g_iload_n (q := 3) dL_law_841 rfl rfl ?_
                                        refine g_iconst (v := 3) dL_law_842 kI_3 ?_
                                        refine g_iadd dL_law_843 ?_
                                        obtain ⟨h182, hf⟩ := gd_ hf
                                        refine g_sld dL_law_844 h182 ?_
                                        refine g_aload_n (q := 0) dL_law_845 rfl rfl ?_
                                        refine g_iload_n (q := 3) dL_law_846 rfl rfl ?_
                                        refine g_iconst (v := 4) dL_law_847 kI_4 ?_
                                        refine g_iadd dL_law_848 ?_
                                        obtain ⟨h183, hf⟩ := gd_ hf
                                        refine g_sld dL_law_849 h183 ?_
                                        obtain ⟨r184, m186, q185, hf⟩ := cbE_ hf
                                        refine g_cV (As := [.int (xs (l3 + (1 : Int32)).toNatClampNeg), .int (xs (l3 + (2 : Int32)).toNatClampNeg), .int (xs (l3 + (3 : Int32)).toNatClampNeg), .int (xs (l3 + (4 : Int32)).toNatClampNeg)]) dL_law_850 (tX8_debt E m (xs (l3 + (1 : Int32)).toNatClampNeg) (xs (l3 + (2 : Int32)).toNatClampNeg) (xs (l3 + (3 : Int32)).toNatClampNeg) (xs (l3 + (4 : Int32)).toNatClampNeg) q185) gyX8_debt giX8_debt gsX8_debt mL_90 (⟨rfl, rfl, Nat.le_of_ble_eq_true rfl, Nat.le_of_ble_eq_true rfl, Nat.le_of_ble_eq_true rfl, Nat.le_of_ble_eq_true rfl⟩) rfl (obX8 E m) rfl rfl rfl (Nat.le_of_ble_eq_true rfl) ?_
                                        refine g_aload_n (q := 2) dL_law_853 rfl rfl ?_
                                        refine g_aload_n (q := 0) dL_law_854 rfl rfl ?_
                                        refine g_iload_n (q := 3) dL_law_855 rfl rfl ?_
                                        refine g_iconst (v := 1) dL_law_856 kI_1 ?_
                                        refine g_iadd dL_law_857 ?_
                                        obtain ⟨h187, hf⟩ := gd_ hf
                                        refine g_sld dL_law_858 h187 ?_
                                        refine g_aload_n (q := 0) dL_law_859 rfl rfl ?_
                                        refine g_iload_n (q := 3) dL_law_860 rfl rfl ?_
                                        refine g_iconst (v := 2) dL_law_861 kI_2 ?_
                                        refine g_iadd dL_law_862 ?_
                                        obtain ⟨h188, hf⟩ := gd_ hf
                                        refine g_sld dL_law_863 h188 ?_
                                        refine g_aload_n (q := 0) dL_law_864 rfl rfl ?_
                                        refine g_iload_n (q := 3) dL_law_865 rfl rfl ?_
                                        refine g_iconst (v := 3) dL_law_866 kI_3 ?_
                                        refine g_iadd dL_law_867 ?_
                                        obtain ⟨h189, hf⟩ := gd_ hf
                                        refine g_sld dL_law_868 h189 ?_
                                        refine g_aload_n (q := 0) dL_law_869 rfl rfl ?_
                                        refine g_iload_n (q := 3) dL_law_870 rfl rfl ?_
                                        refine g_iconst (v := 4) dL_law_871 kI_4 ?_
                                        refine g_iadd dL_law_872 ?_
                                        obtain ⟨h190, hf⟩ := gd_ hf
                                        refine g_sld dL_law_873 h190 ?_
                                        obtain ⟨r191, m193, q192, hf⟩ := cbE_ hf
                                        refine g_cV (As := [.int (xs (l3 + (1 : Int32)).toNatClampNeg), .int (xs (l3 + (2 : Int32)).toNatClampNeg), .int (xs (l3 + (3 : Int32)).toNatClampNeg), .int (xs (l3 + (4 : Int32)).toNatClampNeg)]) dL_law_874 (tX9_debt E m186 (xs (l3 + (1 : Int32)).toNatClampNeg) (xs (l3 + (2 : Int32)).toNatClampNeg) (xs (l3 + (3 : Int32)).toNatClampNeg) (xs (l3 + (4 : Int32)).toNatClampNeg) q192) gyX9_debt giX9_debt gsX9_debt mL_94 (⟨rfl, rfl, Nat.le_of_ble_eq_true rfl, Nat.le_of_ble_eq_true rfl, Nat.le_of_ble_eq_true rfl, Nat.le_of_ble_eq_true rfl⟩) rfl (obX9 E m186) rfl rfl rfl (Nat.le_of_ble_eq_true rfl) ?_
                                        refine g_icmp_eq (tgt := 1288) dL_law_877 (by decide) (fun c194 => ?_) (fun c194 => ?_)
                                        · have hf := it_ hf c194
                                          exact wL_law_b1288 E z b L xs k18 ih18 l3 m193 hf
                                        · have hf := ie_ hf c194
                                          refine g_iconst (v := 0) dL_law_880 kI_0 ?_
                                          exact absurd (show (0 : Int32) = 1 from congrArg Prod.fst (Option.some.inj hf)) (by decide)
                                      · have hf := ie_ hf c179
                                        by_cases c195 : ((xs l3.toNatClampNeg) &&& (31 : Int32)) = 18
                                        · have hf := it_ hf c195
                                          refine g_tableIn (tgt := 882) (off := 849) dL_law_33 (by rw [c195]; decide) (by rw [c195]; decide) (by rw [c195]; decide) (by decide) ?_
                                          refine g_aload_n (q := 1) dL_law_882 rfl rfl ?_
                                          refine g_aload_n (q := 0) dL_law_883 rfl rfl ?_
                                          refine g_iload_n (q := 3) dL_law_884 rfl rfl ?_
                                          refine g_iconst (v := 1) dL_law_885 kI_1 ?_
                                          refine g_iadd dL_law_886 ?_
                                          obtain ⟨h196, hf⟩ := gd_ hf
                                          refine g_sld dL_law_887 h196 ?_
                                          refine g_aload_n (q := 0) dL_law_888 rfl rfl ?_
                                          refine g_iload_n (q := 3) dL_law_889 rfl rfl ?_
                                          refine g_iconst (v := 2) dL_law_890 kI_2 ?_
                                          refine g_iadd dL_law_891 ?_
                                          obtain ⟨h197, hf⟩ := gd_ hf
                                          refine g_sld dL_law_892 h197 ?_
                                          refine g_aload_n (q := 0) dL_law_893 rfl rfl ?_
                                          refine g_iload_n (q := 3) dL_law_894 rfl rfl ?_
                                          refine g_iconst (v := 3) dL_law_895 kI_3 ?_
                                          refine g_iadd dL_law_896 ?_
                                          obtain ⟨h198, hf⟩ := gd_ hf
                                          refine g_sld dL_law_897 h198 ?_
                                          obtain ⟨r199, m201, q200, hf⟩ := cbE_ hf
                                          refine g_cV (As := [.int (xs (l3 + (1 : Int32)).toNatClampNeg), .int (xs (l3 + (2 : Int32)).toNatClampNeg), .int (xs (l3 + (3 : Int32)).toNatClampNeg)]) dL_law_898 (tX8_owes E m (xs (l3 + (1 : Int32)).toNatClampNeg) (xs (l3 + (2 : Int32)).toNatClampNeg) (xs (l3 + (3 : Int32)).toNatClampNeg) q200) gyX8_owes giX8_owes gsX8_owes mL_95 (⟨rfl, rfl, Nat.le_of_ble_eq_true rfl, Nat.le_of_ble_eq_true rfl, Nat.le_of_ble_eq_true rfl, Nat.le_of_ble_eq_true rfl⟩) rfl (obX8 E m) rfl rfl rfl (Nat.le_of_ble_eq_true rfl) ?_
                                          refine g_aload_n (q := 2) dL_law_901 rfl rfl ?_
                                          refine g_aload_n (q := 0) dL_law_902 rfl rfl ?_
                                          refine g_iload_n (q := 3) dL_law_903 rfl rfl ?_
                                          refine g_iconst (v := 1) dL_law_904 kI_1 ?_
                                          refine g_iadd dL_law_905 ?_
                                          obtain ⟨h202, hf⟩ := gd_ hf
                                          refine g_sld dL_law_906 h202 ?_
                                          refine g_aload_n (q := 0) dL_law_907 rfl rfl ?_
                                          refine g_iload_n (q := 3) dL_law_908 rfl rfl ?_
                                          refine g_iconst (v := 2) dL_law_909 kI_2 ?_
                                          refine g_iadd dL_law_910 ?_
                                          obtain ⟨h203, hf⟩ := gd_ hf
                                          refine g_sld dL_law_911 h203 ?_
                                          refine g_aload_n (q := 0) dL_law_912 rfl rfl ?_
                                          refine g_iload_n (q := 3) dL_law_913 rfl rfl ?_
                                          refine g_iconst (v := 3) dL_law_914 kI_3 ?_
                                          refine g_iadd dL_law_915 ?_
                                          obtain ⟨h204, hf⟩ := gd_ hf
                                          refine g_sld dL_law_916 h204 ?_
                                          obtain ⟨r205, m207, q206, hf⟩ := cbE_ hf
                                          refine g_cV (As := [.int (xs (l3 + (1 : Int32)).toNatClampNeg), .int (xs (l3 + (2 : Int32)).toNatClampNeg), .int (xs (l3 + (3 : Int32)).toNatClampNeg)]) dL_law_917 (tX9_owes E m201 (xs (l3 + (1 : Int32)).toNatClampNeg) (xs (l3 + (2 : Int32)).toNatClampNeg) (xs (l3 + (3 : Int32)).toNatClampNeg) q206) gyX9_owes giX9_owes gsX9_owes mL_99 (⟨rfl, rfl, Nat.le_of_ble_eq_true rfl, Nat.le_of_ble_eq_true rfl, Nat.le_of_ble_eq_true rfl, Nat.le_of_ble_eq_true rfl⟩) rfl (obX9 E m201) rfl rfl rfl (Nat.le_of_ble_eq_true rfl) ?_
                                          refine g_icmp_eq (tgt := 1288) dL_law_920 (by decide) (fun c208 => ?_) (fun c208 => ?_)
                                          · have hf := it_ hf c208
                                            exact wL_law_b1288 E z b L xs k18 ih18 l3 m207 hf
                                          · have hf := ie_ hf c208
                                            refine g_iconst (v := 0) dL_law_923 kI_0 ?_
                                            exact absurd (show (0 : Int32) = 1 from congrArg Prod.fst (Option.some.inj hf)) (by decide)
                                        · have hf := ie_ hf c195
                                          by_cases c209 : ((xs l3.toNatClampNeg) &&& (31 : Int32)) = 19
                                          · have hf := it_ hf c209
                                            refine g_tableIn (tgt := 925) (off := 892) dL_law_33 (by rw [c209]; decide) (by rw [c209]; decide) (by rw [c209]; decide) (by decide) ?_
                                            refine g_aload_n (q := 1) dL_law_925 rfl rfl ?_
                                            refine g_aload_n (q := 0) dL_law_926 rfl rfl ?_
                                            refine g_iload_n (q := 3) dL_law_927 rfl rfl ?_
                                            refine g_iconst (v := 1) dL_law_928 kI_1 ?_
                                            refine g_iadd dL_law_929 ?_
                                            obtain ⟨h210, hf⟩ := gd_ hf
                                            refine g_sld dL_law_930 h210 ?_
                                            refine g_aload_n (q := 0) dL_law_931 rfl rfl ?_
                                            refine g_iload_n (q := 3) dL_law_932 rfl rfl ?_
                                            refine g_iconst (v := 2) dL_law_933 kI_2 ?_
                                            refine g_iadd dL_law_934 ?_
                                            obtain ⟨h211, hf⟩ := gd_ hf
                                            refine g_sld dL_law_935 h211 ?_
                                            refine g_aload_n (q := 0) dL_law_936 rfl rfl ?_
                                            refine g_iload_n (q := 3) dL_law_937 rfl rfl ?_
                                            refine g_iconst (v := 3) dL_law_938 kI_3 ?_
                                            refine g_iadd dL_law_939 ?_
                                            obtain ⟨h212, hf⟩ := gd_ hf
                                            refine g_sld dL_law_940 h212 ?_
                                            obtain ⟨r213, m215, q214, hf⟩ := cbE_ hf
                                            refine g_cV (As := [.int (xs (l3 + (1 : Int32)).toNatClampNeg), .int (xs (l3 + (2 : Int32)).toNatClampNeg), .int (xs (l3 + (3 : Int32)).toNatClampNeg)]) dL_law_941 (tX8_thing E m (xs (l3 + (1 : Int32)).toNatClampNeg) (xs (l3 + (2 : Int32)).toNatClampNeg) (xs (l3 + (3 : Int32)).toNatClampNeg) q214) gyX8_thing giX8_thing gsX8_thing mL_100 (⟨rfl, rfl, Nat.le_of_ble_eq_true rfl, Nat.le_of_ble_eq_true rfl, Nat.le_of_ble_eq_true rfl, Nat.le_of_ble_eq_true rfl⟩) rfl (obX8 E m) rfl rfl rfl (Nat.le_of_ble_eq_true rfl) ?_
                                            refine g_aload_n (q := 2) dL_law_944 rfl rfl ?_
                                            refine g_aload_n (q := 0) dL_law_945 rfl rfl ?_
                                            refine g_iload_n (q := 3) dL_law_946 rfl rfl ?_
                                            refine g_iconst (v := 1) dL_law_947 kI_1 ?_
                                            refine g_iadd dL_law_948 ?_
                                            obtain ⟨h216, hf⟩ := gd_ hf
                                            refine g_sld dL_law_949 h216 ?_
                                            refine g_aload_n (q := 0) dL_law_950 rfl rfl ?_
                                            refine g_iload_n (q := 3) dL_law_951 rfl rfl ?_
                                            refine g_iconst (v := 2) dL_law_952 kI_2 ?_
                                            refine g_iadd dL_law_953 ?_
                                            obtain ⟨h217, hf⟩ := gd_ hf
                                            refine g_sld dL_law_954 h217 ?_
                                            refine g_aload_n (q := 0) dL_law_955 rfl rfl ?_
                                            refine g_iload_n (q := 3) dL_law_956 rfl rfl ?_
                                            refine g_iconst (v := 3) dL_law_957 kI_3 ?_
                                            refine g_iadd dL_law_958 ?_
                                            obtain ⟨h218, hf⟩ := gd_ hf
                                            refine g_sld dL_law_959 h218 ?_
                                            obtain ⟨r219, m221, q220, hf⟩ := cbE_ hf
                                            refine g_cV (As := [.int (xs (l3 + (1 : Int32)).toNatClampNeg), .int (xs (l3 + (2 : Int32)).toNatClampNeg), .int (xs (l3 + (3 : Int32)).toNatClampNeg)]) dL_law_960 (tX9_thing E m215 (xs (l3 + (1 : Int32)).toNatClampNeg) (xs (l3 + (2 : Int32)).toNatClampNeg) (xs (l3 + (3 : Int32)).toNatClampNeg) q220) gyX9_thing giX9_thing gsX9_thing mL_103 (⟨rfl, rfl, Nat.le_of_ble_eq_true rfl, Nat.le_of_ble_eq_true rfl, Nat.le_of_ble_eq_true rfl, Nat.le_of_ble_eq_true rfl⟩) rfl (obX9 E m215) rfl rfl rfl (Nat.le_of_ble_eq_true rfl) ?_
                                            refine g_icmp_eq (tgt := 1288) dL_law_963 (by decide) (fun c222 => ?_) (fun c222 => ?_)
                                            · have hf := it_ hf c222
                                              exact wL_law_b1288 E z b L xs k18 ih18 l3 m221 hf
                                            · have hf := ie_ hf c222
                                              refine g_iconst (v := 0) dL_law_966 kI_0 ?_
                                              exact absurd (show (0 : Int32) = 1 from congrArg Prod.fst (Option.some.inj hf)) (by decide)
                                          · have hf := ie_ hf c209
                                            by_cases c223 : ((xs l3.toNatClampNeg) &&& (31 : Int32)) = 20
                                            · have hf := it_ hf c223
                                              refine g_tableIn (tgt := 968) (off := 935) dL_law_33 (by rw [c223]; decide) (by rw [c223]; decide) (by rw [c223]; decide) (by decide) ?_
                                              refine g_aload_n (q := 1) dL_law_968 rfl rfl ?_
                                              refine g_aload_n (q := 0) dL_law_969 rfl rfl ?_
                                              refine g_iload_n (q := 3) dL_law_970 rfl rfl ?_
                                              refine g_iconst (v := 1) dL_law_971 kI_1 ?_
                                              refine g_iadd dL_law_972 ?_
                                              obtain ⟨h224, hf⟩ := gd_ hf
                                              refine g_sld dL_law_973 h224 ?_
                                              refine g_aload_n (q := 0) dL_law_974 rfl rfl ?_
                                              refine g_iload_n (q := 3) dL_law_975 rfl rfl ?_
                                              refine g_iconst (v := 2) dL_law_976 kI_2 ?_
                                              refine g_iadd dL_law_977 ?_
                                              obtain ⟨h225, hf⟩ := gd_ hf
                                              refine g_sld dL_law_978 h225 ?_
                                              refine g_aload_n (q := 0) dL_law_979 rfl rfl ?_
                                              refine g_iload_n (q := 3) dL_law_980 rfl rfl ?_
                                              refine g_iconst (v := 3) dL_law_981 kI_3 ?_
                                              refine g_iadd dL_law_982 ?_
                                              obtain ⟨h226, hf⟩ := gd_ hf
                                              refine g_sld dL_law_983 h226 ?_
                                              obtain ⟨r227, m229, q228, hf⟩ := cbE_ hf
                                              refine g_cV (As := [.int (xs (l3 + (1 : Int32)).toNatClampNeg), .int (xs (l3 + (2 : Int32)).toNatClampNeg), .int (xs (l3 + (3 : Int32)).toNatClampNeg)]) dL_law_984 (tX8_owns E m (xs (l3 + (1 : Int32)).toNatClampNeg) (xs (l3 + (2 : Int32)).toNatClampNeg) (xs (l3 + (3 : Int32)).toNatClampNeg) q228) gyX8_owns giX8_owns gsX8_owns mL_104 (⟨rfl, rfl, Nat.le_of_ble_eq_true rfl, Nat.le_of_ble_eq_true rfl, Nat.le_of_ble_eq_true rfl, Nat.le_of_ble_eq_true rfl⟩) rfl (obX8 E m) rfl rfl rfl (Nat.le_of_ble_eq_true rfl) ?_
                                              refine g_aload_n (q := 2) dL_law_987 rfl rfl ?_
                                              refine g_aload_n (q := 0) dL_law_988 rfl rfl ?_
                                              refine g_iload_n (q := 3) dL_law_989 rfl rfl ?_
                                              refine g_iconst (v := 1) dL_law_990 kI_1 ?_
                                              refine g_iadd dL_law_991 ?_
                                              obtain ⟨h230, hf⟩ := gd_ hf
                                              refine g_sld dL_law_992 h230 ?_
                                              refine g_aload_n (q := 0) dL_law_993 rfl rfl ?_
                                              refine g_iload_n (q := 3) dL_law_994 rfl rfl ?_
                                              refine g_iconst (v := 2) dL_law_995 kI_2 ?_
                                              refine g_iadd dL_law_996 ?_
                                              obtain ⟨h231, hf⟩ := gd_ hf
                                              refine g_sld dL_law_997 h231 ?_
                                              refine g_aload_n (q := 0) dL_law_998 rfl rfl ?_
                                              refine g_iload_n (q := 3) dL_law_999 rfl rfl ?_
                                              refine g_iconst (v := 3) dL_law_1000 kI_3 ?_
                                              refine g_iadd dL_law_1001 ?_
                                              obtain ⟨h232, hf⟩ := gd_ hf
                                              refine g_sld dL_law_1002 h232 ?_
                                              obtain ⟨r233, m235, q234, hf⟩ := cbE_ hf
                                              refine g_cV (As := [.int (xs (l3 + (1 : Int32)).toNatClampNeg), .int (xs (l3 + (2 : Int32)).toNatClampNeg), .int (xs (l3 + (3 : Int32)).toNatClampNeg)]) dL_law_1003 (tX9_owns E m229 (xs (l3 + (1 : Int32)).toNatClampNeg) (xs (l3 + (2 : Int32)).toNatClampNeg) (xs (l3 + (3 : Int32)).toNatClampNeg) q234) gyX9_owns giX9_owns gsX9_owns mL_107 (⟨rfl, rfl, Nat.le_of_ble_eq_true rfl, Nat.le_of_ble_eq_true rfl, Nat.le_of_ble_eq_true rfl, Nat.le_of_ble_eq_true rfl⟩) rfl (obX9 E m229) rfl rfl rfl (Nat.le_of_ble_eq_true rfl) ?_
                                              refine g_icmp_eq (tgt := 1288) dL_law_1006 (by decide) (fun c236 => ?_) (fun c236 => ?_)
                                              · have hf := it_ hf c236
                                                exact wL_law_b1288 E z b L xs k18 ih18 l3 m235 hf
                                              · have hf := ie_ hf c236
                                                refine g_iconst (v := 0) dL_law_1009 kI_0 ?_
                                                exact absurd (show (0 : Int32) = 1 from congrArg Prod.fst (Option.some.inj hf)) (by decide)
                                            · have hf := ie_ hf c223
                                              by_cases c237 : ((xs l3.toNatClampNeg) &&& (31 : Int32)) = 21
                                              · have hf := it_ hf c237
                                                refine g_tableIn (tgt := 1011) (off := 978) dL_law_33 (by rw [c237]; decide) (by rw [c237]; decide) (by rw [c237]; decide) (by decide) ?_
                                                refine g_aload_n (q := 1) dL_law_1011 rfl rfl ?_
                                                refine g_aload_n (q := 0) dL_law_1012 rfl rfl ?_
                                                refine g_iload_n (q := 3) dL_law_1013 rfl rfl ?_
                                                refine g_iconst (v := 1) dL_law_1014 kI_1 ?_
                                                refine g_iadd dL_law_1015 ?_
                                                obtain ⟨h238, hf⟩ := gd_ hf
                                                refine g_sld dL_law_1016 h238 ?_
                                                refine g_aload_n (q := 0) dL_law_1017 rfl rfl ?_
                                                refine g_iload_n (q := 3) dL_law_1018 rfl rfl ?_
                                                refine g_iconst (v := 2) dL_law_1019 kI_2 ?_
                                                refine g_iadd dL_law_1020 ?_
                                                obtain ⟨h239, hf⟩ := gd_ hf
                                                refine g_sld dL_law_1021 h239 ?_
                                                refine g_aload_n (q := 0) dL_law_1022 rfl rfl ?_
                                                refine g_iload_n (q := 3) dL_law_1023 rfl rfl ?_
                                                refine g_iconst (v := 3) dL_law_1024 kI_3 ?_
                                                refine g_iadd dL_law_1025 ?_
                                                obtain ⟨h240, hf⟩ := gd_ hf
                                                refine g_sld dL_law_1026 h240 ?_
                                                obtain ⟨r241, m243, q242, hf⟩ := cbE_ hf
                                                refine g_cV (As := [.int (xs (l3 + (1 : Int32)).toNatClampNeg), .int (xs (l3 + (2 : Int32)).toNatClampNeg), .int (xs (l3 + (3 : Int32)).toNatClampNeg)]) dL_law_1027 (tX8_served E m (xs (l3 + (1 : Int32)).toNatClampNeg) (xs (l3 + (2 : Int32)).toNatClampNeg) (xs (l3 + (3 : Int32)).toNatClampNeg) q242) gyX8_served giX8_served gsX8_served mL_108 (⟨rfl, rfl, Nat.le_of_ble_eq_true rfl, Nat.le_of_ble_eq_true rfl, Nat.le_of_ble_eq_true rfl, Nat.le_of_ble_eq_true rfl⟩) rfl (obX8 E m) rfl rfl rfl (Nat.le_of_ble_eq_true rfl) ?_
                                                refine g_aload_n (q := 2) dL_law_1030 rfl rfl ?_
                                                refine g_aload_n (q := 0) dL_law_1031 rfl rfl ?_
                                                refine g_iload_n (q := 3) dL_law_1032 rfl rfl ?_
                                                refine g_iconst (v := 1) dL_law_1033 kI_1 ?_
                                                refine g_iadd dL_law_1034 ?_
                                                obtain ⟨h244, hf⟩ := gd_ hf
                                                refine g_sld dL_law_1035 h244 ?_
                                                refine g_aload_n (q := 0) dL_law_1036 rfl rfl ?_
                                                refine g_iload_n (q := 3) dL_law_1037 rfl rfl ?_
                                                refine g_iconst (v := 2) dL_law_1038 kI_2 ?_
                                                refine g_iadd dL_law_1039 ?_
                                                obtain ⟨h245, hf⟩ := gd_ hf
                                                refine g_sld dL_law_1040 h245 ?_
                                                refine g_aload_n (q := 0) dL_law_1041 rfl rfl ?_
                                                refine g_iload_n (q := 3) dL_law_1042 rfl rfl ?_
                                                refine g_iconst (v := 3) dL_law_1043 kI_3 ?_
                                                refine g_iadd dL_law_1044 ?_
                                                obtain ⟨h246, hf⟩ := gd_ hf
                                                refine g_sld dL_law_1045 h246 ?_
                                                obtain ⟨r247, m249, q248, hf⟩ := cbE_ hf
                                                refine g_cV (As := [.int (xs (l3 + (1 : Int32)).toNatClampNeg), .int (xs (l3 + (2 : Int32)).toNatClampNeg), .int (xs (l3 + (3 : Int32)).toNatClampNeg)]) dL_law_1046 (tX9_served E m243 (xs (l3 + (1 : Int32)).toNatClampNeg) (xs (l3 + (2 : Int32)).toNatClampNeg) (xs (l3 + (3 : Int32)).toNatClampNeg) q248) gyX9_served giX9_served gsX9_served mL_111 (⟨rfl, rfl, Nat.le_of_ble_eq_true rfl, Nat.le_of_ble_eq_true rfl, Nat.le_of_ble_eq_true rfl, Nat.le_of_ble_eq_true rfl⟩) rfl (obX9 E m243) rfl rfl rfl (Nat.le_of_ble_eq_true rfl) ?_
                                                refine g_icmp_eq (tgt := 1288) dL_law_1049 (by decide) (fun c250 => ?_) (fun c250 => ?_)
                                                · have hf := it_ hf c250
                                                  exact wL_law_b1288 E z b L xs k18 ih18 l3 m249 hf
                                                · have hf := ie_ hf c250
                                                  refine g_iconst (v := 0) dL_law_1052 kI_0 ?_
                                                  exact absurd (show (0 : Int32) = 1 from congrArg Prod.fst (Option.some.inj hf)) (by decide)
                                              · have hf := ie_ hf c237
                                                by_cases c251 : ((xs l3.toNatClampNeg) &&& (31 : Int32)) = 22
                                                · have hf := it_ hf c251
                                                  refine g_tableIn (tgt := 1054) (off := 1021) dL_law_33 (by rw [c251]; decide) (by rw [c251]; decide) (by rw [c251]; decide) (by decide) ?_
                                                  refine g_aload_n (q := 1) dL_law_1054 rfl rfl ?_
                                                  refine g_aload_n (q := 0) dL_law_1055 rfl rfl ?_
                                                  refine g_iload_n (q := 3) dL_law_1056 rfl rfl ?_
                                                  refine g_iconst (v := 1) dL_law_1057 kI_1 ?_
                                                  refine g_iadd dL_law_1058 ?_
                                                  obtain ⟨h252, hf⟩ := gd_ hf
                                                  refine g_sld dL_law_1059 h252 ?_
                                                  refine g_aload_n (q := 0) dL_law_1060 rfl rfl ?_
                                                  refine g_iload_n (q := 3) dL_law_1061 rfl rfl ?_
                                                  refine g_iconst (v := 2) dL_law_1062 kI_2 ?_
                                                  refine g_iadd dL_law_1063 ?_
                                                  obtain ⟨h253, hf⟩ := gd_ hf
                                                  refine g_sld dL_law_1064 h253 ?_
                                                  obtain ⟨r254, q255, hf⟩ := cbR_ hf
                                                  refine g_cV (As := [.int (xs (l3 + (1 : Int32)).toNatClampNeg), .int (xs (l3 + (2 : Int32)).toNatClampNeg)]) dL_law_1065 (tX8_paid E m (xs (l3 + (1 : Int32)).toNatClampNeg) (xs (l3 + (2 : Int32)).toNatClampNeg) q255) gyX8_paid giX8_paid gsX8_paid mL_112 (⟨rfl, rfl, Nat.le_of_ble_eq_true rfl, Nat.le_of_ble_eq_true rfl, Nat.le_of_ble_eq_true rfl, Nat.le_of_ble_eq_true rfl⟩) rfl (obX8 E m) rfl rfl rfl (Nat.le_of_ble_eq_true rfl) ?_
                                                  refine g_aload_n (q := 2) dL_law_1068 rfl rfl ?_
                                                  refine g_aload_n (q := 0) dL_law_1069 rfl rfl ?_
                                                  refine g_iload_n (q := 3) dL_law_1070 rfl rfl ?_
                                                  refine g_iconst (v := 1) dL_law_1071 kI_1 ?_
                                                  refine g_iadd dL_law_1072 ?_
                                                  obtain ⟨h256, hf⟩ := gd_ hf
                                                  refine g_sld dL_law_1073 h256 ?_
                                                  refine g_aload_n (q := 0) dL_law_1074 rfl rfl ?_
                                                  refine g_iload_n (q := 3) dL_law_1075 rfl rfl ?_
                                                  refine g_iconst (v := 2) dL_law_1076 kI_2 ?_
                                                  refine g_iadd dL_law_1077 ?_
                                                  obtain ⟨h257, hf⟩ := gd_ hf
                                                  refine g_sld dL_law_1078 h257 ?_
                                                  obtain ⟨r258, q259, hf⟩ := cbR_ hf
                                                  refine g_cV (As := [.int (xs (l3 + (1 : Int32)).toNatClampNeg), .int (xs (l3 + (2 : Int32)).toNatClampNeg)]) dL_law_1079 (tX9_paid E m (xs (l3 + (1 : Int32)).toNatClampNeg) (xs (l3 + (2 : Int32)).toNatClampNeg) q259) gyX9_paid giX9_paid gsX9_paid mL_115 (⟨rfl, rfl, Nat.le_of_ble_eq_true rfl, Nat.le_of_ble_eq_true rfl, Nat.le_of_ble_eq_true rfl, Nat.le_of_ble_eq_true rfl⟩) rfl (obX9 E m) rfl rfl rfl (Nat.le_of_ble_eq_true rfl) ?_
                                                  refine g_icmp_eq (tgt := 1288) dL_law_1082 (by decide) (fun c260 => ?_) (fun c260 => ?_)
                                                  · have hf := it_ hf c260
                                                    exact wL_law_b1288 E z b L xs k18 ih18 l3 m hf
                                                  · have hf := ie_ hf c260
                                                    refine g_iconst (v := 0) dL_law_1085 kI_0 ?_
                                                    exact absurd (show (0 : Int32) = 1 from congrArg Prod.fst (Option.some.inj hf)) (by decide)
                                                · have hf := ie_ hf c251
                                                  by_cases c261 : ((xs l3.toNatClampNeg) &&& (31 : Int32)) = 23
                                                  · have hf := it_ hf c261
                                                    refine g_tableIn (tgt := 1087) (off := 1054) dL_law_33 (by rw [c261]; decide) (by rw [c261]; decide) (by rw [c261]; decide) (by decide) ?_
                                                    refine g_aload_n (q := 1) dL_law_1087 rfl rfl ?_
                                                    refine g_aload_n (q := 0) dL_law_1088 rfl rfl ?_
                                                    refine g_iload_n (q := 3) dL_law_1089 rfl rfl ?_
                                                    refine g_iconst (v := 1) dL_law_1090 kI_1 ?_
                                                    refine g_iadd dL_law_1091 ?_
                                                    obtain ⟨h262, hf⟩ := gd_ hf
                                                    refine g_sld dL_law_1092 h262 ?_
                                                    refine g_aload_n (q := 0) dL_law_1093 rfl rfl ?_
                                                    refine g_iload_n (q := 3) dL_law_1094 rfl rfl ?_
                                                    refine g_iconst (v := 2) dL_law_1095 kI_2 ?_
                                                    refine g_iadd dL_law_1096 ?_
                                                    obtain ⟨h263, hf⟩ := gd_ hf
                                                    refine g_sld dL_law_1097 h263 ?_
                                                    obtain ⟨r264, m266, q265, hf⟩ := cbE_ hf
                                                    refine g_cV (As := [.int (xs (l3 + (1 : Int32)).toNatClampNeg), .int (xs (l3 + (2 : Int32)).toNatClampNeg)]) dL_law_1098 (tX8_hangs E m (xs (l3 + (1 : Int32)).toNatClampNeg) (xs (l3 + (2 : Int32)).toNatClampNeg) q265) gyX8_hangs giX8_hangs gsX8_hangs mL_116 (⟨rfl, rfl, Nat.le_of_ble_eq_true rfl, Nat.le_of_ble_eq_true rfl, Nat.le_of_ble_eq_true rfl, Nat.le_of_ble_eq_true rfl⟩) rfl (obX8 E m) rfl rfl rfl (Nat.le_of_ble_eq_true rfl) ?_
                                                    refine g_aload_n (q := 2) dL_law_1101 rfl rfl ?_
                                                    refine g_aload_n (q := 0) dL_law_1102 rfl rfl ?_
                                                    refine g_iload_n (q := 3) dL_law_1103 rfl rfl ?_
                                                    refine g_iconst (v := 1) dL_law_1104 kI_1 ?_
                                                    refine g_iadd dL_law_1105 ?_
                                                    obtain ⟨h267, hf⟩ := gd_ hf
                                                    refine g_sld dL_law_1106 h267 ?_
                                                    refine g_aload_n (q := 0) dL_law_1107 rfl rfl ?_
                                                    refine g_iload_n (q := 3) dL_law_1108 rfl rfl ?_
                                                    refine g_iconst (v := 2) dL_law_1109 kI_2 ?_
                                                    refine g_iadd dL_law_1110 ?_
                                                    obtain ⟨h268, hf⟩ := gd_ hf
                                                    refine g_sld dL_law_1111 h268 ?_
                                                    obtain ⟨r269, m271, q270, hf⟩ := cbE_ hf
                                                    refine g_cV (As := [.int (xs (l3 + (1 : Int32)).toNatClampNeg), .int (xs (l3 + (2 : Int32)).toNatClampNeg)]) dL_law_1112 (tX9_hangs E m266 (xs (l3 + (1 : Int32)).toNatClampNeg) (xs (l3 + (2 : Int32)).toNatClampNeg) q270) gyX9_hangs giX9_hangs gsX9_hangs mL_119 (⟨rfl, rfl, Nat.le_of_ble_eq_true rfl, Nat.le_of_ble_eq_true rfl, Nat.le_of_ble_eq_true rfl, Nat.le_of_ble_eq_true rfl⟩) rfl (obX9 E m266) rfl rfl rfl (Nat.le_of_ble_eq_true rfl) ?_
                                                    refine g_icmp_eq (tgt := 1288) dL_law_1115 (by decide) (fun c272 => ?_) (fun c272 => ?_)
                                                    · have hf := it_ hf c272
                                                      exact wL_law_b1288 E z b L xs k18 ih18 l3 m271 hf
                                                    · have hf := ie_ hf c272
                                                      refine g_iconst (v := 0) dL_law_1118 kI_0 ?_
                                                      exact absurd (show (0 : Int32) = 1 from congrArg Prod.fst (Option.some.inj hf)) (by decide)
                                                  · have hf := ie_ hf c261
                                                    by_cases c273 : ((xs l3.toNatClampNeg) &&& (31 : Int32)) = 24
                                                    · have hf := it_ hf c273
                                                      refine g_tableIn (tgt := 1120) (off := 1087) dL_law_33 (by rw [c273]; decide) (by rw [c273]; decide) (by rw [c273]; decide) (by decide) ?_
                                                      refine g_aload_n (q := 1) dL_law_1120 rfl rfl ?_
                                                      refine g_aload_n (q := 0) dL_law_1121 rfl rfl ?_
                                                      refine g_iload_n (q := 3) dL_law_1122 rfl rfl ?_
                                                      refine g_iconst (v := 1) dL_law_1123 kI_1 ?_
                                                      refine g_iadd dL_law_1124 ?_
                                                      obtain ⟨h274, hf⟩ := gd_ hf
                                                      refine g_sld dL_law_1125 h274 ?_
                                                      refine g_aload_n (q := 0) dL_law_1126 rfl rfl ?_
                                                      refine g_iload_n (q := 3) dL_law_1127 rfl rfl ?_
                                                      refine g_iconst (v := 2) dL_law_1128 kI_2 ?_
                                                      refine g_iadd dL_law_1129 ?_
                                                      obtain ⟨h275, hf⟩ := gd_ hf
                                                      refine g_sld dL_law_1130 h275 ?_
                                                      refine g_aload_n (q := 0) dL_law_1131 rfl rfl ?_
                                                      refine g_iload_n (q := 3) dL_law_1132 rfl rfl ?_
                                                      refine g_iconst (v := 3) dL_law_1133 kI_3 ?_
                                                      refine g_iadd dL_law_1134 ?_
                                                      obtain ⟨h276, hf⟩ := gd_ hf
                                                      refine g_sld dL_law_1135 h276 ?_
                                                      refine g_aload_n (q := 0) dL_law_1136 rfl rfl ?_
                                                      refine g_iload_n (q := 3) dL_law_1137 rfl rfl ?_
                                                      refine g_iconst (v := 4) dL_law_1138 kI_4 ?_
                                                      refine g_iadd dL_law_1139 ?_
                                                      obtain ⟨h277, hf⟩ := gd_ hf
                                                      refine g_sld dL_law_1140 h277 ?_
                                                      refine g_if_eq (tgt := 1148) dL_law_1141 (by decide) (fun c278 => ?_) (fun c278 => ?_)
                                                      · have hf := it_ hf c278
                                                        refine g_iconst (v := 0) dL_law_1148 kI_0 ?_
                                                        exact wL_law_b1149 E z b L xs k18 ih18 l3 0 (xs (l3 + (3 : Int32)).toNatClampNeg) (xs (l3 + (2 : Int32)).toNatClampNeg) (xs (l3 + (1 : Int32)).toNatClampNeg) m hf
                                                      · have hf := ie_ hf c278
                                                        refine g_iconst (v := 1) dL_law_1144 kI_1 ?_
                                                        refine g_goto (tgt := 1149) dL_law_1145 (by decide) ?_
                                                        exact wL_law_b1149 E z b L xs k18 ih18 l3 1 (xs (l3 + (3 : Int32)).toNatClampNeg) (xs (l3 + (2 : Int32)).toNatClampNeg) (xs (l3 + (1 : Int32)).toNatClampNeg) m hf
                                                    · have hf := ie_ hf c273
                                                      by_cases c279 : ((xs l3.toNatClampNeg) &&& (31 : Int32)) = 25
                                                      · have hf := it_ hf c279
                                                        refine g_tableIn (tgt := 1189) (off := 1156) dL_law_33 (by rw [c279]; decide) (by rw [c279]; decide) (by rw [c279]; decide) (by decide) ?_
                                                        refine g_aload_n (q := 1) dL_law_1189 rfl rfl ?_
                                                        refine g_aload_n (q := 0) dL_law_1190 rfl rfl ?_
                                                        refine g_iload_n (q := 3) dL_law_1191 rfl rfl ?_
                                                        refine g_iconst (v := 1) dL_law_1192 kI_1 ?_
                                                        refine g_iadd dL_law_1193 ?_
                                                        obtain ⟨h280, hf⟩ := gd_ hf
                                                        refine g_sld dL_law_1194 h280 ?_
                                                        refine g_aload_n (q := 0) dL_law_1195 rfl rfl ?_
                                                        refine g_iload_n (q := 3) dL_law_1196 rfl rfl ?_
                                                        refine g_iconst (v := 2) dL_law_1197 kI_2 ?_
                                                        refine g_iadd dL_law_1198 ?_
                                                        obtain ⟨h281, hf⟩ := gd_ hf
                                                        refine g_sld dL_law_1199 h281 ?_
                                                        refine g_aload_n (q := 0) dL_law_1200 rfl rfl ?_
                                                        refine g_iload_n (q := 3) dL_law_1201 rfl rfl ?_
                                                        refine g_iconst (v := 3) dL_law_1202 kI_3 ?_
                                                        refine g_iadd dL_law_1203 ?_
                                                        obtain ⟨h282, hf⟩ := gd_ hf
                                                        refine g_sld dL_law_1204 h282 ?_
                                                        obtain ⟨r283, m285, q284, hf⟩ := cbE_ hf
                                                        refine g_cV (As := [.int (xs (l3 + (1 : Int32)).toNatClampNeg), .int (xs (l3 + (2 : Int32)).toNatClampNeg), .int (xs (l3 + (3 : Int32)).toNatClampNeg)]) dL_law_1205 (tX8_burden E m (xs (l3 + (1 : Int32)).toNatClampNeg) (xs (l3 + (2 : Int32)).toNatClampNeg) (xs (l3 + (3 : Int32)).toNatClampNeg) q284) gyX8_burden giX8_burden gsX8_burden mL_125 (⟨rfl, rfl, Nat.le_of_ble_eq_true rfl, Nat.le_of_ble_eq_true rfl, Nat.le_of_ble_eq_true rfl, Nat.le_of_ble_eq_true rfl⟩) rfl (obX8 E m) rfl rfl rfl (Nat.le_of_ble_eq_true rfl) ?_
                                                        refine g_aload_n (q := 2) dL_law_1208 rfl rfl ?_
                                                        refine g_aload_n (q := 0) dL_law_1209 rfl rfl ?_
                                                        refine g_iload_n (q := 3) dL_law_1210 rfl rfl ?_
                                                        refine g_iconst (v := 1) dL_law_1211 kI_1 ?_
                                                        refine g_iadd dL_law_1212 ?_
                                                        obtain ⟨h286, hf⟩ := gd_ hf
                                                        refine g_sld dL_law_1213 h286 ?_
                                                        refine g_aload_n (q := 0) dL_law_1214 rfl rfl ?_
                                                        refine g_iload_n (q := 3) dL_law_1215 rfl rfl ?_
                                                        refine g_iconst (v := 2) dL_law_1216 kI_2 ?_
                                                        refine g_iadd dL_law_1217 ?_
                                                        obtain ⟨h287, hf⟩ := gd_ hf
                                                        refine g_sld dL_law_1218 h287 ?_
                                                        refine g_aload_n (q := 0) dL_law_1219 rfl rfl ?_
                                                        refine g_iload_n (q := 3) dL_law_1220 rfl rfl ?_
                                                        refine g_iconst (v := 3) dL_law_1221 kI_3 ?_
                                                        refine g_iadd dL_law_1222 ?_
                                                        obtain ⟨h288, hf⟩ := gd_ hf
                                                        refine g_sld dL_law_1223 h288 ?_
                                                        obtain ⟨r289, m291, q290, hf⟩ := cbE_ hf
                                                        refine g_cV (As := [.int (xs (l3 + (1 : Int32)).toNatClampNeg), .int (xs (l3 + (2 : Int32)).toNatClampNeg), .int (xs (l3 + (3 : Int32)).toNatClampNeg)]) dL_law_1224 (tX9_burden E m285 (xs (l3 + (1 : Int32)).toNatClampNeg) (xs (l3 + (2 : Int32)).toNatClampNeg) (xs (l3 + (3 : Int32)).toNatClampNeg) q290) gyX9_burden giX9_burden gsX9_burden mL_128 (⟨rfl, rfl, Nat.le_of_ble_eq_true rfl, Nat.le_of_ble_eq_true rfl, Nat.le_of_ble_eq_true rfl, Nat.le_of_ble_eq_true rfl⟩) rfl (obX9 E m285) rfl rfl rfl (Nat.le_of_ble_eq_true rfl) ?_
                                                        refine g_icmp_eq (tgt := 1288) dL_law_1227 (by decide) (fun c292 => ?_) (fun c292 => ?_)
                                                        · have hf := it_ hf c292
                                                          exact wL_law_b1288 E z b L xs k18 ih18 l3 m291 hf
                                                        · have hf := ie_ hf c292
                                                          refine g_iconst (v := 0) dL_law_1230 kI_0 ?_
                                                          exact absurd (show (0 : Int32) = 1 from congrArg Prod.fst (Option.some.inj hf)) (by decide)
                                                      · have hf := ie_ hf c279
                                                        by_cases c293 : ((xs l3.toNatClampNeg) &&& (31 : Int32)) = 26
                                                        · have hf := it_ hf c293
                                                          refine g_tableIn (tgt := 1232) (off := 1199) dL_law_33 (by rw [c293]; decide) (by rw [c293]; decide) (by rw [c293]; decide) (by decide) ?_
                                                          refine g_aload_n (q := 1) dL_law_1232 rfl rfl ?_
                                                          refine g_aload_n (q := 0) dL_law_1233 rfl rfl ?_
                                                          refine g_iload_n (q := 3) dL_law_1234 rfl rfl ?_
                                                          refine g_iconst (v := 1) dL_law_1235 kI_1 ?_
                                                          refine g_iadd dL_law_1236 ?_
                                                          obtain ⟨h294, hf⟩ := gd_ hf
                                                          refine g_sld dL_law_1237 h294 ?_
                                                          refine g_aload_n (q := 0) dL_law_1238 rfl rfl ?_
                                                          refine g_iload_n (q := 3) dL_law_1239 rfl rfl ?_
                                                          refine g_iconst (v := 2) dL_law_1240 kI_2 ?_
                                                          refine g_iadd dL_law_1241 ?_
                                                          obtain ⟨h295, hf⟩ := gd_ hf
                                                          refine g_sld dL_law_1242 h295 ?_
                                                          obtain ⟨r296, m298, q297, hf⟩ := cbE_ hf
                                                          refine g_cV (As := [.int (xs (l3 + (1 : Int32)).toNatClampNeg), .int (xs (l3 + (2 : Int32)).toNatClampNeg)]) dL_law_1243 (tX8_best E m (xs (l3 + (1 : Int32)).toNatClampNeg) (xs (l3 + (2 : Int32)).toNatClampNeg) q297) gyX8_best giX8_best gsX8_best mL_129 (⟨rfl, rfl, Nat.le_of_ble_eq_true rfl, Nat.le_of_ble_eq_true rfl, Nat.le_of_ble_eq_true rfl, Nat.le_of_ble_eq_true rfl⟩) rfl (obX8 E m) rfl rfl rfl (Nat.le_of_ble_eq_true rfl) ?_
                                                          refine g_aload_n (q := 2) dL_law_1246 rfl rfl ?_
                                                          refine g_aload_n (q := 0) dL_law_1247 rfl rfl ?_
                                                          refine g_iload_n (q := 3) dL_law_1248 rfl rfl ?_
                                                          refine g_iconst (v := 1) dL_law_1249 kI_1 ?_
                                                          refine g_iadd dL_law_1250 ?_
                                                          obtain ⟨h299, hf⟩ := gd_ hf
                                                          refine g_sld dL_law_1251 h299 ?_
                                                          refine g_aload_n (q := 0) dL_law_1252 rfl rfl ?_
                                                          refine g_iload_n (q := 3) dL_law_1253 rfl rfl ?_
                                                          refine g_iconst (v := 2) dL_law_1254 kI_2 ?_
                                                          refine g_iadd dL_law_1255 ?_
                                                          obtain ⟨h300, hf⟩ := gd_ hf
                                                          refine g_sld dL_law_1256 h300 ?_
                                                          obtain ⟨r301, m303, q302, hf⟩ := cbE_ hf
                                                          refine g_cV (As := [.int (xs (l3 + (1 : Int32)).toNatClampNeg), .int (xs (l3 + (2 : Int32)).toNatClampNeg)]) dL_law_1257 (tX9_best E m298 (xs (l3 + (1 : Int32)).toNatClampNeg) (xs (l3 + (2 : Int32)).toNatClampNeg) q302) gyX9_best giX9_best gsX9_best mL_132 (⟨rfl, rfl, Nat.le_of_ble_eq_true rfl, Nat.le_of_ble_eq_true rfl, Nat.le_of_ble_eq_true rfl, Nat.le_of_ble_eq_true rfl⟩) rfl (obX9 E m298) rfl rfl rfl (Nat.le_of_ble_eq_true rfl) ?_
                                                          refine g_icmp_eq (tgt := 1288) dL_law_1260 (by decide) (fun c304 => ?_) (fun c304 => ?_)
                                                          · have hf := it_ hf c304
                                                            exact wL_law_b1288 E z b L xs k18 ih18 l3 m303 hf
                                                          · have hf := ie_ hf c304
                                                            refine g_iconst (v := 0) dL_law_1263 kI_0 ?_
                                                            exact absurd (show (0 : Int32) = 1 from congrArg Prod.fst (Option.some.inj hf)) (by decide)
                                                        · have hf := ie_ hf c293
                                                          by_cases c305 : ((xs l3.toNatClampNeg) &&& (31 : Int32)) = 27
                                                          · have hf := it_ hf c305
                                                            refine g_tableIn (tgt := 1265) (off := 1232) dL_law_33 (by rw [c305]; decide) (by rw [c305]; decide) (by rw [c305]; decide) (by decide) ?_
                                                            refine g_aload_n (q := 1) dL_law_1265 rfl rfl ?_
                                                            refine g_aload_n (q := 0) dL_law_1266 rfl rfl ?_
                                                            refine g_iload_n (q := 3) dL_law_1267 rfl rfl ?_
                                                            refine g_iconst (v := 1) dL_law_1268 kI_1 ?_
                                                            refine g_iadd dL_law_1269 ?_
                                                            obtain ⟨h306, hf⟩ := gd_ hf
                                                            refine g_sld dL_law_1270 h306 ?_
                                                            obtain ⟨r307, q308, hf⟩ := cbR_ hf
                                                            refine g_cV (As := [.int (xs (l3 + (1 : Int32)).toNatClampNeg)]) dL_law_1271 (tX8_count E m (xs (l3 + (1 : Int32)).toNatClampNeg) q308) gyX8_count giX8_count gsX8_count mL_133 (⟨rfl, rfl, Nat.le_of_ble_eq_true rfl, Nat.le_of_ble_eq_true rfl, Nat.le_of_ble_eq_true rfl, Nat.le_of_ble_eq_true rfl⟩) rfl (obX8 E m) rfl rfl rfl (Nat.le_of_ble_eq_true rfl) ?_
                                                            refine g_aload_n (q := 2) dL_law_1274 rfl rfl ?_
                                                            refine g_aload_n (q := 0) dL_law_1275 rfl rfl ?_
                                                            refine g_iload_n (q := 3) dL_law_1276 rfl rfl ?_
                                                            refine g_iconst (v := 1) dL_law_1277 kI_1 ?_
                                                            refine g_iadd dL_law_1278 ?_
                                                            obtain ⟨h309, hf⟩ := gd_ hf
                                                            refine g_sld dL_law_1279 h309 ?_
                                                            obtain ⟨r310, q311, hf⟩ := cbR_ hf
                                                            refine g_cV (As := [.int (xs (l3 + (1 : Int32)).toNatClampNeg)]) dL_law_1280 (tX9_count E m (xs (l3 + (1 : Int32)).toNatClampNeg) q311) gyX9_count giX9_count gsX9_count mL_136 (⟨rfl, rfl, Nat.le_of_ble_eq_true rfl, Nat.le_of_ble_eq_true rfl, Nat.le_of_ble_eq_true rfl, Nat.le_of_ble_eq_true rfl⟩) rfl (obX9 E m) rfl rfl rfl (Nat.le_of_ble_eq_true rfl) ?_
                                                            refine g_icmp_eq (tgt := 1288) dL_law_1283 (by decide) (fun c312 => ?_) (fun c312 => ?_)
                                                            · have hf := it_ hf c312
                                                              exact wL_law_b1288 E z b L xs k18 ih18 l3 m hf
                                                            · have hf := ie_ hf c312
                                                              refine g_iconst (v := 0) dL_law_1286 kI_0 ?_
                                                              exact absurd (show (0 : Int32) = 1 from congrArg Prod.fst (Option.some.inj hf)) (by decide)
                                                          · have hf := ie_ hf c305
                                                            refine g_tableOut (tgt := 1288) dL_law_33 (gsw_out (hi := 27) 28 (by decide) rfl (fun k hk => match k, hk with | 0, _ => c3 | 1, _ => c15 | 2, _ => c33 | 3, _ => c41 | 4, _ => c51 | 5, _ => c61 | 6, _ => c71 | 7, _ => c81 | 8, _ => c95 | 9, _ => c103 | 10, _ => c111 | 11, _ => c119 | 12, _ => c127 | 13, _ => c145 | 14, _ => c150 | 15, _ => c155 | 16, _ => c167 | 17, _ => c179 | 18, _ => c195 | 19, _ => c209 | 20, _ => c223 | 21, _ => c237 | 22, _ => c251 | 23, _ => c261 | 24, _ => c273 | 25, _ => c279 | 26, _ => c293 | 27, _ => c305 | n + 28, h => absurd h (by omega))) (by decide) ?_
                                                            exact wL_law_b1288 E z b L xs k18 ih18 l3 m hf
theorem wL_law_l18 (E : pEv) (z : pMem) (b L : Nat) (xs : Nat → Int32) : ∀ (n : Nat) (l3 : Int32) (m : pMem), sL_law_l18 L xs n l3 m = some (1, z) → gG E kL_law (zLaw b L xs) 18 [(0, .ref b), (1, .ref (eA E 0)), (2, .ref (eA E 9)), (3, .int l3)] [] m := by
  intro n
  induction n with
  | zero => intro l3 m hf; cases (show (none : gO) = some (1, z) from hf)
  | succ n ih => intro l3 m hf; exact wL_law_b18 E z b L xs _ ih l3 m hf
