/-! The law's loop: one round, by the call that it makes: its pure function (none: the answers differ), its walk. -/
theorem gw_sld {p : Program} {l : Launch} {e : Env} {R : Room} {s : State} {m : MethodId} {args : Array Value} {below : List Frame} {meth : Method} {c : Code} {H H0 : Heap} {locs : List Loc} {cells slots : Nat} {Q : State → Prop} {pc : Nat} {ls : Array Slot} {rest : List Value} {A : Nat → Prop} {cc : ByteArray} {b L : Nat} {xs : Nat → Int32} {i x : Int32} (hexec : p.tables.exec = Jvm.exec) (hb : c.code = cc) (hX : va_X b L xs s H0) (hbl : b < H0.size) (hbA : ¬ A b) (hS : va_S A H0 H locs) (hin : vp_in i L) (he : xs (Int32.toNatClampNeg i) = x) (hdg : decode cc pc = .ok (.iaload, 1))
    (kk : W p l e R s m args below meth c H locs cells slots Q (F0 m (pc + 1) ls (.int x :: rest))) : W p l e R s m args below meth c H locs cells slots Q (F0 m pc ls (.int i :: .ref b :: rest)) := by
  subst he
  exact va_sld hexec hb hX hbl hbA hS hin hdg kk
theorem gw_good {own : String} {idx : Nat} {y : MethodName} {bytes : ByteArray} {maxL : Nat} {ret : Option FieldType} {hh : List (Nat × Nat × Nat × Nat)} (h1 : Cond.methodLink own idx y ∈ lw_big) (h2 : Cond.static y ∈ lw_big) (h3 : Cond.initialized y.cls ∈ lw_big) (h4 : Cond.codeWith y bytes maxL ret hh ∈ lw_big) : GoodIn lw_big (va_wsS own idx y (Cond.codeWith y bytes maxL ret hh :: lw_big)) := fun w hw => by
  have hm : w ∈ lw_big := by
    unfold va_wsS at hw
    rcases List.mem_append.mp hw with h | h
    · rcases List.mem_cons.mp h with rfl | h
      · exact h1
      · rcases List.mem_cons.mp h with rfl | h
        · exact h2
        · rw [List.mem_singleton.mp h]; exact h3
    · rcases List.mem_cons.mp h with rfl | h
      · exact h4
      · exact h
  exact ⟨hm, big_good w hm⟩
theorem d_L_law_0 : decode code 0 = .ok (.new 8, 3) := by decide +kernel
theorem d_L_law_3 : decode code 3 = .ok (.dup, 1) := by decide +kernel
theorem d_L_law_4 : decode code 4 = .ok (.invokespecial 68, 3) := by decide +kernel
theorem d_L_law_7 : decode code 7 = .ok (.astore_n 1, 1) := by decide +kernel
theorem d_L_law_8 : decode code 8 = .ok (.new 69, 3) := by decide +kernel
theorem d_L_law_11 : decode code 11 = .ok (.dup, 1) := by decide +kernel
theorem d_L_law_12 : decode code 12 = .ok (.invokespecial 71, 3) := by decide +kernel
theorem d_L_law_15 : decode code 15 = .ok (.astore_n 2, 1) := by decide +kernel
theorem d_L_law_16 : decode code 16 = .ok (.iconst 1, 1) := by decide +kernel
theorem d_L_law_17 : decode code 17 = .ok (.newarray .long, 2) := by decide +kernel
theorem d_L_law_19 : decode code 19 = .ok (.astore_n 3, 1) := by decide +kernel
theorem d_L_law_20 : decode code 20 = .ok (.iconst 0, 1) := by decide +kernel
theorem d_L_law_21 : decode code 21 = .ok (.istore 4, 2) := by decide +kernel
theorem d_L_law_23 : decode code 23 = .ok (.iload 4, 2) := by decide +kernel
theorem d_L_law_25 : decode code 25 = .ok (.aload_n 0, 1) := by decide +kernel
theorem d_L_law_26 : decode code 26 = .ok (.arraylength, 1) := by decide +kernel
theorem d_L_law_27 : decode code 27 = .ok (.iconst 5, 1) := by decide +kernel
theorem d_L_law_28 : decode code 28 = .ok (.isub, 1) := by decide +kernel
theorem d_L_law_29 : decode code 29 = .ok (.if_icmp .gt 1003, 3) := by decide +kernel
theorem d_L_law_32 : decode code 32 = .ok (.aload_n 0, 1) := by decide +kernel
theorem d_L_law_33 : decode code 33 = .ok (.iload 4, 2) := by decide +kernel
theorem d_L_law_35 : decode code 35 = .ok (.iaload, 1) := by decide +kernel
theorem d_L_law_36 : decode code 36 = .ok (.bipush 15, 2) := by decide +kernel
theorem d_L_law_38 : decode code 38 = .ok (.iand, 1) := by decide +kernel
theorem d_L_law_39 : decode code 39 = .ok (.tableswitch 987 0 15 #[77, 133, 177, 225, 285, 333, 377, 418, 486, 499, 523, 606, 701, 776, 883, 943], 77) := by decide +kernel
theorem d_L_law_116 : decode code 116 = .ok (.aload_n 1, 1) := by decide +kernel
theorem d_L_law_117 : decode code 117 = .ok (.aload_n 0, 1) := by decide +kernel
theorem d_L_law_118 : decode code 118 = .ok (.iload 4, 2) := by decide +kernel
theorem d_L_law_120 : decode code 120 = .ok (.iconst 1, 1) := by decide +kernel
theorem d_L_law_121 : decode code 121 = .ok (.iadd, 1) := by decide +kernel
theorem d_L_law_122 : decode code 122 = .ok (.iaload, 1) := by decide +kernel
theorem d_L_law_123 : decode code 123 = .ok (.aload_n 3, 1) := by decide +kernel
theorem d_L_law_124 : decode code 124 = .ok (.invokestatic 72, 3) := by decide +kernel
theorem d_L_law_127 : decode code 127 = .ok (.istore 5, 2) := by decide +kernel
theorem d_L_law_129 : decode code 129 = .ok (.aload_n 2, 1) := by decide +kernel
theorem d_L_law_130 : decode code 130 = .ok (.aload_n 0, 1) := by decide +kernel
theorem d_L_law_131 : decode code 131 = .ok (.iload 4, 2) := by decide +kernel
theorem d_L_law_133 : decode code 133 = .ok (.iconst 1, 1) := by decide +kernel
theorem d_L_law_134 : decode code 134 = .ok (.iadd, 1) := by decide +kernel
theorem d_L_law_135 : decode code 135 = .ok (.iaload, 1) := by decide +kernel
theorem d_L_law_136 : decode code 136 = .ok (.invokevirtual 77, 3) := by decide +kernel
theorem d_L_law_139 : decode code 139 = .ok (.istore 6, 2) := by decide +kernel
theorem d_L_law_141 : decode code 141 = .ok (.aload_n 2, 1) := by decide +kernel
theorem d_L_law_142 : decode code 142 = .ok (.invokevirtual 78, 3) := by decide +kernel
theorem d_L_law_145 : decode code 145 = .ok (.iload 5, 2) := by decide +kernel
theorem d_L_law_147 : decode code 147 = .ok (.if_icmp .eq 5, 3) := by decide +kernel
theorem d_L_law_150 : decode code 150 = .ok (.iconst 0, 1) := by decide +kernel
theorem d_L_law_151 : decode code 151 = .ok (.ireturn, 1) := by decide +kernel
theorem d_L_law_152 : decode code 152 = .ok (.iload 5, 2) := by decide +kernel
theorem d_L_law_154 : decode code 154 = .ok (.ifCond .ne 15, 3) := by decide +kernel
theorem d_L_law_157 : decode code 157 = .ok (.aload_n 3, 1) := by decide +kernel
theorem d_L_law_158 : decode code 158 = .ok (.iconst 0, 1) := by decide +kernel
theorem d_L_law_159 : decode code 159 = .ok (.laload, 1) := by decide +kernel
theorem d_L_law_160 : decode code 160 = .ok (.iload 6, 2) := by decide +kernel
theorem d_L_law_162 : decode code 162 = .ok (.i2l, 1) := by decide +kernel
theorem d_L_law_163 : decode code 163 = .ok (.lcmp, 1) := by decide +kernel
theorem d_L_law_164 : decode code 164 = .ok (.ifCond .eq 5, 3) := by decide +kernel
theorem d_L_law_167 : decode code 167 = .ok (.iconst 0, 1) := by decide +kernel
theorem d_L_law_168 : decode code 168 = .ok (.ireturn, 1) := by decide +kernel
theorem d_L_law_169 : decode code 169 = .ok (.goto 857, 3) := by decide +kernel
theorem d_L_law_172 : decode code 172 = .ok (.aload_n 1, 1) := by decide +kernel
theorem d_L_law_173 : decode code 173 = .ok (.aload_n 3, 1) := by decide +kernel
theorem d_L_law_174 : decode code 174 = .ok (.invokestatic 81, 3) := by decide +kernel
theorem d_L_law_177 : decode code 177 = .ok (.istore 5, 2) := by decide +kernel
theorem d_L_law_179 : decode code 179 = .ok (.aload_n 2, 1) := by decide +kernel
theorem d_L_law_180 : decode code 180 = .ok (.invokevirtual 84, 3) := by decide +kernel
theorem d_L_law_183 : decode code 183 = .ok (.istore 6, 2) := by decide +kernel
theorem d_L_law_185 : decode code 185 = .ok (.aload_n 2, 1) := by decide +kernel
theorem d_L_law_186 : decode code 186 = .ok (.invokevirtual 78, 3) := by decide +kernel
theorem d_L_law_189 : decode code 189 = .ok (.iload 5, 2) := by decide +kernel
theorem d_L_law_191 : decode code 191 = .ok (.if_icmp .eq 5, 3) := by decide +kernel
theorem d_L_law_194 : decode code 194 = .ok (.iconst 0, 1) := by decide +kernel
theorem d_L_law_195 : decode code 195 = .ok (.ireturn, 1) := by decide +kernel
theorem d_L_law_196 : decode code 196 = .ok (.iload 5, 2) := by decide +kernel
theorem d_L_law_198 : decode code 198 = .ok (.ifCond .ne 15, 3) := by decide +kernel
theorem d_L_law_201 : decode code 201 = .ok (.aload_n 3, 1) := by decide +kernel
theorem d_L_law_202 : decode code 202 = .ok (.iconst 0, 1) := by decide +kernel
theorem d_L_law_203 : decode code 203 = .ok (.laload, 1) := by decide +kernel
theorem d_L_law_204 : decode code 204 = .ok (.iload 6, 2) := by decide +kernel
theorem d_L_law_206 : decode code 206 = .ok (.i2l, 1) := by decide +kernel
theorem d_L_law_207 : decode code 207 = .ok (.lcmp, 1) := by decide +kernel
theorem d_L_law_208 : decode code 208 = .ok (.ifCond .eq 5, 3) := by decide +kernel
theorem d_L_law_211 : decode code 211 = .ok (.iconst 0, 1) := by decide +kernel
theorem d_L_law_212 : decode code 212 = .ok (.ireturn, 1) := by decide +kernel
theorem d_L_law_213 : decode code 213 = .ok (.goto 813, 3) := by decide +kernel
theorem d_L_law_216 : decode code 216 = .ok (.aload_n 1, 1) := by decide +kernel
theorem d_L_law_217 : decode code 217 = .ok (.aload_n 0, 1) := by decide +kernel
theorem d_L_law_218 : decode code 218 = .ok (.iload 4, 2) := by decide +kernel
theorem d_L_law_220 : decode code 220 = .ok (.iconst 1, 1) := by decide +kernel
theorem d_L_law_221 : decode code 221 = .ok (.iadd, 1) := by decide +kernel
theorem d_L_law_222 : decode code 222 = .ok (.iaload, 1) := by decide +kernel
theorem d_L_law_223 : decode code 223 = .ok (.aload_n 0, 1) := by decide +kernel
theorem d_L_law_224 : decode code 224 = .ok (.iload 4, 2) := by decide +kernel
theorem d_L_law_226 : decode code 226 = .ok (.iconst 2, 1) := by decide +kernel
theorem d_L_law_227 : decode code 227 = .ok (.iadd, 1) := by decide +kernel
theorem d_L_law_228 : decode code 228 = .ok (.iaload, 1) := by decide +kernel
theorem d_L_law_229 : decode code 229 = .ok (.invokestatic 85, 3) := by decide +kernel
theorem d_L_law_232 : decode code 232 = .ok (.istore 5, 2) := by decide +kernel
theorem d_L_law_234 : decode code 234 = .ok (.aload_n 2, 1) := by decide +kernel
theorem d_L_law_235 : decode code 235 = .ok (.aload_n 0, 1) := by decide +kernel
theorem d_L_law_236 : decode code 236 = .ok (.iload 4, 2) := by decide +kernel
theorem d_L_law_238 : decode code 238 = .ok (.iconst 1, 1) := by decide +kernel
theorem d_L_law_239 : decode code 239 = .ok (.iadd, 1) := by decide +kernel
theorem d_L_law_240 : decode code 240 = .ok (.iaload, 1) := by decide +kernel
theorem d_L_law_241 : decode code 241 = .ok (.aload_n 0, 1) := by decide +kernel
theorem d_L_law_242 : decode code 242 = .ok (.iload 4, 2) := by decide +kernel
theorem d_L_law_244 : decode code 244 = .ok (.iconst 2, 1) := by decide +kernel
theorem d_L_law_245 : decode code 245 = .ok (.iadd, 1) := by decide +kernel
theorem d_L_law_246 : decode code 246 = .ok (.iaload, 1) := by decide +kernel
theorem d_L_law_247 : decode code 247 = .ok (.invokevirtual 88, 3) := by decide +kernel
theorem d_L_law_250 : decode code 250 = .ok (.aload_n 2, 1) := by decide +kernel
theorem d_L_law_251 : decode code 251 = .ok (.invokevirtual 78, 3) := by decide +kernel
theorem d_L_law_254 : decode code 254 = .ok (.iload 5, 2) := by decide +kernel
theorem d_L_law_256 : decode code 256 = .ok (.if_icmp .eq 5, 3) := by decide +kernel
theorem d_L_law_259 : decode code 259 = .ok (.iconst 0, 1) := by decide +kernel
theorem d_L_law_260 : decode code 260 = .ok (.ireturn, 1) := by decide +kernel
theorem d_L_law_261 : decode code 261 = .ok (.goto 765, 3) := by decide +kernel
theorem d_L_law_264 : decode code 264 = .ok (.aload_n 1, 1) := by decide +kernel
theorem d_L_law_265 : decode code 265 = .ok (.aload_n 0, 1) := by decide +kernel
theorem d_L_law_266 : decode code 266 = .ok (.iload 4, 2) := by decide +kernel
theorem d_L_law_268 : decode code 268 = .ok (.iconst 1, 1) := by decide +kernel
theorem d_L_law_269 : decode code 269 = .ok (.iadd, 1) := by decide +kernel
theorem d_L_law_270 : decode code 270 = .ok (.iaload, 1) := by decide +kernel
theorem d_L_law_271 : decode code 271 = .ok (.aload_n 0, 1) := by decide +kernel
theorem d_L_law_272 : decode code 272 = .ok (.iload 4, 2) := by decide +kernel
theorem d_L_law_274 : decode code 274 = .ok (.iconst 2, 1) := by decide +kernel
theorem d_L_law_275 : decode code 275 = .ok (.iadd, 1) := by decide +kernel
theorem d_L_law_276 : decode code 276 = .ok (.iaload, 1) := by decide +kernel
theorem d_L_law_277 : decode code 277 = .ok (.aload_n 0, 1) := by decide +kernel
theorem d_L_law_278 : decode code 278 = .ok (.iload 4, 2) := by decide +kernel
theorem d_L_law_280 : decode code 280 = .ok (.iconst 3, 1) := by decide +kernel
theorem d_L_law_281 : decode code 281 = .ok (.iadd, 1) := by decide +kernel
theorem d_L_law_282 : decode code 282 = .ok (.iaload, 1) := by decide +kernel
theorem d_L_law_283 : decode code 283 = .ok (.invokestatic 89, 3) := by decide +kernel
theorem d_L_law_286 : decode code 286 = .ok (.istore 5, 2) := by decide +kernel
theorem d_L_law_288 : decode code 288 = .ok (.aload_n 2, 1) := by decide +kernel
theorem d_L_law_289 : decode code 289 = .ok (.aload_n 0, 1) := by decide +kernel
theorem d_L_law_290 : decode code 290 = .ok (.iload 4, 2) := by decide +kernel
theorem d_L_law_292 : decode code 292 = .ok (.iconst 1, 1) := by decide +kernel
theorem d_L_law_293 : decode code 293 = .ok (.iadd, 1) := by decide +kernel
theorem d_L_law_294 : decode code 294 = .ok (.iaload, 1) := by decide +kernel
theorem d_L_law_295 : decode code 295 = .ok (.aload_n 0, 1) := by decide +kernel
theorem d_L_law_296 : decode code 296 = .ok (.iload 4, 2) := by decide +kernel
theorem d_L_law_298 : decode code 298 = .ok (.iconst 2, 1) := by decide +kernel
theorem d_L_law_299 : decode code 299 = .ok (.iadd, 1) := by decide +kernel
theorem d_L_law_300 : decode code 300 = .ok (.iaload, 1) := by decide +kernel
theorem d_L_law_301 : decode code 301 = .ok (.aload_n 0, 1) := by decide +kernel
theorem d_L_law_302 : decode code 302 = .ok (.iload 4, 2) := by decide +kernel
theorem d_L_law_304 : decode code 304 = .ok (.iconst 3, 1) := by decide +kernel
theorem d_L_law_305 : decode code 305 = .ok (.iadd, 1) := by decide +kernel
theorem d_L_law_306 : decode code 306 = .ok (.iaload, 1) := by decide +kernel
theorem d_L_law_307 : decode code 307 = .ok (.invokevirtual 92, 3) := by decide +kernel
theorem d_L_law_310 : decode code 310 = .ok (.aload_n 2, 1) := by decide +kernel
theorem d_L_law_311 : decode code 311 = .ok (.invokevirtual 78, 3) := by decide +kernel
theorem d_L_law_314 : decode code 314 = .ok (.iload 5, 2) := by decide +kernel
theorem d_L_law_316 : decode code 316 = .ok (.if_icmp .eq 5, 3) := by decide +kernel
theorem d_L_law_319 : decode code 319 = .ok (.iconst 0, 1) := by decide +kernel
theorem d_L_law_320 : decode code 320 = .ok (.ireturn, 1) := by decide +kernel
theorem d_L_law_321 : decode code 321 = .ok (.goto 705, 3) := by decide +kernel
theorem d_L_law_324 : decode code 324 = .ok (.aload_n 1, 1) := by decide +kernel
theorem d_L_law_325 : decode code 325 = .ok (.aload_n 0, 1) := by decide +kernel
theorem d_L_law_326 : decode code 326 = .ok (.iload 4, 2) := by decide +kernel
theorem d_L_law_328 : decode code 328 = .ok (.iconst 1, 1) := by decide +kernel
theorem d_L_law_329 : decode code 329 = .ok (.iadd, 1) := by decide +kernel
theorem d_L_law_330 : decode code 330 = .ok (.iaload, 1) := by decide +kernel
theorem d_L_law_331 : decode code 331 = .ok (.aload_n 0, 1) := by decide +kernel
theorem d_L_law_332 : decode code 332 = .ok (.iload 4, 2) := by decide +kernel
theorem d_L_law_334 : decode code 334 = .ok (.iconst 2, 1) := by decide +kernel
theorem d_L_law_335 : decode code 335 = .ok (.iadd, 1) := by decide +kernel
theorem d_L_law_336 : decode code 336 = .ok (.iaload, 1) := by decide +kernel
theorem d_L_law_337 : decode code 337 = .ok (.invokestatic 93, 3) := by decide +kernel
theorem d_L_law_340 : decode code 340 = .ok (.istore 5, 2) := by decide +kernel
theorem d_L_law_342 : decode code 342 = .ok (.aload_n 2, 1) := by decide +kernel
theorem d_L_law_343 : decode code 343 = .ok (.aload_n 0, 1) := by decide +kernel
theorem d_L_law_344 : decode code 344 = .ok (.iload 4, 2) := by decide +kernel
theorem d_L_law_346 : decode code 346 = .ok (.iconst 1, 1) := by decide +kernel
theorem d_L_law_347 : decode code 347 = .ok (.iadd, 1) := by decide +kernel
theorem d_L_law_348 : decode code 348 = .ok (.iaload, 1) := by decide +kernel
theorem d_L_law_349 : decode code 349 = .ok (.aload_n 0, 1) := by decide +kernel
theorem d_L_law_350 : decode code 350 = .ok (.iload 4, 2) := by decide +kernel
theorem d_L_law_352 : decode code 352 = .ok (.iconst 2, 1) := by decide +kernel
theorem d_L_law_353 : decode code 353 = .ok (.iadd, 1) := by decide +kernel
theorem d_L_law_354 : decode code 354 = .ok (.iaload, 1) := by decide +kernel
theorem d_L_law_355 : decode code 355 = .ok (.invokevirtual 95, 3) := by decide +kernel
theorem d_L_law_358 : decode code 358 = .ok (.aload_n 2, 1) := by decide +kernel
theorem d_L_law_359 : decode code 359 = .ok (.invokevirtual 78, 3) := by decide +kernel
theorem d_L_law_362 : decode code 362 = .ok (.iload 5, 2) := by decide +kernel
theorem d_L_law_364 : decode code 364 = .ok (.if_icmp .eq 5, 3) := by decide +kernel
theorem d_L_law_367 : decode code 367 = .ok (.iconst 0, 1) := by decide +kernel
theorem d_L_law_368 : decode code 368 = .ok (.ireturn, 1) := by decide +kernel
theorem d_L_law_369 : decode code 369 = .ok (.goto 657, 3) := by decide +kernel
theorem d_L_law_372 : decode code 372 = .ok (.aload_n 1, 1) := by decide +kernel
theorem d_L_law_373 : decode code 373 = .ok (.aload_n 3, 1) := by decide +kernel
theorem d_L_law_374 : decode code 374 = .ok (.invokestatic 96, 3) := by decide +kernel
theorem d_L_law_377 : decode code 377 = .ok (.istore 5, 2) := by decide +kernel
theorem d_L_law_379 : decode code 379 = .ok (.aload_n 2, 1) := by decide +kernel
theorem d_L_law_380 : decode code 380 = .ok (.invokevirtual 98, 3) := by decide +kernel
theorem d_L_law_383 : decode code 383 = .ok (.istore 6, 2) := by decide +kernel
theorem d_L_law_385 : decode code 385 = .ok (.aload_n 2, 1) := by decide +kernel
theorem d_L_law_386 : decode code 386 = .ok (.invokevirtual 78, 3) := by decide +kernel
theorem d_L_law_389 : decode code 389 = .ok (.iload 5, 2) := by decide +kernel
theorem d_L_law_391 : decode code 391 = .ok (.if_icmp .eq 5, 3) := by decide +kernel
theorem d_L_law_394 : decode code 394 = .ok (.iconst 0, 1) := by decide +kernel
theorem d_L_law_395 : decode code 395 = .ok (.ireturn, 1) := by decide +kernel
theorem d_L_law_396 : decode code 396 = .ok (.iload 5, 2) := by decide +kernel
theorem d_L_law_398 : decode code 398 = .ok (.ifCond .ne 15, 3) := by decide +kernel
theorem d_L_law_401 : decode code 401 = .ok (.aload_n 3, 1) := by decide +kernel
theorem d_L_law_402 : decode code 402 = .ok (.iconst 0, 1) := by decide +kernel
theorem d_L_law_403 : decode code 403 = .ok (.laload, 1) := by decide +kernel
theorem d_L_law_404 : decode code 404 = .ok (.iload 6, 2) := by decide +kernel
theorem d_L_law_406 : decode code 406 = .ok (.i2l, 1) := by decide +kernel
theorem d_L_law_407 : decode code 407 = .ok (.lcmp, 1) := by decide +kernel
theorem d_L_law_408 : decode code 408 = .ok (.ifCond .eq 5, 3) := by decide +kernel
theorem d_L_law_411 : decode code 411 = .ok (.iconst 0, 1) := by decide +kernel
theorem d_L_law_412 : decode code 412 = .ok (.ireturn, 1) := by decide +kernel
theorem d_L_law_413 : decode code 413 = .ok (.goto 613, 3) := by decide +kernel
theorem d_L_law_416 : decode code 416 = .ok (.aload_n 1, 1) := by decide +kernel
theorem d_L_law_417 : decode code 417 = .ok (.aload_n 0, 1) := by decide +kernel
theorem d_L_law_418 : decode code 418 = .ok (.iload 4, 2) := by decide +kernel
theorem d_L_law_420 : decode code 420 = .ok (.iconst 1, 1) := by decide +kernel
theorem d_L_law_421 : decode code 421 = .ok (.iadd, 1) := by decide +kernel
theorem d_L_law_422 : decode code 422 = .ok (.iaload, 1) := by decide +kernel
theorem d_L_law_423 : decode code 423 = .ok (.ifCond .eq 7, 3) := by decide +kernel
theorem d_L_law_426 : decode code 426 = .ok (.iconst 1, 1) := by decide +kernel
theorem d_L_law_427 : decode code 427 = .ok (.goto 4, 3) := by decide +kernel
theorem d_L_law_430 : decode code 430 = .ok (.iconst 0, 1) := by decide +kernel
theorem d_L_law_431 : decode code 431 = .ok (.invokevirtual 99, 3) := by decide +kernel
theorem d_L_law_434 : decode code 434 = .ok (.aload_n 2, 1) := by decide +kernel
theorem d_L_law_435 : decode code 435 = .ok (.aload_n 0, 1) := by decide +kernel
theorem d_L_law_436 : decode code 436 = .ok (.iload 4, 2) := by decide +kernel
theorem d_L_law_438 : decode code 438 = .ok (.iconst 1, 1) := by decide +kernel
theorem d_L_law_439 : decode code 439 = .ok (.iadd, 1) := by decide +kernel
theorem d_L_law_440 : decode code 440 = .ok (.iaload, 1) := by decide +kernel
theorem d_L_law_441 : decode code 441 = .ok (.ifCond .eq 7, 3) := by decide +kernel
theorem d_L_law_444 : decode code 444 = .ok (.iconst 1, 1) := by decide +kernel
theorem d_L_law_445 : decode code 445 = .ok (.goto 4, 3) := by decide +kernel
theorem d_L_law_448 : decode code 448 = .ok (.iconst 0, 1) := by decide +kernel
theorem d_L_law_449 : decode code 449 = .ok (.invokevirtual 103, 3) := by decide +kernel
theorem d_L_law_452 : decode code 452 = .ok (.if_icmp .eq 574, 3) := by decide +kernel
theorem d_L_law_455 : decode code 455 = .ok (.iconst 0, 1) := by decide +kernel
theorem d_L_law_456 : decode code 456 = .ok (.ireturn, 1) := by decide +kernel
theorem d_L_law_457 : decode code 457 = .ok (.aload_n 1, 1) := by decide +kernel
theorem d_L_law_458 : decode code 458 = .ok (.aload_n 0, 1) := by decide +kernel
theorem d_L_law_459 : decode code 459 = .ok (.iload 4, 2) := by decide +kernel
theorem d_L_law_461 : decode code 461 = .ok (.iconst 1, 1) := by decide +kernel
theorem d_L_law_462 : decode code 462 = .ok (.iadd, 1) := by decide +kernel
theorem d_L_law_463 : decode code 463 = .ok (.iaload, 1) := by decide +kernel
theorem d_L_law_464 : decode code 464 = .ok (.aload_n 0, 1) := by decide +kernel
theorem d_L_law_465 : decode code 465 = .ok (.iload 4, 2) := by decide +kernel
theorem d_L_law_467 : decode code 467 = .ok (.iconst 2, 1) := by decide +kernel
theorem d_L_law_468 : decode code 468 = .ok (.iadd, 1) := by decide +kernel
theorem d_L_law_469 : decode code 469 = .ok (.iaload, 1) := by decide +kernel
theorem d_L_law_470 : decode code 470 = .ok (.aload_n 3, 1) := by decide +kernel
theorem d_L_law_471 : decode code 471 = .ok (.invokestatic 104, 3) := by decide +kernel
theorem d_L_law_474 : decode code 474 = .ok (.istore 5, 2) := by decide +kernel
theorem d_L_law_476 : decode code 476 = .ok (.aload_n 2, 1) := by decide +kernel
theorem d_L_law_477 : decode code 477 = .ok (.aload_n 0, 1) := by decide +kernel
theorem d_L_law_478 : decode code 478 = .ok (.iload 4, 2) := by decide +kernel
theorem d_L_law_480 : decode code 480 = .ok (.iconst 1, 1) := by decide +kernel
theorem d_L_law_481 : decode code 481 = .ok (.iadd, 1) := by decide +kernel
theorem d_L_law_482 : decode code 482 = .ok (.iaload, 1) := by decide +kernel
theorem d_L_law_483 : decode code 483 = .ok (.aload_n 0, 1) := by decide +kernel
theorem d_L_law_484 : decode code 484 = .ok (.iload 4, 2) := by decide +kernel
theorem d_L_law_486 : decode code 486 = .ok (.iconst 2, 1) := by decide +kernel
theorem d_L_law_487 : decode code 487 = .ok (.iadd, 1) := by decide +kernel
theorem d_L_law_488 : decode code 488 = .ok (.iaload, 1) := by decide +kernel
theorem d_L_law_489 : decode code 489 = .ok (.invokevirtual 107, 3) := by decide +kernel
theorem d_L_law_492 : decode code 492 = .ok (.istore 6, 2) := by decide +kernel
theorem d_L_law_494 : decode code 494 = .ok (.aload_n 2, 1) := by decide +kernel
theorem d_L_law_495 : decode code 495 = .ok (.invokevirtual 78, 3) := by decide +kernel
theorem d_L_law_498 : decode code 498 = .ok (.iload 5, 2) := by decide +kernel
theorem d_L_law_500 : decode code 500 = .ok (.if_icmp .eq 5, 3) := by decide +kernel
theorem d_L_law_503 : decode code 503 = .ok (.iconst 0, 1) := by decide +kernel
theorem d_L_law_504 : decode code 504 = .ok (.ireturn, 1) := by decide +kernel
theorem d_L_law_505 : decode code 505 = .ok (.iload 5, 2) := by decide +kernel
theorem d_L_law_507 : decode code 507 = .ok (.ifCond .ne 15, 3) := by decide +kernel
theorem d_L_law_510 : decode code 510 = .ok (.aload_n 3, 1) := by decide +kernel
theorem d_L_law_511 : decode code 511 = .ok (.iconst 0, 1) := by decide +kernel
theorem d_L_law_512 : decode code 512 = .ok (.laload, 1) := by decide +kernel
theorem d_L_law_513 : decode code 513 = .ok (.iload 6, 2) := by decide +kernel
theorem d_L_law_515 : decode code 515 = .ok (.i2l, 1) := by decide +kernel
theorem d_L_law_516 : decode code 516 = .ok (.lcmp, 1) := by decide +kernel
theorem d_L_law_517 : decode code 517 = .ok (.ifCond .eq 5, 3) := by decide +kernel
theorem d_L_law_520 : decode code 520 = .ok (.iconst 0, 1) := by decide +kernel
theorem d_L_law_521 : decode code 521 = .ok (.ireturn, 1) := by decide +kernel
theorem d_L_law_522 : decode code 522 = .ok (.goto 504, 3) := by decide +kernel
theorem d_L_law_525 : decode code 525 = .ok (.aload_n 1, 1) := by decide +kernel
theorem d_L_law_526 : decode code 526 = .ok (.invokevirtual 108, 3) := by decide +kernel
theorem d_L_law_529 : decode code 529 = .ok (.aload_n 2, 1) := by decide +kernel
theorem d_L_law_530 : decode code 530 = .ok (.invokevirtual 111, 3) := by decide +kernel
theorem d_L_law_533 : decode code 533 = .ok (.if_icmp .eq 493, 3) := by decide +kernel
theorem d_L_law_536 : decode code 536 = .ok (.iconst 0, 1) := by decide +kernel
theorem d_L_law_537 : decode code 537 = .ok (.ireturn, 1) := by decide +kernel
theorem d_L_law_538 : decode code 538 = .ok (.aload_n 1, 1) := by decide +kernel
theorem d_L_law_539 : decode code 539 = .ok (.invokestatic 112, 3) := by decide +kernel
theorem d_L_law_542 : decode code 542 = .ok (.istore 5, 2) := by decide +kernel
theorem d_L_law_544 : decode code 544 = .ok (.aload_n 2, 1) := by decide +kernel
theorem d_L_law_545 : decode code 545 = .ok (.invokevirtual 115, 3) := by decide +kernel
theorem d_L_law_548 : decode code 548 = .ok (.aload_n 2, 1) := by decide +kernel
theorem d_L_law_549 : decode code 549 = .ok (.invokevirtual 78, 3) := by decide +kernel
theorem d_L_law_552 : decode code 552 = .ok (.iload 5, 2) := by decide +kernel
theorem d_L_law_554 : decode code 554 = .ok (.if_icmp .eq 5, 3) := by decide +kernel
theorem d_L_law_557 : decode code 557 = .ok (.iconst 0, 1) := by decide +kernel
theorem d_L_law_558 : decode code 558 = .ok (.ireturn, 1) := by decide +kernel
theorem d_L_law_559 : decode code 559 = .ok (.goto 467, 3) := by decide +kernel
theorem d_L_law_562 : decode code 562 = .ok (.aload_n 1, 1) := by decide +kernel
theorem d_L_law_563 : decode code 563 = .ok (.aload_n 0, 1) := by decide +kernel
theorem d_L_law_564 : decode code 564 = .ok (.iload 4, 2) := by decide +kernel
theorem d_L_law_566 : decode code 566 = .ok (.iconst 1, 1) := by decide +kernel
theorem d_L_law_567 : decode code 567 = .ok (.iadd, 1) := by decide +kernel
theorem d_L_law_568 : decode code 568 = .ok (.iaload, 1) := by decide +kernel
theorem d_L_law_569 : decode code 569 = .ok (.aload_n 0, 1) := by decide +kernel
theorem d_L_law_570 : decode code 570 = .ok (.iload 4, 2) := by decide +kernel
theorem d_L_law_572 : decode code 572 = .ok (.iconst 2, 1) := by decide +kernel
theorem d_L_law_573 : decode code 573 = .ok (.iadd, 1) := by decide +kernel
theorem d_L_law_574 : decode code 574 = .ok (.iaload, 1) := by decide +kernel
theorem d_L_law_575 : decode code 575 = .ok (.ifCond .eq 7, 3) := by decide +kernel
theorem d_L_law_578 : decode code 578 = .ok (.iconst 1, 1) := by decide +kernel
theorem d_L_law_579 : decode code 579 = .ok (.goto 4, 3) := by decide +kernel
theorem d_L_law_582 : decode code 582 = .ok (.iconst 0, 1) := by decide +kernel
theorem d_L_law_583 : decode code 583 = .ok (.aload_n 3, 1) := by decide +kernel
theorem d_L_law_584 : decode code 584 = .ok (.invokestatic 116, 3) := by decide +kernel
theorem d_L_law_587 : decode code 587 = .ok (.istore 5, 2) := by decide +kernel
theorem d_L_law_589 : decode code 589 = .ok (.aload_n 2, 1) := by decide +kernel
theorem d_L_law_590 : decode code 590 = .ok (.aload_n 0, 1) := by decide +kernel
theorem d_L_law_591 : decode code 591 = .ok (.iload 4, 2) := by decide +kernel
theorem d_L_law_593 : decode code 593 = .ok (.iconst 1, 1) := by decide +kernel
theorem d_L_law_594 : decode code 594 = .ok (.iadd, 1) := by decide +kernel
theorem d_L_law_595 : decode code 595 = .ok (.iaload, 1) := by decide +kernel
theorem d_L_law_596 : decode code 596 = .ok (.aload_n 0, 1) := by decide +kernel
theorem d_L_law_597 : decode code 597 = .ok (.iload 4, 2) := by decide +kernel
theorem d_L_law_599 : decode code 599 = .ok (.iconst 2, 1) := by decide +kernel
theorem d_L_law_600 : decode code 600 = .ok (.iadd, 1) := by decide +kernel
theorem d_L_law_601 : decode code 601 = .ok (.iaload, 1) := by decide +kernel
theorem d_L_law_602 : decode code 602 = .ok (.ifCond .eq 7, 3) := by decide +kernel
theorem d_L_law_605 : decode code 605 = .ok (.iconst 1, 1) := by decide +kernel
theorem d_L_law_606 : decode code 606 = .ok (.goto 4, 3) := by decide +kernel
theorem d_L_law_609 : decode code 609 = .ok (.iconst 0, 1) := by decide +kernel
theorem d_L_law_610 : decode code 610 = .ok (.invokevirtual 119, 3) := by decide +kernel
theorem d_L_law_613 : decode code 613 = .ok (.lstore 6, 2) := by decide +kernel
theorem d_L_law_615 : decode code 615 = .ok (.aload_n 2, 1) := by decide +kernel
theorem d_L_law_616 : decode code 616 = .ok (.invokevirtual 78, 3) := by decide +kernel
theorem d_L_law_619 : decode code 619 = .ok (.iload 5, 2) := by decide +kernel
theorem d_L_law_621 : decode code 621 = .ok (.if_icmp .eq 5, 3) := by decide +kernel
theorem d_L_law_624 : decode code 624 = .ok (.iconst 0, 1) := by decide +kernel
theorem d_L_law_625 : decode code 625 = .ok (.ireturn, 1) := by decide +kernel
theorem d_L_law_626 : decode code 626 = .ok (.iload 5, 2) := by decide +kernel
theorem d_L_law_628 : decode code 628 = .ok (.ifCond .ne 14, 3) := by decide +kernel
theorem d_L_law_631 : decode code 631 = .ok (.aload_n 3, 1) := by decide +kernel
theorem d_L_law_632 : decode code 632 = .ok (.iconst 0, 1) := by decide +kernel
theorem d_L_law_633 : decode code 633 = .ok (.laload, 1) := by decide +kernel
theorem d_L_law_634 : decode code 634 = .ok (.lload 6, 2) := by decide +kernel
theorem d_L_law_636 : decode code 636 = .ok (.lcmp, 1) := by decide +kernel
theorem d_L_law_637 : decode code 637 = .ok (.ifCond .eq 5, 3) := by decide +kernel
theorem d_L_law_640 : decode code 640 = .ok (.iconst 0, 1) := by decide +kernel
theorem d_L_law_641 : decode code 641 = .ok (.ireturn, 1) := by decide +kernel
theorem d_L_law_642 : decode code 642 = .ok (.goto 384, 3) := by decide +kernel
theorem d_L_law_645 : decode code 645 = .ok (.aload_n 1, 1) := by decide +kernel
theorem d_L_law_646 : decode code 646 = .ok (.aload_n 0, 1) := by decide +kernel
theorem d_L_law_647 : decode code 647 = .ok (.iload 4, 2) := by decide +kernel
theorem d_L_law_649 : decode code 649 = .ok (.iconst 1, 1) := by decide +kernel
theorem d_L_law_650 : decode code 650 = .ok (.iadd, 1) := by decide +kernel
theorem d_L_law_651 : decode code 651 = .ok (.iaload, 1) := by decide +kernel
theorem d_L_law_652 : decode code 652 = .ok (.aload_n 0, 1) := by decide +kernel
theorem d_L_law_653 : decode code 653 = .ok (.iload 4, 2) := by decide +kernel
theorem d_L_law_655 : decode code 655 = .ok (.iconst 2, 1) := by decide +kernel
theorem d_L_law_656 : decode code 656 = .ok (.iadd, 1) := by decide +kernel
theorem d_L_law_657 : decode code 657 = .ok (.iaload, 1) := by decide +kernel
theorem d_L_law_658 : decode code 658 = .ok (.aload_n 0, 1) := by decide +kernel
theorem d_L_law_659 : decode code 659 = .ok (.iload 4, 2) := by decide +kernel
theorem d_L_law_661 : decode code 661 = .ok (.iconst 3, 1) := by decide +kernel
theorem d_L_law_662 : decode code 662 = .ok (.iadd, 1) := by decide +kernel
theorem d_L_law_663 : decode code 663 = .ok (.iaload, 1) := by decide +kernel
theorem d_L_law_664 : decode code 664 = .ok (.ifCond .eq 7, 3) := by decide +kernel
theorem d_L_law_667 : decode code 667 = .ok (.iconst 1, 1) := by decide +kernel
theorem d_L_law_668 : decode code 668 = .ok (.goto 4, 3) := by decide +kernel
theorem d_L_law_671 : decode code 671 = .ok (.iconst 0, 1) := by decide +kernel
theorem d_L_law_672 : decode code 672 = .ok (.aload_n 3, 1) := by decide +kernel
theorem d_L_law_673 : decode code 673 = .ok (.invokestatic 120, 3) := by decide +kernel
theorem d_L_law_676 : decode code 676 = .ok (.istore 5, 2) := by decide +kernel
theorem d_L_law_678 : decode code 678 = .ok (.aload_n 2, 1) := by decide +kernel
theorem d_L_law_679 : decode code 679 = .ok (.aload_n 0, 1) := by decide +kernel
theorem d_L_law_680 : decode code 680 = .ok (.iload 4, 2) := by decide +kernel
theorem d_L_law_682 : decode code 682 = .ok (.iconst 1, 1) := by decide +kernel
theorem d_L_law_683 : decode code 683 = .ok (.iadd, 1) := by decide +kernel
theorem d_L_law_684 : decode code 684 = .ok (.iaload, 1) := by decide +kernel
theorem d_L_law_685 : decode code 685 = .ok (.aload_n 0, 1) := by decide +kernel
theorem d_L_law_686 : decode code 686 = .ok (.iload 4, 2) := by decide +kernel
theorem d_L_law_688 : decode code 688 = .ok (.iconst 2, 1) := by decide +kernel
theorem d_L_law_689 : decode code 689 = .ok (.iadd, 1) := by decide +kernel
theorem d_L_law_690 : decode code 690 = .ok (.iaload, 1) := by decide +kernel
theorem d_L_law_691 : decode code 691 = .ok (.aload_n 0, 1) := by decide +kernel
theorem d_L_law_692 : decode code 692 = .ok (.iload 4, 2) := by decide +kernel
theorem d_L_law_694 : decode code 694 = .ok (.iconst 3, 1) := by decide +kernel
theorem d_L_law_695 : decode code 695 = .ok (.iadd, 1) := by decide +kernel
theorem d_L_law_696 : decode code 696 = .ok (.iaload, 1) := by decide +kernel
theorem d_L_law_697 : decode code 697 = .ok (.ifCond .eq 7, 3) := by decide +kernel
theorem d_L_law_700 : decode code 700 = .ok (.iconst 1, 1) := by decide +kernel
theorem d_L_law_701 : decode code 701 = .ok (.goto 4, 3) := by decide +kernel
theorem d_L_law_704 : decode code 704 = .ok (.iconst 0, 1) := by decide +kernel
theorem d_L_law_705 : decode code 705 = .ok (.invokevirtual 123, 3) := by decide +kernel
theorem d_L_law_708 : decode code 708 = .ok (.lstore 6, 2) := by decide +kernel
theorem d_L_law_710 : decode code 710 = .ok (.aload_n 2, 1) := by decide +kernel
theorem d_L_law_711 : decode code 711 = .ok (.invokevirtual 78, 3) := by decide +kernel
theorem d_L_law_714 : decode code 714 = .ok (.iload 5, 2) := by decide +kernel
theorem d_L_law_716 : decode code 716 = .ok (.if_icmp .eq 5, 3) := by decide +kernel
theorem d_L_law_719 : decode code 719 = .ok (.iconst 0, 1) := by decide +kernel
theorem d_L_law_720 : decode code 720 = .ok (.ireturn, 1) := by decide +kernel
theorem d_L_law_721 : decode code 721 = .ok (.iload 5, 2) := by decide +kernel
theorem d_L_law_723 : decode code 723 = .ok (.ifCond .ne 14, 3) := by decide +kernel
theorem d_L_law_726 : decode code 726 = .ok (.aload_n 3, 1) := by decide +kernel
theorem d_L_law_727 : decode code 727 = .ok (.iconst 0, 1) := by decide +kernel
theorem d_L_law_728 : decode code 728 = .ok (.laload, 1) := by decide +kernel
theorem d_L_law_729 : decode code 729 = .ok (.lload 6, 2) := by decide +kernel
theorem d_L_law_731 : decode code 731 = .ok (.lcmp, 1) := by decide +kernel
theorem d_L_law_732 : decode code 732 = .ok (.ifCond .eq 5, 3) := by decide +kernel
theorem d_L_law_735 : decode code 735 = .ok (.iconst 0, 1) := by decide +kernel
theorem d_L_law_736 : decode code 736 = .ok (.ireturn, 1) := by decide +kernel
theorem d_L_law_737 : decode code 737 = .ok (.goto 289, 3) := by decide +kernel
theorem d_L_law_740 : decode code 740 = .ok (.aload_n 1, 1) := by decide +kernel
theorem d_L_law_741 : decode code 741 = .ok (.aload_n 0, 1) := by decide +kernel
theorem d_L_law_742 : decode code 742 = .ok (.iload 4, 2) := by decide +kernel
theorem d_L_law_744 : decode code 744 = .ok (.iconst 1, 1) := by decide +kernel
theorem d_L_law_745 : decode code 745 = .ok (.iadd, 1) := by decide +kernel
theorem d_L_law_746 : decode code 746 = .ok (.iaload, 1) := by decide +kernel
theorem d_L_law_747 : decode code 747 = .ok (.aload_n 0, 1) := by decide +kernel
theorem d_L_law_748 : decode code 748 = .ok (.iload 4, 2) := by decide +kernel
theorem d_L_law_750 : decode code 750 = .ok (.iconst 2, 1) := by decide +kernel
theorem d_L_law_751 : decode code 751 = .ok (.iadd, 1) := by decide +kernel
theorem d_L_law_752 : decode code 752 = .ok (.iaload, 1) := by decide +kernel
theorem d_L_law_753 : decode code 753 = .ok (.aload_n 3, 1) := by decide +kernel
theorem d_L_law_754 : decode code 754 = .ok (.invokestatic 124, 3) := by decide +kernel
theorem d_L_law_757 : decode code 757 = .ok (.istore 5, 2) := by decide +kernel
theorem d_L_law_759 : decode code 759 = .ok (.aload_n 2, 1) := by decide +kernel
theorem d_L_law_760 : decode code 760 = .ok (.aload_n 0, 1) := by decide +kernel
theorem d_L_law_761 : decode code 761 = .ok (.iload 4, 2) := by decide +kernel
theorem d_L_law_763 : decode code 763 = .ok (.iconst 1, 1) := by decide +kernel
theorem d_L_law_764 : decode code 764 = .ok (.iadd, 1) := by decide +kernel
theorem d_L_law_765 : decode code 765 = .ok (.iaload, 1) := by decide +kernel
theorem d_L_law_766 : decode code 766 = .ok (.aload_n 0, 1) := by decide +kernel
theorem d_L_law_767 : decode code 767 = .ok (.iload 4, 2) := by decide +kernel
theorem d_L_law_769 : decode code 769 = .ok (.iconst 2, 1) := by decide +kernel
theorem d_L_law_770 : decode code 770 = .ok (.iadd, 1) := by decide +kernel
theorem d_L_law_771 : decode code 771 = .ok (.iaload, 1) := by decide +kernel
theorem d_L_law_772 : decode code 772 = .ok (.invokevirtual 126, 3) := by decide +kernel
theorem d_L_law_775 : decode code 775 = .ok (.istore 6, 2) := by decide +kernel
theorem d_L_law_777 : decode code 777 = .ok (.aload_n 2, 1) := by decide +kernel
theorem d_L_law_778 : decode code 778 = .ok (.invokevirtual 78, 3) := by decide +kernel
theorem d_L_law_781 : decode code 781 = .ok (.iload 5, 2) := by decide +kernel
theorem d_L_law_783 : decode code 783 = .ok (.if_icmp .eq 5, 3) := by decide +kernel
theorem d_L_law_786 : decode code 786 = .ok (.iconst 0, 1) := by decide +kernel
theorem d_L_law_787 : decode code 787 = .ok (.ireturn, 1) := by decide +kernel
theorem d_L_law_788 : decode code 788 = .ok (.iload 5, 2) := by decide +kernel
theorem d_L_law_790 : decode code 790 = .ok (.ifCond .ne 22, 3) := by decide +kernel
theorem d_L_law_793 : decode code 793 = .ok (.aload_n 3, 1) := by decide +kernel
theorem d_L_law_794 : decode code 794 = .ok (.iconst 0, 1) := by decide +kernel
theorem d_L_law_795 : decode code 795 = .ok (.laload, 1) := by decide +kernel
theorem d_L_law_796 : decode code 796 = .ok (.iload 6, 2) := by decide +kernel
theorem d_L_law_798 : decode code 798 = .ok (.ifCond .eq 7, 3) := by decide +kernel
theorem d_L_law_801 : decode code 801 = .ok (.lconst 1, 1) := by decide +kernel
theorem d_L_law_802 : decode code 802 = .ok (.goto 4, 3) := by decide +kernel
theorem d_L_law_805 : decode code 805 = .ok (.lconst 0, 1) := by decide +kernel
theorem d_L_law_806 : decode code 806 = .ok (.lcmp, 1) := by decide +kernel
theorem d_L_law_807 : decode code 807 = .ok (.ifCond .eq 5, 3) := by decide +kernel
theorem d_L_law_810 : decode code 810 = .ok (.iconst 0, 1) := by decide +kernel
theorem d_L_law_811 : decode code 811 = .ok (.ireturn, 1) := by decide +kernel
theorem d_L_law_812 : decode code 812 = .ok (.goto 214, 3) := by decide +kernel
theorem d_L_law_815 : decode code 815 = .ok (.aload_n 1, 1) := by decide +kernel
theorem d_L_law_816 : decode code 816 = .ok (.aload_n 0, 1) := by decide +kernel
theorem d_L_law_817 : decode code 817 = .ok (.iload 4, 2) := by decide +kernel
theorem d_L_law_819 : decode code 819 = .ok (.iconst 1, 1) := by decide +kernel
theorem d_L_law_820 : decode code 820 = .ok (.iadd, 1) := by decide +kernel
theorem d_L_law_821 : decode code 821 = .ok (.iaload, 1) := by decide +kernel
theorem d_L_law_822 : decode code 822 = .ok (.aload_n 0, 1) := by decide +kernel
theorem d_L_law_823 : decode code 823 = .ok (.iload 4, 2) := by decide +kernel
theorem d_L_law_825 : decode code 825 = .ok (.iconst 2, 1) := by decide +kernel
theorem d_L_law_826 : decode code 826 = .ok (.iadd, 1) := by decide +kernel
theorem d_L_law_827 : decode code 827 = .ok (.iaload, 1) := by decide +kernel
theorem d_L_law_828 : decode code 828 = .ok (.aload_n 0, 1) := by decide +kernel
theorem d_L_law_829 : decode code 829 = .ok (.iload 4, 2) := by decide +kernel
theorem d_L_law_831 : decode code 831 = .ok (.iconst 3, 1) := by decide +kernel
theorem d_L_law_832 : decode code 832 = .ok (.iadd, 1) := by decide +kernel
theorem d_L_law_833 : decode code 833 = .ok (.iaload, 1) := by decide +kernel
theorem d_L_law_834 : decode code 834 = .ok (.aload_n 0, 1) := by decide +kernel
theorem d_L_law_835 : decode code 835 = .ok (.iload 4, 2) := by decide +kernel
theorem d_L_law_837 : decode code 837 = .ok (.iconst 4, 1) := by decide +kernel
theorem d_L_law_838 : decode code 838 = .ok (.iadd, 1) := by decide +kernel
theorem d_L_law_839 : decode code 839 = .ok (.iaload, 1) := by decide +kernel
theorem d_L_law_840 : decode code 840 = .ok (.ifCond .eq 7, 3) := by decide +kernel
theorem d_L_law_843 : decode code 843 = .ok (.iconst 1, 1) := by decide +kernel
theorem d_L_law_844 : decode code 844 = .ok (.goto 4, 3) := by decide +kernel
theorem d_L_law_847 : decode code 847 = .ok (.iconst 0, 1) := by decide +kernel
theorem d_L_law_848 : decode code 848 = .ok (.aload_n 3, 1) := by decide +kernel
theorem d_L_law_849 : decode code 849 = .ok (.invokestatic 127, 3) := by decide +kernel
theorem d_L_law_852 : decode code 852 = .ok (.istore 5, 2) := by decide +kernel
theorem d_L_law_854 : decode code 854 = .ok (.aload_n 2, 1) := by decide +kernel
theorem d_L_law_855 : decode code 855 = .ok (.aload_n 0, 1) := by decide +kernel
theorem d_L_law_856 : decode code 856 = .ok (.iload 4, 2) := by decide +kernel
theorem d_L_law_858 : decode code 858 = .ok (.iconst 1, 1) := by decide +kernel
theorem d_L_law_859 : decode code 859 = .ok (.iadd, 1) := by decide +kernel
theorem d_L_law_860 : decode code 860 = .ok (.iaload, 1) := by decide +kernel
theorem d_L_law_861 : decode code 861 = .ok (.aload_n 0, 1) := by decide +kernel
theorem d_L_law_862 : decode code 862 = .ok (.iload 4, 2) := by decide +kernel
theorem d_L_law_864 : decode code 864 = .ok (.iconst 2, 1) := by decide +kernel
theorem d_L_law_865 : decode code 865 = .ok (.iadd, 1) := by decide +kernel
theorem d_L_law_866 : decode code 866 = .ok (.iaload, 1) := by decide +kernel
theorem d_L_law_867 : decode code 867 = .ok (.aload_n 0, 1) := by decide +kernel
theorem d_L_law_868 : decode code 868 = .ok (.iload 4, 2) := by decide +kernel
theorem d_L_law_870 : decode code 870 = .ok (.iconst 3, 1) := by decide +kernel
theorem d_L_law_871 : decode code 871 = .ok (.iadd, 1) := by decide +kernel
theorem d_L_law_872 : decode code 872 = .ok (.iaload, 1) := by decide +kernel
theorem d_L_law_873 : decode code 873 = .ok (.aload_n 0, 1) := by decide +kernel
theorem d_L_law_874 : decode code 874 = .ok (.iload 4, 2) := by decide +kernel
theorem d_L_law_876 : decode code 876 = .ok (.iconst 4, 1) := by decide +kernel
theorem d_L_law_877 : decode code 877 = .ok (.iadd, 1) := by decide +kernel
theorem d_L_law_878 : decode code 878 = .ok (.iaload, 1) := by decide +kernel
theorem d_L_law_879 : decode code 879 = .ok (.ifCond .eq 7, 3) := by decide +kernel
theorem d_L_law_882 : decode code 882 = .ok (.iconst 1, 1) := by decide +kernel
theorem d_L_law_883 : decode code 883 = .ok (.goto 4, 3) := by decide +kernel
theorem d_L_law_886 : decode code 886 = .ok (.iconst 0, 1) := by decide +kernel
theorem d_L_law_887 : decode code 887 = .ok (.invokevirtual 130, 3) := by decide +kernel
theorem d_L_law_890 : decode code 890 = .ok (.lstore 6, 2) := by decide +kernel
theorem d_L_law_892 : decode code 892 = .ok (.aload_n 2, 1) := by decide +kernel
theorem d_L_law_893 : decode code 893 = .ok (.invokevirtual 78, 3) := by decide +kernel
theorem d_L_law_896 : decode code 896 = .ok (.iload 5, 2) := by decide +kernel
theorem d_L_law_898 : decode code 898 = .ok (.if_icmp .eq 5, 3) := by decide +kernel
theorem d_L_law_901 : decode code 901 = .ok (.iconst 0, 1) := by decide +kernel
theorem d_L_law_902 : decode code 902 = .ok (.ireturn, 1) := by decide +kernel
theorem d_L_law_903 : decode code 903 = .ok (.iload 5, 2) := by decide +kernel
theorem d_L_law_905 : decode code 905 = .ok (.ifCond .ne 14, 3) := by decide +kernel
theorem d_L_law_908 : decode code 908 = .ok (.aload_n 3, 1) := by decide +kernel
theorem d_L_law_909 : decode code 909 = .ok (.iconst 0, 1) := by decide +kernel
theorem d_L_law_910 : decode code 910 = .ok (.laload, 1) := by decide +kernel
theorem d_L_law_911 : decode code 911 = .ok (.lload 6, 2) := by decide +kernel
theorem d_L_law_913 : decode code 913 = .ok (.lcmp, 1) := by decide +kernel
theorem d_L_law_914 : decode code 914 = .ok (.ifCond .eq 5, 3) := by decide +kernel
theorem d_L_law_917 : decode code 917 = .ok (.iconst 0, 1) := by decide +kernel
theorem d_L_law_918 : decode code 918 = .ok (.ireturn, 1) := by decide +kernel
theorem d_L_law_919 : decode code 919 = .ok (.goto 107, 3) := by decide +kernel
theorem d_L_law_922 : decode code 922 = .ok (.aload_n 1, 1) := by decide +kernel
theorem d_L_law_923 : decode code 923 = .ok (.aload_n 0, 1) := by decide +kernel
theorem d_L_law_924 : decode code 924 = .ok (.iload 4, 2) := by decide +kernel
theorem d_L_law_926 : decode code 926 = .ok (.iconst 1, 1) := by decide +kernel
theorem d_L_law_927 : decode code 927 = .ok (.iadd, 1) := by decide +kernel
theorem d_L_law_928 : decode code 928 = .ok (.iaload, 1) := by decide +kernel
theorem d_L_law_929 : decode code 929 = .ok (.aload_n 0, 1) := by decide +kernel
theorem d_L_law_930 : decode code 930 = .ok (.iload 4, 2) := by decide +kernel
theorem d_L_law_932 : decode code 932 = .ok (.iconst 2, 1) := by decide +kernel
theorem d_L_law_933 : decode code 933 = .ok (.iadd, 1) := by decide +kernel
theorem d_L_law_934 : decode code 934 = .ok (.iaload, 1) := by decide +kernel
theorem d_L_law_935 : decode code 935 = .ok (.aload_n 0, 1) := by decide +kernel
theorem d_L_law_936 : decode code 936 = .ok (.iload 4, 2) := by decide +kernel
theorem d_L_law_938 : decode code 938 = .ok (.iconst 3, 1) := by decide +kernel
theorem d_L_law_939 : decode code 939 = .ok (.iadd, 1) := by decide +kernel
theorem d_L_law_940 : decode code 940 = .ok (.iaload, 1) := by decide +kernel
theorem d_L_law_941 : decode code 941 = .ok (.invokestatic 131, 3) := by decide +kernel
theorem d_L_law_944 : decode code 944 = .ok (.istore 5, 2) := by decide +kernel
theorem d_L_law_946 : decode code 946 = .ok (.aload_n 2, 1) := by decide +kernel
theorem d_L_law_947 : decode code 947 = .ok (.aload_n 0, 1) := by decide +kernel
theorem d_L_law_948 : decode code 948 = .ok (.iload 4, 2) := by decide +kernel
theorem d_L_law_950 : decode code 950 = .ok (.iconst 1, 1) := by decide +kernel
theorem d_L_law_951 : decode code 951 = .ok (.iadd, 1) := by decide +kernel
theorem d_L_law_952 : decode code 952 = .ok (.iaload, 1) := by decide +kernel
theorem d_L_law_953 : decode code 953 = .ok (.aload_n 0, 1) := by decide +kernel
theorem d_L_law_954 : decode code 954 = .ok (.iload 4, 2) := by decide +kernel
theorem d_L_law_956 : decode code 956 = .ok (.iconst 2, 1) := by decide +kernel
theorem d_L_law_957 : decode code 957 = .ok (.iadd, 1) := by decide +kernel
theorem d_L_law_958 : decode code 958 = .ok (.iaload, 1) := by decide +kernel
theorem d_L_law_959 : decode code 959 = .ok (.aload_n 0, 1) := by decide +kernel
theorem d_L_law_960 : decode code 960 = .ok (.iload 4, 2) := by decide +kernel
theorem d_L_law_962 : decode code 962 = .ok (.iconst 3, 1) := by decide +kernel
theorem d_L_law_963 : decode code 963 = .ok (.iadd, 1) := by decide +kernel
theorem d_L_law_964 : decode code 964 = .ok (.iaload, 1) := by decide +kernel
theorem d_L_law_965 : decode code 965 = .ok (.invokevirtual 133, 3) := by decide +kernel
theorem d_L_law_968 : decode code 968 = .ok (.aload_n 2, 1) := by decide +kernel
theorem d_L_law_969 : decode code 969 = .ok (.invokevirtual 78, 3) := by decide +kernel
theorem d_L_law_972 : decode code 972 = .ok (.iload 5, 2) := by decide +kernel
theorem d_L_law_974 : decode code 974 = .ok (.if_icmp .eq 5, 3) := by decide +kernel
theorem d_L_law_977 : decode code 977 = .ok (.iconst 0, 1) := by decide +kernel
theorem d_L_law_978 : decode code 978 = .ok (.ireturn, 1) := by decide +kernel
theorem d_L_law_979 : decode code 979 = .ok (.goto 47, 3) := by decide +kernel
theorem d_L_law_982 : decode code 982 = .ok (.aload_n 1, 1) := by decide +kernel
theorem d_L_law_983 : decode code 983 = .ok (.aload_n 3, 1) := by decide +kernel
theorem d_L_law_984 : decode code 984 = .ok (.invokestatic 134, 3) := by decide +kernel
theorem d_L_law_987 : decode code 987 = .ok (.istore 5, 2) := by decide +kernel
theorem d_L_law_989 : decode code 989 = .ok (.aload_n 2, 1) := by decide +kernel
theorem d_L_law_990 : decode code 990 = .ok (.invokevirtual 136, 3) := by decide +kernel
theorem d_L_law_993 : decode code 993 = .ok (.istore 6, 2) := by decide +kernel
theorem d_L_law_995 : decode code 995 = .ok (.aload_n 2, 1) := by decide +kernel
theorem d_L_law_996 : decode code 996 = .ok (.invokevirtual 78, 3) := by decide +kernel
theorem d_L_law_999 : decode code 999 = .ok (.iload 5, 2) := by decide +kernel
theorem d_L_law_1001 : decode code 1001 = .ok (.if_icmp .eq 5, 3) := by decide +kernel
theorem d_L_law_1004 : decode code 1004 = .ok (.iconst 0, 1) := by decide +kernel
theorem d_L_law_1005 : decode code 1005 = .ok (.ireturn, 1) := by decide +kernel
theorem d_L_law_1006 : decode code 1006 = .ok (.iload 5, 2) := by decide +kernel
theorem d_L_law_1008 : decode code 1008 = .ok (.ifCond .ne 15, 3) := by decide +kernel
theorem d_L_law_1011 : decode code 1011 = .ok (.aload_n 3, 1) := by decide +kernel
theorem d_L_law_1012 : decode code 1012 = .ok (.iconst 0, 1) := by decide +kernel
theorem d_L_law_1013 : decode code 1013 = .ok (.laload, 1) := by decide +kernel
theorem d_L_law_1014 : decode code 1014 = .ok (.iload 6, 2) := by decide +kernel
theorem d_L_law_1016 : decode code 1016 = .ok (.i2l, 1) := by decide +kernel
theorem d_L_law_1017 : decode code 1017 = .ok (.lcmp, 1) := by decide +kernel
theorem d_L_law_1018 : decode code 1018 = .ok (.ifCond .eq 5, 3) := by decide +kernel
theorem d_L_law_1021 : decode code 1021 = .ok (.iconst 0, 1) := by decide +kernel
theorem d_L_law_1022 : decode code 1022 = .ok (.ireturn, 1) := by decide +kernel
theorem d_L_law_1023 : decode code 1023 = .ok (.goto 3, 3) := by decide +kernel
theorem d_L_law_1026 : decode code 1026 = .ok (.iinc 4 5, 3) := by decide +kernel
theorem d_L_law_1029 : decode code 1029 = .ok (.goto (-1006), 3) := by decide +kernel
theorem d_L_law_1032 : decode code 1032 = .ok (.iconst 1, 1) := by decide +kernel
theorem d_L_law_1033 : decode code 1033 = .ok (.ireturn, 1) := by decide +kernel
theorem bw_buyer : Cond.codeWith y_L_buyer method_3_code 4 (some .int) [(0, 9, 12, 13), (0, 9, 15, 15)] ∈ lw_big := tb_1 176 rfl rfl
theorem bw_good : Cond.codeWith y_L_good method_4_code 3 (some .int) [(0, 8, 11, 15)] ∈ lw_big := tb_2 47 rfl rfl
theorem bw_money : Cond.codeWith y_L_money method_5_code 4 (some .int) [(0, 6, 9, 25), (0, 6, 12, 13)] ∈ lw_big := tb_2 55 rfl rfl
theorem bw_value : Cond.codeWith y_L_value method_6_code 5 (some .int) [(0, 7, 10, 25), (0, 7, 14, 13)] ∈ lw_big := tb_2 83 rfl rfl
theorem bw_join : Cond.codeWith y_L_join method_7_code 4 (some .int) [(0, 6, 9, 25), (0, 6, 12, 13)] ∈ lw_big := tb_2 96 rfl rfl
theorem bw_undo : Cond.codeWith y_L_undo method_8_code 3 (some .int) [(0, 8, 11, 37)] ∈ lw_big := tb_2 121 rfl rfl
theorem bw_told : Cond.codeWith y_L_told method_9_code 5 (some .int) [(0, 10, 13, 25)] ∈ lw_big := tb_2 145 rfl rfl
theorem bw_solve : Cond.codeWith y_L_solve method_10_code 2 (some .int) [(0, 4, 7, 37)] ∈ lw_big := tb_2 152 rfl rfl
theorem bw_price : Cond.codeWith y_L_price method_11_code 5 (some .int) [(0, 9, 12, 37), (0, 9, 16, 25)] ∈ lw_big := tb_3 7 rfl rfl
theorem bw_best : Cond.codeWith y_L_best method_12_code 6 (some .int) [(0, 11, 14, 37), (0, 11, 18, 25)] ∈ lw_big := tb_3 28 rfl rfl
theorem bw_likes : Cond.codeWith y_L_likes method_13_code 5 (some .int) [(0, 17, 20, 37), (0, 17, 24, 25)] ∈ lw_big := tb_3 41 rfl rfl
theorem bw_spent : Cond.codeWith y_L_spent method_14_code 7 (some .int) [(0, 13, 16, 37), (0, 13, 20, 25)] ∈ lw_big := tb_3 48 rfl rfl
theorem bw_tryPrice : Cond.codeWith y_L_tryPrice method_15_code 5 (some .int) [(0, 7, 10, 25), (0, 7, 14, 13)] ∈ lw_big := tb_3 55 rfl rfl
theorem bw_test : Cond.codeWith y_L_test method_16_code 3 (some .int) [(0, 8, 11, 37)] ∈ lw_big := tb_3 64 rfl rfl
