def zxs (xs : Nat → Int32) (L : Nat) (i : Int32) : Option Int32 := if ¬ (i < 0 ∨ L ≤ i.toNatClampNeg) then some (xs i.toNatClampNeg) else none
section ZX
variable {E : zEnv} {μ : zMu} {d : Nat} {M0 : zM} {tg : Option Value × zM} {α : Type} {x0 : α} {t : Option α} {pc : Nat} {loc : List (Nat × Value)} {st : List Value} {M : zM} {xs : Nat → Int32} {L bS : Nat}
theorem zs_sld {i : Int32} {f : Int32 → Option α} (hX : ∀ (U : State) (H : Heap), E.2.2.2.2.1 U H → va_X bS L xs U H) (hbs : bS < E.2.2.2.1) (hd : decode μ.2.2.1 pc = .ok (.iaload, 1)) (kk : ∀ v, zSy E μ d M0 tg x0 (f v) (pc + 1) loc (.int v :: st) M) : zSy E μ d M0 tg x0 ((zxs xs L i).bind f) pc loc (.int i :: .ref bS :: st) M := by
  intro hh
  obtain ⟨v, hv, hh⟩ := Option.bind_eq_some_iff.mp hh
  unfold zxs at hv
  split at hv
  case isFalse => cases hv
  case isTrue hc =>
    cases hv
    intro p e R s m args below meth c H locs ls Q K hl hP hS g
    exact va_sld K.1 K.2.1 (hX s s.heap K.2.2.2.2.2.2.1) (by rw [K.2.2.2.2.2.2.2.2.1]; omega) (Nat.not_le.mpr hbs) hS (show vp_in i L from hc) hd (kk _ hh p e R s m args below meth c H locs ls Q K hl hP hS g)
theorem zs_sllen (hX : ∀ (U : State) (H : Heap), E.2.2.2.2.1 U H → va_X bS L xs U H) (hbs : bS < E.2.2.2.1) (hd : decode μ.2.2.1 pc = .ok (.arraylength, 1)) (k : zSy E μ d M0 tg x0 t (pc + 1) loc (.int (Int32.ofNat L) :: st) M) : zSy E μ d M0 tg x0 t pc loc (.ref bS :: st) M := by
  intro hh p e R s m args below meth c H locs ls Q K hl hP hS g
  exact va_slen K.1 K.2.1 (hX s s.heap K.2.2.2.2.2.2.1) (by rw [K.2.2.2.2.2.2.2.2.1]; omega) (Nat.not_le.mpr hbs) hS hd (k hh p e R s m args below meth c H locs ls Q K hl hP hS g)
end ZX
abbrev mu_L_law : zMu := (RL, yL_law, cL_law, 4, some .boolean)
theorem dL_law_0 : decode cL_law 0 = .ok (.new 7, 3) := by decide +kernel
theorem dL_law_3 : decode cL_law 3 = .ok (.dup, 1) := by decide +kernel
theorem dL_law_4 : decode cL_law 4 = .ok (.invokespecial 9, 3) := by decide +kernel
theorem dL_law_7 : decode cL_law 7 = .ok (.astore_n 1, 1) := by decide +kernel
theorem dL_law_8 : decode cL_law 8 = .ok (.new 10, 3) := by decide +kernel
theorem dL_law_11 : decode cL_law 11 = .ok (.dup, 1) := by decide +kernel
theorem dL_law_12 : decode cL_law 12 = .ok (.invokespecial 12, 3) := by decide +kernel
theorem dL_law_15 : decode cL_law 15 = .ok (.astore_n 2, 1) := by decide +kernel
theorem dL_law_16 : decode cL_law 16 = .ok (.iconst 0, 1) := by decide +kernel
theorem dL_law_17 : decode cL_law 17 = .ok (.istore_n 3, 1) := by decide +kernel
theorem dL_law_18 : decode cL_law 18 = .ok (.iload_n 3, 1) := by decide +kernel
theorem dL_law_19 : decode cL_law 19 = .ok (.aload_n 0, 1) := by decide +kernel
theorem dL_law_20 : decode cL_law 20 = .ok (.arraylength, 1) := by decide +kernel
theorem dL_law_21 : decode cL_law 21 = .ok (.bipush 6, 2) := by decide +kernel
theorem dL_law_23 : decode cL_law 23 = .ok (.isub, 1) := by decide +kernel
theorem dL_law_24 : decode cL_law 24 = .ok (.if_icmp .gt 1399, 3) := by decide +kernel
theorem dL_law_27 : decode cL_law 27 = .ok (.aload_n 0, 1) := by decide +kernel
theorem dL_law_28 : decode cL_law 28 = .ok (.iload_n 3, 1) := by decide +kernel
theorem dL_law_29 : decode cL_law 29 = .ok (.iaload, 1) := by decide +kernel
theorem dL_law_30 : decode cL_law 30 = .ok (.bipush 63, 2) := by decide +kernel
theorem dL_law_32 : decode cL_law 32 = .ok (.iand, 1) := by decide +kernel
theorem dL_law_33 : decode cL_law 33 = .ok (.tableswitch 1384 0 43 #[191, 204, 267, 290, 313, 336, 359, 382, 405, 438, 461, 494, 527, 540, 563, 586, 609, 632, 655, 668, 701, 734, 767, 780, 803, 826, 839, 863, 896, 929, 962, 985, 1028, 1061, 1114, 1137, 1170, 1203, 1216, 1229, 1252, 1275, 1298, 1331], 191) := by decide +kernel
theorem dL_law_224 : decode cL_law 224 = .ok (.aload_n 1, 1) := by decide +kernel
theorem dL_law_225 : decode cL_law 225 = .ok (.invokevirtual 13, 3) := by decide +kernel
theorem dL_law_228 : decode cL_law 228 = .ok (.aload_n 2, 1) := by decide +kernel
theorem dL_law_229 : decode cL_law 229 = .ok (.invokevirtual 17, 3) := by decide +kernel
theorem dL_law_232 : decode cL_law 232 = .ok (.if_icmp .eq 1185, 3) := by decide +kernel
theorem dL_law_235 : decode cL_law 235 = .ok (.iconst 0, 1) := by decide +kernel
theorem dL_law_236 : decode cL_law 236 = .ok (.ireturn, 1) := by decide +kernel
theorem dL_law_237 : decode cL_law 237 = .ok (.aload_n 1, 1) := by decide +kernel
theorem dL_law_238 : decode cL_law 238 = .ok (.aload_n 0, 1) := by decide +kernel
theorem dL_law_239 : decode cL_law 239 = .ok (.iload_n 3, 1) := by decide +kernel
theorem dL_law_240 : decode cL_law 240 = .ok (.iconst 1, 1) := by decide +kernel
theorem dL_law_241 : decode cL_law 241 = .ok (.iadd, 1) := by decide +kernel
theorem dL_law_242 : decode cL_law 242 = .ok (.iaload, 1) := by decide +kernel
theorem dL_law_243 : decode cL_law 243 = .ok (.aload_n 0, 1) := by decide +kernel
theorem dL_law_244 : decode cL_law 244 = .ok (.iload_n 3, 1) := by decide +kernel
theorem dL_law_245 : decode cL_law 245 = .ok (.iconst 2, 1) := by decide +kernel
theorem dL_law_246 : decode cL_law 246 = .ok (.iadd, 1) := by decide +kernel
theorem dL_law_247 : decode cL_law 247 = .ok (.iaload, 1) := by decide +kernel
theorem dL_law_248 : decode cL_law 248 = .ok (.aload_n 0, 1) := by decide +kernel
theorem dL_law_249 : decode cL_law 249 = .ok (.iload_n 3, 1) := by decide +kernel
theorem dL_law_250 : decode cL_law 250 = .ok (.iconst 3, 1) := by decide +kernel
theorem dL_law_251 : decode cL_law 251 = .ok (.iadd, 1) := by decide +kernel
theorem dL_law_252 : decode cL_law 252 = .ok (.iaload, 1) := by decide +kernel
theorem dL_law_253 : decode cL_law 253 = .ok (.aload_n 0, 1) := by decide +kernel
theorem dL_law_254 : decode cL_law 254 = .ok (.iload_n 3, 1) := by decide +kernel
theorem dL_law_255 : decode cL_law 255 = .ok (.iconst 4, 1) := by decide +kernel
theorem dL_law_256 : decode cL_law 256 = .ok (.iadd, 1) := by decide +kernel
theorem dL_law_257 : decode cL_law 257 = .ok (.iaload, 1) := by decide +kernel
theorem dL_law_258 : decode cL_law 258 = .ok (.aload_n 0, 1) := by decide +kernel
theorem dL_law_259 : decode cL_law 259 = .ok (.iload_n 3, 1) := by decide +kernel
theorem dL_law_260 : decode cL_law 260 = .ok (.iconst 5, 1) := by decide +kernel
theorem dL_law_261 : decode cL_law 261 = .ok (.iadd, 1) := by decide +kernel
theorem dL_law_262 : decode cL_law 262 = .ok (.iaload, 1) := by decide +kernel
theorem dL_law_263 : decode cL_law 263 = .ok (.invokevirtual 18, 3) := by decide +kernel
theorem dL_law_266 : decode cL_law 266 = .ok (.aload_n 2, 1) := by decide +kernel
theorem dL_law_267 : decode cL_law 267 = .ok (.aload_n 0, 1) := by decide +kernel
theorem dL_law_268 : decode cL_law 268 = .ok (.iload_n 3, 1) := by decide +kernel
theorem dL_law_269 : decode cL_law 269 = .ok (.iconst 1, 1) := by decide +kernel
theorem dL_law_270 : decode cL_law 270 = .ok (.iadd, 1) := by decide +kernel
theorem dL_law_271 : decode cL_law 271 = .ok (.iaload, 1) := by decide +kernel
theorem dL_law_272 : decode cL_law 272 = .ok (.aload_n 0, 1) := by decide +kernel
theorem dL_law_273 : decode cL_law 273 = .ok (.iload_n 3, 1) := by decide +kernel
theorem dL_law_274 : decode cL_law 274 = .ok (.iconst 2, 1) := by decide +kernel
theorem dL_law_275 : decode cL_law 275 = .ok (.iadd, 1) := by decide +kernel
theorem dL_law_276 : decode cL_law 276 = .ok (.iaload, 1) := by decide +kernel
theorem dL_law_277 : decode cL_law 277 = .ok (.aload_n 0, 1) := by decide +kernel
theorem dL_law_278 : decode cL_law 278 = .ok (.iload_n 3, 1) := by decide +kernel
theorem dL_law_279 : decode cL_law 279 = .ok (.iconst 3, 1) := by decide +kernel
theorem dL_law_280 : decode cL_law 280 = .ok (.iadd, 1) := by decide +kernel
theorem dL_law_281 : decode cL_law 281 = .ok (.iaload, 1) := by decide +kernel
theorem dL_law_282 : decode cL_law 282 = .ok (.aload_n 0, 1) := by decide +kernel
theorem dL_law_283 : decode cL_law 283 = .ok (.iload_n 3, 1) := by decide +kernel
theorem dL_law_284 : decode cL_law 284 = .ok (.iconst 4, 1) := by decide +kernel
theorem dL_law_285 : decode cL_law 285 = .ok (.iadd, 1) := by decide +kernel
theorem dL_law_286 : decode cL_law 286 = .ok (.iaload, 1) := by decide +kernel
theorem dL_law_287 : decode cL_law 287 = .ok (.aload_n 0, 1) := by decide +kernel
theorem dL_law_288 : decode cL_law 288 = .ok (.iload_n 3, 1) := by decide +kernel
theorem dL_law_289 : decode cL_law 289 = .ok (.iconst 5, 1) := by decide +kernel
theorem dL_law_290 : decode cL_law 290 = .ok (.iadd, 1) := by decide +kernel
theorem dL_law_291 : decode cL_law 291 = .ok (.iaload, 1) := by decide +kernel
theorem dL_law_292 : decode cL_law 292 = .ok (.invokevirtual 22, 3) := by decide +kernel
theorem dL_law_295 : decode cL_law 295 = .ok (.if_icmp .eq 1122, 3) := by decide +kernel
theorem dL_law_298 : decode cL_law 298 = .ok (.iconst 0, 1) := by decide +kernel
theorem dL_law_299 : decode cL_law 299 = .ok (.ireturn, 1) := by decide +kernel
theorem dL_law_300 : decode cL_law 300 = .ok (.aload_n 1, 1) := by decide +kernel
theorem dL_law_301 : decode cL_law 301 = .ok (.aload_n 0, 1) := by decide +kernel
theorem dL_law_302 : decode cL_law 302 = .ok (.iload_n 3, 1) := by decide +kernel
theorem dL_law_303 : decode cL_law 303 = .ok (.iconst 1, 1) := by decide +kernel
theorem dL_law_304 : decode cL_law 304 = .ok (.iadd, 1) := by decide +kernel
theorem dL_law_305 : decode cL_law 305 = .ok (.iaload, 1) := by decide +kernel
theorem dL_law_306 : decode cL_law 306 = .ok (.invokevirtual 23, 3) := by decide +kernel
theorem dL_law_309 : decode cL_law 309 = .ok (.aload_n 2, 1) := by decide +kernel
theorem dL_law_310 : decode cL_law 310 = .ok (.aload_n 0, 1) := by decide +kernel
theorem dL_law_311 : decode cL_law 311 = .ok (.iload_n 3, 1) := by decide +kernel
theorem dL_law_312 : decode cL_law 312 = .ok (.iconst 1, 1) := by decide +kernel
theorem dL_law_313 : decode cL_law 313 = .ok (.iadd, 1) := by decide +kernel
theorem dL_law_314 : decode cL_law 314 = .ok (.iaload, 1) := by decide +kernel
theorem dL_law_315 : decode cL_law 315 = .ok (.invokevirtual 27, 3) := by decide +kernel
theorem dL_law_318 : decode cL_law 318 = .ok (.if_icmp .eq 1099, 3) := by decide +kernel
theorem dL_law_321 : decode cL_law 321 = .ok (.iconst 0, 1) := by decide +kernel
theorem dL_law_322 : decode cL_law 322 = .ok (.ireturn, 1) := by decide +kernel
theorem dL_law_323 : decode cL_law 323 = .ok (.aload_n 1, 1) := by decide +kernel
theorem dL_law_324 : decode cL_law 324 = .ok (.aload_n 0, 1) := by decide +kernel
theorem dL_law_325 : decode cL_law 325 = .ok (.iload_n 3, 1) := by decide +kernel
theorem dL_law_326 : decode cL_law 326 = .ok (.iconst 1, 1) := by decide +kernel
theorem dL_law_327 : decode cL_law 327 = .ok (.iadd, 1) := by decide +kernel
theorem dL_law_328 : decode cL_law 328 = .ok (.iaload, 1) := by decide +kernel
theorem dL_law_329 : decode cL_law 329 = .ok (.invokevirtual 28, 3) := by decide +kernel
theorem dL_law_332 : decode cL_law 332 = .ok (.aload_n 2, 1) := by decide +kernel
theorem dL_law_333 : decode cL_law 333 = .ok (.aload_n 0, 1) := by decide +kernel
theorem dL_law_334 : decode cL_law 334 = .ok (.iload_n 3, 1) := by decide +kernel
theorem dL_law_335 : decode cL_law 335 = .ok (.iconst 1, 1) := by decide +kernel
theorem dL_law_336 : decode cL_law 336 = .ok (.iadd, 1) := by decide +kernel
theorem dL_law_337 : decode cL_law 337 = .ok (.iaload, 1) := by decide +kernel
theorem dL_law_338 : decode cL_law 338 = .ok (.invokevirtual 31, 3) := by decide +kernel
theorem dL_law_341 : decode cL_law 341 = .ok (.if_icmp .eq 1076, 3) := by decide +kernel
theorem dL_law_344 : decode cL_law 344 = .ok (.iconst 0, 1) := by decide +kernel
theorem dL_law_345 : decode cL_law 345 = .ok (.ireturn, 1) := by decide +kernel
theorem dL_law_346 : decode cL_law 346 = .ok (.aload_n 1, 1) := by decide +kernel
theorem dL_law_347 : decode cL_law 347 = .ok (.aload_n 0, 1) := by decide +kernel
theorem dL_law_348 : decode cL_law 348 = .ok (.iload_n 3, 1) := by decide +kernel
theorem dL_law_349 : decode cL_law 349 = .ok (.iconst 1, 1) := by decide +kernel
theorem dL_law_350 : decode cL_law 350 = .ok (.iadd, 1) := by decide +kernel
theorem dL_law_351 : decode cL_law 351 = .ok (.iaload, 1) := by decide +kernel
theorem dL_law_352 : decode cL_law 352 = .ok (.invokevirtual 32, 3) := by decide +kernel
theorem dL_law_355 : decode cL_law 355 = .ok (.aload_n 2, 1) := by decide +kernel
theorem dL_law_356 : decode cL_law 356 = .ok (.aload_n 0, 1) := by decide +kernel
theorem dL_law_357 : decode cL_law 357 = .ok (.iload_n 3, 1) := by decide +kernel
theorem dL_law_358 : decode cL_law 358 = .ok (.iconst 1, 1) := by decide +kernel
theorem dL_law_359 : decode cL_law 359 = .ok (.iadd, 1) := by decide +kernel
theorem dL_law_360 : decode cL_law 360 = .ok (.iaload, 1) := by decide +kernel
theorem dL_law_361 : decode cL_law 361 = .ok (.invokevirtual 35, 3) := by decide +kernel
theorem dL_law_364 : decode cL_law 364 = .ok (.if_icmp .eq 1053, 3) := by decide +kernel
theorem dL_law_367 : decode cL_law 367 = .ok (.iconst 0, 1) := by decide +kernel
theorem dL_law_368 : decode cL_law 368 = .ok (.ireturn, 1) := by decide +kernel
theorem dL_law_369 : decode cL_law 369 = .ok (.aload_n 1, 1) := by decide +kernel
theorem dL_law_370 : decode cL_law 370 = .ok (.aload_n 0, 1) := by decide +kernel
theorem dL_law_371 : decode cL_law 371 = .ok (.iload_n 3, 1) := by decide +kernel
theorem dL_law_372 : decode cL_law 372 = .ok (.iconst 1, 1) := by decide +kernel
theorem dL_law_373 : decode cL_law 373 = .ok (.iadd, 1) := by decide +kernel
theorem dL_law_374 : decode cL_law 374 = .ok (.iaload, 1) := by decide +kernel
theorem dL_law_375 : decode cL_law 375 = .ok (.invokevirtual 36, 3) := by decide +kernel
theorem dL_law_378 : decode cL_law 378 = .ok (.aload_n 2, 1) := by decide +kernel
theorem dL_law_379 : decode cL_law 379 = .ok (.aload_n 0, 1) := by decide +kernel
theorem dL_law_380 : decode cL_law 380 = .ok (.iload_n 3, 1) := by decide +kernel
theorem dL_law_381 : decode cL_law 381 = .ok (.iconst 1, 1) := by decide +kernel
theorem dL_law_382 : decode cL_law 382 = .ok (.iadd, 1) := by decide +kernel
theorem dL_law_383 : decode cL_law 383 = .ok (.iaload, 1) := by decide +kernel
theorem dL_law_384 : decode cL_law 384 = .ok (.invokevirtual 39, 3) := by decide +kernel
theorem dL_law_387 : decode cL_law 387 = .ok (.if_icmp .eq 1030, 3) := by decide +kernel
theorem dL_law_390 : decode cL_law 390 = .ok (.iconst 0, 1) := by decide +kernel
theorem dL_law_391 : decode cL_law 391 = .ok (.ireturn, 1) := by decide +kernel
theorem dL_law_392 : decode cL_law 392 = .ok (.aload_n 1, 1) := by decide +kernel
theorem dL_law_393 : decode cL_law 393 = .ok (.aload_n 0, 1) := by decide +kernel
theorem dL_law_394 : decode cL_law 394 = .ok (.iload_n 3, 1) := by decide +kernel
theorem dL_law_395 : decode cL_law 395 = .ok (.iconst 1, 1) := by decide +kernel
theorem dL_law_396 : decode cL_law 396 = .ok (.iadd, 1) := by decide +kernel
theorem dL_law_397 : decode cL_law 397 = .ok (.iaload, 1) := by decide +kernel
theorem dL_law_398 : decode cL_law 398 = .ok (.invokevirtual 40, 3) := by decide +kernel
theorem dL_law_401 : decode cL_law 401 = .ok (.aload_n 2, 1) := by decide +kernel
theorem dL_law_402 : decode cL_law 402 = .ok (.aload_n 0, 1) := by decide +kernel
theorem dL_law_403 : decode cL_law 403 = .ok (.iload_n 3, 1) := by decide +kernel
theorem dL_law_404 : decode cL_law 404 = .ok (.iconst 1, 1) := by decide +kernel
theorem dL_law_405 : decode cL_law 405 = .ok (.iadd, 1) := by decide +kernel
theorem dL_law_406 : decode cL_law 406 = .ok (.iaload, 1) := by decide +kernel
theorem dL_law_407 : decode cL_law 407 = .ok (.invokevirtual 43, 3) := by decide +kernel
theorem dL_law_410 : decode cL_law 410 = .ok (.if_icmp .eq 1007, 3) := by decide +kernel
theorem dL_law_413 : decode cL_law 413 = .ok (.iconst 0, 1) := by decide +kernel
theorem dL_law_414 : decode cL_law 414 = .ok (.ireturn, 1) := by decide +kernel
theorem dL_law_415 : decode cL_law 415 = .ok (.aload_n 1, 1) := by decide +kernel
theorem dL_law_416 : decode cL_law 416 = .ok (.aload_n 0, 1) := by decide +kernel
theorem dL_law_417 : decode cL_law 417 = .ok (.iload_n 3, 1) := by decide +kernel
theorem dL_law_418 : decode cL_law 418 = .ok (.iconst 1, 1) := by decide +kernel
theorem dL_law_419 : decode cL_law 419 = .ok (.iadd, 1) := by decide +kernel
theorem dL_law_420 : decode cL_law 420 = .ok (.iaload, 1) := by decide +kernel
theorem dL_law_421 : decode cL_law 421 = .ok (.invokevirtual 44, 3) := by decide +kernel
theorem dL_law_424 : decode cL_law 424 = .ok (.aload_n 2, 1) := by decide +kernel
theorem dL_law_425 : decode cL_law 425 = .ok (.aload_n 0, 1) := by decide +kernel
theorem dL_law_426 : decode cL_law 426 = .ok (.iload_n 3, 1) := by decide +kernel
theorem dL_law_427 : decode cL_law 427 = .ok (.iconst 1, 1) := by decide +kernel
theorem dL_law_428 : decode cL_law 428 = .ok (.iadd, 1) := by decide +kernel
theorem dL_law_429 : decode cL_law 429 = .ok (.iaload, 1) := by decide +kernel
theorem dL_law_430 : decode cL_law 430 = .ok (.invokevirtual 47, 3) := by decide +kernel
theorem dL_law_433 : decode cL_law 433 = .ok (.if_icmp .eq 984, 3) := by decide +kernel
theorem dL_law_436 : decode cL_law 436 = .ok (.iconst 0, 1) := by decide +kernel
theorem dL_law_437 : decode cL_law 437 = .ok (.ireturn, 1) := by decide +kernel
theorem dL_law_438 : decode cL_law 438 = .ok (.aload_n 1, 1) := by decide +kernel
theorem dL_law_439 : decode cL_law 439 = .ok (.aload_n 0, 1) := by decide +kernel
theorem dL_law_440 : decode cL_law 440 = .ok (.iload_n 3, 1) := by decide +kernel
theorem dL_law_441 : decode cL_law 441 = .ok (.iconst 1, 1) := by decide +kernel
theorem dL_law_442 : decode cL_law 442 = .ok (.iadd, 1) := by decide +kernel
theorem dL_law_443 : decode cL_law 443 = .ok (.iaload, 1) := by decide +kernel
theorem dL_law_444 : decode cL_law 444 = .ok (.aload_n 0, 1) := by decide +kernel
theorem dL_law_445 : decode cL_law 445 = .ok (.iload_n 3, 1) := by decide +kernel
theorem dL_law_446 : decode cL_law 446 = .ok (.iconst 2, 1) := by decide +kernel
theorem dL_law_447 : decode cL_law 447 = .ok (.iadd, 1) := by decide +kernel
theorem dL_law_448 : decode cL_law 448 = .ok (.iaload, 1) := by decide +kernel
theorem dL_law_449 : decode cL_law 449 = .ok (.invokevirtual 48, 3) := by decide +kernel
theorem dL_law_452 : decode cL_law 452 = .ok (.aload_n 2, 1) := by decide +kernel
theorem dL_law_453 : decode cL_law 453 = .ok (.aload_n 0, 1) := by decide +kernel
theorem dL_law_454 : decode cL_law 454 = .ok (.iload_n 3, 1) := by decide +kernel
theorem dL_law_455 : decode cL_law 455 = .ok (.iconst 1, 1) := by decide +kernel
theorem dL_law_456 : decode cL_law 456 = .ok (.iadd, 1) := by decide +kernel
theorem dL_law_457 : decode cL_law 457 = .ok (.iaload, 1) := by decide +kernel
theorem dL_law_458 : decode cL_law 458 = .ok (.aload_n 0, 1) := by decide +kernel
theorem dL_law_459 : decode cL_law 459 = .ok (.iload_n 3, 1) := by decide +kernel
theorem dL_law_460 : decode cL_law 460 = .ok (.iconst 2, 1) := by decide +kernel
theorem dL_law_461 : decode cL_law 461 = .ok (.iadd, 1) := by decide +kernel
theorem dL_law_462 : decode cL_law 462 = .ok (.iaload, 1) := by decide +kernel
theorem dL_law_463 : decode cL_law 463 = .ok (.invokevirtual 52, 3) := by decide +kernel
theorem dL_law_466 : decode cL_law 466 = .ok (.if_icmp .eq 951, 3) := by decide +kernel
theorem dL_law_469 : decode cL_law 469 = .ok (.iconst 0, 1) := by decide +kernel
theorem dL_law_470 : decode cL_law 470 = .ok (.ireturn, 1) := by decide +kernel
theorem dL_law_471 : decode cL_law 471 = .ok (.aload_n 1, 1) := by decide +kernel
theorem dL_law_472 : decode cL_law 472 = .ok (.aload_n 0, 1) := by decide +kernel
theorem dL_law_473 : decode cL_law 473 = .ok (.iload_n 3, 1) := by decide +kernel
theorem dL_law_474 : decode cL_law 474 = .ok (.iconst 1, 1) := by decide +kernel
theorem dL_law_475 : decode cL_law 475 = .ok (.iadd, 1) := by decide +kernel
theorem dL_law_476 : decode cL_law 476 = .ok (.iaload, 1) := by decide +kernel
theorem dL_law_477 : decode cL_law 477 = .ok (.invokevirtual 53, 3) := by decide +kernel
theorem dL_law_480 : decode cL_law 480 = .ok (.aload_n 2, 1) := by decide +kernel
theorem dL_law_481 : decode cL_law 481 = .ok (.aload_n 0, 1) := by decide +kernel
theorem dL_law_482 : decode cL_law 482 = .ok (.iload_n 3, 1) := by decide +kernel
theorem dL_law_483 : decode cL_law 483 = .ok (.iconst 1, 1) := by decide +kernel
theorem dL_law_484 : decode cL_law 484 = .ok (.iadd, 1) := by decide +kernel
theorem dL_law_485 : decode cL_law 485 = .ok (.iaload, 1) := by decide +kernel
theorem dL_law_486 : decode cL_law 486 = .ok (.invokevirtual 56, 3) := by decide +kernel
theorem dL_law_489 : decode cL_law 489 = .ok (.if_icmp .eq 928, 3) := by decide +kernel
theorem dL_law_492 : decode cL_law 492 = .ok (.iconst 0, 1) := by decide +kernel
theorem dL_law_493 : decode cL_law 493 = .ok (.ireturn, 1) := by decide +kernel
theorem dL_law_494 : decode cL_law 494 = .ok (.aload_n 1, 1) := by decide +kernel
theorem dL_law_495 : decode cL_law 495 = .ok (.aload_n 0, 1) := by decide +kernel
theorem dL_law_496 : decode cL_law 496 = .ok (.iload_n 3, 1) := by decide +kernel
theorem dL_law_497 : decode cL_law 497 = .ok (.iconst 1, 1) := by decide +kernel
theorem dL_law_498 : decode cL_law 498 = .ok (.iadd, 1) := by decide +kernel
theorem dL_law_499 : decode cL_law 499 = .ok (.iaload, 1) := by decide +kernel
theorem dL_law_500 : decode cL_law 500 = .ok (.aload_n 0, 1) := by decide +kernel
theorem dL_law_501 : decode cL_law 501 = .ok (.iload_n 3, 1) := by decide +kernel
theorem dL_law_502 : decode cL_law 502 = .ok (.iconst 2, 1) := by decide +kernel
theorem dL_law_503 : decode cL_law 503 = .ok (.iadd, 1) := by decide +kernel
theorem dL_law_504 : decode cL_law 504 = .ok (.iaload, 1) := by decide +kernel
theorem dL_law_505 : decode cL_law 505 = .ok (.invokevirtual 57, 3) := by decide +kernel
theorem dL_law_508 : decode cL_law 508 = .ok (.aload_n 2, 1) := by decide +kernel
theorem dL_law_509 : decode cL_law 509 = .ok (.aload_n 0, 1) := by decide +kernel
theorem dL_law_510 : decode cL_law 510 = .ok (.iload_n 3, 1) := by decide +kernel
theorem dL_law_511 : decode cL_law 511 = .ok (.iconst 1, 1) := by decide +kernel
theorem dL_law_512 : decode cL_law 512 = .ok (.iadd, 1) := by decide +kernel
theorem dL_law_513 : decode cL_law 513 = .ok (.iaload, 1) := by decide +kernel
theorem dL_law_514 : decode cL_law 514 = .ok (.aload_n 0, 1) := by decide +kernel
theorem dL_law_515 : decode cL_law 515 = .ok (.iload_n 3, 1) := by decide +kernel
theorem dL_law_516 : decode cL_law 516 = .ok (.iconst 2, 1) := by decide +kernel
theorem dL_law_517 : decode cL_law 517 = .ok (.iadd, 1) := by decide +kernel
theorem dL_law_518 : decode cL_law 518 = .ok (.iaload, 1) := by decide +kernel
theorem dL_law_519 : decode cL_law 519 = .ok (.invokevirtual 60, 3) := by decide +kernel
theorem dL_law_522 : decode cL_law 522 = .ok (.if_icmp .eq 895, 3) := by decide +kernel
theorem dL_law_525 : decode cL_law 525 = .ok (.iconst 0, 1) := by decide +kernel
theorem dL_law_526 : decode cL_law 526 = .ok (.ireturn, 1) := by decide +kernel
theorem dL_law_527 : decode cL_law 527 = .ok (.aload_n 1, 1) := by decide +kernel
theorem dL_law_528 : decode cL_law 528 = .ok (.aload_n 0, 1) := by decide +kernel
theorem dL_law_529 : decode cL_law 529 = .ok (.iload_n 3, 1) := by decide +kernel
theorem dL_law_530 : decode cL_law 530 = .ok (.iconst 1, 1) := by decide +kernel
theorem dL_law_531 : decode cL_law 531 = .ok (.iadd, 1) := by decide +kernel
theorem dL_law_532 : decode cL_law 532 = .ok (.iaload, 1) := by decide +kernel
theorem dL_law_533 : decode cL_law 533 = .ok (.aload_n 0, 1) := by decide +kernel
theorem dL_law_534 : decode cL_law 534 = .ok (.iload_n 3, 1) := by decide +kernel
theorem dL_law_535 : decode cL_law 535 = .ok (.iconst 2, 1) := by decide +kernel
theorem dL_law_536 : decode cL_law 536 = .ok (.iadd, 1) := by decide +kernel
theorem dL_law_537 : decode cL_law 537 = .ok (.iaload, 1) := by decide +kernel
theorem dL_law_538 : decode cL_law 538 = .ok (.invokevirtual 61, 3) := by decide +kernel
theorem dL_law_541 : decode cL_law 541 = .ok (.aload_n 2, 1) := by decide +kernel
theorem dL_law_542 : decode cL_law 542 = .ok (.aload_n 0, 1) := by decide +kernel
theorem dL_law_543 : decode cL_law 543 = .ok (.iload_n 3, 1) := by decide +kernel
theorem dL_law_544 : decode cL_law 544 = .ok (.iconst 1, 1) := by decide +kernel
theorem dL_law_545 : decode cL_law 545 = .ok (.iadd, 1) := by decide +kernel
theorem dL_law_546 : decode cL_law 546 = .ok (.iaload, 1) := by decide +kernel
theorem dL_law_547 : decode cL_law 547 = .ok (.aload_n 0, 1) := by decide +kernel
theorem dL_law_548 : decode cL_law 548 = .ok (.iload_n 3, 1) := by decide +kernel
theorem dL_law_549 : decode cL_law 549 = .ok (.iconst 2, 1) := by decide +kernel
theorem dL_law_550 : decode cL_law 550 = .ok (.iadd, 1) := by decide +kernel
theorem dL_law_551 : decode cL_law 551 = .ok (.iaload, 1) := by decide +kernel
theorem dL_law_552 : decode cL_law 552 = .ok (.invokevirtual 65, 3) := by decide +kernel
theorem dL_law_555 : decode cL_law 555 = .ok (.if_icmp .eq 862, 3) := by decide +kernel
theorem dL_law_558 : decode cL_law 558 = .ok (.iconst 0, 1) := by decide +kernel
theorem dL_law_559 : decode cL_law 559 = .ok (.ireturn, 1) := by decide +kernel
theorem dL_law_560 : decode cL_law 560 = .ok (.aload_n 1, 1) := by decide +kernel
theorem dL_law_561 : decode cL_law 561 = .ok (.invokevirtual 66, 3) := by decide +kernel
theorem dL_law_564 : decode cL_law 564 = .ok (.aload_n 2, 1) := by decide +kernel
theorem dL_law_565 : decode cL_law 565 = .ok (.invokevirtual 69, 3) := by decide +kernel
theorem dL_law_568 : decode cL_law 568 = .ok (.if_icmp .eq 849, 3) := by decide +kernel
theorem dL_law_571 : decode cL_law 571 = .ok (.iconst 0, 1) := by decide +kernel
theorem dL_law_572 : decode cL_law 572 = .ok (.ireturn, 1) := by decide +kernel
theorem dL_law_573 : decode cL_law 573 = .ok (.aload_n 1, 1) := by decide +kernel
theorem dL_law_574 : decode cL_law 574 = .ok (.aload_n 0, 1) := by decide +kernel
theorem dL_law_575 : decode cL_law 575 = .ok (.iload_n 3, 1) := by decide +kernel
theorem dL_law_576 : decode cL_law 576 = .ok (.iconst 1, 1) := by decide +kernel
theorem dL_law_577 : decode cL_law 577 = .ok (.iadd, 1) := by decide +kernel
theorem dL_law_578 : decode cL_law 578 = .ok (.iaload, 1) := by decide +kernel
theorem dL_law_579 : decode cL_law 579 = .ok (.invokevirtual 70, 3) := by decide +kernel
theorem dL_law_582 : decode cL_law 582 = .ok (.aload_n 2, 1) := by decide +kernel
theorem dL_law_583 : decode cL_law 583 = .ok (.aload_n 0, 1) := by decide +kernel
theorem dL_law_584 : decode cL_law 584 = .ok (.iload_n 3, 1) := by decide +kernel
theorem dL_law_585 : decode cL_law 585 = .ok (.iconst 1, 1) := by decide +kernel
theorem dL_law_586 : decode cL_law 586 = .ok (.iadd, 1) := by decide +kernel
theorem dL_law_587 : decode cL_law 587 = .ok (.iaload, 1) := by decide +kernel
theorem dL_law_588 : decode cL_law 588 = .ok (.invokevirtual 74, 3) := by decide +kernel
theorem dL_law_591 : decode cL_law 591 = .ok (.if_icmp .eq 826, 3) := by decide +kernel
theorem dL_law_594 : decode cL_law 594 = .ok (.iconst 0, 1) := by decide +kernel
theorem dL_law_595 : decode cL_law 595 = .ok (.ireturn, 1) := by decide +kernel
theorem dL_law_596 : decode cL_law 596 = .ok (.aload_n 1, 1) := by decide +kernel
theorem dL_law_597 : decode cL_law 597 = .ok (.aload_n 0, 1) := by decide +kernel
theorem dL_law_598 : decode cL_law 598 = .ok (.iload_n 3, 1) := by decide +kernel
theorem dL_law_599 : decode cL_law 599 = .ok (.iconst 1, 1) := by decide +kernel
theorem dL_law_600 : decode cL_law 600 = .ok (.iadd, 1) := by decide +kernel
theorem dL_law_601 : decode cL_law 601 = .ok (.iaload, 1) := by decide +kernel
theorem dL_law_602 : decode cL_law 602 = .ok (.invokevirtual 75, 3) := by decide +kernel
theorem dL_law_605 : decode cL_law 605 = .ok (.aload_n 2, 1) := by decide +kernel
theorem dL_law_606 : decode cL_law 606 = .ok (.aload_n 0, 1) := by decide +kernel
theorem dL_law_607 : decode cL_law 607 = .ok (.iload_n 3, 1) := by decide +kernel
theorem dL_law_608 : decode cL_law 608 = .ok (.iconst 1, 1) := by decide +kernel
theorem dL_law_609 : decode cL_law 609 = .ok (.iadd, 1) := by decide +kernel
theorem dL_law_610 : decode cL_law 610 = .ok (.iaload, 1) := by decide +kernel
theorem dL_law_611 : decode cL_law 611 = .ok (.invokevirtual 78, 3) := by decide +kernel
theorem dL_law_614 : decode cL_law 614 = .ok (.if_icmp .eq 803, 3) := by decide +kernel
theorem dL_law_617 : decode cL_law 617 = .ok (.iconst 0, 1) := by decide +kernel
theorem dL_law_618 : decode cL_law 618 = .ok (.ireturn, 1) := by decide +kernel
theorem dL_law_619 : decode cL_law 619 = .ok (.aload_n 1, 1) := by decide +kernel
theorem dL_law_620 : decode cL_law 620 = .ok (.aload_n 0, 1) := by decide +kernel
theorem dL_law_621 : decode cL_law 621 = .ok (.iload_n 3, 1) := by decide +kernel
theorem dL_law_622 : decode cL_law 622 = .ok (.iconst 1, 1) := by decide +kernel
theorem dL_law_623 : decode cL_law 623 = .ok (.iadd, 1) := by decide +kernel
theorem dL_law_624 : decode cL_law 624 = .ok (.iaload, 1) := by decide +kernel
theorem dL_law_625 : decode cL_law 625 = .ok (.invokevirtual 79, 3) := by decide +kernel
theorem dL_law_628 : decode cL_law 628 = .ok (.aload_n 2, 1) := by decide +kernel
theorem dL_law_629 : decode cL_law 629 = .ok (.aload_n 0, 1) := by decide +kernel
theorem dL_law_630 : decode cL_law 630 = .ok (.iload_n 3, 1) := by decide +kernel
theorem dL_law_631 : decode cL_law 631 = .ok (.iconst 1, 1) := by decide +kernel
theorem dL_law_632 : decode cL_law 632 = .ok (.iadd, 1) := by decide +kernel
theorem dL_law_633 : decode cL_law 633 = .ok (.iaload, 1) := by decide +kernel
theorem dL_law_634 : decode cL_law 634 = .ok (.invokevirtual 82, 3) := by decide +kernel
theorem dL_law_637 : decode cL_law 637 = .ok (.if_icmp .eq 780, 3) := by decide +kernel
theorem dL_law_640 : decode cL_law 640 = .ok (.iconst 0, 1) := by decide +kernel
theorem dL_law_641 : decode cL_law 641 = .ok (.ireturn, 1) := by decide +kernel
theorem dL_law_642 : decode cL_law 642 = .ok (.aload_n 1, 1) := by decide +kernel
theorem dL_law_643 : decode cL_law 643 = .ok (.aload_n 0, 1) := by decide +kernel
theorem dL_law_644 : decode cL_law 644 = .ok (.iload_n 3, 1) := by decide +kernel
theorem dL_law_645 : decode cL_law 645 = .ok (.iconst 1, 1) := by decide +kernel
theorem dL_law_646 : decode cL_law 646 = .ok (.iadd, 1) := by decide +kernel
theorem dL_law_647 : decode cL_law 647 = .ok (.iaload, 1) := by decide +kernel
theorem dL_law_648 : decode cL_law 648 = .ok (.invokevirtual 83, 3) := by decide +kernel
theorem dL_law_651 : decode cL_law 651 = .ok (.aload_n 2, 1) := by decide +kernel
theorem dL_law_652 : decode cL_law 652 = .ok (.aload_n 0, 1) := by decide +kernel
theorem dL_law_653 : decode cL_law 653 = .ok (.iload_n 3, 1) := by decide +kernel
theorem dL_law_654 : decode cL_law 654 = .ok (.iconst 1, 1) := by decide +kernel
theorem dL_law_655 : decode cL_law 655 = .ok (.iadd, 1) := by decide +kernel
theorem dL_law_656 : decode cL_law 656 = .ok (.iaload, 1) := by decide +kernel
theorem dL_law_657 : decode cL_law 657 = .ok (.invokevirtual 86, 3) := by decide +kernel
theorem dL_law_660 : decode cL_law 660 = .ok (.if_icmp .eq 757, 3) := by decide +kernel
theorem dL_law_663 : decode cL_law 663 = .ok (.iconst 0, 1) := by decide +kernel
theorem dL_law_664 : decode cL_law 664 = .ok (.ireturn, 1) := by decide +kernel
theorem dL_law_665 : decode cL_law 665 = .ok (.aload_n 1, 1) := by decide +kernel
theorem dL_law_666 : decode cL_law 666 = .ok (.aload_n 0, 1) := by decide +kernel
theorem dL_law_667 : decode cL_law 667 = .ok (.iload_n 3, 1) := by decide +kernel
theorem dL_law_668 : decode cL_law 668 = .ok (.iconst 1, 1) := by decide +kernel
theorem dL_law_669 : decode cL_law 669 = .ok (.iadd, 1) := by decide +kernel
theorem dL_law_670 : decode cL_law 670 = .ok (.iaload, 1) := by decide +kernel
theorem dL_law_671 : decode cL_law 671 = .ok (.invokevirtual 87, 3) := by decide +kernel
theorem dL_law_674 : decode cL_law 674 = .ok (.aload_n 2, 1) := by decide +kernel
theorem dL_law_675 : decode cL_law 675 = .ok (.aload_n 0, 1) := by decide +kernel
theorem dL_law_676 : decode cL_law 676 = .ok (.iload_n 3, 1) := by decide +kernel
theorem dL_law_677 : decode cL_law 677 = .ok (.iconst 1, 1) := by decide +kernel
theorem dL_law_678 : decode cL_law 678 = .ok (.iadd, 1) := by decide +kernel
theorem dL_law_679 : decode cL_law 679 = .ok (.iaload, 1) := by decide +kernel
theorem dL_law_680 : decode cL_law 680 = .ok (.invokevirtual 90, 3) := by decide +kernel
theorem dL_law_683 : decode cL_law 683 = .ok (.if_icmp .eq 734, 3) := by decide +kernel
theorem dL_law_686 : decode cL_law 686 = .ok (.iconst 0, 1) := by decide +kernel
theorem dL_law_687 : decode cL_law 687 = .ok (.ireturn, 1) := by decide +kernel
theorem dL_law_688 : decode cL_law 688 = .ok (.aload_n 1, 1) := by decide +kernel
theorem dL_law_689 : decode cL_law 689 = .ok (.invokevirtual 91, 3) := by decide +kernel
theorem dL_law_692 : decode cL_law 692 = .ok (.aload_n 2, 1) := by decide +kernel
theorem dL_law_693 : decode cL_law 693 = .ok (.invokevirtual 94, 3) := by decide +kernel
theorem dL_law_696 : decode cL_law 696 = .ok (.if_icmp .eq 721, 3) := by decide +kernel
theorem dL_law_699 : decode cL_law 699 = .ok (.iconst 0, 1) := by decide +kernel
theorem dL_law_700 : decode cL_law 700 = .ok (.ireturn, 1) := by decide +kernel
theorem dL_law_701 : decode cL_law 701 = .ok (.aload_n 1, 1) := by decide +kernel
theorem dL_law_702 : decode cL_law 702 = .ok (.aload_n 0, 1) := by decide +kernel
theorem dL_law_703 : decode cL_law 703 = .ok (.iload_n 3, 1) := by decide +kernel
theorem dL_law_704 : decode cL_law 704 = .ok (.iconst 1, 1) := by decide +kernel
theorem dL_law_705 : decode cL_law 705 = .ok (.iadd, 1) := by decide +kernel
theorem dL_law_706 : decode cL_law 706 = .ok (.iaload, 1) := by decide +kernel
theorem dL_law_707 : decode cL_law 707 = .ok (.aload_n 0, 1) := by decide +kernel
theorem dL_law_708 : decode cL_law 708 = .ok (.iload_n 3, 1) := by decide +kernel
theorem dL_law_709 : decode cL_law 709 = .ok (.iconst 2, 1) := by decide +kernel
theorem dL_law_710 : decode cL_law 710 = .ok (.iadd, 1) := by decide +kernel
theorem dL_law_711 : decode cL_law 711 = .ok (.iaload, 1) := by decide +kernel
theorem dL_law_712 : decode cL_law 712 = .ok (.invokevirtual 95, 3) := by decide +kernel
theorem dL_law_715 : decode cL_law 715 = .ok (.aload_n 2, 1) := by decide +kernel
theorem dL_law_716 : decode cL_law 716 = .ok (.aload_n 0, 1) := by decide +kernel
theorem dL_law_717 : decode cL_law 717 = .ok (.iload_n 3, 1) := by decide +kernel
theorem dL_law_718 : decode cL_law 718 = .ok (.iconst 1, 1) := by decide +kernel
theorem dL_law_719 : decode cL_law 719 = .ok (.iadd, 1) := by decide +kernel
theorem dL_law_720 : decode cL_law 720 = .ok (.iaload, 1) := by decide +kernel
theorem dL_law_721 : decode cL_law 721 = .ok (.aload_n 0, 1) := by decide +kernel
theorem dL_law_722 : decode cL_law 722 = .ok (.iload_n 3, 1) := by decide +kernel
theorem dL_law_723 : decode cL_law 723 = .ok (.iconst 2, 1) := by decide +kernel
theorem dL_law_724 : decode cL_law 724 = .ok (.iadd, 1) := by decide +kernel
theorem dL_law_725 : decode cL_law 725 = .ok (.iaload, 1) := by decide +kernel
theorem dL_law_726 : decode cL_law 726 = .ok (.invokevirtual 98, 3) := by decide +kernel
theorem dL_law_729 : decode cL_law 729 = .ok (.if_icmp .eq 688, 3) := by decide +kernel
theorem dL_law_732 : decode cL_law 732 = .ok (.iconst 0, 1) := by decide +kernel
theorem dL_law_733 : decode cL_law 733 = .ok (.ireturn, 1) := by decide +kernel
theorem dL_law_734 : decode cL_law 734 = .ok (.aload_n 1, 1) := by decide +kernel
theorem dL_law_735 : decode cL_law 735 = .ok (.aload_n 0, 1) := by decide +kernel
theorem dL_law_736 : decode cL_law 736 = .ok (.iload_n 3, 1) := by decide +kernel
theorem dL_law_737 : decode cL_law 737 = .ok (.iconst 1, 1) := by decide +kernel
theorem dL_law_738 : decode cL_law 738 = .ok (.iadd, 1) := by decide +kernel
theorem dL_law_739 : decode cL_law 739 = .ok (.iaload, 1) := by decide +kernel
theorem dL_law_740 : decode cL_law 740 = .ok (.aload_n 0, 1) := by decide +kernel
theorem dL_law_741 : decode cL_law 741 = .ok (.iload_n 3, 1) := by decide +kernel
theorem dL_law_742 : decode cL_law 742 = .ok (.iconst 2, 1) := by decide +kernel
theorem dL_law_743 : decode cL_law 743 = .ok (.iadd, 1) := by decide +kernel
theorem dL_law_744 : decode cL_law 744 = .ok (.iaload, 1) := by decide +kernel
theorem dL_law_745 : decode cL_law 745 = .ok (.invokevirtual 99, 3) := by decide +kernel
theorem dL_law_748 : decode cL_law 748 = .ok (.aload_n 2, 1) := by decide +kernel
theorem dL_law_749 : decode cL_law 749 = .ok (.aload_n 0, 1) := by decide +kernel
theorem dL_law_750 : decode cL_law 750 = .ok (.iload_n 3, 1) := by decide +kernel
theorem dL_law_751 : decode cL_law 751 = .ok (.iconst 1, 1) := by decide +kernel
theorem dL_law_752 : decode cL_law 752 = .ok (.iadd, 1) := by decide +kernel
theorem dL_law_753 : decode cL_law 753 = .ok (.iaload, 1) := by decide +kernel
theorem dL_law_754 : decode cL_law 754 = .ok (.aload_n 0, 1) := by decide +kernel
theorem dL_law_755 : decode cL_law 755 = .ok (.iload_n 3, 1) := by decide +kernel
theorem dL_law_756 : decode cL_law 756 = .ok (.iconst 2, 1) := by decide +kernel
theorem dL_law_757 : decode cL_law 757 = .ok (.iadd, 1) := by decide +kernel
theorem dL_law_758 : decode cL_law 758 = .ok (.iaload, 1) := by decide +kernel
theorem dL_law_759 : decode cL_law 759 = .ok (.invokevirtual 102, 3) := by decide +kernel
theorem dL_law_762 : decode cL_law 762 = .ok (.if_icmp .eq 655, 3) := by decide +kernel
theorem dL_law_765 : decode cL_law 765 = .ok (.iconst 0, 1) := by decide +kernel
theorem dL_law_766 : decode cL_law 766 = .ok (.ireturn, 1) := by decide +kernel
theorem dL_law_767 : decode cL_law 767 = .ok (.aload_n 1, 1) := by decide +kernel
theorem dL_law_768 : decode cL_law 768 = .ok (.aload_n 0, 1) := by decide +kernel
theorem dL_law_769 : decode cL_law 769 = .ok (.iload_n 3, 1) := by decide +kernel
theorem dL_law_770 : decode cL_law 770 = .ok (.iconst 1, 1) := by decide +kernel
theorem dL_law_771 : decode cL_law 771 = .ok (.iadd, 1) := by decide +kernel
theorem dL_law_772 : decode cL_law 772 = .ok (.iaload, 1) := by decide +kernel
theorem dL_law_773 : decode cL_law 773 = .ok (.aload_n 0, 1) := by decide +kernel
theorem dL_law_774 : decode cL_law 774 = .ok (.iload_n 3, 1) := by decide +kernel
theorem dL_law_775 : decode cL_law 775 = .ok (.iconst 2, 1) := by decide +kernel
theorem dL_law_776 : decode cL_law 776 = .ok (.iadd, 1) := by decide +kernel
theorem dL_law_777 : decode cL_law 777 = .ok (.iaload, 1) := by decide +kernel
theorem dL_law_778 : decode cL_law 778 = .ok (.invokevirtual 103, 3) := by decide +kernel
theorem dL_law_781 : decode cL_law 781 = .ok (.aload_n 2, 1) := by decide +kernel
theorem dL_law_782 : decode cL_law 782 = .ok (.aload_n 0, 1) := by decide +kernel
theorem dL_law_783 : decode cL_law 783 = .ok (.iload_n 3, 1) := by decide +kernel
theorem dL_law_784 : decode cL_law 784 = .ok (.iconst 1, 1) := by decide +kernel
theorem dL_law_785 : decode cL_law 785 = .ok (.iadd, 1) := by decide +kernel
theorem dL_law_786 : decode cL_law 786 = .ok (.iaload, 1) := by decide +kernel
theorem dL_law_787 : decode cL_law 787 = .ok (.aload_n 0, 1) := by decide +kernel
theorem dL_law_788 : decode cL_law 788 = .ok (.iload_n 3, 1) := by decide +kernel
theorem dL_law_789 : decode cL_law 789 = .ok (.iconst 2, 1) := by decide +kernel
theorem dL_law_790 : decode cL_law 790 = .ok (.iadd, 1) := by decide +kernel
theorem dL_law_791 : decode cL_law 791 = .ok (.iaload, 1) := by decide +kernel
theorem dL_law_792 : decode cL_law 792 = .ok (.invokevirtual 106, 3) := by decide +kernel
theorem dL_law_795 : decode cL_law 795 = .ok (.if_icmp .eq 622, 3) := by decide +kernel
theorem dL_law_798 : decode cL_law 798 = .ok (.iconst 0, 1) := by decide +kernel
theorem dL_law_799 : decode cL_law 799 = .ok (.ireturn, 1) := by decide +kernel
theorem dL_law_800 : decode cL_law 800 = .ok (.aload_n 1, 1) := by decide +kernel
theorem dL_law_801 : decode cL_law 801 = .ok (.invokevirtual 107, 3) := by decide +kernel
theorem dL_law_804 : decode cL_law 804 = .ok (.aload_n 2, 1) := by decide +kernel
theorem dL_law_805 : decode cL_law 805 = .ok (.invokevirtual 110, 3) := by decide +kernel
theorem dL_law_808 : decode cL_law 808 = .ok (.if_icmp .eq 609, 3) := by decide +kernel
theorem dL_law_811 : decode cL_law 811 = .ok (.iconst 0, 1) := by decide +kernel
theorem dL_law_812 : decode cL_law 812 = .ok (.ireturn, 1) := by decide +kernel
theorem dL_law_813 : decode cL_law 813 = .ok (.aload_n 1, 1) := by decide +kernel
theorem dL_law_814 : decode cL_law 814 = .ok (.aload_n 0, 1) := by decide +kernel
theorem dL_law_815 : decode cL_law 815 = .ok (.iload_n 3, 1) := by decide +kernel
theorem dL_law_816 : decode cL_law 816 = .ok (.iconst 1, 1) := by decide +kernel
theorem dL_law_817 : decode cL_law 817 = .ok (.iadd, 1) := by decide +kernel
theorem dL_law_818 : decode cL_law 818 = .ok (.iaload, 1) := by decide +kernel
theorem dL_law_819 : decode cL_law 819 = .ok (.invokevirtual 111, 3) := by decide +kernel
theorem dL_law_822 : decode cL_law 822 = .ok (.aload_n 2, 1) := by decide +kernel
theorem dL_law_823 : decode cL_law 823 = .ok (.aload_n 0, 1) := by decide +kernel
theorem dL_law_824 : decode cL_law 824 = .ok (.iload_n 3, 1) := by decide +kernel
theorem dL_law_825 : decode cL_law 825 = .ok (.iconst 1, 1) := by decide +kernel
theorem dL_law_826 : decode cL_law 826 = .ok (.iadd, 1) := by decide +kernel
theorem dL_law_827 : decode cL_law 827 = .ok (.iaload, 1) := by decide +kernel
theorem dL_law_828 : decode cL_law 828 = .ok (.invokevirtual 114, 3) := by decide +kernel
theorem dL_law_831 : decode cL_law 831 = .ok (.if_icmp .eq 586, 3) := by decide +kernel
theorem dL_law_834 : decode cL_law 834 = .ok (.iconst 0, 1) := by decide +kernel
theorem dL_law_835 : decode cL_law 835 = .ok (.ireturn, 1) := by decide +kernel
theorem dL_law_836 : decode cL_law 836 = .ok (.aload_n 1, 1) := by decide +kernel
theorem dL_law_837 : decode cL_law 837 = .ok (.aload_n 0, 1) := by decide +kernel
theorem dL_law_838 : decode cL_law 838 = .ok (.iload_n 3, 1) := by decide +kernel
theorem dL_law_839 : decode cL_law 839 = .ok (.iconst 1, 1) := by decide +kernel
theorem dL_law_840 : decode cL_law 840 = .ok (.iadd, 1) := by decide +kernel
theorem dL_law_841 : decode cL_law 841 = .ok (.iaload, 1) := by decide +kernel
theorem dL_law_842 : decode cL_law 842 = .ok (.invokevirtual 115, 3) := by decide +kernel
theorem dL_law_845 : decode cL_law 845 = .ok (.aload_n 2, 1) := by decide +kernel
theorem dL_law_846 : decode cL_law 846 = .ok (.aload_n 0, 1) := by decide +kernel
theorem dL_law_847 : decode cL_law 847 = .ok (.iload_n 3, 1) := by decide +kernel
theorem dL_law_848 : decode cL_law 848 = .ok (.iconst 1, 1) := by decide +kernel
theorem dL_law_849 : decode cL_law 849 = .ok (.iadd, 1) := by decide +kernel
theorem dL_law_850 : decode cL_law 850 = .ok (.iaload, 1) := by decide +kernel
theorem dL_law_851 : decode cL_law 851 = .ok (.invokevirtual 118, 3) := by decide +kernel
theorem dL_law_854 : decode cL_law 854 = .ok (.if_icmp .eq 563, 3) := by decide +kernel
theorem dL_law_857 : decode cL_law 857 = .ok (.iconst 0, 1) := by decide +kernel
theorem dL_law_858 : decode cL_law 858 = .ok (.ireturn, 1) := by decide +kernel
theorem dL_law_859 : decode cL_law 859 = .ok (.aload_n 1, 1) := by decide +kernel
theorem dL_law_860 : decode cL_law 860 = .ok (.invokevirtual 119, 3) := by decide +kernel
theorem dL_law_863 : decode cL_law 863 = .ok (.aload_n 2, 1) := by decide +kernel
theorem dL_law_864 : decode cL_law 864 = .ok (.invokevirtual 122, 3) := by decide +kernel
theorem dL_law_867 : decode cL_law 867 = .ok (.if_icmp .eq 550, 3) := by decide +kernel
theorem dL_law_870 : decode cL_law 870 = .ok (.iconst 0, 1) := by decide +kernel
theorem dL_law_871 : decode cL_law 871 = .ok (.ireturn, 1) := by decide +kernel
theorem dL_law_872 : decode cL_law 872 = .ok (.aload_n 1, 1) := by decide +kernel
theorem dL_law_873 : decode cL_law 873 = .ok (.aload_n 0, 1) := by decide +kernel
theorem dL_law_874 : decode cL_law 874 = .ok (.iload_n 3, 1) := by decide +kernel
theorem dL_law_875 : decode cL_law 875 = .ok (.iconst 1, 1) := by decide +kernel
theorem dL_law_876 : decode cL_law 876 = .ok (.iadd, 1) := by decide +kernel
theorem dL_law_877 : decode cL_law 877 = .ok (.iaload, 1) := by decide +kernel
theorem dL_law_878 : decode cL_law 878 = .ok (.invokevirtual 123, 3) := by decide +kernel
theorem dL_law_881 : decode cL_law 881 = .ok (.aload_n 2, 1) := by decide +kernel
theorem dL_law_882 : decode cL_law 882 = .ok (.aload_n 0, 1) := by decide +kernel
theorem dL_law_883 : decode cL_law 883 = .ok (.iload_n 3, 1) := by decide +kernel
theorem dL_law_884 : decode cL_law 884 = .ok (.iconst 1, 1) := by decide +kernel
theorem dL_law_885 : decode cL_law 885 = .ok (.iadd, 1) := by decide +kernel
theorem dL_law_886 : decode cL_law 886 = .ok (.iaload, 1) := by decide +kernel
theorem dL_law_887 : decode cL_law 887 = .ok (.invokevirtual 127, 3) := by decide +kernel
theorem dL_law_890 : decode cL_law 890 = .ok (.lcmp, 1) := by decide +kernel
theorem dL_law_891 : decode cL_law 891 = .ok (.ifCond .eq 526, 3) := by decide +kernel
theorem dL_law_894 : decode cL_law 894 = .ok (.iconst 0, 1) := by decide +kernel
theorem dL_law_895 : decode cL_law 895 = .ok (.ireturn, 1) := by decide +kernel
theorem dL_law_896 : decode cL_law 896 = .ok (.aload_n 1, 1) := by decide +kernel
theorem dL_law_897 : decode cL_law 897 = .ok (.aload_n 0, 1) := by decide +kernel
theorem dL_law_898 : decode cL_law 898 = .ok (.iload_n 3, 1) := by decide +kernel
theorem dL_law_899 : decode cL_law 899 = .ok (.iconst 1, 1) := by decide +kernel
theorem dL_law_900 : decode cL_law 900 = .ok (.iadd, 1) := by decide +kernel
theorem dL_law_901 : decode cL_law 901 = .ok (.iaload, 1) := by decide +kernel
theorem dL_law_902 : decode cL_law 902 = .ok (.aload_n 0, 1) := by decide +kernel
theorem dL_law_903 : decode cL_law 903 = .ok (.iload_n 3, 1) := by decide +kernel
theorem dL_law_904 : decode cL_law 904 = .ok (.iconst 2, 1) := by decide +kernel
theorem dL_law_905 : decode cL_law 905 = .ok (.iadd, 1) := by decide +kernel
theorem dL_law_906 : decode cL_law 906 = .ok (.iaload, 1) := by decide +kernel
theorem dL_law_907 : decode cL_law 907 = .ok (.invokevirtual 128, 3) := by decide +kernel
theorem dL_law_910 : decode cL_law 910 = .ok (.aload_n 2, 1) := by decide +kernel
theorem dL_law_911 : decode cL_law 911 = .ok (.aload_n 0, 1) := by decide +kernel
theorem dL_law_912 : decode cL_law 912 = .ok (.iload_n 3, 1) := by decide +kernel
theorem dL_law_913 : decode cL_law 913 = .ok (.iconst 1, 1) := by decide +kernel
theorem dL_law_914 : decode cL_law 914 = .ok (.iadd, 1) := by decide +kernel
theorem dL_law_915 : decode cL_law 915 = .ok (.iaload, 1) := by decide +kernel
theorem dL_law_916 : decode cL_law 916 = .ok (.aload_n 0, 1) := by decide +kernel
theorem dL_law_917 : decode cL_law 917 = .ok (.iload_n 3, 1) := by decide +kernel
theorem dL_law_918 : decode cL_law 918 = .ok (.iconst 2, 1) := by decide +kernel
theorem dL_law_919 : decode cL_law 919 = .ok (.iadd, 1) := by decide +kernel
theorem dL_law_920 : decode cL_law 920 = .ok (.iaload, 1) := by decide +kernel
theorem dL_law_921 : decode cL_law 921 = .ok (.invokevirtual 131, 3) := by decide +kernel
theorem dL_law_924 : decode cL_law 924 = .ok (.if_icmp .eq 493, 3) := by decide +kernel
theorem dL_law_927 : decode cL_law 927 = .ok (.iconst 0, 1) := by decide +kernel
theorem dL_law_928 : decode cL_law 928 = .ok (.ireturn, 1) := by decide +kernel
theorem dL_law_929 : decode cL_law 929 = .ok (.aload_n 1, 1) := by decide +kernel
theorem dL_law_930 : decode cL_law 930 = .ok (.aload_n 0, 1) := by decide +kernel
theorem dL_law_931 : decode cL_law 931 = .ok (.iload_n 3, 1) := by decide +kernel
theorem dL_law_932 : decode cL_law 932 = .ok (.iconst 1, 1) := by decide +kernel
theorem dL_law_933 : decode cL_law 933 = .ok (.iadd, 1) := by decide +kernel
theorem dL_law_934 : decode cL_law 934 = .ok (.iaload, 1) := by decide +kernel
theorem dL_law_935 : decode cL_law 935 = .ok (.aload_n 0, 1) := by decide +kernel
theorem dL_law_936 : decode cL_law 936 = .ok (.iload_n 3, 1) := by decide +kernel
theorem dL_law_937 : decode cL_law 937 = .ok (.iconst 2, 1) := by decide +kernel
theorem dL_law_938 : decode cL_law 938 = .ok (.iadd, 1) := by decide +kernel
theorem dL_law_939 : decode cL_law 939 = .ok (.iaload, 1) := by decide +kernel
theorem dL_law_940 : decode cL_law 940 = .ok (.invokevirtual 132, 3) := by decide +kernel
theorem dL_law_943 : decode cL_law 943 = .ok (.aload_n 2, 1) := by decide +kernel
theorem dL_law_944 : decode cL_law 944 = .ok (.aload_n 0, 1) := by decide +kernel
theorem dL_law_945 : decode cL_law 945 = .ok (.iload_n 3, 1) := by decide +kernel
theorem dL_law_946 : decode cL_law 946 = .ok (.iconst 1, 1) := by decide +kernel
theorem dL_law_947 : decode cL_law 947 = .ok (.iadd, 1) := by decide +kernel
theorem dL_law_948 : decode cL_law 948 = .ok (.iaload, 1) := by decide +kernel
theorem dL_law_949 : decode cL_law 949 = .ok (.aload_n 0, 1) := by decide +kernel
theorem dL_law_950 : decode cL_law 950 = .ok (.iload_n 3, 1) := by decide +kernel
theorem dL_law_951 : decode cL_law 951 = .ok (.iconst 2, 1) := by decide +kernel
theorem dL_law_952 : decode cL_law 952 = .ok (.iadd, 1) := by decide +kernel
theorem dL_law_953 : decode cL_law 953 = .ok (.iaload, 1) := by decide +kernel
theorem dL_law_954 : decode cL_law 954 = .ok (.invokevirtual 135, 3) := by decide +kernel
theorem dL_law_957 : decode cL_law 957 = .ok (.if_icmp .eq 460, 3) := by decide +kernel
theorem dL_law_960 : decode cL_law 960 = .ok (.iconst 0, 1) := by decide +kernel
theorem dL_law_961 : decode cL_law 961 = .ok (.ireturn, 1) := by decide +kernel
theorem dL_law_962 : decode cL_law 962 = .ok (.aload_n 1, 1) := by decide +kernel
theorem dL_law_963 : decode cL_law 963 = .ok (.aload_n 0, 1) := by decide +kernel
theorem dL_law_964 : decode cL_law 964 = .ok (.iload_n 3, 1) := by decide +kernel
theorem dL_law_965 : decode cL_law 965 = .ok (.iconst 1, 1) := by decide +kernel
theorem dL_law_966 : decode cL_law 966 = .ok (.iadd, 1) := by decide +kernel
theorem dL_law_967 : decode cL_law 967 = .ok (.iaload, 1) := by decide +kernel
theorem dL_law_968 : decode cL_law 968 = .ok (.aload_n 0, 1) := by decide +kernel
theorem dL_law_969 : decode cL_law 969 = .ok (.iload_n 3, 1) := by decide +kernel
theorem dL_law_970 : decode cL_law 970 = .ok (.iconst 2, 1) := by decide +kernel
theorem dL_law_971 : decode cL_law 971 = .ok (.iadd, 1) := by decide +kernel
theorem dL_law_972 : decode cL_law 972 = .ok (.iaload, 1) := by decide +kernel
theorem dL_law_973 : decode cL_law 973 = .ok (.invokevirtual 136, 3) := by decide +kernel
theorem dL_law_976 : decode cL_law 976 = .ok (.aload_n 2, 1) := by decide +kernel
theorem dL_law_977 : decode cL_law 977 = .ok (.aload_n 0, 1) := by decide +kernel
theorem dL_law_978 : decode cL_law 978 = .ok (.iload_n 3, 1) := by decide +kernel
theorem dL_law_979 : decode cL_law 979 = .ok (.iconst 1, 1) := by decide +kernel
theorem dL_law_980 : decode cL_law 980 = .ok (.iadd, 1) := by decide +kernel
theorem dL_law_981 : decode cL_law 981 = .ok (.iaload, 1) := by decide +kernel
theorem dL_law_982 : decode cL_law 982 = .ok (.aload_n 0, 1) := by decide +kernel
theorem dL_law_983 : decode cL_law 983 = .ok (.iload_n 3, 1) := by decide +kernel
theorem dL_law_984 : decode cL_law 984 = .ok (.iconst 2, 1) := by decide +kernel
theorem dL_law_985 : decode cL_law 985 = .ok (.iadd, 1) := by decide +kernel
theorem dL_law_986 : decode cL_law 986 = .ok (.iaload, 1) := by decide +kernel
theorem dL_law_987 : decode cL_law 987 = .ok (.invokevirtual 139, 3) := by decide +kernel
theorem dL_law_990 : decode cL_law 990 = .ok (.if_icmp .eq 427, 3) := by decide +kernel
theorem dL_law_993 : decode cL_law 993 = .ok (.iconst 0, 1) := by decide +kernel
theorem dL_law_994 : decode cL_law 994 = .ok (.ireturn, 1) := by decide +kernel
theorem dL_law_995 : decode cL_law 995 = .ok (.aload_n 1, 1) := by decide +kernel
theorem dL_law_996 : decode cL_law 996 = .ok (.aload_n 0, 1) := by decide +kernel
theorem dL_law_997 : decode cL_law 997 = .ok (.iload_n 3, 1) := by decide +kernel
theorem dL_law_998 : decode cL_law 998 = .ok (.iconst 1, 1) := by decide +kernel
theorem dL_law_999 : decode cL_law 999 = .ok (.iadd, 1) := by decide +kernel
theorem dL_law_1000 : decode cL_law 1000 = .ok (.iaload, 1) := by decide +kernel
theorem dL_law_1001 : decode cL_law 1001 = .ok (.invokevirtual 140, 3) := by decide +kernel
theorem dL_law_1004 : decode cL_law 1004 = .ok (.aload_n 2, 1) := by decide +kernel
theorem dL_law_1005 : decode cL_law 1005 = .ok (.aload_n 0, 1) := by decide +kernel
theorem dL_law_1006 : decode cL_law 1006 = .ok (.iload_n 3, 1) := by decide +kernel
theorem dL_law_1007 : decode cL_law 1007 = .ok (.iconst 1, 1) := by decide +kernel
theorem dL_law_1008 : decode cL_law 1008 = .ok (.iadd, 1) := by decide +kernel
theorem dL_law_1009 : decode cL_law 1009 = .ok (.iaload, 1) := by decide +kernel
theorem dL_law_1010 : decode cL_law 1010 = .ok (.invokevirtual 143, 3) := by decide +kernel
theorem dL_law_1013 : decode cL_law 1013 = .ok (.if_icmp .eq 404, 3) := by decide +kernel
theorem dL_law_1016 : decode cL_law 1016 = .ok (.iconst 0, 1) := by decide +kernel
theorem dL_law_1017 : decode cL_law 1017 = .ok (.ireturn, 1) := by decide +kernel
theorem dL_law_1018 : decode cL_law 1018 = .ok (.aload_n 1, 1) := by decide +kernel
theorem dL_law_1019 : decode cL_law 1019 = .ok (.aload_n 0, 1) := by decide +kernel
theorem dL_law_1020 : decode cL_law 1020 = .ok (.iload_n 3, 1) := by decide +kernel
theorem dL_law_1021 : decode cL_law 1021 = .ok (.iconst 1, 1) := by decide +kernel
theorem dL_law_1022 : decode cL_law 1022 = .ok (.iadd, 1) := by decide +kernel
theorem dL_law_1023 : decode cL_law 1023 = .ok (.iaload, 1) := by decide +kernel
theorem dL_law_1024 : decode cL_law 1024 = .ok (.aload_n 0, 1) := by decide +kernel
theorem dL_law_1025 : decode cL_law 1025 = .ok (.iload_n 3, 1) := by decide +kernel
theorem dL_law_1026 : decode cL_law 1026 = .ok (.iconst 2, 1) := by decide +kernel
theorem dL_law_1027 : decode cL_law 1027 = .ok (.iadd, 1) := by decide +kernel
theorem dL_law_1028 : decode cL_law 1028 = .ok (.iaload, 1) := by decide +kernel
theorem dL_law_1029 : decode cL_law 1029 = .ok (.aload_n 0, 1) := by decide +kernel
theorem dL_law_1030 : decode cL_law 1030 = .ok (.iload_n 3, 1) := by decide +kernel
theorem dL_law_1031 : decode cL_law 1031 = .ok (.iconst 3, 1) := by decide +kernel
theorem dL_law_1032 : decode cL_law 1032 = .ok (.iadd, 1) := by decide +kernel
theorem dL_law_1033 : decode cL_law 1033 = .ok (.iaload, 1) := by decide +kernel
theorem dL_law_1034 : decode cL_law 1034 = .ok (.invokevirtual 144, 3) := by decide +kernel
theorem dL_law_1037 : decode cL_law 1037 = .ok (.aload_n 2, 1) := by decide +kernel
theorem dL_law_1038 : decode cL_law 1038 = .ok (.aload_n 0, 1) := by decide +kernel
theorem dL_law_1039 : decode cL_law 1039 = .ok (.iload_n 3, 1) := by decide +kernel
theorem dL_law_1040 : decode cL_law 1040 = .ok (.iconst 1, 1) := by decide +kernel
theorem dL_law_1041 : decode cL_law 1041 = .ok (.iadd, 1) := by decide +kernel
theorem dL_law_1042 : decode cL_law 1042 = .ok (.iaload, 1) := by decide +kernel
theorem dL_law_1043 : decode cL_law 1043 = .ok (.aload_n 0, 1) := by decide +kernel
theorem dL_law_1044 : decode cL_law 1044 = .ok (.iload_n 3, 1) := by decide +kernel
theorem dL_law_1045 : decode cL_law 1045 = .ok (.iconst 2, 1) := by decide +kernel
theorem dL_law_1046 : decode cL_law 1046 = .ok (.iadd, 1) := by decide +kernel
theorem dL_law_1047 : decode cL_law 1047 = .ok (.iaload, 1) := by decide +kernel
theorem dL_law_1048 : decode cL_law 1048 = .ok (.aload_n 0, 1) := by decide +kernel
theorem dL_law_1049 : decode cL_law 1049 = .ok (.iload_n 3, 1) := by decide +kernel
theorem dL_law_1050 : decode cL_law 1050 = .ok (.iconst 3, 1) := by decide +kernel
theorem dL_law_1051 : decode cL_law 1051 = .ok (.iadd, 1) := by decide +kernel
theorem dL_law_1052 : decode cL_law 1052 = .ok (.iaload, 1) := by decide +kernel
theorem dL_law_1053 : decode cL_law 1053 = .ok (.invokevirtual 148, 3) := by decide +kernel
theorem dL_law_1056 : decode cL_law 1056 = .ok (.if_icmp .eq 361, 3) := by decide +kernel
theorem dL_law_1059 : decode cL_law 1059 = .ok (.iconst 0, 1) := by decide +kernel
theorem dL_law_1060 : decode cL_law 1060 = .ok (.ireturn, 1) := by decide +kernel
theorem dL_law_1061 : decode cL_law 1061 = .ok (.aload_n 1, 1) := by decide +kernel
theorem dL_law_1062 : decode cL_law 1062 = .ok (.aload_n 0, 1) := by decide +kernel
theorem dL_law_1063 : decode cL_law 1063 = .ok (.iload_n 3, 1) := by decide +kernel
theorem dL_law_1064 : decode cL_law 1064 = .ok (.iconst 1, 1) := by decide +kernel
theorem dL_law_1065 : decode cL_law 1065 = .ok (.iadd, 1) := by decide +kernel
theorem dL_law_1066 : decode cL_law 1066 = .ok (.iaload, 1) := by decide +kernel
theorem dL_law_1067 : decode cL_law 1067 = .ok (.aload_n 0, 1) := by decide +kernel
theorem dL_law_1068 : decode cL_law 1068 = .ok (.iload_n 3, 1) := by decide +kernel
theorem dL_law_1069 : decode cL_law 1069 = .ok (.iconst 2, 1) := by decide +kernel
theorem dL_law_1070 : decode cL_law 1070 = .ok (.iadd, 1) := by decide +kernel
theorem dL_law_1071 : decode cL_law 1071 = .ok (.iaload, 1) := by decide +kernel
theorem dL_law_1072 : decode cL_law 1072 = .ok (.invokevirtual 149, 3) := by decide +kernel
theorem dL_law_1075 : decode cL_law 1075 = .ok (.aload_n 2, 1) := by decide +kernel
theorem dL_law_1076 : decode cL_law 1076 = .ok (.aload_n 0, 1) := by decide +kernel
theorem dL_law_1077 : decode cL_law 1077 = .ok (.iload_n 3, 1) := by decide +kernel
theorem dL_law_1078 : decode cL_law 1078 = .ok (.iconst 1, 1) := by decide +kernel
theorem dL_law_1079 : decode cL_law 1079 = .ok (.iadd, 1) := by decide +kernel
theorem dL_law_1080 : decode cL_law 1080 = .ok (.iaload, 1) := by decide +kernel
theorem dL_law_1081 : decode cL_law 1081 = .ok (.aload_n 0, 1) := by decide +kernel
theorem dL_law_1082 : decode cL_law 1082 = .ok (.iload_n 3, 1) := by decide +kernel
theorem dL_law_1083 : decode cL_law 1083 = .ok (.iconst 2, 1) := by decide +kernel
theorem dL_law_1084 : decode cL_law 1084 = .ok (.iadd, 1) := by decide +kernel
theorem dL_law_1085 : decode cL_law 1085 = .ok (.iaload, 1) := by decide +kernel
theorem dL_law_1086 : decode cL_law 1086 = .ok (.invokevirtual 152, 3) := by decide +kernel
theorem dL_law_1089 : decode cL_law 1089 = .ok (.if_icmp .eq 328, 3) := by decide +kernel
theorem dL_law_1092 : decode cL_law 1092 = .ok (.iconst 0, 1) := by decide +kernel
theorem dL_law_1093 : decode cL_law 1093 = .ok (.ireturn, 1) := by decide +kernel
theorem dL_law_1094 : decode cL_law 1094 = .ok (.aload_n 1, 1) := by decide +kernel
theorem dL_law_1095 : decode cL_law 1095 = .ok (.aload_n 0, 1) := by decide +kernel
theorem dL_law_1096 : decode cL_law 1096 = .ok (.iload_n 3, 1) := by decide +kernel
theorem dL_law_1097 : decode cL_law 1097 = .ok (.iconst 1, 1) := by decide +kernel
theorem dL_law_1098 : decode cL_law 1098 = .ok (.iadd, 1) := by decide +kernel
theorem dL_law_1099 : decode cL_law 1099 = .ok (.iaload, 1) := by decide +kernel
theorem dL_law_1100 : decode cL_law 1100 = .ok (.aload_n 0, 1) := by decide +kernel
theorem dL_law_1101 : decode cL_law 1101 = .ok (.iload_n 3, 1) := by decide +kernel
theorem dL_law_1102 : decode cL_law 1102 = .ok (.iconst 2, 1) := by decide +kernel
theorem dL_law_1103 : decode cL_law 1103 = .ok (.iadd, 1) := by decide +kernel
theorem dL_law_1104 : decode cL_law 1104 = .ok (.iaload, 1) := by decide +kernel
theorem dL_law_1105 : decode cL_law 1105 = .ok (.aload_n 0, 1) := by decide +kernel
theorem dL_law_1106 : decode cL_law 1106 = .ok (.iload_n 3, 1) := by decide +kernel
theorem dL_law_1107 : decode cL_law 1107 = .ok (.iconst 3, 1) := by decide +kernel
theorem dL_law_1108 : decode cL_law 1108 = .ok (.iadd, 1) := by decide +kernel
theorem dL_law_1109 : decode cL_law 1109 = .ok (.iaload, 1) := by decide +kernel
theorem dL_law_1110 : decode cL_law 1110 = .ok (.aload_n 0, 1) := by decide +kernel
theorem dL_law_1111 : decode cL_law 1111 = .ok (.iload_n 3, 1) := by decide +kernel
theorem dL_law_1112 : decode cL_law 1112 = .ok (.iconst 4, 1) := by decide +kernel
theorem dL_law_1113 : decode cL_law 1113 = .ok (.iadd, 1) := by decide +kernel
theorem dL_law_1114 : decode cL_law 1114 = .ok (.iaload, 1) := by decide +kernel
theorem dL_law_1115 : decode cL_law 1115 = .ok (.invokevirtual 153, 3) := by decide +kernel
theorem dL_law_1118 : decode cL_law 1118 = .ok (.aload_n 2, 1) := by decide +kernel
theorem dL_law_1119 : decode cL_law 1119 = .ok (.aload_n 0, 1) := by decide +kernel
theorem dL_law_1120 : decode cL_law 1120 = .ok (.iload_n 3, 1) := by decide +kernel
theorem dL_law_1121 : decode cL_law 1121 = .ok (.iconst 1, 1) := by decide +kernel
theorem dL_law_1122 : decode cL_law 1122 = .ok (.iadd, 1) := by decide +kernel
theorem dL_law_1123 : decode cL_law 1123 = .ok (.iaload, 1) := by decide +kernel
theorem dL_law_1124 : decode cL_law 1124 = .ok (.aload_n 0, 1) := by decide +kernel
theorem dL_law_1125 : decode cL_law 1125 = .ok (.iload_n 3, 1) := by decide +kernel
theorem dL_law_1126 : decode cL_law 1126 = .ok (.iconst 2, 1) := by decide +kernel
theorem dL_law_1127 : decode cL_law 1127 = .ok (.iadd, 1) := by decide +kernel
theorem dL_law_1128 : decode cL_law 1128 = .ok (.iaload, 1) := by decide +kernel
theorem dL_law_1129 : decode cL_law 1129 = .ok (.aload_n 0, 1) := by decide +kernel
theorem dL_law_1130 : decode cL_law 1130 = .ok (.iload_n 3, 1) := by decide +kernel
theorem dL_law_1131 : decode cL_law 1131 = .ok (.iconst 3, 1) := by decide +kernel
theorem dL_law_1132 : decode cL_law 1132 = .ok (.iadd, 1) := by decide +kernel
theorem dL_law_1133 : decode cL_law 1133 = .ok (.iaload, 1) := by decide +kernel
theorem dL_law_1134 : decode cL_law 1134 = .ok (.aload_n 0, 1) := by decide +kernel
theorem dL_law_1135 : decode cL_law 1135 = .ok (.iload_n 3, 1) := by decide +kernel
theorem dL_law_1136 : decode cL_law 1136 = .ok (.iconst 4, 1) := by decide +kernel
theorem dL_law_1137 : decode cL_law 1137 = .ok (.iadd, 1) := by decide +kernel
theorem dL_law_1138 : decode cL_law 1138 = .ok (.iaload, 1) := by decide +kernel
theorem dL_law_1139 : decode cL_law 1139 = .ok (.invokevirtual 157, 3) := by decide +kernel
theorem dL_law_1142 : decode cL_law 1142 = .ok (.if_icmp .eq 275, 3) := by decide +kernel
theorem dL_law_1145 : decode cL_law 1145 = .ok (.iconst 0, 1) := by decide +kernel
theorem dL_law_1146 : decode cL_law 1146 = .ok (.ireturn, 1) := by decide +kernel
theorem dL_law_1147 : decode cL_law 1147 = .ok (.aload_n 1, 1) := by decide +kernel
theorem dL_law_1148 : decode cL_law 1148 = .ok (.aload_n 0, 1) := by decide +kernel
theorem dL_law_1149 : decode cL_law 1149 = .ok (.iload_n 3, 1) := by decide +kernel
theorem dL_law_1150 : decode cL_law 1150 = .ok (.iconst 1, 1) := by decide +kernel
theorem dL_law_1151 : decode cL_law 1151 = .ok (.iadd, 1) := by decide +kernel
theorem dL_law_1152 : decode cL_law 1152 = .ok (.iaload, 1) := by decide +kernel
theorem dL_law_1153 : decode cL_law 1153 = .ok (.invokevirtual 158, 3) := by decide +kernel
theorem dL_law_1156 : decode cL_law 1156 = .ok (.aload_n 2, 1) := by decide +kernel
theorem dL_law_1157 : decode cL_law 1157 = .ok (.aload_n 0, 1) := by decide +kernel
theorem dL_law_1158 : decode cL_law 1158 = .ok (.iload_n 3, 1) := by decide +kernel
theorem dL_law_1159 : decode cL_law 1159 = .ok (.iconst 1, 1) := by decide +kernel
theorem dL_law_1160 : decode cL_law 1160 = .ok (.iadd, 1) := by decide +kernel
theorem dL_law_1161 : decode cL_law 1161 = .ok (.iaload, 1) := by decide +kernel
theorem dL_law_1162 : decode cL_law 1162 = .ok (.invokevirtual 161, 3) := by decide +kernel
theorem dL_law_1165 : decode cL_law 1165 = .ok (.if_icmp .eq 252, 3) := by decide +kernel
theorem dL_law_1168 : decode cL_law 1168 = .ok (.iconst 0, 1) := by decide +kernel
theorem dL_law_1169 : decode cL_law 1169 = .ok (.ireturn, 1) := by decide +kernel
theorem dL_law_1170 : decode cL_law 1170 = .ok (.aload_n 1, 1) := by decide +kernel
theorem dL_law_1171 : decode cL_law 1171 = .ok (.aload_n 0, 1) := by decide +kernel
theorem dL_law_1172 : decode cL_law 1172 = .ok (.iload_n 3, 1) := by decide +kernel
theorem dL_law_1173 : decode cL_law 1173 = .ok (.iconst 1, 1) := by decide +kernel
theorem dL_law_1174 : decode cL_law 1174 = .ok (.iadd, 1) := by decide +kernel
theorem dL_law_1175 : decode cL_law 1175 = .ok (.iaload, 1) := by decide +kernel
theorem dL_law_1176 : decode cL_law 1176 = .ok (.aload_n 0, 1) := by decide +kernel
theorem dL_law_1177 : decode cL_law 1177 = .ok (.iload_n 3, 1) := by decide +kernel
theorem dL_law_1178 : decode cL_law 1178 = .ok (.iconst 2, 1) := by decide +kernel
theorem dL_law_1179 : decode cL_law 1179 = .ok (.iadd, 1) := by decide +kernel
theorem dL_law_1180 : decode cL_law 1180 = .ok (.iaload, 1) := by decide +kernel
theorem dL_law_1181 : decode cL_law 1181 = .ok (.invokevirtual 162, 3) := by decide +kernel
theorem dL_law_1184 : decode cL_law 1184 = .ok (.aload_n 2, 1) := by decide +kernel
theorem dL_law_1185 : decode cL_law 1185 = .ok (.aload_n 0, 1) := by decide +kernel
theorem dL_law_1186 : decode cL_law 1186 = .ok (.iload_n 3, 1) := by decide +kernel
theorem dL_law_1187 : decode cL_law 1187 = .ok (.iconst 1, 1) := by decide +kernel
theorem dL_law_1188 : decode cL_law 1188 = .ok (.iadd, 1) := by decide +kernel
theorem dL_law_1189 : decode cL_law 1189 = .ok (.iaload, 1) := by decide +kernel
theorem dL_law_1190 : decode cL_law 1190 = .ok (.aload_n 0, 1) := by decide +kernel
theorem dL_law_1191 : decode cL_law 1191 = .ok (.iload_n 3, 1) := by decide +kernel
theorem dL_law_1192 : decode cL_law 1192 = .ok (.iconst 2, 1) := by decide +kernel
theorem dL_law_1193 : decode cL_law 1193 = .ok (.iadd, 1) := by decide +kernel
theorem dL_law_1194 : decode cL_law 1194 = .ok (.iaload, 1) := by decide +kernel
theorem dL_law_1195 : decode cL_law 1195 = .ok (.invokevirtual 165, 3) := by decide +kernel
theorem dL_law_1198 : decode cL_law 1198 = .ok (.if_icmp .eq 219, 3) := by decide +kernel
theorem dL_law_1201 : decode cL_law 1201 = .ok (.iconst 0, 1) := by decide +kernel
theorem dL_law_1202 : decode cL_law 1202 = .ok (.ireturn, 1) := by decide +kernel
theorem dL_law_1203 : decode cL_law 1203 = .ok (.aload_n 1, 1) := by decide +kernel
theorem dL_law_1204 : decode cL_law 1204 = .ok (.aload_n 0, 1) := by decide +kernel
theorem dL_law_1205 : decode cL_law 1205 = .ok (.iload_n 3, 1) := by decide +kernel
theorem dL_law_1206 : decode cL_law 1206 = .ok (.iconst 1, 1) := by decide +kernel
theorem dL_law_1207 : decode cL_law 1207 = .ok (.iadd, 1) := by decide +kernel
theorem dL_law_1208 : decode cL_law 1208 = .ok (.iaload, 1) := by decide +kernel
theorem dL_law_1209 : decode cL_law 1209 = .ok (.aload_n 0, 1) := by decide +kernel
theorem dL_law_1210 : decode cL_law 1210 = .ok (.iload_n 3, 1) := by decide +kernel
theorem dL_law_1211 : decode cL_law 1211 = .ok (.iconst 2, 1) := by decide +kernel
theorem dL_law_1212 : decode cL_law 1212 = .ok (.iadd, 1) := by decide +kernel
theorem dL_law_1213 : decode cL_law 1213 = .ok (.iaload, 1) := by decide +kernel
theorem dL_law_1214 : decode cL_law 1214 = .ok (.invokevirtual 166, 3) := by decide +kernel
theorem dL_law_1217 : decode cL_law 1217 = .ok (.aload_n 2, 1) := by decide +kernel
theorem dL_law_1218 : decode cL_law 1218 = .ok (.aload_n 0, 1) := by decide +kernel
theorem dL_law_1219 : decode cL_law 1219 = .ok (.iload_n 3, 1) := by decide +kernel
theorem dL_law_1220 : decode cL_law 1220 = .ok (.iconst 1, 1) := by decide +kernel
theorem dL_law_1221 : decode cL_law 1221 = .ok (.iadd, 1) := by decide +kernel
theorem dL_law_1222 : decode cL_law 1222 = .ok (.iaload, 1) := by decide +kernel
theorem dL_law_1223 : decode cL_law 1223 = .ok (.aload_n 0, 1) := by decide +kernel
theorem dL_law_1224 : decode cL_law 1224 = .ok (.iload_n 3, 1) := by decide +kernel
theorem dL_law_1225 : decode cL_law 1225 = .ok (.iconst 2, 1) := by decide +kernel
theorem dL_law_1226 : decode cL_law 1226 = .ok (.iadd, 1) := by decide +kernel
theorem dL_law_1227 : decode cL_law 1227 = .ok (.iaload, 1) := by decide +kernel
theorem dL_law_1228 : decode cL_law 1228 = .ok (.invokevirtual 169, 3) := by decide +kernel
theorem dL_law_1231 : decode cL_law 1231 = .ok (.if_icmp .eq 186, 3) := by decide +kernel
theorem dL_law_1234 : decode cL_law 1234 = .ok (.iconst 0, 1) := by decide +kernel
theorem dL_law_1235 : decode cL_law 1235 = .ok (.ireturn, 1) := by decide +kernel
theorem dL_law_1236 : decode cL_law 1236 = .ok (.aload_n 1, 1) := by decide +kernel
theorem dL_law_1237 : decode cL_law 1237 = .ok (.invokevirtual 170, 3) := by decide +kernel
theorem dL_law_1240 : decode cL_law 1240 = .ok (.aload_n 2, 1) := by decide +kernel
theorem dL_law_1241 : decode cL_law 1241 = .ok (.invokevirtual 173, 3) := by decide +kernel
theorem dL_law_1244 : decode cL_law 1244 = .ok (.if_icmp .eq 173, 3) := by decide +kernel
theorem dL_law_1247 : decode cL_law 1247 = .ok (.iconst 0, 1) := by decide +kernel
theorem dL_law_1248 : decode cL_law 1248 = .ok (.ireturn, 1) := by decide +kernel
theorem dL_law_1249 : decode cL_law 1249 = .ok (.aload_n 1, 1) := by decide +kernel
theorem dL_law_1250 : decode cL_law 1250 = .ok (.invokevirtual 174, 3) := by decide +kernel
theorem dL_law_1253 : decode cL_law 1253 = .ok (.aload_n 2, 1) := by decide +kernel
theorem dL_law_1254 : decode cL_law 1254 = .ok (.invokevirtual 177, 3) := by decide +kernel
theorem dL_law_1257 : decode cL_law 1257 = .ok (.if_icmp .eq 160, 3) := by decide +kernel
theorem dL_law_1260 : decode cL_law 1260 = .ok (.iconst 0, 1) := by decide +kernel
theorem dL_law_1261 : decode cL_law 1261 = .ok (.ireturn, 1) := by decide +kernel
theorem dL_law_1262 : decode cL_law 1262 = .ok (.aload_n 1, 1) := by decide +kernel
theorem dL_law_1263 : decode cL_law 1263 = .ok (.aload_n 0, 1) := by decide +kernel
theorem dL_law_1264 : decode cL_law 1264 = .ok (.iload_n 3, 1) := by decide +kernel
theorem dL_law_1265 : decode cL_law 1265 = .ok (.iconst 1, 1) := by decide +kernel
theorem dL_law_1266 : decode cL_law 1266 = .ok (.iadd, 1) := by decide +kernel
theorem dL_law_1267 : decode cL_law 1267 = .ok (.iaload, 1) := by decide +kernel
theorem dL_law_1268 : decode cL_law 1268 = .ok (.invokevirtual 178, 3) := by decide +kernel
theorem dL_law_1271 : decode cL_law 1271 = .ok (.aload_n 2, 1) := by decide +kernel
theorem dL_law_1272 : decode cL_law 1272 = .ok (.aload_n 0, 1) := by decide +kernel
theorem dL_law_1273 : decode cL_law 1273 = .ok (.iload_n 3, 1) := by decide +kernel
theorem dL_law_1274 : decode cL_law 1274 = .ok (.iconst 1, 1) := by decide +kernel
theorem dL_law_1275 : decode cL_law 1275 = .ok (.iadd, 1) := by decide +kernel
theorem dL_law_1276 : decode cL_law 1276 = .ok (.iaload, 1) := by decide +kernel
theorem dL_law_1277 : decode cL_law 1277 = .ok (.invokevirtual 181, 3) := by decide +kernel
theorem dL_law_1280 : decode cL_law 1280 = .ok (.if_icmp .eq 137, 3) := by decide +kernel
theorem dL_law_1283 : decode cL_law 1283 = .ok (.iconst 0, 1) := by decide +kernel
theorem dL_law_1284 : decode cL_law 1284 = .ok (.ireturn, 1) := by decide +kernel
theorem dL_law_1285 : decode cL_law 1285 = .ok (.aload_n 1, 1) := by decide +kernel
theorem dL_law_1286 : decode cL_law 1286 = .ok (.aload_n 0, 1) := by decide +kernel
theorem dL_law_1287 : decode cL_law 1287 = .ok (.iload_n 3, 1) := by decide +kernel
theorem dL_law_1288 : decode cL_law 1288 = .ok (.iconst 1, 1) := by decide +kernel
theorem dL_law_1289 : decode cL_law 1289 = .ok (.iadd, 1) := by decide +kernel
theorem dL_law_1290 : decode cL_law 1290 = .ok (.iaload, 1) := by decide +kernel
theorem dL_law_1291 : decode cL_law 1291 = .ok (.invokevirtual 182, 3) := by decide +kernel
theorem dL_law_1294 : decode cL_law 1294 = .ok (.aload_n 2, 1) := by decide +kernel
theorem dL_law_1295 : decode cL_law 1295 = .ok (.aload_n 0, 1) := by decide +kernel
theorem dL_law_1296 : decode cL_law 1296 = .ok (.iload_n 3, 1) := by decide +kernel
theorem dL_law_1297 : decode cL_law 1297 = .ok (.iconst 1, 1) := by decide +kernel
theorem dL_law_1298 : decode cL_law 1298 = .ok (.iadd, 1) := by decide +kernel
theorem dL_law_1299 : decode cL_law 1299 = .ok (.iaload, 1) := by decide +kernel
theorem dL_law_1300 : decode cL_law 1300 = .ok (.invokevirtual 185, 3) := by decide +kernel
theorem dL_law_1303 : decode cL_law 1303 = .ok (.if_icmp .eq 114, 3) := by decide +kernel
theorem dL_law_1306 : decode cL_law 1306 = .ok (.iconst 0, 1) := by decide +kernel
theorem dL_law_1307 : decode cL_law 1307 = .ok (.ireturn, 1) := by decide +kernel
theorem dL_law_1308 : decode cL_law 1308 = .ok (.aload_n 1, 1) := by decide +kernel
theorem dL_law_1309 : decode cL_law 1309 = .ok (.aload_n 0, 1) := by decide +kernel
theorem dL_law_1310 : decode cL_law 1310 = .ok (.iload_n 3, 1) := by decide +kernel
theorem dL_law_1311 : decode cL_law 1311 = .ok (.iconst 1, 1) := by decide +kernel
theorem dL_law_1312 : decode cL_law 1312 = .ok (.iadd, 1) := by decide +kernel
theorem dL_law_1313 : decode cL_law 1313 = .ok (.iaload, 1) := by decide +kernel
theorem dL_law_1314 : decode cL_law 1314 = .ok (.invokevirtual 186, 3) := by decide +kernel
theorem dL_law_1317 : decode cL_law 1317 = .ok (.aload_n 2, 1) := by decide +kernel
theorem dL_law_1318 : decode cL_law 1318 = .ok (.aload_n 0, 1) := by decide +kernel
theorem dL_law_1319 : decode cL_law 1319 = .ok (.iload_n 3, 1) := by decide +kernel
theorem dL_law_1320 : decode cL_law 1320 = .ok (.iconst 1, 1) := by decide +kernel
theorem dL_law_1321 : decode cL_law 1321 = .ok (.iadd, 1) := by decide +kernel
theorem dL_law_1322 : decode cL_law 1322 = .ok (.iaload, 1) := by decide +kernel
theorem dL_law_1323 : decode cL_law 1323 = .ok (.invokevirtual 189, 3) := by decide +kernel
theorem dL_law_1326 : decode cL_law 1326 = .ok (.if_icmp .eq 91, 3) := by decide +kernel
theorem dL_law_1329 : decode cL_law 1329 = .ok (.iconst 0, 1) := by decide +kernel
theorem dL_law_1330 : decode cL_law 1330 = .ok (.ireturn, 1) := by decide +kernel
theorem dL_law_1331 : decode cL_law 1331 = .ok (.aload_n 1, 1) := by decide +kernel
theorem dL_law_1332 : decode cL_law 1332 = .ok (.aload_n 0, 1) := by decide +kernel
theorem dL_law_1333 : decode cL_law 1333 = .ok (.iload_n 3, 1) := by decide +kernel
theorem dL_law_1334 : decode cL_law 1334 = .ok (.iconst 1, 1) := by decide +kernel
theorem dL_law_1335 : decode cL_law 1335 = .ok (.iadd, 1) := by decide +kernel
theorem dL_law_1336 : decode cL_law 1336 = .ok (.iaload, 1) := by decide +kernel
theorem dL_law_1337 : decode cL_law 1337 = .ok (.aload_n 0, 1) := by decide +kernel
theorem dL_law_1338 : decode cL_law 1338 = .ok (.iload_n 3, 1) := by decide +kernel
theorem dL_law_1339 : decode cL_law 1339 = .ok (.iconst 2, 1) := by decide +kernel
theorem dL_law_1340 : decode cL_law 1340 = .ok (.iadd, 1) := by decide +kernel
theorem dL_law_1341 : decode cL_law 1341 = .ok (.iaload, 1) := by decide +kernel
theorem dL_law_1342 : decode cL_law 1342 = .ok (.invokevirtual 190, 3) := by decide +kernel
theorem dL_law_1345 : decode cL_law 1345 = .ok (.aload_n 2, 1) := by decide +kernel
theorem dL_law_1346 : decode cL_law 1346 = .ok (.aload_n 0, 1) := by decide +kernel
theorem dL_law_1347 : decode cL_law 1347 = .ok (.iload_n 3, 1) := by decide +kernel
theorem dL_law_1348 : decode cL_law 1348 = .ok (.iconst 1, 1) := by decide +kernel
theorem dL_law_1349 : decode cL_law 1349 = .ok (.iadd, 1) := by decide +kernel
theorem dL_law_1350 : decode cL_law 1350 = .ok (.iaload, 1) := by decide +kernel
theorem dL_law_1351 : decode cL_law 1351 = .ok (.aload_n 0, 1) := by decide +kernel
theorem dL_law_1352 : decode cL_law 1352 = .ok (.iload_n 3, 1) := by decide +kernel
theorem dL_law_1353 : decode cL_law 1353 = .ok (.iconst 2, 1) := by decide +kernel
theorem dL_law_1354 : decode cL_law 1354 = .ok (.iadd, 1) := by decide +kernel
theorem dL_law_1355 : decode cL_law 1355 = .ok (.iaload, 1) := by decide +kernel
theorem dL_law_1356 : decode cL_law 1356 = .ok (.invokevirtual 193, 3) := by decide +kernel
theorem dL_law_1359 : decode cL_law 1359 = .ok (.if_icmp .eq 58, 3) := by decide +kernel
theorem dL_law_1362 : decode cL_law 1362 = .ok (.iconst 0, 1) := by decide +kernel
theorem dL_law_1363 : decode cL_law 1363 = .ok (.ireturn, 1) := by decide +kernel
theorem dL_law_1364 : decode cL_law 1364 = .ok (.aload_n 1, 1) := by decide +kernel
theorem dL_law_1365 : decode cL_law 1365 = .ok (.aload_n 0, 1) := by decide +kernel
theorem dL_law_1366 : decode cL_law 1366 = .ok (.iload_n 3, 1) := by decide +kernel
theorem dL_law_1367 : decode cL_law 1367 = .ok (.iconst 1, 1) := by decide +kernel
theorem dL_law_1368 : decode cL_law 1368 = .ok (.iadd, 1) := by decide +kernel
theorem dL_law_1369 : decode cL_law 1369 = .ok (.iaload, 1) := by decide +kernel
theorem dL_law_1370 : decode cL_law 1370 = .ok (.aload_n 0, 1) := by decide +kernel
theorem dL_law_1371 : decode cL_law 1371 = .ok (.iload_n 3, 1) := by decide +kernel
theorem dL_law_1372 : decode cL_law 1372 = .ok (.iconst 2, 1) := by decide +kernel
theorem dL_law_1373 : decode cL_law 1373 = .ok (.iadd, 1) := by decide +kernel
theorem dL_law_1374 : decode cL_law 1374 = .ok (.iaload, 1) := by decide +kernel
theorem dL_law_1375 : decode cL_law 1375 = .ok (.aload_n 0, 1) := by decide +kernel
theorem dL_law_1376 : decode cL_law 1376 = .ok (.iload_n 3, 1) := by decide +kernel
theorem dL_law_1377 : decode cL_law 1377 = .ok (.iconst 3, 1) := by decide +kernel
theorem dL_law_1378 : decode cL_law 1378 = .ok (.iadd, 1) := by decide +kernel
theorem dL_law_1379 : decode cL_law 1379 = .ok (.iaload, 1) := by decide +kernel
theorem dL_law_1380 : decode cL_law 1380 = .ok (.aload_n 0, 1) := by decide +kernel
theorem dL_law_1381 : decode cL_law 1381 = .ok (.iload_n 3, 1) := by decide +kernel
theorem dL_law_1382 : decode cL_law 1382 = .ok (.iconst 4, 1) := by decide +kernel
theorem dL_law_1383 : decode cL_law 1383 = .ok (.iadd, 1) := by decide +kernel
theorem dL_law_1384 : decode cL_law 1384 = .ok (.iaload, 1) := by decide +kernel
theorem dL_law_1385 : decode cL_law 1385 = .ok (.invokevirtual 194, 3) := by decide +kernel
theorem dL_law_1388 : decode cL_law 1388 = .ok (.aload_n 2, 1) := by decide +kernel
theorem dL_law_1389 : decode cL_law 1389 = .ok (.aload_n 0, 1) := by decide +kernel
theorem dL_law_1390 : decode cL_law 1390 = .ok (.iload_n 3, 1) := by decide +kernel
theorem dL_law_1391 : decode cL_law 1391 = .ok (.iconst 1, 1) := by decide +kernel
theorem dL_law_1392 : decode cL_law 1392 = .ok (.iadd, 1) := by decide +kernel
theorem dL_law_1393 : decode cL_law 1393 = .ok (.iaload, 1) := by decide +kernel
theorem dL_law_1394 : decode cL_law 1394 = .ok (.aload_n 0, 1) := by decide +kernel
theorem dL_law_1395 : decode cL_law 1395 = .ok (.iload_n 3, 1) := by decide +kernel
theorem dL_law_1396 : decode cL_law 1396 = .ok (.iconst 2, 1) := by decide +kernel
theorem dL_law_1397 : decode cL_law 1397 = .ok (.iadd, 1) := by decide +kernel
theorem dL_law_1398 : decode cL_law 1398 = .ok (.iaload, 1) := by decide +kernel
theorem dL_law_1399 : decode cL_law 1399 = .ok (.aload_n 0, 1) := by decide +kernel
theorem dL_law_1400 : decode cL_law 1400 = .ok (.iload_n 3, 1) := by decide +kernel
theorem dL_law_1401 : decode cL_law 1401 = .ok (.iconst 3, 1) := by decide +kernel
theorem dL_law_1402 : decode cL_law 1402 = .ok (.iadd, 1) := by decide +kernel
theorem dL_law_1403 : decode cL_law 1403 = .ok (.iaload, 1) := by decide +kernel
theorem dL_law_1404 : decode cL_law 1404 = .ok (.aload_n 0, 1) := by decide +kernel
theorem dL_law_1405 : decode cL_law 1405 = .ok (.iload_n 3, 1) := by decide +kernel
theorem dL_law_1406 : decode cL_law 1406 = .ok (.iconst 4, 1) := by decide +kernel
theorem dL_law_1407 : decode cL_law 1407 = .ok (.iadd, 1) := by decide +kernel
theorem dL_law_1408 : decode cL_law 1408 = .ok (.iaload, 1) := by decide +kernel
theorem dL_law_1409 : decode cL_law 1409 = .ok (.invokevirtual 197, 3) := by decide +kernel
theorem dL_law_1412 : decode cL_law 1412 = .ok (.if_icmp .eq 5, 3) := by decide +kernel
theorem dL_law_1415 : decode cL_law 1415 = .ok (.iconst 0, 1) := by decide +kernel
theorem dL_law_1416 : decode cL_law 1416 = .ok (.ireturn, 1) := by decide +kernel
theorem dL_law_1417 : decode cL_law 1417 = .ok (.iinc 3 6, 3) := by decide +kernel
theorem dL_law_1420 : decode cL_law 1420 = .ok (.goto (-1402), 3) := by decide +kernel
theorem dL_law_1423 : decode cL_law 1423 = .ok (.iconst 1, 1) := by decide +kernel
theorem dL_law_1424 : decode cL_law 1424 = .ok (.ireturn, 1) := by decide +kernel
def fp_L_law_L18 (xs : Nat → Int32) (L : Nat) (v1 : Nat) (v2 : Nat) : Nat → Int32 → zM → Option (Int32 × zM)
  | 0, _, _ => none
  | n + 1, v3, M =>
    if v3 > ((Int32.ofNat L) - 6) then (
      some (1, M))
    else (
      (zxs xs L v3).bind fun (y9 : Int32) =>
      zjn (fun (M10 : zM) =>
          fp_L_law_L18 xs L v1 v2 n (v3 + 6) M10)
        (fun j1417 =>
          if (y9 &&& 63) = 0 then (
            (fp_X10_status v1 M).bind fun (y11 : Int32) =>
            (fp_X11_status v2 M).bind fun (y12 : Int32) =>
            if y11 = y12 then (
              j1417 M)
            else (
              some (0, M)))
          else if (y9 &&& 63) = 1 then (
            (zxs xs L (v3 + 1)).bind fun (y14 : Int32) =>
            (zxs xs L (v3 + 2)).bind fun (y15 : Int32) =>
            (zxs xs L (v3 + 3)).bind fun (y16 : Int32) =>
            (zxs xs L (v3 + 4)).bind fun (y17 : Int32) =>
            (zxs xs L (v3 + 5)).bind fun (y18 : Int32) =>
            (fp_X10_feed v1 y14 y15 y16 y17 y18 M).bind fun p21 => zpp p21 fun (y19 : Int32) (M20 : zM) =>
            (zxs xs L (v3 + 1)).bind fun (y22 : Int32) =>
            (zxs xs L (v3 + 2)).bind fun (y23 : Int32) =>
            (zxs xs L (v3 + 3)).bind fun (y24 : Int32) =>
            (zxs xs L (v3 + 4)).bind fun (y25 : Int32) =>
            (zxs xs L (v3 + 5)).bind fun (y26 : Int32) =>
            (fp_X11_feed v2 y22 y23 y24 y25 y26 M20).bind fun p29 => zpp p29 fun (y27 : Int32) (M28 : zM) =>
            if y19 = y27 then (
              j1417 M28)
            else (
              some (0, M28)))
          else if (y9 &&& 63) = 2 then (
            (zxs xs L (v3 + 1)).bind fun (y31 : Int32) =>
            (fp_X10_load v1 y31 M).bind fun p34 => zpp p34 fun (y32 : Int32) (M33 : zM) =>
            (zxs xs L (v3 + 1)).bind fun (y35 : Int32) =>
            (fp_X11_load v2 y35 M33).bind fun p38 => zpp p38 fun (y36 : Int32) (M37 : zM) =>
            if y32 = y36 then (
              j1417 M37)
            else (
              some (0, M37)))
          else if (y9 &&& 63) = 3 then (
            (zxs xs L (v3 + 1)).bind fun (y40 : Int32) =>
            (fp_X10_fault v1 y40 M).bind fun (y41 : Int32) =>
            (zxs xs L (v3 + 1)).bind fun (y42 : Int32) =>
            (fp_X11_fault v2 y42 M).bind fun (y43 : Int32) =>
            if y41 = y43 then (
              j1417 M)
            else (
              some (0, M)))
          else if (y9 &&& 63) = 4 then (
            (zxs xs L (v3 + 1)).bind fun (y45 : Int32) =>
            (fp_X10_many v1 y45 M).bind fun p48 => zpp p48 fun (y46 : Int32) (M47 : zM) =>
            (zxs xs L (v3 + 1)).bind fun (y49 : Int32) =>
            (fp_X11_many v2 y49 M47).bind fun p52 => zpp p52 fun (y50 : Int32) (M51 : zM) =>
            if y46 = y50 then (
              j1417 M51)
            else (
              some (0, M51)))
          else if (y9 &&& 63) = 5 then (
            (zxs xs L (v3 + 1)).bind fun (y54 : Int32) =>
            (fp_X10_near v1 y54 M).bind fun p57 => zpp p57 fun (y55 : Int32) (M56 : zM) =>
            (zxs xs L (v3 + 1)).bind fun (y58 : Int32) =>
            (fp_X11_near v2 y58 M56).bind fun p61 => zpp p61 fun (y59 : Int32) (M60 : zM) =>
            if y55 = y59 then (
              j1417 M60)
            else (
              some (0, M60)))
          else if (y9 &&& 63) = 6 then (
            (zxs xs L (v3 + 1)).bind fun (y63 : Int32) =>
            (fp_X10_add v1 y63 M).bind fun p66 => zpp p66 fun (y64 : Int32) (M65 : zM) =>
            (zxs xs L (v3 + 1)).bind fun (y67 : Int32) =>
            (fp_X11_add v2 y67 M65).bind fun p70 => zpp p70 fun (y68 : Int32) (M69 : zM) =>
            if y64 = y68 then (
              j1417 M69)
            else (
              some (0, M69)))
          else if (y9 &&& 63) = 7 then (
            (zxs xs L (v3 + 1)).bind fun (y72 : Int32) =>
            (fp_X10_drop v1 y72 M).bind fun p75 => zpp p75 fun (y73 : Int32) (M74 : zM) =>
            (zxs xs L (v3 + 1)).bind fun (y76 : Int32) =>
            (fp_X11_drop v2 y76 M74).bind fun p79 => zpp p79 fun (y77 : Int32) (M78 : zM) =>
            if y73 = y77 then (
              j1417 M78)
            else (
              some (0, M78)))
          else if (y9 &&& 63) = 8 then (
            (zxs xs L (v3 + 1)).bind fun (y81 : Int32) =>
            (zxs xs L (v3 + 2)).bind fun (y82 : Int32) =>
            (fp_X10_flip v1 y81 y82 M).bind fun p85 => zpp p85 fun (y83 : Int32) (M84 : zM) =>
            (zxs xs L (v3 + 1)).bind fun (y86 : Int32) =>
            (zxs xs L (v3 + 2)).bind fun (y87 : Int32) =>
            (fp_X11_flip v2 y86 y87 M84).bind fun p90 => zpp p90 fun (y88 : Int32) (M89 : zM) =>
            if y83 = y88 then (
              j1417 M89)
            else (
              some (0, M89)))
          else if (y9 &&& 63) = 9 then (
            (zxs xs L (v3 + 1)).bind fun (y92 : Int32) =>
            (fp_X10_turn v1 y92 M).bind fun p95 => zpp p95 fun (y93 : Int32) (M94 : zM) =>
            (zxs xs L (v3 + 1)).bind fun (y96 : Int32) =>
            (fp_X11_turn v2 y96 M94).bind fun p99 => zpp p99 fun (y97 : Int32) (M98 : zM) =>
            if y93 = y97 then (
              j1417 M98)
            else (
              some (0, M98)))
          else if (y9 &&& 63) = 10 then (
            (zxs xs L (v3 + 1)).bind fun (y101 : Int32) =>
            (zxs xs L (v3 + 2)).bind fun (y102 : Int32) =>
            (fp_X10_swing v1 y101 y102 M).bind fun p105 => zpp p105 fun (y103 : Int32) (M104 : zM) =>
            (zxs xs L (v3 + 1)).bind fun (y106 : Int32) =>
            (zxs xs L (v3 + 2)).bind fun (y107 : Int32) =>
            (fp_X11_swing v2 y106 y107 M104).bind fun p110 => zpp p110 fun (y108 : Int32) (M109 : zM) =>
            if y103 = y108 then (
              j1417 M109)
            else (
              some (0, M109)))
          else if (y9 &&& 63) = 11 then (
            (zxs xs L (v3 + 1)).bind fun (y112 : Int32) =>
            (zxs xs L (v3 + 2)).bind fun (y113 : Int32) =>
            (fp_X10_rename v1 y112 y113 M).bind fun p116 => zpp p116 fun (y114 : Int32) (M115 : zM) =>
            (zxs xs L (v3 + 1)).bind fun (y117 : Int32) =>
            (zxs xs L (v3 + 2)).bind fun (y118 : Int32) =>
            (fp_X11_rename v2 y117 y118 M115).bind fun p121 => zpp p121 fun (y119 : Int32) (M120 : zM) =>
            if y114 = y119 then (
              j1417 M120)
            else (
              some (0, M120)))
          else if (y9 &&& 63) = 12 then (
            (fp_X10_undo v1 M).bind fun p125 => zpp p125 fun (y123 : Int32) (M124 : zM) =>
            (fp_X11_undo v2 M124).bind fun p128 => zpp p128 fun (y126 : Int32) (M127 : zM) =>
            if y123 = y126 then (
              j1417 M127)
            else (
              some (0, M127)))
          else if (y9 &&& 63) = 13 then (
            (zxs xs L (v3 + 1)).bind fun (y130 : Int32) =>
            (fp_X10_image v1 y130 M).bind fun p133 => zpp p133 fun (y131 : Int32) (M132 : zM) =>
            (zxs xs L (v3 + 1)).bind fun (y134 : Int32) =>
            (fp_X11_image v2 y134 M132).bind fun p137 => zpp p137 fun (y135 : Int32) (M136 : zM) =>
            if y131 = y135 then (
              j1417 M136)
            else (
              some (0, M136)))
          else if (y9 &&& 63) = 14 then (
            (zxs xs L (v3 + 1)).bind fun (y139 : Int32) =>
            (fp_X10_like v1 y139 M).bind fun p142 => zpp p142 fun (y140 : Int32) (M141 : zM) =>
            (zxs xs L (v3 + 1)).bind fun (y143 : Int32) =>
            (fp_X11_like v2 y143 M141).bind fun p146 => zpp p146 fun (y144 : Int32) (M145 : zM) =>
            if y140 = y144 then (
              j1417 M145)
            else (
              some (0, M145)))
          else if (y9 &&& 63) = 15 then (
            (zxs xs L (v3 + 1)).bind fun (y148 : Int32) =>
            (fp_X10_order v1 y148 M).bind fun p151 => zpp p151 fun (y149 : Int32) (M150 : zM) =>
            (zxs xs L (v3 + 1)).bind fun (y152 : Int32) =>
            (fp_X11_order v2 y152 M150).bind fun p155 => zpp p155 fun (y153 : Int32) (M154 : zM) =>
            if y149 = y153 then (
              j1417 M154)
            else (
              some (0, M154)))
          else if (y9 &&& 63) = 16 then (
            (zxs xs L (v3 + 1)).bind fun (y157 : Int32) =>
            (fp_X10_split v1 y157 M).bind fun p160 => zpp p160 fun (y158 : Int32) (M159 : zM) =>
            (zxs xs L (v3 + 1)).bind fun (y161 : Int32) =>
            (fp_X11_split v2 y161 M159).bind fun p164 => zpp p164 fun (y162 : Int32) (M163 : zM) =>
            if y158 = y162 then (
              j1417 M163)
            else (
              some (0, M163)))
          else if (y9 &&& 63) = 17 then (
            (zxs xs L (v3 + 1)).bind fun (y166 : Int32) =>
            (fp_X10_strong v1 y166 M).bind fun p169 => zpp p169 fun (y167 : Int32) (M168 : zM) =>
            (zxs xs L (v3 + 1)).bind fun (y170 : Int32) =>
            (fp_X11_strong v2 y170 M168).bind fun p173 => zpp p173 fun (y171 : Int32) (M172 : zM) =>
            if y167 = y171 then (
              j1417 M172)
            else (
              some (0, M172)))
          else if (y9 &&& 63) = 18 then (
            (fp_X10_prime v1 M).bind fun p177 => zpp p177 fun (y175 : Int32) (M176 : zM) =>
            (fp_X11_prime v2 M176).bind fun p180 => zpp p180 fun (y178 : Int32) (M179 : zM) =>
            if y175 = y178 then (
              j1417 M179)
            else (
              some (0, M179)))
          else if (y9 &&& 63) = 19 then (
            (zxs xs L (v3 + 1)).bind fun (y182 : Int32) =>
            (zxs xs L (v3 + 2)).bind fun (y183 : Int32) =>
            (fp_X10_piece v1 y182 y183 M).bind fun p186 => zpp p186 fun (y184 : Int32) (M185 : zM) =>
            (zxs xs L (v3 + 1)).bind fun (y187 : Int32) =>
            (zxs xs L (v3 + 2)).bind fun (y188 : Int32) =>
            (fp_X11_piece v2 y187 y188 M185).bind fun p191 => zpp p191 fun (y189 : Int32) (M190 : zM) =>
            if y184 = y189 then (
              j1417 M190)
            else (
              some (0, M190)))
          else if (y9 &&& 63) = 20 then (
            (zxs xs L (v3 + 1)).bind fun (y193 : Int32) =>
            (zxs xs L (v3 + 2)).bind fun (y194 : Int32) =>
            (fp_X10_knot v1 y193 y194 M).bind fun p197 => zpp p197 fun (y195 : Int32) (M196 : zM) =>
            (zxs xs L (v3 + 1)).bind fun (y198 : Int32) =>
            (zxs xs L (v3 + 2)).bind fun (y199 : Int32) =>
            (fp_X11_knot v2 y198 y199 M196).bind fun p202 => zpp p202 fun (y200 : Int32) (M201 : zM) =>
            if y195 = y200 then (
              j1417 M201)
            else (
              some (0, M201)))
          else if (y9 &&& 63) = 21 then (
            (zxs xs L (v3 + 1)).bind fun (y204 : Int32) =>
            (zxs xs L (v3 + 2)).bind fun (y205 : Int32) =>
            (fp_X10_ties v1 y204 y205 M).bind fun p208 => zpp p208 fun (y206 : Int32) (M207 : zM) =>
            (zxs xs L (v3 + 1)).bind fun (y209 : Int32) =>
            (zxs xs L (v3 + 2)).bind fun (y210 : Int32) =>
            (fp_X11_ties v2 y209 y210 M207).bind fun p213 => zpp p213 fun (y211 : Int32) (M212 : zM) =>
            if y206 = y211 then (
              j1417 M212)
            else (
              some (0, M212)))
          else if (y9 &&& 63) = 22 then (
            (fp_X10_plain v1 M).bind fun p217 => zpp p217 fun (y215 : Int32) (M216 : zM) =>
            (fp_X11_plain v2 M216).bind fun p220 => zpp p220 fun (y218 : Int32) (M219 : zM) =>
            if y215 = y218 then (
              j1417 M219)
            else (
              some (0, M219)))
          else if (y9 &&& 63) = 23 then (
            (zxs xs L (v3 + 1)).bind fun (y222 : Int32) =>
            (fp_X10_twins v1 y222 M).bind fun p225 => zpp p225 fun (y223 : Int32) (M224 : zM) =>
            (zxs xs L (v3 + 1)).bind fun (y226 : Int32) =>
            (fp_X11_twins v2 y226 M224).bind fun p229 => zpp p229 fun (y227 : Int32) (M228 : zM) =>
            if y223 = y227 then (
              j1417 M228)
            else (
              some (0, M228)))
          else if (y9 &&& 63) = 24 then (
            (zxs xs L (v3 + 1)).bind fun (y231 : Int32) =>
            (fp_X10_most v1 y231 M).bind fun p234 => zpp p234 fun (y232 : Int32) (M233 : zM) =>
            (zxs xs L (v3 + 1)).bind fun (y235 : Int32) =>
            (fp_X11_most v2 y235 M233).bind fun p238 => zpp p238 fun (y236 : Int32) (M237 : zM) =>
            if y232 = y236 then (
              j1417 M237)
            else (
              some (0, M237)))
          else if (y9 &&& 63) = 25 then (
            (fp_X10_colours v1 M).bind fun p242 => zpp p242 fun (y240 : Int32) (M241 : zM) =>
            (fp_X11_colours v2 M241).bind fun p245 => zpp p245 fun (y243 : Int32) (M244 : zM) =>
            if y240 = y243 then (
              j1417 M244)
            else (
              some (0, M244)))
          else if (y9 &&& 63) = 26 then (
            (zxs xs L (v3 + 1)).bind fun (y247 : Int32) =>
            (fp_X10_paintings v1 y247 M).bind fun p250 => zpp p250 fun (y248 : Int64) (M249 : zM) =>
            (zxs xs L (v3 + 1)).bind fun (y251 : Int32) =>
            (fp_X11_paintings v2 y251 M249).bind fun p254 => zpp p254 fun (y252 : Int64) (M253 : zM) =>
            if (lg_cmp y248 y252) = 0 then (
              j1417 M253)
            else (
              some (0, M253)))
          else if (y9 &&& 63) = 27 then (
            (zxs xs L (v3 + 1)).bind fun (y256 : Int32) =>
            (zxs xs L (v3 + 2)).bind fun (y257 : Int32) =>
            (fp_X10_letter v1 y256 y257 M).bind fun p260 => zpp p260 fun (y258 : Int32) (M259 : zM) =>
            (zxs xs L (v3 + 1)).bind fun (y261 : Int32) =>
            (zxs xs L (v3 + 2)).bind fun (y262 : Int32) =>
            (fp_X11_letter v2 y261 y262 M259).bind fun p265 => zpp p265 fun (y263 : Int32) (M264 : zM) =>
            if y258 = y263 then (
              j1417 M264)
            else (
              some (0, M264)))
          else if (y9 &&& 63) = 28 then (
            (zxs xs L (v3 + 1)).bind fun (y267 : Int32) =>
            (zxs xs L (v3 + 2)).bind fun (y268 : Int32) =>
            (fp_X10_span v1 y267 y268 M).bind fun p271 => zpp p271 fun (y269 : Int32) (M270 : zM) =>
            (zxs xs L (v3 + 1)).bind fun (y272 : Int32) =>
            (zxs xs L (v3 + 2)).bind fun (y273 : Int32) =>
            (fp_X11_span v2 y272 y273 M270).bind fun p276 => zpp p276 fun (y274 : Int32) (M275 : zM) =>
            if y269 = y274 then (
              j1417 M275)
            else (
              some (0, M275)))
          else if (y9 &&& 63) = 29 then (
            (zxs xs L (v3 + 1)).bind fun (y278 : Int32) =>
            (zxs xs L (v3 + 2)).bind fun (y279 : Int32) =>
            (fp_X10_mean v1 y278 y279 M).bind fun p282 => zpp p282 fun (y280 : Int32) (M281 : zM) =>
            (zxs xs L (v3 + 1)).bind fun (y283 : Int32) =>
            (zxs xs L (v3 + 2)).bind fun (y284 : Int32) =>
            (fp_X11_mean v2 y283 y284 M281).bind fun p287 => zpp p287 fun (y285 : Int32) (M286 : zM) =>
            if y280 = y285 then (
              j1417 M286)
            else (
              some (0, M286)))
          else if (y9 &&& 63) = 30 then (
            (zxs xs L (v3 + 1)).bind fun (y289 : Int32) =>
            (fp_X10_find v1 y289 M).bind fun p292 => zpp p292 fun (y290 : Int32) (M291 : zM) =>
            (zxs xs L (v3 + 1)).bind fun (y293 : Int32) =>
            (fp_X11_find v2 y293 M291).bind fun p296 => zpp p296 fun (y294 : Int32) (M295 : zM) =>
            if y290 = y294 then (
              j1417 M295)
            else (
              some (0, M295)))
          else if (y9 &&& 63) = 31 then (
            (zxs xs L (v3 + 1)).bind fun (y298 : Int32) =>
            (zxs xs L (v3 + 2)).bind fun (y299 : Int32) =>
            (zxs xs L (v3 + 3)).bind fun (y300 : Int32) =>
            (fp_X10_cross v1 y298 y299 y300 M).bind fun p303 => zpp p303 fun (y301 : Int32) (M302 : zM) =>
            (zxs xs L (v3 + 1)).bind fun (y304 : Int32) =>
            (zxs xs L (v3 + 2)).bind fun (y305 : Int32) =>
            (zxs xs L (v3 + 3)).bind fun (y306 : Int32) =>
            (fp_X11_cross v2 y304 y305 y306 M302).bind fun p309 => zpp p309 fun (y307 : Int32) (M308 : zM) =>
            if y301 = y307 then (
              j1417 M308)
            else (
              some (0, M308)))
          else if (y9 &&& 63) = 32 then (
            (zxs xs L (v3 + 1)).bind fun (y311 : Int32) =>
            (zxs xs L (v3 + 2)).bind fun (y312 : Int32) =>
            (fp_X10_fits v1 y311 y312 M).bind fun p315 => zpp p315 fun (y313 : Int32) (M314 : zM) =>
            (zxs xs L (v3 + 1)).bind fun (y316 : Int32) =>
            (zxs xs L (v3 + 2)).bind fun (y317 : Int32) =>
            (fp_X11_fits v2 y316 y317 M314).bind fun p320 => zpp p320 fun (y318 : Int32) (M319 : zM) =>
            if y313 = y318 then (
              j1417 M319)
            else (
              some (0, M319)))
          else if (y9 &&& 63) = 33 then (
            (zxs xs L (v3 + 1)).bind fun (y322 : Int32) =>
            (zxs xs L (v3 + 2)).bind fun (y323 : Int32) =>
            (zxs xs L (v3 + 3)).bind fun (y324 : Int32) =>
            (zxs xs L (v3 + 4)).bind fun (y325 : Int32) =>
            (fp_X10_gap v1 y322 y323 y324 y325 M).bind fun p328 => zpp p328 fun (y326 : Int32) (M327 : zM) =>
            (zxs xs L (v3 + 1)).bind fun (y329 : Int32) =>
            (zxs xs L (v3 + 2)).bind fun (y330 : Int32) =>
            (zxs xs L (v3 + 3)).bind fun (y331 : Int32) =>
            (zxs xs L (v3 + 4)).bind fun (y332 : Int32) =>
            (fp_X11_gap v2 y329 y330 y331 y332 M327).bind fun p335 => zpp p335 fun (y333 : Int32) (M334 : zM) =>
            if y326 = y333 then (
              j1417 M334)
            else (
              some (0, M334)))
          else if (y9 &&& 63) = 34 then (
            (zxs xs L (v3 + 1)).bind fun (y337 : Int32) =>
            (fp_X10_could v1 y337 M).bind fun p340 => zpp p340 fun (y338 : Int32) (M339 : zM) =>
            (zxs xs L (v3 + 1)).bind fun (y341 : Int32) =>
            (fp_X11_could v2 y341 M339).bind fun p344 => zpp p344 fun (y342 : Int32) (M343 : zM) =>
            if y338 = y342 then (
              j1417 M343)
            else (
              some (0, M343)))
          else if (y9 &&& 63) = 35 then (
            (zxs xs L (v3 + 1)).bind fun (y346 : Int32) =>
            (zxs xs L (v3 + 2)).bind fun (y347 : Int32) =>
            (fp_X10_beside v1 y346 y347 M).bind fun p350 => zpp p350 fun (y348 : Int32) (M349 : zM) =>
            (zxs xs L (v3 + 1)).bind fun (y351 : Int32) =>
            (zxs xs L (v3 + 2)).bind fun (y352 : Int32) =>
            (fp_X11_beside v2 y351 y352 M349).bind fun p355 => zpp p355 fun (y353 : Int32) (M354 : zM) =>
            if y348 = y353 then (
              j1417 M354)
            else (
              some (0, M354)))
          else if (y9 &&& 63) = 36 then (
            (zxs xs L (v3 + 1)).bind fun (y357 : Int32) =>
            (zxs xs L (v3 + 2)).bind fun (y358 : Int32) =>
            (fp_X10_turned v1 y357 y358 M).bind fun p361 => zpp p361 fun (y359 : Int32) (M360 : zM) =>
            (zxs xs L (v3 + 1)).bind fun (y362 : Int32) =>
            (zxs xs L (v3 + 2)).bind fun (y363 : Int32) =>
            (fp_X11_turned v2 y362 y363 M360).bind fun p366 => zpp p366 fun (y364 : Int32) (M365 : zM) =>
            if y359 = y364 then (
              j1417 M365)
            else (
              some (0, M365)))
          else if (y9 &&& 63) = 37 then (
            (fp_X10_obstruction v1 M).bind fun p370 => zpp p370 fun (y368 : Int32) (M369 : zM) =>
            (fp_X11_obstruction v2 M369).bind fun p373 => zpp p373 fun (y371 : Int32) (M372 : zM) =>
            if y368 = y371 then (
              j1417 M372)
            else (
              some (0, M372)))
          else if (y9 &&& 63) = 38 then (
            (fp_X10_obstructions v1 M).bind fun p377 => zpp p377 fun (y375 : Int32) (M376 : zM) =>
            (fp_X11_obstructions v2 M376).bind fun p380 => zpp p380 fun (y378 : Int32) (M379 : zM) =>
            if y375 = y378 then (
              j1417 M379)
            else (
              some (0, M379)))
          else if (y9 &&& 63) = 39 then (
            (zxs xs L (v3 + 1)).bind fun (y382 : Int32) =>
            (fp_X10_family v1 y382 M).bind fun p385 => zpp p385 fun (y383 : Int32) (M384 : zM) =>
            (zxs xs L (v3 + 1)).bind fun (y386 : Int32) =>
            (fp_X11_family v2 y386 M384).bind fun p389 => zpp p389 fun (y387 : Int32) (M388 : zM) =>
            if y383 = y387 then (
              j1417 M388)
            else (
              some (0, M388)))
          else if (y9 &&& 63) = 40 then (
            (zxs xs L (v3 + 1)).bind fun (y391 : Int32) =>
            (fp_X10_turns v1 y391 M).bind fun p394 => zpp p394 fun (y392 : Int32) (M393 : zM) =>
            (zxs xs L (v3 + 1)).bind fun (y395 : Int32) =>
            (fp_X11_turns v2 y395 M393).bind fun p398 => zpp p398 fun (y396 : Int32) (M397 : zM) =>
            if y392 = y396 then (
              j1417 M397)
            else (
              some (0, M397)))
          else if (y9 &&& 63) = 41 then (
            (zxs xs L (v3 + 1)).bind fun (y400 : Int32) =>
            (fp_X10_within v1 y400 M).bind fun p403 => zpp p403 fun (y401 : Int32) (M402 : zM) =>
            (zxs xs L (v3 + 1)).bind fun (y404 : Int32) =>
            (fp_X11_within v2 y404 M402).bind fun p407 => zpp p407 fun (y405 : Int32) (M406 : zM) =>
            if y401 = y405 then (
              j1417 M406)
            else (
              some (0, M406)))
          else if (y9 &&& 63) = 42 then (
            (zxs xs L (v3 + 1)).bind fun (y409 : Int32) =>
            (zxs xs L (v3 + 2)).bind fun (y410 : Int32) =>
            (fp_X10_shuffle v1 y409 y410 M).bind fun p413 => zpp p413 fun (y411 : Int32) (M412 : zM) =>
            (zxs xs L (v3 + 1)).bind fun (y414 : Int32) =>
            (zxs xs L (v3 + 2)).bind fun (y415 : Int32) =>
            (fp_X11_shuffle v2 y414 y415 M412).bind fun p418 => zpp p418 fun (y416 : Int32) (M417 : zM) =>
            if y411 = y416 then (
              j1417 M417)
            else (
              some (0, M417)))
          else if (y9 &&& 63) = 43 then (
            (zxs xs L (v3 + 1)).bind fun (y420 : Int32) =>
            (zxs xs L (v3 + 2)).bind fun (y421 : Int32) =>
            (zxs xs L (v3 + 3)).bind fun (y422 : Int32) =>
            (zxs xs L (v3 + 4)).bind fun (y423 : Int32) =>
            (fp_X10_sample v1 y420 y421 y422 y423 M).bind fun p426 => zpp p426 fun (y424 : Int32) (M425 : zM) =>
            (zxs xs L (v3 + 1)).bind fun (y427 : Int32) =>
            (zxs xs L (v3 + 2)).bind fun (y428 : Int32) =>
            (zxs xs L (v3 + 3)).bind fun (y429 : Int32) =>
            (zxs xs L (v3 + 4)).bind fun (y430 : Int32) =>
            (fp_X11_sample v2 y427 y428 y429 y430 M425).bind fun p433 => zpp p433 fun (y431 : Int32) (M432 : zM) =>
            if y424 = y431 then (
              j1417 M432)
            else (
              some (0, M432)))
          else (
            j1417 M)))
def fp_L_law (xs : Nat → Int32) (L : Nat) (M : zM) : Option (Int32 × zM) :=
  (zno 8 M).bind fun p3 => zpp p3 fun (q1 : Nat) (M2 : zM) =>
  (fp_X10_init q1 M2).bind fun (M4 : zM) =>
  (zno 9 M4).bind fun p7 => zpp p7 fun (q5 : Nat) (M6 : zM) =>
  (fp_X11_init q5 M6).bind fun (M8 : zM) =>
  fp_L_law_L18 xs L q1 q5 FU 0 M8
set_option maxHeartbeats 4000000 in
set_option maxRecDepth 100000 in
theorem w_L_law_L18 (E : zEnv) (hE : zEok E) (d : Nat) (hd : 30 ≤ d) (xs : Nat → Int32) (L bS : Nat) (hX : ∀ (U : State) (H : Heap), E.2.2.2.2.1 U H → va_X bS L xs U H) (hbs : bS < E.2.2.2.1) (M0 : zM) (x0 : Int32 × zM) (v1 : Nat) (v2 : Nat)  : ∀ (n : Nat) (v3 : Int32) (M : zM), zSy E mu_L_law d M0 (some (.int x0.1), x0.2) x0 (fp_L_law_L18 xs L v1 v2 n v3 M) 18 [(0, .ref bS), (1, .ref (E.2.2.2.1 + v1)), (2, .ref (E.2.2.2.1 + v2)), (3, .int v3)] [] M := by
  intro n
  induction n with
  | zero =>
    intro v3 M
    rw [fp_L_law_L18]
    exact zs_none
  | succ n ih =>
    intro v3 M
    rw [fp_L_law_L18]
    refine zs_iload_n dL_law_18 rfl 3 rfl ?_
    refine zs_aload_n dL_law_19 rfl 0 rfl ?_
    refine zs_sllen hX hbs dL_law_20 ?_
    refine zs_bipush (v := 6) dL_law_21 cbipush_6 ?_
    refine zs_isub dL_law_23 ?_
    refine zs_icmp_gt dL_law_24 rfl ?_ ?_
    · refine zs_iconst (v := 1) dL_law_1423 ciconst_1 ?_
      exact zs_iretW dL_law_1424 rfl
    refine zs_aload_n dL_law_27 rfl 0 rfl ?_
    refine zs_iload_n dL_law_28 rfl 3 rfl ?_
    refine zs_sld hX hbs dL_law_29 (fun y9 => ?_)
    refine zs_bipush (v := 63) dL_law_30 cbipush_63 ?_
    refine zs_iand dL_law_32 ?_
    refine zs_jn (fun j1417 => ∀ (M10 : zM), zSy E mu_L_law d M0 (some (.int x0.1), x0.2) x0 (j1417 M10) 1417 [(0, .ref bS), (1, .ref (E.2.2.2.1 + v1)), (2, .ref (E.2.2.2.1 + v2)), (3, .int v3)] [] M10) (fun M10 => ?_) (fun j1417 hj1417 => ?_)
    · refine zs_iinc (v := (v3 + 6)) (loc' := [(0, .ref bS), (1, .ref (E.2.2.2.1 + v1)), (2, .ref (E.2.2.2.1 + v2)), (3, .int (v3 + 6))]) dL_law_1417 3 rfl (by rfl) (Nat.le_of_ble_eq_true rfl) [1, 2, 3, 0] rfl ?_
      refine zs_goto dL_law_1420 rfl ?_
      exact ih (v3 + 6) M10
    refine zs_ite (fun hc13 => ?_) (fun hc13 => ?_)
    · refine zs_tsw dL_law_33 hc13 (by decide) (by decide) (by rfl) rfl ?_
      refine zs_aload_n dL_law_224 rfl 1 rfl ?_
      refine zs_invVPI (rest := []) [] dL_law_225 lk_L_13 rfl (fun _ h => th_X10_status h) (zd1 rfl hd) rfl (Nat.le_of_ble_eq_true rfl) (ct_X10_status E hE _ (zdl rfl hd) _ _) (fun y11 => ?_)
      refine zs_aload_n dL_law_228 rfl 2 rfl ?_
      refine zs_invVPI (rest := [.int y11]) [] dL_law_229 lk_L_17 rfl (fun _ h => th_X11_status h) (zd1 rfl hd) rfl (Nat.le_of_ble_eq_true rfl) (ct_X11_status E hE _ (zdl rfl hd) _ _) (fun y12 => ?_)
      refine zs_icmp_eq dL_law_232 rfl ?_ ?_
      · exact hj1417 M
      refine zs_iconst (v := 0) dL_law_235 ciconst_0 ?_
      exact zs_iretW dL_law_236 rfl
    refine zs_ite (fun hc30 => ?_) (fun hc30 => ?_)
    · refine zs_tsw dL_law_33 hc30 (by decide) (by decide) (by rfl) rfl ?_
      refine zs_aload_n dL_law_237 rfl 1 rfl ?_
      refine zs_aload_n dL_law_238 rfl 0 rfl ?_
      refine zs_iload_n dL_law_239 rfl 3 rfl ?_
      refine zs_iconst (v := 1) dL_law_240 ciconst_1 ?_
      refine zs_iadd dL_law_241 ?_
      refine zs_sld hX hbs dL_law_242 (fun y14 => ?_)
      refine zs_aload_n dL_law_243 rfl 0 rfl ?_
      refine zs_iload_n dL_law_244 rfl 3 rfl ?_
      refine zs_iconst (v := 2) dL_law_245 ciconst_2 ?_
      refine zs_iadd dL_law_246 ?_
      refine zs_sld hX hbs dL_law_247 (fun y15 => ?_)
      refine zs_aload_n dL_law_248 rfl 0 rfl ?_
      refine zs_iload_n dL_law_249 rfl 3 rfl ?_
      refine zs_iconst (v := 3) dL_law_250 ciconst_3 ?_
      refine zs_iadd dL_law_251 ?_
      refine zs_sld hX hbs dL_law_252 (fun y16 => ?_)
      refine zs_aload_n dL_law_253 rfl 0 rfl ?_
      refine zs_iload_n dL_law_254 rfl 3 rfl ?_
      refine zs_iconst (v := 4) dL_law_255 ciconst_4 ?_
      refine zs_iadd dL_law_256 ?_
      refine zs_sld hX hbs dL_law_257 (fun y17 => ?_)
      refine zs_aload_n dL_law_258 rfl 0 rfl ?_
      refine zs_iload_n dL_law_259 rfl 3 rfl ?_
      refine zs_iconst (v := 5) dL_law_260 ciconst_5 ?_
      refine zs_iadd dL_law_261 ?_
      refine zs_sld hX hbs dL_law_262 (fun y18 => ?_)
      refine zs_invVWI (rest := []) [.int y14, .int y15, .int y16, .int y17, .int y18] dL_law_263 lk_L_18 rfl (fun _ h => th_X10_feed h) (zd1 rfl hd) rfl (Nat.le_of_ble_eq_true rfl) (ct_X10_feed E hE _ (zdl rfl hd) _ _ _ _ _ _ _) (fun y19 M20 => ?_)
      refine zs_aload_n dL_law_266 rfl 2 rfl ?_
      refine zs_aload_n dL_law_267 rfl 0 rfl ?_
      refine zs_iload_n dL_law_268 rfl 3 rfl ?_
      refine zs_iconst (v := 1) dL_law_269 ciconst_1 ?_
      refine zs_iadd dL_law_270 ?_
      refine zs_sld hX hbs dL_law_271 (fun y22 => ?_)
      refine zs_aload_n dL_law_272 rfl 0 rfl ?_
      refine zs_iload_n dL_law_273 rfl 3 rfl ?_
      refine zs_iconst (v := 2) dL_law_274 ciconst_2 ?_
      refine zs_iadd dL_law_275 ?_
      refine zs_sld hX hbs dL_law_276 (fun y23 => ?_)
      refine zs_aload_n dL_law_277 rfl 0 rfl ?_
      refine zs_iload_n dL_law_278 rfl 3 rfl ?_
      refine zs_iconst (v := 3) dL_law_279 ciconst_3 ?_
      refine zs_iadd dL_law_280 ?_
      refine zs_sld hX hbs dL_law_281 (fun y24 => ?_)
      refine zs_aload_n dL_law_282 rfl 0 rfl ?_
      refine zs_iload_n dL_law_283 rfl 3 rfl ?_
      refine zs_iconst (v := 4) dL_law_284 ciconst_4 ?_
      refine zs_iadd dL_law_285 ?_
      refine zs_sld hX hbs dL_law_286 (fun y25 => ?_)
      refine zs_aload_n dL_law_287 rfl 0 rfl ?_
      refine zs_iload_n dL_law_288 rfl 3 rfl ?_
      refine zs_iconst (v := 5) dL_law_289 ciconst_5 ?_
      refine zs_iadd dL_law_290 ?_
      refine zs_sld hX hbs dL_law_291 (fun y26 => ?_)
      refine zs_invVWI (rest := [.int y19]) [.int y22, .int y23, .int y24, .int y25, .int y26] dL_law_292 lk_L_22 rfl (fun _ h => th_X11_feed h) (zd1 rfl hd) rfl (Nat.le_of_ble_eq_true rfl) (ct_X11_feed E hE _ (zdl rfl hd) _ _ _ _ _ _ _) (fun y27 M28 => ?_)
      refine zs_icmp_eq dL_law_295 rfl ?_ ?_
      · exact hj1417 M28
      refine zs_iconst (v := 0) dL_law_298 ciconst_0 ?_
      exact zs_iretW dL_law_299 rfl
    refine zs_ite (fun hc39 => ?_) (fun hc39 => ?_)
    · refine zs_tsw dL_law_33 hc39 (by decide) (by decide) (by rfl) rfl ?_
      refine zs_aload_n dL_law_300 rfl 1 rfl ?_
      refine zs_aload_n dL_law_301 rfl 0 rfl ?_
      refine zs_iload_n dL_law_302 rfl 3 rfl ?_
      refine zs_iconst (v := 1) dL_law_303 ciconst_1 ?_
      refine zs_iadd dL_law_304 ?_
      refine zs_sld hX hbs dL_law_305 (fun y31 => ?_)
      refine zs_invVWI (rest := []) [.int y31] dL_law_306 lk_L_23 rfl (fun _ h => th_X10_load h) (zd1 rfl hd) rfl (Nat.le_of_ble_eq_true rfl) (ct_X10_load E hE _ (zdl rfl hd) _ _ _) (fun y32 M33 => ?_)
      refine zs_aload_n dL_law_309 rfl 2 rfl ?_
      refine zs_aload_n dL_law_310 rfl 0 rfl ?_
      refine zs_iload_n dL_law_311 rfl 3 rfl ?_
      refine zs_iconst (v := 1) dL_law_312 ciconst_1 ?_
      refine zs_iadd dL_law_313 ?_
      refine zs_sld hX hbs dL_law_314 (fun y35 => ?_)
      refine zs_invVWI (rest := [.int y32]) [.int y35] dL_law_315 lk_L_27 rfl (fun _ h => th_X11_load h) (zd1 rfl hd) rfl (Nat.le_of_ble_eq_true rfl) (ct_X11_load E hE _ (zdl rfl hd) _ _ _) (fun y36 M37 => ?_)
      refine zs_icmp_eq dL_law_318 rfl ?_ ?_
      · exact hj1417 M37
      refine zs_iconst (v := 0) dL_law_321 ciconst_0 ?_
      exact zs_iretW dL_law_322 rfl
    refine zs_ite (fun hc44 => ?_) (fun hc44 => ?_)
    · refine zs_tsw dL_law_33 hc44 (by decide) (by decide) (by rfl) rfl ?_
      refine zs_aload_n dL_law_323 rfl 1 rfl ?_
      refine zs_aload_n dL_law_324 rfl 0 rfl ?_
      refine zs_iload_n dL_law_325 rfl 3 rfl ?_
      refine zs_iconst (v := 1) dL_law_326 ciconst_1 ?_
      refine zs_iadd dL_law_327 ?_
      refine zs_sld hX hbs dL_law_328 (fun y40 => ?_)
      refine zs_invVPI (rest := []) [.int y40] dL_law_329 lk_L_28 rfl (fun _ h => th_X10_fault h) (zd1 rfl hd) rfl (Nat.le_of_ble_eq_true rfl) (ct_X10_fault E hE _ (zdl rfl hd) _ _ _) (fun y41 => ?_)
      refine zs_aload_n dL_law_332 rfl 2 rfl ?_
      refine zs_aload_n dL_law_333 rfl 0 rfl ?_
      refine zs_iload_n dL_law_334 rfl 3 rfl ?_
      refine zs_iconst (v := 1) dL_law_335 ciconst_1 ?_
      refine zs_iadd dL_law_336 ?_
      refine zs_sld hX hbs dL_law_337 (fun y42 => ?_)
      refine zs_invVPI (rest := [.int y41]) [.int y42] dL_law_338 lk_L_31 rfl (fun _ h => th_X11_fault h) (zd1 rfl hd) rfl (Nat.le_of_ble_eq_true rfl) (ct_X11_fault E hE _ (zdl rfl hd) _ _ _) (fun y43 => ?_)
      refine zs_icmp_eq dL_law_341 rfl ?_ ?_
      · exact hj1417 M
      refine zs_iconst (v := 0) dL_law_344 ciconst_0 ?_
      exact zs_iretW dL_law_345 rfl
    refine zs_ite (fun hc53 => ?_) (fun hc53 => ?_)
    · refine zs_tsw dL_law_33 hc53 (by decide) (by decide) (by rfl) rfl ?_
      refine zs_aload_n dL_law_346 rfl 1 rfl ?_
      refine zs_aload_n dL_law_347 rfl 0 rfl ?_
      refine zs_iload_n dL_law_348 rfl 3 rfl ?_
      refine zs_iconst (v := 1) dL_law_349 ciconst_1 ?_
      refine zs_iadd dL_law_350 ?_
      refine zs_sld hX hbs dL_law_351 (fun y45 => ?_)
      refine zs_invVWI (rest := []) [.int y45] dL_law_352 lk_L_32 rfl (fun _ h => th_X10_many h) (zd1 rfl hd) rfl (Nat.le_of_ble_eq_true rfl) (ct_X10_many E hE _ (zdl rfl hd) _ _ _) (fun y46 M47 => ?_)
      refine zs_aload_n dL_law_355 rfl 2 rfl ?_
      refine zs_aload_n dL_law_356 rfl 0 rfl ?_
      refine zs_iload_n dL_law_357 rfl 3 rfl ?_
      refine zs_iconst (v := 1) dL_law_358 ciconst_1 ?_
      refine zs_iadd dL_law_359 ?_
      refine zs_sld hX hbs dL_law_360 (fun y49 => ?_)
      refine zs_invVWI (rest := [.int y46]) [.int y49] dL_law_361 lk_L_35 rfl (fun _ h => th_X11_many h) (zd1 rfl hd) rfl (Nat.le_of_ble_eq_true rfl) (ct_X11_many E hE _ (zdl rfl hd) _ _ _) (fun y50 M51 => ?_)
      refine zs_icmp_eq dL_law_364 rfl ?_ ?_
      · exact hj1417 M51
      refine zs_iconst (v := 0) dL_law_367 ciconst_0 ?_
      exact zs_iretW dL_law_368 rfl
    refine zs_ite (fun hc62 => ?_) (fun hc62 => ?_)
    · refine zs_tsw dL_law_33 hc62 (by decide) (by decide) (by rfl) rfl ?_
      refine zs_aload_n dL_law_369 rfl 1 rfl ?_
      refine zs_aload_n dL_law_370 rfl 0 rfl ?_
      refine zs_iload_n dL_law_371 rfl 3 rfl ?_
      refine zs_iconst (v := 1) dL_law_372 ciconst_1 ?_
      refine zs_iadd dL_law_373 ?_
      refine zs_sld hX hbs dL_law_374 (fun y54 => ?_)
      refine zs_invVWI (rest := []) [.int y54] dL_law_375 lk_L_36 rfl (fun _ h => th_X10_near h) (zd1 rfl hd) rfl (Nat.le_of_ble_eq_true rfl) (ct_X10_near E hE _ (zdl rfl hd) _ _ _) (fun y55 M56 => ?_)
      refine zs_aload_n dL_law_378 rfl 2 rfl ?_
      refine zs_aload_n dL_law_379 rfl 0 rfl ?_
      refine zs_iload_n dL_law_380 rfl 3 rfl ?_
      refine zs_iconst (v := 1) dL_law_381 ciconst_1 ?_
      refine zs_iadd dL_law_382 ?_
      refine zs_sld hX hbs dL_law_383 (fun y58 => ?_)
      refine zs_invVWI (rest := [.int y55]) [.int y58] dL_law_384 lk_L_39 rfl (fun _ h => th_X11_near h) (zd1 rfl hd) rfl (Nat.le_of_ble_eq_true rfl) (ct_X11_near E hE _ (zdl rfl hd) _ _ _) (fun y59 M60 => ?_)
      refine zs_icmp_eq dL_law_387 rfl ?_ ?_
      · exact hj1417 M60
      refine zs_iconst (v := 0) dL_law_390 ciconst_0 ?_
      exact zs_iretW dL_law_391 rfl
    refine zs_ite (fun hc71 => ?_) (fun hc71 => ?_)
    · refine zs_tsw dL_law_33 hc71 (by decide) (by decide) (by rfl) rfl ?_
      refine zs_aload_n dL_law_392 rfl 1 rfl ?_
      refine zs_aload_n dL_law_393 rfl 0 rfl ?_
      refine zs_iload_n dL_law_394 rfl 3 rfl ?_
      refine zs_iconst (v := 1) dL_law_395 ciconst_1 ?_
      refine zs_iadd dL_law_396 ?_
      refine zs_sld hX hbs dL_law_397 (fun y63 => ?_)
      refine zs_invVWI (rest := []) [.int y63] dL_law_398 lk_L_40 rfl (fun _ h => th_X10_add h) (zd1 rfl hd) rfl (Nat.le_of_ble_eq_true rfl) (ct_X10_add E hE _ (zdl rfl hd) _ _ _) (fun y64 M65 => ?_)
      refine zs_aload_n dL_law_401 rfl 2 rfl ?_
      refine zs_aload_n dL_law_402 rfl 0 rfl ?_
      refine zs_iload_n dL_law_403 rfl 3 rfl ?_
      refine zs_iconst (v := 1) dL_law_404 ciconst_1 ?_
      refine zs_iadd dL_law_405 ?_
      refine zs_sld hX hbs dL_law_406 (fun y67 => ?_)
      refine zs_invVWI (rest := [.int y64]) [.int y67] dL_law_407 lk_L_43 rfl (fun _ h => th_X11_add h) (zd1 rfl hd) rfl (Nat.le_of_ble_eq_true rfl) (ct_X11_add E hE _ (zdl rfl hd) _ _ _) (fun y68 M69 => ?_)
      refine zs_icmp_eq dL_law_410 rfl ?_ ?_
      · exact hj1417 M69
      refine zs_iconst (v := 0) dL_law_413 ciconst_0 ?_
      exact zs_iretW dL_law_414 rfl
    refine zs_ite (fun hc80 => ?_) (fun hc80 => ?_)
    · refine zs_tsw dL_law_33 hc80 (by decide) (by decide) (by rfl) rfl ?_
      refine zs_aload_n dL_law_415 rfl 1 rfl ?_
      refine zs_aload_n dL_law_416 rfl 0 rfl ?_
      refine zs_iload_n dL_law_417 rfl 3 rfl ?_
      refine zs_iconst (v := 1) dL_law_418 ciconst_1 ?_
      refine zs_iadd dL_law_419 ?_
      refine zs_sld hX hbs dL_law_420 (fun y72 => ?_)
      refine zs_invVWI (rest := []) [.int y72] dL_law_421 lk_L_44 rfl (fun _ h => th_X10_drop h) (zd1 rfl hd) rfl (Nat.le_of_ble_eq_true rfl) (ct_X10_drop E hE _ (zdl rfl hd) _ _ _) (fun y73 M74 => ?_)
      refine zs_aload_n dL_law_424 rfl 2 rfl ?_
      refine zs_aload_n dL_law_425 rfl 0 rfl ?_
      refine zs_iload_n dL_law_426 rfl 3 rfl ?_
      refine zs_iconst (v := 1) dL_law_427 ciconst_1 ?_
      refine zs_iadd dL_law_428 ?_
      refine zs_sld hX hbs dL_law_429 (fun y76 => ?_)
      refine zs_invVWI (rest := [.int y73]) [.int y76] dL_law_430 lk_L_47 rfl (fun _ h => th_X11_drop h) (zd1 rfl hd) rfl (Nat.le_of_ble_eq_true rfl) (ct_X11_drop E hE _ (zdl rfl hd) _ _ _) (fun y77 M78 => ?_)
      refine zs_icmp_eq dL_law_433 rfl ?_ ?_
      · exact hj1417 M78
      refine zs_iconst (v := 0) dL_law_436 ciconst_0 ?_
      exact zs_iretW dL_law_437 rfl
    refine zs_ite (fun hc91 => ?_) (fun hc91 => ?_)
    · refine zs_tsw dL_law_33 hc91 (by decide) (by decide) (by rfl) rfl ?_
      refine zs_aload_n dL_law_438 rfl 1 rfl ?_
      refine zs_aload_n dL_law_439 rfl 0 rfl ?_
      refine zs_iload_n dL_law_440 rfl 3 rfl ?_
      refine zs_iconst (v := 1) dL_law_441 ciconst_1 ?_
      refine zs_iadd dL_law_442 ?_
      refine zs_sld hX hbs dL_law_443 (fun y81 => ?_)
      refine zs_aload_n dL_law_444 rfl 0 rfl ?_
      refine zs_iload_n dL_law_445 rfl 3 rfl ?_
      refine zs_iconst (v := 2) dL_law_446 ciconst_2 ?_
      refine zs_iadd dL_law_447 ?_
      refine zs_sld hX hbs dL_law_448 (fun y82 => ?_)
      refine zs_invVWI (rest := []) [.int y81, .int y82] dL_law_449 lk_L_48 rfl (fun _ h => th_X10_flip h) (zd1 rfl hd) rfl (Nat.le_of_ble_eq_true rfl) (ct_X10_flip E hE _ (zdl rfl hd) _ _ _ _) (fun y83 M84 => ?_)
      refine zs_aload_n dL_law_452 rfl 2 rfl ?_
      refine zs_aload_n dL_law_453 rfl 0 rfl ?_
      refine zs_iload_n dL_law_454 rfl 3 rfl ?_
      refine zs_iconst (v := 1) dL_law_455 ciconst_1 ?_
      refine zs_iadd dL_law_456 ?_
      refine zs_sld hX hbs dL_law_457 (fun y86 => ?_)
      refine zs_aload_n dL_law_458 rfl 0 rfl ?_
      refine zs_iload_n dL_law_459 rfl 3 rfl ?_
      refine zs_iconst (v := 2) dL_law_460 ciconst_2 ?_
      refine zs_iadd dL_law_461 ?_
      refine zs_sld hX hbs dL_law_462 (fun y87 => ?_)
      refine zs_invVWI (rest := [.int y83]) [.int y86, .int y87] dL_law_463 lk_L_52 rfl (fun _ h => th_X11_flip h) (zd1 rfl hd) rfl (Nat.le_of_ble_eq_true rfl) (ct_X11_flip E hE _ (zdl rfl hd) _ _ _ _) (fun y88 M89 => ?_)
      refine zs_icmp_eq dL_law_466 rfl ?_ ?_
      · exact hj1417 M89
      refine zs_iconst (v := 0) dL_law_469 ciconst_0 ?_
      exact zs_iretW dL_law_470 rfl
    refine zs_ite (fun hc100 => ?_) (fun hc100 => ?_)
    · refine zs_tsw dL_law_33 hc100 (by decide) (by decide) (by rfl) rfl ?_
      refine zs_aload_n dL_law_471 rfl 1 rfl ?_
      refine zs_aload_n dL_law_472 rfl 0 rfl ?_
      refine zs_iload_n dL_law_473 rfl 3 rfl ?_
      refine zs_iconst (v := 1) dL_law_474 ciconst_1 ?_
      refine zs_iadd dL_law_475 ?_
      refine zs_sld hX hbs dL_law_476 (fun y92 => ?_)
      refine zs_invVWI (rest := []) [.int y92] dL_law_477 lk_L_53 rfl (fun _ h => th_X10_turn h) (zd1 rfl hd) rfl (Nat.le_of_ble_eq_true rfl) (ct_X10_turn E hE _ (zdl rfl hd) _ _ _) (fun y93 M94 => ?_)
      refine zs_aload_n dL_law_480 rfl 2 rfl ?_
      refine zs_aload_n dL_law_481 rfl 0 rfl ?_
      refine zs_iload_n dL_law_482 rfl 3 rfl ?_
      refine zs_iconst (v := 1) dL_law_483 ciconst_1 ?_
      refine zs_iadd dL_law_484 ?_
      refine zs_sld hX hbs dL_law_485 (fun y96 => ?_)
      refine zs_invVWI (rest := [.int y93]) [.int y96] dL_law_486 lk_L_56 rfl (fun _ h => th_X11_turn h) (zd1 rfl hd) rfl (Nat.le_of_ble_eq_true rfl) (ct_X11_turn E hE _ (zdl rfl hd) _ _ _) (fun y97 M98 => ?_)
      refine zs_icmp_eq dL_law_489 rfl ?_ ?_
      · exact hj1417 M98
      refine zs_iconst (v := 0) dL_law_492 ciconst_0 ?_
      exact zs_iretW dL_law_493 rfl
    refine zs_ite (fun hc111 => ?_) (fun hc111 => ?_)
    · refine zs_tsw dL_law_33 hc111 (by decide) (by decide) (by rfl) rfl ?_
      refine zs_aload_n dL_law_494 rfl 1 rfl ?_
      refine zs_aload_n dL_law_495 rfl 0 rfl ?_
      refine zs_iload_n dL_law_496 rfl 3 rfl ?_
      refine zs_iconst (v := 1) dL_law_497 ciconst_1 ?_
      refine zs_iadd dL_law_498 ?_
      refine zs_sld hX hbs dL_law_499 (fun y101 => ?_)
      refine zs_aload_n dL_law_500 rfl 0 rfl ?_
      refine zs_iload_n dL_law_501 rfl 3 rfl ?_
      refine zs_iconst (v := 2) dL_law_502 ciconst_2 ?_
      refine zs_iadd dL_law_503 ?_
      refine zs_sld hX hbs dL_law_504 (fun y102 => ?_)
      refine zs_invVWI (rest := []) [.int y101, .int y102] dL_law_505 lk_L_57 rfl (fun _ h => th_X10_swing h) (zd1 rfl hd) rfl (Nat.le_of_ble_eq_true rfl) (ct_X10_swing E hE _ (zdl rfl hd) _ _ _ _) (fun y103 M104 => ?_)
      refine zs_aload_n dL_law_508 rfl 2 rfl ?_
      refine zs_aload_n dL_law_509 rfl 0 rfl ?_
      refine zs_iload_n dL_law_510 rfl 3 rfl ?_
      refine zs_iconst (v := 1) dL_law_511 ciconst_1 ?_
      refine zs_iadd dL_law_512 ?_
      refine zs_sld hX hbs dL_law_513 (fun y106 => ?_)
      refine zs_aload_n dL_law_514 rfl 0 rfl ?_
      refine zs_iload_n dL_law_515 rfl 3 rfl ?_
      refine zs_iconst (v := 2) dL_law_516 ciconst_2 ?_
      refine zs_iadd dL_law_517 ?_
      refine zs_sld hX hbs dL_law_518 (fun y107 => ?_)
      refine zs_invVWI (rest := [.int y103]) [.int y106, .int y107] dL_law_519 lk_L_60 rfl (fun _ h => th_X11_swing h) (zd1 rfl hd) rfl (Nat.le_of_ble_eq_true rfl) (ct_X11_swing E hE _ (zdl rfl hd) _ _ _ _) (fun y108 M109 => ?_)
      refine zs_icmp_eq dL_law_522 rfl ?_ ?_
      · exact hj1417 M109
      refine zs_iconst (v := 0) dL_law_525 ciconst_0 ?_
      exact zs_iretW dL_law_526 rfl
    refine zs_ite (fun hc122 => ?_) (fun hc122 => ?_)
    · refine zs_tsw dL_law_33 hc122 (by decide) (by decide) (by rfl) rfl ?_
      refine zs_aload_n dL_law_527 rfl 1 rfl ?_
      refine zs_aload_n dL_law_528 rfl 0 rfl ?_
      refine zs_iload_n dL_law_529 rfl 3 rfl ?_
      refine zs_iconst (v := 1) dL_law_530 ciconst_1 ?_
      refine zs_iadd dL_law_531 ?_
      refine zs_sld hX hbs dL_law_532 (fun y112 => ?_)
      refine zs_aload_n dL_law_533 rfl 0 rfl ?_
      refine zs_iload_n dL_law_534 rfl 3 rfl ?_
      refine zs_iconst (v := 2) dL_law_535 ciconst_2 ?_
      refine zs_iadd dL_law_536 ?_
      refine zs_sld hX hbs dL_law_537 (fun y113 => ?_)
      refine zs_invVWI (rest := []) [.int y112, .int y113] dL_law_538 lk_L_61 rfl (fun _ h => th_X10_rename h) (zd1 rfl hd) rfl (Nat.le_of_ble_eq_true rfl) (ct_X10_rename E hE _ (zdl rfl hd) _ _ _ _) (fun y114 M115 => ?_)
      refine zs_aload_n dL_law_541 rfl 2 rfl ?_
      refine zs_aload_n dL_law_542 rfl 0 rfl ?_
      refine zs_iload_n dL_law_543 rfl 3 rfl ?_
      refine zs_iconst (v := 1) dL_law_544 ciconst_1 ?_
      refine zs_iadd dL_law_545 ?_
      refine zs_sld hX hbs dL_law_546 (fun y117 => ?_)
      refine zs_aload_n dL_law_547 rfl 0 rfl ?_
      refine zs_iload_n dL_law_548 rfl 3 rfl ?_
      refine zs_iconst (v := 2) dL_law_549 ciconst_2 ?_
      refine zs_iadd dL_law_550 ?_
      refine zs_sld hX hbs dL_law_551 (fun y118 => ?_)
      refine zs_invVWI (rest := [.int y114]) [.int y117, .int y118] dL_law_552 lk_L_65 rfl (fun _ h => th_X11_rename h) (zd1 rfl hd) rfl (Nat.le_of_ble_eq_true rfl) (ct_X11_rename E hE _ (zdl rfl hd) _ _ _ _) (fun y119 M120 => ?_)
      refine zs_icmp_eq dL_law_555 rfl ?_ ?_
      · exact hj1417 M120
      refine zs_iconst (v := 0) dL_law_558 ciconst_0 ?_
      exact zs_iretW dL_law_559 rfl
    refine zs_ite (fun hc129 => ?_) (fun hc129 => ?_)
    · refine zs_tsw dL_law_33 hc129 (by decide) (by decide) (by rfl) rfl ?_
      refine zs_aload_n dL_law_560 rfl 1 rfl ?_
      refine zs_invVWI (rest := []) [] dL_law_561 lk_L_66 rfl (fun _ h => th_X10_undo h) (zd1 rfl hd) rfl (Nat.le_of_ble_eq_true rfl) (ct_X10_undo E hE _ (zdl rfl hd) _ _) (fun y123 M124 => ?_)
      refine zs_aload_n dL_law_564 rfl 2 rfl ?_
      refine zs_invVWI (rest := [.int y123]) [] dL_law_565 lk_L_69 rfl (fun _ h => th_X11_undo h) (zd1 rfl hd) rfl (Nat.le_of_ble_eq_true rfl) (ct_X11_undo E hE _ (zdl rfl hd) _ _) (fun y126 M127 => ?_)
      refine zs_icmp_eq dL_law_568 rfl ?_ ?_
      · exact hj1417 M127
      refine zs_iconst (v := 0) dL_law_571 ciconst_0 ?_
      exact zs_iretW dL_law_572 rfl
    refine zs_ite (fun hc138 => ?_) (fun hc138 => ?_)
    · refine zs_tsw dL_law_33 hc138 (by decide) (by decide) (by rfl) rfl ?_
      refine zs_aload_n dL_law_573 rfl 1 rfl ?_
      refine zs_aload_n dL_law_574 rfl 0 rfl ?_
      refine zs_iload_n dL_law_575 rfl 3 rfl ?_
      refine zs_iconst (v := 1) dL_law_576 ciconst_1 ?_
      refine zs_iadd dL_law_577 ?_
      refine zs_sld hX hbs dL_law_578 (fun y130 => ?_)
      refine zs_invVWI (rest := []) [.int y130] dL_law_579 lk_L_70 rfl (fun _ h => th_X10_image h) (zd1 rfl hd) rfl (Nat.le_of_ble_eq_true rfl) (ct_X10_image E hE _ (zdl rfl hd) _ _ _) (fun y131 M132 => ?_)
      refine zs_aload_n dL_law_582 rfl 2 rfl ?_
      refine zs_aload_n dL_law_583 rfl 0 rfl ?_
      refine zs_iload_n dL_law_584 rfl 3 rfl ?_
      refine zs_iconst (v := 1) dL_law_585 ciconst_1 ?_
      refine zs_iadd dL_law_586 ?_
      refine zs_sld hX hbs dL_law_587 (fun y134 => ?_)
      refine zs_invVWI (rest := [.int y131]) [.int y134] dL_law_588 lk_L_74 rfl (fun _ h => th_X11_image h) (zd1 rfl hd) rfl (Nat.le_of_ble_eq_true rfl) (ct_X11_image E hE _ (zdl rfl hd) _ _ _) (fun y135 M136 => ?_)
      refine zs_icmp_eq dL_law_591 rfl ?_ ?_
      · exact hj1417 M136
      refine zs_iconst (v := 0) dL_law_594 ciconst_0 ?_
      exact zs_iretW dL_law_595 rfl
    refine zs_ite (fun hc147 => ?_) (fun hc147 => ?_)
    · refine zs_tsw dL_law_33 hc147 (by decide) (by decide) (by rfl) rfl ?_
      refine zs_aload_n dL_law_596 rfl 1 rfl ?_
      refine zs_aload_n dL_law_597 rfl 0 rfl ?_
      refine zs_iload_n dL_law_598 rfl 3 rfl ?_
      refine zs_iconst (v := 1) dL_law_599 ciconst_1 ?_
      refine zs_iadd dL_law_600 ?_
      refine zs_sld hX hbs dL_law_601 (fun y139 => ?_)
      refine zs_invVWI (rest := []) [.int y139] dL_law_602 lk_L_75 rfl (fun _ h => th_X10_like h) (zd1 rfl hd) rfl (Nat.le_of_ble_eq_true rfl) (ct_X10_like E hE _ (zdl rfl hd) _ _ _) (fun y140 M141 => ?_)
      refine zs_aload_n dL_law_605 rfl 2 rfl ?_
      refine zs_aload_n dL_law_606 rfl 0 rfl ?_
      refine zs_iload_n dL_law_607 rfl 3 rfl ?_
      refine zs_iconst (v := 1) dL_law_608 ciconst_1 ?_
      refine zs_iadd dL_law_609 ?_
      refine zs_sld hX hbs dL_law_610 (fun y143 => ?_)
      refine zs_invVWI (rest := [.int y140]) [.int y143] dL_law_611 lk_L_78 rfl (fun _ h => th_X11_like h) (zd1 rfl hd) rfl (Nat.le_of_ble_eq_true rfl) (ct_X11_like E hE _ (zdl rfl hd) _ _ _) (fun y144 M145 => ?_)
      refine zs_icmp_eq dL_law_614 rfl ?_ ?_
      · exact hj1417 M145
      refine zs_iconst (v := 0) dL_law_617 ciconst_0 ?_
      exact zs_iretW dL_law_618 rfl
    refine zs_ite (fun hc156 => ?_) (fun hc156 => ?_)
    · refine zs_tsw dL_law_33 hc156 (by decide) (by decide) (by rfl) rfl ?_
      refine zs_aload_n dL_law_619 rfl 1 rfl ?_
      refine zs_aload_n dL_law_620 rfl 0 rfl ?_
      refine zs_iload_n dL_law_621 rfl 3 rfl ?_
      refine zs_iconst (v := 1) dL_law_622 ciconst_1 ?_
      refine zs_iadd dL_law_623 ?_
      refine zs_sld hX hbs dL_law_624 (fun y148 => ?_)
      refine zs_invVWI (rest := []) [.int y148] dL_law_625 lk_L_79 rfl (fun _ h => th_X10_order h) (zd1 rfl hd) rfl (Nat.le_of_ble_eq_true rfl) (ct_X10_order E hE _ (zdl rfl hd) _ _ _) (fun y149 M150 => ?_)
      refine zs_aload_n dL_law_628 rfl 2 rfl ?_
      refine zs_aload_n dL_law_629 rfl 0 rfl ?_
      refine zs_iload_n dL_law_630 rfl 3 rfl ?_
      refine zs_iconst (v := 1) dL_law_631 ciconst_1 ?_
      refine zs_iadd dL_law_632 ?_
      refine zs_sld hX hbs dL_law_633 (fun y152 => ?_)
      refine zs_invVWI (rest := [.int y149]) [.int y152] dL_law_634 lk_L_82 rfl (fun _ h => th_X11_order h) (zd1 rfl hd) rfl (Nat.le_of_ble_eq_true rfl) (ct_X11_order E hE _ (zdl rfl hd) _ _ _) (fun y153 M154 => ?_)
      refine zs_icmp_eq dL_law_637 rfl ?_ ?_
      · exact hj1417 M154
      refine zs_iconst (v := 0) dL_law_640 ciconst_0 ?_
      exact zs_iretW dL_law_641 rfl
    refine zs_ite (fun hc165 => ?_) (fun hc165 => ?_)
    · refine zs_tsw dL_law_33 hc165 (by decide) (by decide) (by rfl) rfl ?_
      refine zs_aload_n dL_law_642 rfl 1 rfl ?_
      refine zs_aload_n dL_law_643 rfl 0 rfl ?_
      refine zs_iload_n dL_law_644 rfl 3 rfl ?_
      refine zs_iconst (v := 1) dL_law_645 ciconst_1 ?_
      refine zs_iadd dL_law_646 ?_
      refine zs_sld hX hbs dL_law_647 (fun y157 => ?_)
      refine zs_invVWI (rest := []) [.int y157] dL_law_648 lk_L_83 rfl (fun _ h => th_X10_split h) (zd1 rfl hd) rfl (Nat.le_of_ble_eq_true rfl) (ct_X10_split E hE _ (zdl rfl hd) _ _ _) (fun y158 M159 => ?_)
      refine zs_aload_n dL_law_651 rfl 2 rfl ?_
      refine zs_aload_n dL_law_652 rfl 0 rfl ?_
      refine zs_iload_n dL_law_653 rfl 3 rfl ?_
      refine zs_iconst (v := 1) dL_law_654 ciconst_1 ?_
      refine zs_iadd dL_law_655 ?_
      refine zs_sld hX hbs dL_law_656 (fun y161 => ?_)
      refine zs_invVWI (rest := [.int y158]) [.int y161] dL_law_657 lk_L_86 rfl (fun _ h => th_X11_split h) (zd1 rfl hd) rfl (Nat.le_of_ble_eq_true rfl) (ct_X11_split E hE _ (zdl rfl hd) _ _ _) (fun y162 M163 => ?_)
      refine zs_icmp_eq dL_law_660 rfl ?_ ?_
      · exact hj1417 M163
      refine zs_iconst (v := 0) dL_law_663 ciconst_0 ?_
      exact zs_iretW dL_law_664 rfl
    refine zs_ite (fun hc174 => ?_) (fun hc174 => ?_)
    · refine zs_tsw dL_law_33 hc174 (by decide) (by decide) (by rfl) rfl ?_
      refine zs_aload_n dL_law_665 rfl 1 rfl ?_
      refine zs_aload_n dL_law_666 rfl 0 rfl ?_
      refine zs_iload_n dL_law_667 rfl 3 rfl ?_
      refine zs_iconst (v := 1) dL_law_668 ciconst_1 ?_
      refine zs_iadd dL_law_669 ?_
      refine zs_sld hX hbs dL_law_670 (fun y166 => ?_)
      refine zs_invVWI (rest := []) [.int y166] dL_law_671 lk_L_87 rfl (fun _ h => th_X10_strong h) (zd1 rfl hd) rfl (Nat.le_of_ble_eq_true rfl) (ct_X10_strong E hE _ (zdl rfl hd) _ _ _) (fun y167 M168 => ?_)
      refine zs_aload_n dL_law_674 rfl 2 rfl ?_
      refine zs_aload_n dL_law_675 rfl 0 rfl ?_
      refine zs_iload_n dL_law_676 rfl 3 rfl ?_
      refine zs_iconst (v := 1) dL_law_677 ciconst_1 ?_
      refine zs_iadd dL_law_678 ?_
      refine zs_sld hX hbs dL_law_679 (fun y170 => ?_)
      refine zs_invVWI (rest := [.int y167]) [.int y170] dL_law_680 lk_L_90 rfl (fun _ h => th_X11_strong h) (zd1 rfl hd) rfl (Nat.le_of_ble_eq_true rfl) (ct_X11_strong E hE _ (zdl rfl hd) _ _ _) (fun y171 M172 => ?_)
      refine zs_icmp_eq dL_law_683 rfl ?_ ?_
      · exact hj1417 M172
      refine zs_iconst (v := 0) dL_law_686 ciconst_0 ?_
      exact zs_iretW dL_law_687 rfl
    refine zs_ite (fun hc181 => ?_) (fun hc181 => ?_)
    · refine zs_tsw dL_law_33 hc181 (by decide) (by decide) (by rfl) rfl ?_
      refine zs_aload_n dL_law_688 rfl 1 rfl ?_
      refine zs_invVWI (rest := []) [] dL_law_689 lk_L_91 rfl (fun _ h => th_X10_prime h) (zd1 rfl hd) rfl (Nat.le_of_ble_eq_true rfl) (ct_X10_prime E hE _ (zdl rfl hd) _ _) (fun y175 M176 => ?_)
      refine zs_aload_n dL_law_692 rfl 2 rfl ?_
      refine zs_invVWI (rest := [.int y175]) [] dL_law_693 lk_L_94 rfl (fun _ h => th_X11_prime h) (zd1 rfl hd) rfl (Nat.le_of_ble_eq_true rfl) (ct_X11_prime E hE _ (zdl rfl hd) _ _) (fun y178 M179 => ?_)
      refine zs_icmp_eq dL_law_696 rfl ?_ ?_
      · exact hj1417 M179
      refine zs_iconst (v := 0) dL_law_699 ciconst_0 ?_
      exact zs_iretW dL_law_700 rfl
    refine zs_ite (fun hc192 => ?_) (fun hc192 => ?_)
    · refine zs_tsw dL_law_33 hc192 (by decide) (by decide) (by rfl) rfl ?_
      refine zs_aload_n dL_law_701 rfl 1 rfl ?_
      refine zs_aload_n dL_law_702 rfl 0 rfl ?_
      refine zs_iload_n dL_law_703 rfl 3 rfl ?_
      refine zs_iconst (v := 1) dL_law_704 ciconst_1 ?_
      refine zs_iadd dL_law_705 ?_
      refine zs_sld hX hbs dL_law_706 (fun y182 => ?_)
      refine zs_aload_n dL_law_707 rfl 0 rfl ?_
      refine zs_iload_n dL_law_708 rfl 3 rfl ?_
      refine zs_iconst (v := 2) dL_law_709 ciconst_2 ?_
      refine zs_iadd dL_law_710 ?_
      refine zs_sld hX hbs dL_law_711 (fun y183 => ?_)
      refine zs_invVWI (rest := []) [.int y182, .int y183] dL_law_712 lk_L_95 rfl (fun _ h => th_X10_piece h) (zd1 rfl hd) rfl (Nat.le_of_ble_eq_true rfl) (ct_X10_piece E hE _ (zdl rfl hd) _ _ _ _) (fun y184 M185 => ?_)
      refine zs_aload_n dL_law_715 rfl 2 rfl ?_
      refine zs_aload_n dL_law_716 rfl 0 rfl ?_
      refine zs_iload_n dL_law_717 rfl 3 rfl ?_
      refine zs_iconst (v := 1) dL_law_718 ciconst_1 ?_
      refine zs_iadd dL_law_719 ?_
      refine zs_sld hX hbs dL_law_720 (fun y187 => ?_)
      refine zs_aload_n dL_law_721 rfl 0 rfl ?_
      refine zs_iload_n dL_law_722 rfl 3 rfl ?_
      refine zs_iconst (v := 2) dL_law_723 ciconst_2 ?_
      refine zs_iadd dL_law_724 ?_
      refine zs_sld hX hbs dL_law_725 (fun y188 => ?_)
      refine zs_invVWI (rest := [.int y184]) [.int y187, .int y188] dL_law_726 lk_L_98 rfl (fun _ h => th_X11_piece h) (zd1 rfl hd) rfl (Nat.le_of_ble_eq_true rfl) (ct_X11_piece E hE _ (zdl rfl hd) _ _ _ _) (fun y189 M190 => ?_)
      refine zs_icmp_eq dL_law_729 rfl ?_ ?_
      · exact hj1417 M190
      refine zs_iconst (v := 0) dL_law_732 ciconst_0 ?_
      exact zs_iretW dL_law_733 rfl
    refine zs_ite (fun hc203 => ?_) (fun hc203 => ?_)
    · refine zs_tsw dL_law_33 hc203 (by decide) (by decide) (by rfl) rfl ?_
      refine zs_aload_n dL_law_734 rfl 1 rfl ?_
      refine zs_aload_n dL_law_735 rfl 0 rfl ?_
      refine zs_iload_n dL_law_736 rfl 3 rfl ?_
      refine zs_iconst (v := 1) dL_law_737 ciconst_1 ?_
      refine zs_iadd dL_law_738 ?_
      refine zs_sld hX hbs dL_law_739 (fun y193 => ?_)
      refine zs_aload_n dL_law_740 rfl 0 rfl ?_
      refine zs_iload_n dL_law_741 rfl 3 rfl ?_
      refine zs_iconst (v := 2) dL_law_742 ciconst_2 ?_
      refine zs_iadd dL_law_743 ?_
      refine zs_sld hX hbs dL_law_744 (fun y194 => ?_)
      refine zs_invVWI (rest := []) [.int y193, .int y194] dL_law_745 lk_L_99 rfl (fun _ h => th_X10_knot h) (zd1 rfl hd) rfl (Nat.le_of_ble_eq_true rfl) (ct_X10_knot E hE _ (zdl rfl hd) _ _ _ _) (fun y195 M196 => ?_)
      refine zs_aload_n dL_law_748 rfl 2 rfl ?_
      refine zs_aload_n dL_law_749 rfl 0 rfl ?_
      refine zs_iload_n dL_law_750 rfl 3 rfl ?_
      refine zs_iconst (v := 1) dL_law_751 ciconst_1 ?_
      refine zs_iadd dL_law_752 ?_
      refine zs_sld hX hbs dL_law_753 (fun y198 => ?_)
      refine zs_aload_n dL_law_754 rfl 0 rfl ?_
      refine zs_iload_n dL_law_755 rfl 3 rfl ?_
      refine zs_iconst (v := 2) dL_law_756 ciconst_2 ?_
      refine zs_iadd dL_law_757 ?_
      refine zs_sld hX hbs dL_law_758 (fun y199 => ?_)
      refine zs_invVWI (rest := [.int y195]) [.int y198, .int y199] dL_law_759 lk_L_102 rfl (fun _ h => th_X11_knot h) (zd1 rfl hd) rfl (Nat.le_of_ble_eq_true rfl) (ct_X11_knot E hE _ (zdl rfl hd) _ _ _ _) (fun y200 M201 => ?_)
      refine zs_icmp_eq dL_law_762 rfl ?_ ?_
      · exact hj1417 M201
      refine zs_iconst (v := 0) dL_law_765 ciconst_0 ?_
      exact zs_iretW dL_law_766 rfl
    refine zs_ite (fun hc214 => ?_) (fun hc214 => ?_)
    · refine zs_tsw dL_law_33 hc214 (by decide) (by decide) (by rfl) rfl ?_
      refine zs_aload_n dL_law_767 rfl 1 rfl ?_
      refine zs_aload_n dL_law_768 rfl 0 rfl ?_
      refine zs_iload_n dL_law_769 rfl 3 rfl ?_
      refine zs_iconst (v := 1) dL_law_770 ciconst_1 ?_
      refine zs_iadd dL_law_771 ?_
      refine zs_sld hX hbs dL_law_772 (fun y204 => ?_)
      refine zs_aload_n dL_law_773 rfl 0 rfl ?_
      refine zs_iload_n dL_law_774 rfl 3 rfl ?_
      refine zs_iconst (v := 2) dL_law_775 ciconst_2 ?_
      refine zs_iadd dL_law_776 ?_
      refine zs_sld hX hbs dL_law_777 (fun y205 => ?_)
      refine zs_invVWI (rest := []) [.int y204, .int y205] dL_law_778 lk_L_103 rfl (fun _ h => th_X10_ties h) (zd1 rfl hd) rfl (Nat.le_of_ble_eq_true rfl) (ct_X10_ties E hE _ (zdl rfl hd) _ _ _ _) (fun y206 M207 => ?_)
      refine zs_aload_n dL_law_781 rfl 2 rfl ?_
      refine zs_aload_n dL_law_782 rfl 0 rfl ?_
      refine zs_iload_n dL_law_783 rfl 3 rfl ?_
      refine zs_iconst (v := 1) dL_law_784 ciconst_1 ?_
      refine zs_iadd dL_law_785 ?_
      refine zs_sld hX hbs dL_law_786 (fun y209 => ?_)
      refine zs_aload_n dL_law_787 rfl 0 rfl ?_
      refine zs_iload_n dL_law_788 rfl 3 rfl ?_
      refine zs_iconst (v := 2) dL_law_789 ciconst_2 ?_
      refine zs_iadd dL_law_790 ?_
      refine zs_sld hX hbs dL_law_791 (fun y210 => ?_)
      refine zs_invVWI (rest := [.int y206]) [.int y209, .int y210] dL_law_792 lk_L_106 rfl (fun _ h => th_X11_ties h) (zd1 rfl hd) rfl (Nat.le_of_ble_eq_true rfl) (ct_X11_ties E hE _ (zdl rfl hd) _ _ _ _) (fun y211 M212 => ?_)
      refine zs_icmp_eq dL_law_795 rfl ?_ ?_
      · exact hj1417 M212
      refine zs_iconst (v := 0) dL_law_798 ciconst_0 ?_
      exact zs_iretW dL_law_799 rfl
    refine zs_ite (fun hc221 => ?_) (fun hc221 => ?_)
    · refine zs_tsw dL_law_33 hc221 (by decide) (by decide) (by rfl) rfl ?_
      refine zs_aload_n dL_law_800 rfl 1 rfl ?_
      refine zs_invVWI (rest := []) [] dL_law_801 lk_L_107 rfl (fun _ h => th_X10_plain h) (zd1 rfl hd) rfl (Nat.le_of_ble_eq_true rfl) (ct_X10_plain E hE _ (zdl rfl hd) _ _) (fun y215 M216 => ?_)
      refine zs_aload_n dL_law_804 rfl 2 rfl ?_
      refine zs_invVWI (rest := [.int y215]) [] dL_law_805 lk_L_110 rfl (fun _ h => th_X11_plain h) (zd1 rfl hd) rfl (Nat.le_of_ble_eq_true rfl) (ct_X11_plain E hE _ (zdl rfl hd) _ _) (fun y218 M219 => ?_)
      refine zs_icmp_eq dL_law_808 rfl ?_ ?_
      · exact hj1417 M219
      refine zs_iconst (v := 0) dL_law_811 ciconst_0 ?_
      exact zs_iretW dL_law_812 rfl
    refine zs_ite (fun hc230 => ?_) (fun hc230 => ?_)
    · refine zs_tsw dL_law_33 hc230 (by decide) (by decide) (by rfl) rfl ?_
      refine zs_aload_n dL_law_813 rfl 1 rfl ?_
      refine zs_aload_n dL_law_814 rfl 0 rfl ?_
      refine zs_iload_n dL_law_815 rfl 3 rfl ?_
      refine zs_iconst (v := 1) dL_law_816 ciconst_1 ?_
      refine zs_iadd dL_law_817 ?_
      refine zs_sld hX hbs dL_law_818 (fun y222 => ?_)
      refine zs_invVWI (rest := []) [.int y222] dL_law_819 lk_L_111 rfl (fun _ h => th_X10_twins h) (zd1 rfl hd) rfl (Nat.le_of_ble_eq_true rfl) (ct_X10_twins E hE _ (zdl rfl hd) _ _ _) (fun y223 M224 => ?_)
      refine zs_aload_n dL_law_822 rfl 2 rfl ?_
      refine zs_aload_n dL_law_823 rfl 0 rfl ?_
      refine zs_iload_n dL_law_824 rfl 3 rfl ?_
      refine zs_iconst (v := 1) dL_law_825 ciconst_1 ?_
      refine zs_iadd dL_law_826 ?_
      refine zs_sld hX hbs dL_law_827 (fun y226 => ?_)
      refine zs_invVWI (rest := [.int y223]) [.int y226] dL_law_828 lk_L_114 rfl (fun _ h => th_X11_twins h) (zd1 rfl hd) rfl (Nat.le_of_ble_eq_true rfl) (ct_X11_twins E hE _ (zdl rfl hd) _ _ _) (fun y227 M228 => ?_)
      refine zs_icmp_eq dL_law_831 rfl ?_ ?_
      · exact hj1417 M228
      refine zs_iconst (v := 0) dL_law_834 ciconst_0 ?_
      exact zs_iretW dL_law_835 rfl
    refine zs_ite (fun hc239 => ?_) (fun hc239 => ?_)
    · refine zs_tsw dL_law_33 hc239 (by decide) (by decide) (by rfl) rfl ?_
      refine zs_aload_n dL_law_836 rfl 1 rfl ?_
      refine zs_aload_n dL_law_837 rfl 0 rfl ?_
      refine zs_iload_n dL_law_838 rfl 3 rfl ?_
      refine zs_iconst (v := 1) dL_law_839 ciconst_1 ?_
      refine zs_iadd dL_law_840 ?_
      refine zs_sld hX hbs dL_law_841 (fun y231 => ?_)
      refine zs_invVWI (rest := []) [.int y231] dL_law_842 lk_L_115 rfl (fun _ h => th_X10_most h) (zd1 rfl hd) rfl (Nat.le_of_ble_eq_true rfl) (ct_X10_most E hE _ (zdl rfl hd) _ _ _) (fun y232 M233 => ?_)
      refine zs_aload_n dL_law_845 rfl 2 rfl ?_
      refine zs_aload_n dL_law_846 rfl 0 rfl ?_
      refine zs_iload_n dL_law_847 rfl 3 rfl ?_
      refine zs_iconst (v := 1) dL_law_848 ciconst_1 ?_
      refine zs_iadd dL_law_849 ?_
      refine zs_sld hX hbs dL_law_850 (fun y235 => ?_)
      refine zs_invVWI (rest := [.int y232]) [.int y235] dL_law_851 lk_L_118 rfl (fun _ h => th_X11_most h) (zd1 rfl hd) rfl (Nat.le_of_ble_eq_true rfl) (ct_X11_most E hE _ (zdl rfl hd) _ _ _) (fun y236 M237 => ?_)
      refine zs_icmp_eq dL_law_854 rfl ?_ ?_
      · exact hj1417 M237
      refine zs_iconst (v := 0) dL_law_857 ciconst_0 ?_
      exact zs_iretW dL_law_858 rfl
    refine zs_ite (fun hc246 => ?_) (fun hc246 => ?_)
    · refine zs_tsw dL_law_33 hc246 (by decide) (by decide) (by rfl) rfl ?_
      refine zs_aload_n dL_law_859 rfl 1 rfl ?_
      refine zs_invVWI (rest := []) [] dL_law_860 lk_L_119 rfl (fun _ h => th_X10_colours h) (zd1 rfl hd) rfl (Nat.le_of_ble_eq_true rfl) (ct_X10_colours E hE _ (zdl rfl hd) _ _) (fun y240 M241 => ?_)
      refine zs_aload_n dL_law_863 rfl 2 rfl ?_
      refine zs_invVWI (rest := [.int y240]) [] dL_law_864 lk_L_122 rfl (fun _ h => th_X11_colours h) (zd1 rfl hd) rfl (Nat.le_of_ble_eq_true rfl) (ct_X11_colours E hE _ (zdl rfl hd) _ _) (fun y243 M244 => ?_)
      refine zs_icmp_eq dL_law_867 rfl ?_ ?_
      · exact hj1417 M244
      refine zs_iconst (v := 0) dL_law_870 ciconst_0 ?_
      exact zs_iretW dL_law_871 rfl
    refine zs_ite (fun hc255 => ?_) (fun hc255 => ?_)
    · refine zs_tsw dL_law_33 hc255 (by decide) (by decide) (by rfl) rfl ?_
      refine zs_aload_n dL_law_872 rfl 1 rfl ?_
      refine zs_aload_n dL_law_873 rfl 0 rfl ?_
      refine zs_iload_n dL_law_874 rfl 3 rfl ?_
      refine zs_iconst (v := 1) dL_law_875 ciconst_1 ?_
      refine zs_iadd dL_law_876 ?_
      refine zs_sld hX hbs dL_law_877 (fun y247 => ?_)
      refine zs_invVWJ (rest := []) [.int y247] dL_law_878 lk_L_123 rfl (fun _ h => th_X10_paintings h) (zd1 rfl hd) rfl (Nat.le_of_ble_eq_true rfl) (ct_X10_paintings E hE _ (zdl rfl hd) _ _ _) (fun y248 M249 => ?_)
      refine zs_aload_n dL_law_881 rfl 2 rfl ?_
      refine zs_aload_n dL_law_882 rfl 0 rfl ?_
      refine zs_iload_n dL_law_883 rfl 3 rfl ?_
      refine zs_iconst (v := 1) dL_law_884 ciconst_1 ?_
      refine zs_iadd dL_law_885 ?_
      refine zs_sld hX hbs dL_law_886 (fun y251 => ?_)
      refine zs_invVWJ (rest := [.long y248]) [.int y251] dL_law_887 lk_L_127 rfl (fun _ h => th_X11_paintings h) (zd1 rfl hd) rfl (Nat.le_of_ble_eq_true rfl) (ct_X11_paintings E hE _ (zdl rfl hd) _ _ _) (fun y252 M253 => ?_)
      refine zs_lcmp dL_law_890 ?_
      refine zs_if_eq dL_law_891 rfl ?_ ?_
      · exact hj1417 M253
      refine zs_iconst (v := 0) dL_law_894 ciconst_0 ?_
      exact zs_iretW dL_law_895 rfl
    refine zs_ite (fun hc266 => ?_) (fun hc266 => ?_)
    · refine zs_tsw dL_law_33 hc266 (by decide) (by decide) (by rfl) rfl ?_
      refine zs_aload_n dL_law_896 rfl 1 rfl ?_
      refine zs_aload_n dL_law_897 rfl 0 rfl ?_
      refine zs_iload_n dL_law_898 rfl 3 rfl ?_
      refine zs_iconst (v := 1) dL_law_899 ciconst_1 ?_
      refine zs_iadd dL_law_900 ?_
      refine zs_sld hX hbs dL_law_901 (fun y256 => ?_)
      refine zs_aload_n dL_law_902 rfl 0 rfl ?_
      refine zs_iload_n dL_law_903 rfl 3 rfl ?_
      refine zs_iconst (v := 2) dL_law_904 ciconst_2 ?_
      refine zs_iadd dL_law_905 ?_
      refine zs_sld hX hbs dL_law_906 (fun y257 => ?_)
      refine zs_invVWI (rest := []) [.int y256, .int y257] dL_law_907 lk_L_128 rfl (fun _ h => th_X10_letter h) (zd1 rfl hd) rfl (Nat.le_of_ble_eq_true rfl) (ct_X10_letter E hE _ (zdl rfl hd) _ _ _ _) (fun y258 M259 => ?_)
      refine zs_aload_n dL_law_910 rfl 2 rfl ?_
      refine zs_aload_n dL_law_911 rfl 0 rfl ?_
      refine zs_iload_n dL_law_912 rfl 3 rfl ?_
      refine zs_iconst (v := 1) dL_law_913 ciconst_1 ?_
      refine zs_iadd dL_law_914 ?_
      refine zs_sld hX hbs dL_law_915 (fun y261 => ?_)
      refine zs_aload_n dL_law_916 rfl 0 rfl ?_
      refine zs_iload_n dL_law_917 rfl 3 rfl ?_
      refine zs_iconst (v := 2) dL_law_918 ciconst_2 ?_
      refine zs_iadd dL_law_919 ?_
      refine zs_sld hX hbs dL_law_920 (fun y262 => ?_)
      refine zs_invVWI (rest := [.int y258]) [.int y261, .int y262] dL_law_921 lk_L_131 rfl (fun _ h => th_X11_letter h) (zd1 rfl hd) rfl (Nat.le_of_ble_eq_true rfl) (ct_X11_letter E hE _ (zdl rfl hd) _ _ _ _) (fun y263 M264 => ?_)
      refine zs_icmp_eq dL_law_924 rfl ?_ ?_
      · exact hj1417 M264
      refine zs_iconst (v := 0) dL_law_927 ciconst_0 ?_
      exact zs_iretW dL_law_928 rfl
    refine zs_ite (fun hc277 => ?_) (fun hc277 => ?_)
    · refine zs_tsw dL_law_33 hc277 (by decide) (by decide) (by rfl) rfl ?_
      refine zs_aload_n dL_law_929 rfl 1 rfl ?_
      refine zs_aload_n dL_law_930 rfl 0 rfl ?_
      refine zs_iload_n dL_law_931 rfl 3 rfl ?_
      refine zs_iconst (v := 1) dL_law_932 ciconst_1 ?_
      refine zs_iadd dL_law_933 ?_
      refine zs_sld hX hbs dL_law_934 (fun y267 => ?_)
      refine zs_aload_n dL_law_935 rfl 0 rfl ?_
      refine zs_iload_n dL_law_936 rfl 3 rfl ?_
      refine zs_iconst (v := 2) dL_law_937 ciconst_2 ?_
      refine zs_iadd dL_law_938 ?_
      refine zs_sld hX hbs dL_law_939 (fun y268 => ?_)
      refine zs_invVWI (rest := []) [.int y267, .int y268] dL_law_940 lk_L_132 rfl (fun _ h => th_X10_span h) (zd1 rfl hd) rfl (Nat.le_of_ble_eq_true rfl) (ct_X10_span E hE _ (zdl rfl hd) _ _ _ _) (fun y269 M270 => ?_)
      refine zs_aload_n dL_law_943 rfl 2 rfl ?_
      refine zs_aload_n dL_law_944 rfl 0 rfl ?_
      refine zs_iload_n dL_law_945 rfl 3 rfl ?_
      refine zs_iconst (v := 1) dL_law_946 ciconst_1 ?_
      refine zs_iadd dL_law_947 ?_
      refine zs_sld hX hbs dL_law_948 (fun y272 => ?_)
      refine zs_aload_n dL_law_949 rfl 0 rfl ?_
      refine zs_iload_n dL_law_950 rfl 3 rfl ?_
      refine zs_iconst (v := 2) dL_law_951 ciconst_2 ?_
      refine zs_iadd dL_law_952 ?_
      refine zs_sld hX hbs dL_law_953 (fun y273 => ?_)
      refine zs_invVWI (rest := [.int y269]) [.int y272, .int y273] dL_law_954 lk_L_135 rfl (fun _ h => th_X11_span h) (zd1 rfl hd) rfl (Nat.le_of_ble_eq_true rfl) (ct_X11_span E hE _ (zdl rfl hd) _ _ _ _) (fun y274 M275 => ?_)
      refine zs_icmp_eq dL_law_957 rfl ?_ ?_
      · exact hj1417 M275
      refine zs_iconst (v := 0) dL_law_960 ciconst_0 ?_
      exact zs_iretW dL_law_961 rfl
    refine zs_ite (fun hc288 => ?_) (fun hc288 => ?_)
    · refine zs_tsw dL_law_33 hc288 (by decide) (by decide) (by rfl) rfl ?_
      refine zs_aload_n dL_law_962 rfl 1 rfl ?_
      refine zs_aload_n dL_law_963 rfl 0 rfl ?_
      refine zs_iload_n dL_law_964 rfl 3 rfl ?_
      refine zs_iconst (v := 1) dL_law_965 ciconst_1 ?_
      refine zs_iadd dL_law_966 ?_
      refine zs_sld hX hbs dL_law_967 (fun y278 => ?_)
      refine zs_aload_n dL_law_968 rfl 0 rfl ?_
      refine zs_iload_n dL_law_969 rfl 3 rfl ?_
      refine zs_iconst (v := 2) dL_law_970 ciconst_2 ?_
      refine zs_iadd dL_law_971 ?_
      refine zs_sld hX hbs dL_law_972 (fun y279 => ?_)
      refine zs_invVWI (rest := []) [.int y278, .int y279] dL_law_973 lk_L_136 rfl (fun _ h => th_X10_mean h) (zd1 rfl hd) rfl (Nat.le_of_ble_eq_true rfl) (ct_X10_mean E hE _ (zdl rfl hd) _ _ _ _) (fun y280 M281 => ?_)
      refine zs_aload_n dL_law_976 rfl 2 rfl ?_
      refine zs_aload_n dL_law_977 rfl 0 rfl ?_
      refine zs_iload_n dL_law_978 rfl 3 rfl ?_
      refine zs_iconst (v := 1) dL_law_979 ciconst_1 ?_
      refine zs_iadd dL_law_980 ?_
      refine zs_sld hX hbs dL_law_981 (fun y283 => ?_)
      refine zs_aload_n dL_law_982 rfl 0 rfl ?_
      refine zs_iload_n dL_law_983 rfl 3 rfl ?_
      refine zs_iconst (v := 2) dL_law_984 ciconst_2 ?_
      refine zs_iadd dL_law_985 ?_
      refine zs_sld hX hbs dL_law_986 (fun y284 => ?_)
      refine zs_invVWI (rest := [.int y280]) [.int y283, .int y284] dL_law_987 lk_L_139 rfl (fun _ h => th_X11_mean h) (zd1 rfl hd) rfl (Nat.le_of_ble_eq_true rfl) (ct_X11_mean E hE _ (zdl rfl hd) _ _ _ _) (fun y285 M286 => ?_)
      refine zs_icmp_eq dL_law_990 rfl ?_ ?_
      · exact hj1417 M286
      refine zs_iconst (v := 0) dL_law_993 ciconst_0 ?_
      exact zs_iretW dL_law_994 rfl
    refine zs_ite (fun hc297 => ?_) (fun hc297 => ?_)
    · refine zs_tsw dL_law_33 hc297 (by decide) (by decide) (by rfl) rfl ?_
      refine zs_aload_n dL_law_995 rfl 1 rfl ?_
      refine zs_aload_n dL_law_996 rfl 0 rfl ?_
      refine zs_iload_n dL_law_997 rfl 3 rfl ?_
      refine zs_iconst (v := 1) dL_law_998 ciconst_1 ?_
      refine zs_iadd dL_law_999 ?_
      refine zs_sld hX hbs dL_law_1000 (fun y289 => ?_)
      refine zs_invVWI (rest := []) [.int y289] dL_law_1001 lk_L_140 rfl (fun _ h => th_X10_find h) (zd1 rfl hd) rfl (Nat.le_of_ble_eq_true rfl) (ct_X10_find E hE _ (zdl rfl hd) _ _ _) (fun y290 M291 => ?_)
      refine zs_aload_n dL_law_1004 rfl 2 rfl ?_
      refine zs_aload_n dL_law_1005 rfl 0 rfl ?_
      refine zs_iload_n dL_law_1006 rfl 3 rfl ?_
      refine zs_iconst (v := 1) dL_law_1007 ciconst_1 ?_
      refine zs_iadd dL_law_1008 ?_
      refine zs_sld hX hbs dL_law_1009 (fun y293 => ?_)
      refine zs_invVWI (rest := [.int y290]) [.int y293] dL_law_1010 lk_L_143 rfl (fun _ h => th_X11_find h) (zd1 rfl hd) rfl (Nat.le_of_ble_eq_true rfl) (ct_X11_find E hE _ (zdl rfl hd) _ _ _) (fun y294 M295 => ?_)
      refine zs_icmp_eq dL_law_1013 rfl ?_ ?_
      · exact hj1417 M295
      refine zs_iconst (v := 0) dL_law_1016 ciconst_0 ?_
      exact zs_iretW dL_law_1017 rfl
    refine zs_ite (fun hc310 => ?_) (fun hc310 => ?_)
    · refine zs_tsw dL_law_33 hc310 (by decide) (by decide) (by rfl) rfl ?_
      refine zs_aload_n dL_law_1018 rfl 1 rfl ?_
      refine zs_aload_n dL_law_1019 rfl 0 rfl ?_
      refine zs_iload_n dL_law_1020 rfl 3 rfl ?_
      refine zs_iconst (v := 1) dL_law_1021 ciconst_1 ?_
      refine zs_iadd dL_law_1022 ?_
      refine zs_sld hX hbs dL_law_1023 (fun y298 => ?_)
      refine zs_aload_n dL_law_1024 rfl 0 rfl ?_
      refine zs_iload_n dL_law_1025 rfl 3 rfl ?_
      refine zs_iconst (v := 2) dL_law_1026 ciconst_2 ?_
      refine zs_iadd dL_law_1027 ?_
      refine zs_sld hX hbs dL_law_1028 (fun y299 => ?_)
      refine zs_aload_n dL_law_1029 rfl 0 rfl ?_
      refine zs_iload_n dL_law_1030 rfl 3 rfl ?_
      refine zs_iconst (v := 3) dL_law_1031 ciconst_3 ?_
      refine zs_iadd dL_law_1032 ?_
      refine zs_sld hX hbs dL_law_1033 (fun y300 => ?_)
      refine zs_invVWI (rest := []) [.int y298, .int y299, .int y300] dL_law_1034 lk_L_144 rfl (fun _ h => th_X10_cross h) (zd1 rfl hd) rfl (Nat.le_of_ble_eq_true rfl) (ct_X10_cross E hE _ (zdl rfl hd) _ _ _ _ _) (fun y301 M302 => ?_)
      refine zs_aload_n dL_law_1037 rfl 2 rfl ?_
      refine zs_aload_n dL_law_1038 rfl 0 rfl ?_
      refine zs_iload_n dL_law_1039 rfl 3 rfl ?_
      refine zs_iconst (v := 1) dL_law_1040 ciconst_1 ?_
      refine zs_iadd dL_law_1041 ?_
      refine zs_sld hX hbs dL_law_1042 (fun y304 => ?_)
      refine zs_aload_n dL_law_1043 rfl 0 rfl ?_
      refine zs_iload_n dL_law_1044 rfl 3 rfl ?_
      refine zs_iconst (v := 2) dL_law_1045 ciconst_2 ?_
      refine zs_iadd dL_law_1046 ?_
      refine zs_sld hX hbs dL_law_1047 (fun y305 => ?_)
      refine zs_aload_n dL_law_1048 rfl 0 rfl ?_
      refine zs_iload_n dL_law_1049 rfl 3 rfl ?_
      refine zs_iconst (v := 3) dL_law_1050 ciconst_3 ?_
      refine zs_iadd dL_law_1051 ?_
      refine zs_sld hX hbs dL_law_1052 (fun y306 => ?_)
      refine zs_invVWI (rest := [.int y301]) [.int y304, .int y305, .int y306] dL_law_1053 lk_L_148 rfl (fun _ h => th_X11_cross h) (zd1 rfl hd) rfl (Nat.le_of_ble_eq_true rfl) (ct_X11_cross E hE _ (zdl rfl hd) _ _ _ _ _) (fun y307 M308 => ?_)
      refine zs_icmp_eq dL_law_1056 rfl ?_ ?_
      · exact hj1417 M308
      refine zs_iconst (v := 0) dL_law_1059 ciconst_0 ?_
      exact zs_iretW dL_law_1060 rfl
    refine zs_ite (fun hc321 => ?_) (fun hc321 => ?_)
    · refine zs_tsw dL_law_33 hc321 (by decide) (by decide) (by rfl) rfl ?_
      refine zs_aload_n dL_law_1061 rfl 1 rfl ?_
      refine zs_aload_n dL_law_1062 rfl 0 rfl ?_
      refine zs_iload_n dL_law_1063 rfl 3 rfl ?_
      refine zs_iconst (v := 1) dL_law_1064 ciconst_1 ?_
      refine zs_iadd dL_law_1065 ?_
      refine zs_sld hX hbs dL_law_1066 (fun y311 => ?_)
      refine zs_aload_n dL_law_1067 rfl 0 rfl ?_
      refine zs_iload_n dL_law_1068 rfl 3 rfl ?_
      refine zs_iconst (v := 2) dL_law_1069 ciconst_2 ?_
      refine zs_iadd dL_law_1070 ?_
      refine zs_sld hX hbs dL_law_1071 (fun y312 => ?_)
      refine zs_invVWI (rest := []) [.int y311, .int y312] dL_law_1072 lk_L_149 rfl (fun _ h => th_X10_fits h) (zd1 rfl hd) rfl (Nat.le_of_ble_eq_true rfl) (ct_X10_fits E hE _ (zdl rfl hd) _ _ _ _) (fun y313 M314 => ?_)
      refine zs_aload_n dL_law_1075 rfl 2 rfl ?_
      refine zs_aload_n dL_law_1076 rfl 0 rfl ?_
      refine zs_iload_n dL_law_1077 rfl 3 rfl ?_
      refine zs_iconst (v := 1) dL_law_1078 ciconst_1 ?_
      refine zs_iadd dL_law_1079 ?_
      refine zs_sld hX hbs dL_law_1080 (fun y316 => ?_)
      refine zs_aload_n dL_law_1081 rfl 0 rfl ?_
      refine zs_iload_n dL_law_1082 rfl 3 rfl ?_
      refine zs_iconst (v := 2) dL_law_1083 ciconst_2 ?_
      refine zs_iadd dL_law_1084 ?_
      refine zs_sld hX hbs dL_law_1085 (fun y317 => ?_)
      refine zs_invVWI (rest := [.int y313]) [.int y316, .int y317] dL_law_1086 lk_L_152 rfl (fun _ h => th_X11_fits h) (zd1 rfl hd) rfl (Nat.le_of_ble_eq_true rfl) (ct_X11_fits E hE _ (zdl rfl hd) _ _ _ _) (fun y318 M319 => ?_)
      refine zs_icmp_eq dL_law_1089 rfl ?_ ?_
      · exact hj1417 M319
      refine zs_iconst (v := 0) dL_law_1092 ciconst_0 ?_
      exact zs_iretW dL_law_1093 rfl
    refine zs_ite (fun hc336 => ?_) (fun hc336 => ?_)
    · refine zs_tsw dL_law_33 hc336 (by decide) (by decide) (by rfl) rfl ?_
      refine zs_aload_n dL_law_1094 rfl 1 rfl ?_
      refine zs_aload_n dL_law_1095 rfl 0 rfl ?_
      refine zs_iload_n dL_law_1096 rfl 3 rfl ?_
      refine zs_iconst (v := 1) dL_law_1097 ciconst_1 ?_
      refine zs_iadd dL_law_1098 ?_
      refine zs_sld hX hbs dL_law_1099 (fun y322 => ?_)
      refine zs_aload_n dL_law_1100 rfl 0 rfl ?_
      refine zs_iload_n dL_law_1101 rfl 3 rfl ?_
      refine zs_iconst (v := 2) dL_law_1102 ciconst_2 ?_
      refine zs_iadd dL_law_1103 ?_
      refine zs_sld hX hbs dL_law_1104 (fun y323 => ?_)
      refine zs_aload_n dL_law_1105 rfl 0 rfl ?_
      refine zs_iload_n dL_law_1106 rfl 3 rfl ?_
      refine zs_iconst (v := 3) dL_law_1107 ciconst_3 ?_
      refine zs_iadd dL_law_1108 ?_
      refine zs_sld hX hbs dL_law_1109 (fun y324 => ?_)
      refine zs_aload_n dL_law_1110 rfl 0 rfl ?_
      refine zs_iload_n dL_law_1111 rfl 3 rfl ?_
      refine zs_iconst (v := 4) dL_law_1112 ciconst_4 ?_
      refine zs_iadd dL_law_1113 ?_
      refine zs_sld hX hbs dL_law_1114 (fun y325 => ?_)
      refine zs_invVWI (rest := []) [.int y322, .int y323, .int y324, .int y325] dL_law_1115 lk_L_153 rfl (fun _ h => th_X10_gap h) (zd1 rfl hd) rfl (Nat.le_of_ble_eq_true rfl) (ct_X10_gap E hE _ (zdl rfl hd) _ _ _ _ _ _) (fun y326 M327 => ?_)
      refine zs_aload_n dL_law_1118 rfl 2 rfl ?_
      refine zs_aload_n dL_law_1119 rfl 0 rfl ?_
      refine zs_iload_n dL_law_1120 rfl 3 rfl ?_
      refine zs_iconst (v := 1) dL_law_1121 ciconst_1 ?_
      refine zs_iadd dL_law_1122 ?_
      refine zs_sld hX hbs dL_law_1123 (fun y329 => ?_)
      refine zs_aload_n dL_law_1124 rfl 0 rfl ?_
      refine zs_iload_n dL_law_1125 rfl 3 rfl ?_
      refine zs_iconst (v := 2) dL_law_1126 ciconst_2 ?_
      refine zs_iadd dL_law_1127 ?_
      refine zs_sld hX hbs dL_law_1128 (fun y330 => ?_)
      refine zs_aload_n dL_law_1129 rfl 0 rfl ?_
      refine zs_iload_n dL_law_1130 rfl 3 rfl ?_
      refine zs_iconst (v := 3) dL_law_1131 ciconst_3 ?_
      refine zs_iadd dL_law_1132 ?_
      refine zs_sld hX hbs dL_law_1133 (fun y331 => ?_)
      refine zs_aload_n dL_law_1134 rfl 0 rfl ?_
      refine zs_iload_n dL_law_1135 rfl 3 rfl ?_
      refine zs_iconst (v := 4) dL_law_1136 ciconst_4 ?_
      refine zs_iadd dL_law_1137 ?_
      refine zs_sld hX hbs dL_law_1138 (fun y332 => ?_)
      refine zs_invVWI (rest := [.int y326]) [.int y329, .int y330, .int y331, .int y332] dL_law_1139 lk_L_157 rfl (fun _ h => th_X11_gap h) (zd1 rfl hd) rfl (Nat.le_of_ble_eq_true rfl) (ct_X11_gap E hE _ (zdl rfl hd) _ _ _ _ _ _) (fun y333 M334 => ?_)
      refine zs_icmp_eq dL_law_1142 rfl ?_ ?_
      · exact hj1417 M334
      refine zs_iconst (v := 0) dL_law_1145 ciconst_0 ?_
      exact zs_iretW dL_law_1146 rfl
    refine zs_ite (fun hc345 => ?_) (fun hc345 => ?_)
    · refine zs_tsw dL_law_33 hc345 (by decide) (by decide) (by rfl) rfl ?_
      refine zs_aload_n dL_law_1147 rfl 1 rfl ?_
      refine zs_aload_n dL_law_1148 rfl 0 rfl ?_
      refine zs_iload_n dL_law_1149 rfl 3 rfl ?_
      refine zs_iconst (v := 1) dL_law_1150 ciconst_1 ?_
      refine zs_iadd dL_law_1151 ?_
      refine zs_sld hX hbs dL_law_1152 (fun y337 => ?_)
      refine zs_invVWI (rest := []) [.int y337] dL_law_1153 lk_L_158 rfl (fun _ h => th_X10_could h) (zd1 rfl hd) rfl (Nat.le_of_ble_eq_true rfl) (ct_X10_could E hE _ (zdl rfl hd) _ _ _) (fun y338 M339 => ?_)
      refine zs_aload_n dL_law_1156 rfl 2 rfl ?_
      refine zs_aload_n dL_law_1157 rfl 0 rfl ?_
      refine zs_iload_n dL_law_1158 rfl 3 rfl ?_
      refine zs_iconst (v := 1) dL_law_1159 ciconst_1 ?_
      refine zs_iadd dL_law_1160 ?_
      refine zs_sld hX hbs dL_law_1161 (fun y341 => ?_)
      refine zs_invVWI (rest := [.int y338]) [.int y341] dL_law_1162 lk_L_161 rfl (fun _ h => th_X11_could h) (zd1 rfl hd) rfl (Nat.le_of_ble_eq_true rfl) (ct_X11_could E hE _ (zdl rfl hd) _ _ _) (fun y342 M343 => ?_)
      refine zs_icmp_eq dL_law_1165 rfl ?_ ?_
      · exact hj1417 M343
      refine zs_iconst (v := 0) dL_law_1168 ciconst_0 ?_
      exact zs_iretW dL_law_1169 rfl
    refine zs_ite (fun hc356 => ?_) (fun hc356 => ?_)
    · refine zs_tsw dL_law_33 hc356 (by decide) (by decide) (by rfl) rfl ?_
      refine zs_aload_n dL_law_1170 rfl 1 rfl ?_
      refine zs_aload_n dL_law_1171 rfl 0 rfl ?_
      refine zs_iload_n dL_law_1172 rfl 3 rfl ?_
      refine zs_iconst (v := 1) dL_law_1173 ciconst_1 ?_
      refine zs_iadd dL_law_1174 ?_
      refine zs_sld hX hbs dL_law_1175 (fun y346 => ?_)
      refine zs_aload_n dL_law_1176 rfl 0 rfl ?_
      refine zs_iload_n dL_law_1177 rfl 3 rfl ?_
      refine zs_iconst (v := 2) dL_law_1178 ciconst_2 ?_
      refine zs_iadd dL_law_1179 ?_
      refine zs_sld hX hbs dL_law_1180 (fun y347 => ?_)
      refine zs_invVWI (rest := []) [.int y346, .int y347] dL_law_1181 lk_L_162 rfl (fun _ h => th_X10_beside h) (zd1 rfl hd) rfl (Nat.le_of_ble_eq_true rfl) (ct_X10_beside E hE _ (zdl rfl hd) _ _ _ _) (fun y348 M349 => ?_)
      refine zs_aload_n dL_law_1184 rfl 2 rfl ?_
      refine zs_aload_n dL_law_1185 rfl 0 rfl ?_
      refine zs_iload_n dL_law_1186 rfl 3 rfl ?_
      refine zs_iconst (v := 1) dL_law_1187 ciconst_1 ?_
      refine zs_iadd dL_law_1188 ?_
      refine zs_sld hX hbs dL_law_1189 (fun y351 => ?_)
      refine zs_aload_n dL_law_1190 rfl 0 rfl ?_
      refine zs_iload_n dL_law_1191 rfl 3 rfl ?_
      refine zs_iconst (v := 2) dL_law_1192 ciconst_2 ?_
      refine zs_iadd dL_law_1193 ?_
      refine zs_sld hX hbs dL_law_1194 (fun y352 => ?_)
      refine zs_invVWI (rest := [.int y348]) [.int y351, .int y352] dL_law_1195 lk_L_165 rfl (fun _ h => th_X11_beside h) (zd1 rfl hd) rfl (Nat.le_of_ble_eq_true rfl) (ct_X11_beside E hE _ (zdl rfl hd) _ _ _ _) (fun y353 M354 => ?_)
      refine zs_icmp_eq dL_law_1198 rfl ?_ ?_
      · exact hj1417 M354
      refine zs_iconst (v := 0) dL_law_1201 ciconst_0 ?_
      exact zs_iretW dL_law_1202 rfl
    refine zs_ite (fun hc367 => ?_) (fun hc367 => ?_)
    · refine zs_tsw dL_law_33 hc367 (by decide) (by decide) (by rfl) rfl ?_
      refine zs_aload_n dL_law_1203 rfl 1 rfl ?_
      refine zs_aload_n dL_law_1204 rfl 0 rfl ?_
      refine zs_iload_n dL_law_1205 rfl 3 rfl ?_
      refine zs_iconst (v := 1) dL_law_1206 ciconst_1 ?_
      refine zs_iadd dL_law_1207 ?_
      refine zs_sld hX hbs dL_law_1208 (fun y357 => ?_)
      refine zs_aload_n dL_law_1209 rfl 0 rfl ?_
      refine zs_iload_n dL_law_1210 rfl 3 rfl ?_
      refine zs_iconst (v := 2) dL_law_1211 ciconst_2 ?_
      refine zs_iadd dL_law_1212 ?_
      refine zs_sld hX hbs dL_law_1213 (fun y358 => ?_)
      refine zs_invVWI (rest := []) [.int y357, .int y358] dL_law_1214 lk_L_166 rfl (fun _ h => th_X10_turned h) (zd1 rfl hd) rfl (Nat.le_of_ble_eq_true rfl) (ct_X10_turned E hE _ (zdl rfl hd) _ _ _ _) (fun y359 M360 => ?_)
      refine zs_aload_n dL_law_1217 rfl 2 rfl ?_
      refine zs_aload_n dL_law_1218 rfl 0 rfl ?_
      refine zs_iload_n dL_law_1219 rfl 3 rfl ?_
      refine zs_iconst (v := 1) dL_law_1220 ciconst_1 ?_
      refine zs_iadd dL_law_1221 ?_
      refine zs_sld hX hbs dL_law_1222 (fun y362 => ?_)
      refine zs_aload_n dL_law_1223 rfl 0 rfl ?_
      refine zs_iload_n dL_law_1224 rfl 3 rfl ?_
      refine zs_iconst (v := 2) dL_law_1225 ciconst_2 ?_
      refine zs_iadd dL_law_1226 ?_
      refine zs_sld hX hbs dL_law_1227 (fun y363 => ?_)
      refine zs_invVWI (rest := [.int y359]) [.int y362, .int y363] dL_law_1228 lk_L_169 rfl (fun _ h => th_X11_turned h) (zd1 rfl hd) rfl (Nat.le_of_ble_eq_true rfl) (ct_X11_turned E hE _ (zdl rfl hd) _ _ _ _) (fun y364 M365 => ?_)
      refine zs_icmp_eq dL_law_1231 rfl ?_ ?_
      · exact hj1417 M365
      refine zs_iconst (v := 0) dL_law_1234 ciconst_0 ?_
      exact zs_iretW dL_law_1235 rfl
    refine zs_ite (fun hc374 => ?_) (fun hc374 => ?_)
    · refine zs_tsw dL_law_33 hc374 (by decide) (by decide) (by rfl) rfl ?_
      refine zs_aload_n dL_law_1236 rfl 1 rfl ?_
      refine zs_invVWI (rest := []) [] dL_law_1237 lk_L_170 rfl (fun _ h => th_X10_obstruction h) (zd1 rfl hd) rfl (Nat.le_of_ble_eq_true rfl) (ct_X10_obstruction E hE _ (zdl rfl hd) _ _) (fun y368 M369 => ?_)
      refine zs_aload_n dL_law_1240 rfl 2 rfl ?_
      refine zs_invVWI (rest := [.int y368]) [] dL_law_1241 lk_L_173 rfl (fun _ h => th_X11_obstruction h) (zd1 rfl hd) rfl (Nat.le_of_ble_eq_true rfl) (ct_X11_obstruction E hE _ (zdl rfl hd) _ _) (fun y371 M372 => ?_)
      refine zs_icmp_eq dL_law_1244 rfl ?_ ?_
      · exact hj1417 M372
      refine zs_iconst (v := 0) dL_law_1247 ciconst_0 ?_
      exact zs_iretW dL_law_1248 rfl
    refine zs_ite (fun hc381 => ?_) (fun hc381 => ?_)
    · refine zs_tsw dL_law_33 hc381 (by decide) (by decide) (by rfl) rfl ?_
      refine zs_aload_n dL_law_1249 rfl 1 rfl ?_
      refine zs_invVWI (rest := []) [] dL_law_1250 lk_L_174 rfl (fun _ h => th_X10_obstructions h) (zd1 rfl hd) rfl (Nat.le_of_ble_eq_true rfl) (ct_X10_obstructions E hE _ (zdl rfl hd) _ _) (fun y375 M376 => ?_)
      refine zs_aload_n dL_law_1253 rfl 2 rfl ?_
      refine zs_invVWI (rest := [.int y375]) [] dL_law_1254 lk_L_177 rfl (fun _ h => th_X11_obstructions h) (zd1 rfl hd) rfl (Nat.le_of_ble_eq_true rfl) (ct_X11_obstructions E hE _ (zdl rfl hd) _ _) (fun y378 M379 => ?_)
      refine zs_icmp_eq dL_law_1257 rfl ?_ ?_
      · exact hj1417 M379
      refine zs_iconst (v := 0) dL_law_1260 ciconst_0 ?_
      exact zs_iretW dL_law_1261 rfl
    refine zs_ite (fun hc390 => ?_) (fun hc390 => ?_)
    · refine zs_tsw dL_law_33 hc390 (by decide) (by decide) (by rfl) rfl ?_
      refine zs_aload_n dL_law_1262 rfl 1 rfl ?_
      refine zs_aload_n dL_law_1263 rfl 0 rfl ?_
      refine zs_iload_n dL_law_1264 rfl 3 rfl ?_
      refine zs_iconst (v := 1) dL_law_1265 ciconst_1 ?_
      refine zs_iadd dL_law_1266 ?_
      refine zs_sld hX hbs dL_law_1267 (fun y382 => ?_)
      refine zs_invVWI (rest := []) [.int y382] dL_law_1268 lk_L_178 rfl (fun _ h => th_X10_family h) (zd1 rfl hd) rfl (Nat.le_of_ble_eq_true rfl) (ct_X10_family E hE _ (zdl rfl hd) _ _ _) (fun y383 M384 => ?_)
      refine zs_aload_n dL_law_1271 rfl 2 rfl ?_
      refine zs_aload_n dL_law_1272 rfl 0 rfl ?_
      refine zs_iload_n dL_law_1273 rfl 3 rfl ?_
      refine zs_iconst (v := 1) dL_law_1274 ciconst_1 ?_
      refine zs_iadd dL_law_1275 ?_
      refine zs_sld hX hbs dL_law_1276 (fun y386 => ?_)
      refine zs_invVWI (rest := [.int y383]) [.int y386] dL_law_1277 lk_L_181 rfl (fun _ h => th_X11_family h) (zd1 rfl hd) rfl (Nat.le_of_ble_eq_true rfl) (ct_X11_family E hE _ (zdl rfl hd) _ _ _) (fun y387 M388 => ?_)
      refine zs_icmp_eq dL_law_1280 rfl ?_ ?_
      · exact hj1417 M388
      refine zs_iconst (v := 0) dL_law_1283 ciconst_0 ?_
      exact zs_iretW dL_law_1284 rfl
    refine zs_ite (fun hc399 => ?_) (fun hc399 => ?_)
    · refine zs_tsw dL_law_33 hc399 (by decide) (by decide) (by rfl) rfl ?_
      refine zs_aload_n dL_law_1285 rfl 1 rfl ?_
      refine zs_aload_n dL_law_1286 rfl 0 rfl ?_
      refine zs_iload_n dL_law_1287 rfl 3 rfl ?_
      refine zs_iconst (v := 1) dL_law_1288 ciconst_1 ?_
      refine zs_iadd dL_law_1289 ?_
      refine zs_sld hX hbs dL_law_1290 (fun y391 => ?_)
      refine zs_invVWI (rest := []) [.int y391] dL_law_1291 lk_L_182 rfl (fun _ h => th_X10_turns h) (zd1 rfl hd) rfl (Nat.le_of_ble_eq_true rfl) (ct_X10_turns E hE _ (zdl rfl hd) _ _ _) (fun y392 M393 => ?_)
      refine zs_aload_n dL_law_1294 rfl 2 rfl ?_
      refine zs_aload_n dL_law_1295 rfl 0 rfl ?_
      refine zs_iload_n dL_law_1296 rfl 3 rfl ?_
      refine zs_iconst (v := 1) dL_law_1297 ciconst_1 ?_
      refine zs_iadd dL_law_1298 ?_
      refine zs_sld hX hbs dL_law_1299 (fun y395 => ?_)
      refine zs_invVWI (rest := [.int y392]) [.int y395] dL_law_1300 lk_L_185 rfl (fun _ h => th_X11_turns h) (zd1 rfl hd) rfl (Nat.le_of_ble_eq_true rfl) (ct_X11_turns E hE _ (zdl rfl hd) _ _ _) (fun y396 M397 => ?_)
      refine zs_icmp_eq dL_law_1303 rfl ?_ ?_
      · exact hj1417 M397
      refine zs_iconst (v := 0) dL_law_1306 ciconst_0 ?_
      exact zs_iretW dL_law_1307 rfl
    refine zs_ite (fun hc408 => ?_) (fun hc408 => ?_)
    · refine zs_tsw dL_law_33 hc408 (by decide) (by decide) (by rfl) rfl ?_
      refine zs_aload_n dL_law_1308 rfl 1 rfl ?_
      refine zs_aload_n dL_law_1309 rfl 0 rfl ?_
      refine zs_iload_n dL_law_1310 rfl 3 rfl ?_
      refine zs_iconst (v := 1) dL_law_1311 ciconst_1 ?_
      refine zs_iadd dL_law_1312 ?_
      refine zs_sld hX hbs dL_law_1313 (fun y400 => ?_)
      refine zs_invVWI (rest := []) [.int y400] dL_law_1314 lk_L_186 rfl (fun _ h => th_X10_within h) (zd1 rfl hd) rfl (Nat.le_of_ble_eq_true rfl) (ct_X10_within E hE _ (zdl rfl hd) _ _ _) (fun y401 M402 => ?_)
      refine zs_aload_n dL_law_1317 rfl 2 rfl ?_
      refine zs_aload_n dL_law_1318 rfl 0 rfl ?_
      refine zs_iload_n dL_law_1319 rfl 3 rfl ?_
      refine zs_iconst (v := 1) dL_law_1320 ciconst_1 ?_
      refine zs_iadd dL_law_1321 ?_
      refine zs_sld hX hbs dL_law_1322 (fun y404 => ?_)
      refine zs_invVWI (rest := [.int y401]) [.int y404] dL_law_1323 lk_L_189 rfl (fun _ h => th_X11_within h) (zd1 rfl hd) rfl (Nat.le_of_ble_eq_true rfl) (ct_X11_within E hE _ (zdl rfl hd) _ _ _) (fun y405 M406 => ?_)
      refine zs_icmp_eq dL_law_1326 rfl ?_ ?_
      · exact hj1417 M406
      refine zs_iconst (v := 0) dL_law_1329 ciconst_0 ?_
      exact zs_iretW dL_law_1330 rfl
    refine zs_ite (fun hc419 => ?_) (fun hc419 => ?_)
    · refine zs_tsw dL_law_33 hc419 (by decide) (by decide) (by rfl) rfl ?_
      refine zs_aload_n dL_law_1331 rfl 1 rfl ?_
      refine zs_aload_n dL_law_1332 rfl 0 rfl ?_
      refine zs_iload_n dL_law_1333 rfl 3 rfl ?_
      refine zs_iconst (v := 1) dL_law_1334 ciconst_1 ?_
      refine zs_iadd dL_law_1335 ?_
      refine zs_sld hX hbs dL_law_1336 (fun y409 => ?_)
      refine zs_aload_n dL_law_1337 rfl 0 rfl ?_
      refine zs_iload_n dL_law_1338 rfl 3 rfl ?_
      refine zs_iconst (v := 2) dL_law_1339 ciconst_2 ?_
      refine zs_iadd dL_law_1340 ?_
      refine zs_sld hX hbs dL_law_1341 (fun y410 => ?_)
      refine zs_invVWI (rest := []) [.int y409, .int y410] dL_law_1342 lk_L_190 rfl (fun _ h => th_X10_shuffle h) (zd1 rfl hd) rfl (Nat.le_of_ble_eq_true rfl) (ct_X10_shuffle E hE _ (zdl rfl hd) _ _ _ _) (fun y411 M412 => ?_)
      refine zs_aload_n dL_law_1345 rfl 2 rfl ?_
      refine zs_aload_n dL_law_1346 rfl 0 rfl ?_
      refine zs_iload_n dL_law_1347 rfl 3 rfl ?_
      refine zs_iconst (v := 1) dL_law_1348 ciconst_1 ?_
      refine zs_iadd dL_law_1349 ?_
      refine zs_sld hX hbs dL_law_1350 (fun y414 => ?_)
      refine zs_aload_n dL_law_1351 rfl 0 rfl ?_
      refine zs_iload_n dL_law_1352 rfl 3 rfl ?_
      refine zs_iconst (v := 2) dL_law_1353 ciconst_2 ?_
      refine zs_iadd dL_law_1354 ?_
      refine zs_sld hX hbs dL_law_1355 (fun y415 => ?_)
      refine zs_invVWI (rest := [.int y411]) [.int y414, .int y415] dL_law_1356 lk_L_193 rfl (fun _ h => th_X11_shuffle h) (zd1 rfl hd) rfl (Nat.le_of_ble_eq_true rfl) (ct_X11_shuffle E hE _ (zdl rfl hd) _ _ _ _) (fun y416 M417 => ?_)
      refine zs_icmp_eq dL_law_1359 rfl ?_ ?_
      · exact hj1417 M417
      refine zs_iconst (v := 0) dL_law_1362 ciconst_0 ?_
      exact zs_iretW dL_law_1363 rfl
    refine zs_ite (fun hc434 => ?_) (fun hc434 => ?_)
    · refine zs_tsw dL_law_33 hc434 (by decide) (by decide) (by rfl) rfl ?_
      refine zs_aload_n dL_law_1364 rfl 1 rfl ?_
      refine zs_aload_n dL_law_1365 rfl 0 rfl ?_
      refine zs_iload_n dL_law_1366 rfl 3 rfl ?_
      refine zs_iconst (v := 1) dL_law_1367 ciconst_1 ?_
      refine zs_iadd dL_law_1368 ?_
      refine zs_sld hX hbs dL_law_1369 (fun y420 => ?_)
      refine zs_aload_n dL_law_1370 rfl 0 rfl ?_
      refine zs_iload_n dL_law_1371 rfl 3 rfl ?_
      refine zs_iconst (v := 2) dL_law_1372 ciconst_2 ?_
      refine zs_iadd dL_law_1373 ?_
      refine zs_sld hX hbs dL_law_1374 (fun y421 => ?_)
      refine zs_aload_n dL_law_1375 rfl 0 rfl ?_
      refine zs_iload_n dL_law_1376 rfl 3 rfl ?_
      refine zs_iconst (v := 3) dL_law_1377 ciconst_3 ?_
      refine zs_iadd dL_law_1378 ?_
      refine zs_sld hX hbs dL_law_1379 (fun y422 => ?_)
      refine zs_aload_n dL_law_1380 rfl 0 rfl ?_
      refine zs_iload_n dL_law_1381 rfl 3 rfl ?_
      refine zs_iconst (v := 4) dL_law_1382 ciconst_4 ?_
      refine zs_iadd dL_law_1383 ?_
      refine zs_sld hX hbs dL_law_1384 (fun y423 => ?_)
      refine zs_invVWI (rest := []) [.int y420, .int y421, .int y422, .int y423] dL_law_1385 lk_L_194 rfl (fun _ h => th_X10_sample h) (zd1 rfl hd) rfl (Nat.le_of_ble_eq_true rfl) (ct_X10_sample E hE _ (zdl rfl hd) _ _ _ _ _ _) (fun y424 M425 => ?_)
      refine zs_aload_n dL_law_1388 rfl 2 rfl ?_
      refine zs_aload_n dL_law_1389 rfl 0 rfl ?_
      refine zs_iload_n dL_law_1390 rfl 3 rfl ?_
      refine zs_iconst (v := 1) dL_law_1391 ciconst_1 ?_
      refine zs_iadd dL_law_1392 ?_
      refine zs_sld hX hbs dL_law_1393 (fun y427 => ?_)
      refine zs_aload_n dL_law_1394 rfl 0 rfl ?_
      refine zs_iload_n dL_law_1395 rfl 3 rfl ?_
      refine zs_iconst (v := 2) dL_law_1396 ciconst_2 ?_
      refine zs_iadd dL_law_1397 ?_
      refine zs_sld hX hbs dL_law_1398 (fun y428 => ?_)
      refine zs_aload_n dL_law_1399 rfl 0 rfl ?_
      refine zs_iload_n dL_law_1400 rfl 3 rfl ?_
      refine zs_iconst (v := 3) dL_law_1401 ciconst_3 ?_
      refine zs_iadd dL_law_1402 ?_
      refine zs_sld hX hbs dL_law_1403 (fun y429 => ?_)
      refine zs_aload_n dL_law_1404 rfl 0 rfl ?_
      refine zs_iload_n dL_law_1405 rfl 3 rfl ?_
      refine zs_iconst (v := 4) dL_law_1406 ciconst_4 ?_
      refine zs_iadd dL_law_1407 ?_
      refine zs_sld hX hbs dL_law_1408 (fun y430 => ?_)
      refine zs_invVWI (rest := [.int y424]) [.int y427, .int y428, .int y429, .int y430] dL_law_1409 lk_L_197 rfl (fun _ h => th_X11_sample h) (zd1 rfl hd) rfl (Nat.le_of_ble_eq_true rfl) (ct_X11_sample E hE _ (zdl rfl hd) _ _ _ _ _ _) (fun y431 M432 => ?_)
      refine zs_icmp_eq dL_law_1412 rfl ?_ ?_
      · exact hj1417 M432
      refine zs_iconst (v := 0) dL_law_1415 ciconst_0 ?_
      exact zs_iretW dL_law_1416 rfl
    refine zs_tswD dL_law_33 (ztsw_of (n := 43) (by decide) (fun q hq => by
      have hq2 : q = 0 ∨ q = 1 ∨ q = 2 ∨ q = 3 ∨ q = 4 ∨ q = 5 ∨ q = 6 ∨ q = 7 ∨ q = 8 ∨ q = 9 ∨ q = 10 ∨ q = 11 ∨ q = 12 ∨ q = 13 ∨ q = 14 ∨ q = 15 ∨ q = 16 ∨ q = 17 ∨ q = 18 ∨ q = 19 ∨ q = 20 ∨ q = 21 ∨ q = 22 ∨ q = 23 ∨ q = 24 ∨ q = 25 ∨ q = 26 ∨ q = 27 ∨ q = 28 ∨ q = 29 ∨ q = 30 ∨ q = 31 ∨ q = 32 ∨ q = 33 ∨ q = 34 ∨ q = 35 ∨ q = 36 ∨ q = 37 ∨ q = 38 ∨ q = 39 ∨ q = 40 ∨ q = 41 ∨ q = 42 ∨ q = 43 := by omega
      rcases hq2 with rfl | rfl | rfl | rfl | rfl | rfl | rfl | rfl | rfl | rfl | rfl | rfl | rfl | rfl | rfl | rfl | rfl | rfl | rfl | rfl | rfl | rfl | rfl | rfl | rfl | rfl | rfl | rfl | rfl | rfl | rfl | rfl | rfl | rfl | rfl | rfl | rfl | rfl | rfl | rfl | rfl | rfl | rfl | rfl
      · exact hc13
      · exact hc30
      · exact hc39
      · exact hc44
      · exact hc53
      · exact hc62
      · exact hc71
      · exact hc80
      · exact hc91
      · exact hc100
      · exact hc111
      · exact hc122
      · exact hc129
      · exact hc138
      · exact hc147
      · exact hc156
      · exact hc165
      · exact hc174
      · exact hc181
      · exact hc192
      · exact hc203
      · exact hc214
      · exact hc221
      · exact hc230
      · exact hc239
      · exact hc246
      · exact hc255
      · exact hc266
      · exact hc277
      · exact hc288
      · exact hc297
      · exact hc310
      · exact hc321
      · exact hc336
      · exact hc345
      · exact hc356
      · exact hc367
      · exact hc374
      · exact hc381
      · exact hc390
      · exact hc399
      · exact hc408
      · exact hc419
      · exact hc434)) rfl ?_
    exact hj1417 M
set_option maxHeartbeats 4000000 in
set_option maxRecDepth 100000 in
theorem ws_L_law (E : zEnv) (hE : zEok E) (d : Nat) (hd : 30 ≤ d) (xs : Nat → Int32) (L bS : Nat) (hX : ∀ (U : State) (H : Heap), E.2.2.2.2.1 U H → va_X bS L xs U H) (hbs : bS < E.2.2.2.1) (M : zM) (x0 : Int32 × zM) : zSy E mu_L_law d M (some (.int x0.1), x0.2) x0 (fp_L_law xs L M) 0 [(0, .ref bS)] [] M := by
  unfold fp_L_law
  refine zs_newO dL_law_0 no_X10 (ti_1 21 rfl rfl) (fun q1 M2 => ?_)
  refine zs_dup dL_law_3 rfl ?_
  refine zs_invIWV (rest := [.ref (E.2.2.2.1 + q1)]) none [] dL_law_4 lk_L_9 rfl (zd1 rfl hd) rfl (Nat.le_of_ble_eq_true rfl) (ct_X10_init E hE _ (zdl rfl hd) _ _) (fun M4 => ?_)
  refine zs_astore_n (loc' := [(0, .ref bS), (1, .ref (E.2.2.2.1 + q1))]) dL_law_7 rfl (Nat.le_of_ble_eq_true rfl) [1, 0] rfl ?_
  refine zs_newO dL_law_8 no_X11 (ti_5 92 rfl rfl) (fun q5 M6 => ?_)
  refine zs_dup dL_law_11 rfl ?_
  refine zs_invIWV (rest := [.ref (E.2.2.2.1 + q5)]) none [] dL_law_12 lk_L_12 rfl (zd1 rfl hd) rfl (Nat.le_of_ble_eq_true rfl) (ct_X11_init E hE _ (zdl rfl hd) _ _) (fun M8 => ?_)
  refine zs_astore_n (loc' := [(0, .ref bS), (1, .ref (E.2.2.2.1 + q1)), (2, .ref (E.2.2.2.1 + q5))]) dL_law_15 rfl (Nat.le_of_ble_eq_true rfl) [1, 2, 0] rfl ?_
  refine zs_iconst (v := 0) dL_law_16 ciconst_0 ?_
  refine zs_istore_n (loc' := [(0, .ref bS), (1, .ref (E.2.2.2.1 + q1)), (2, .ref (E.2.2.2.1 + q5)), (3, .int 0)]) dL_law_17 rfl (Nat.le_of_ble_eq_true rfl) [1, 2, 3, 0] rfl ?_
  exact w_L_law_L18 E hE d hd xs L bS hX hbs _ _ _ _ _ _ _
