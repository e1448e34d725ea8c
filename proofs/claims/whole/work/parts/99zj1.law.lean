/-! ===== the law: cases 0 to 6 (written by gen5.py) ===== -/
theorem dlw_252 : decode code 252 = .ok (.aload_n 1, 1) := by decide +kernel
theorem dlw_253 : decode code 253 = .ok (.invokevirtual 13, 3) := by decide +kernel
theorem dlw_256 : decode code 256 = .ok (.aload_n 2, 1) := by decide +kernel
theorem dlw_257 : decode code 257 = .ok (.invokevirtual 17, 3) := by decide +kernel
theorem dlw_260 : decode code 260 = .ok (.if_icmp .eq 1328, 3) := by decide +kernel
theorem lc_0 {l : Launch} {g : GG} {p : Program} {e : Env} {s : State} {m : MethodId} {b : Nat} {below : List Frame} {meth : Method} {c : Code} {Lc : Nat} {xs : Nat → Int32} {σ : SG} {k : Nat} (cx : LC g p s m b meth c Lc xs) (hk : k + 6 ≤ Lc) (hI : IVT σ) (nx : ∀ σ2, IVT σ2 → LX l g p e s m b below meth c 1588 [vA (-33), vA 0, vA 161, vI k] [] σ2) : LX l g p e s m b below meth c 252 [vA (-33), vA 0, vA 161, vI k] [] σ := by
  refine LX_aload_n cx dlw_252 rfl (by omega) ?_
  refine LX_callVI cx (d := 30) (N := M_X_status) (As := []) rfl cv_X_status rfl (tk2 226 rfl rfl) rfl (Nat.le_of_ble_eq_true rfl) (by decide) dlw_253 ob_0 ((c_status (d := 0) hI).mono (fun r1 σ1 h1 => ?_))
  refine LX_aload_n cx dlw_256 rfl (by omega) ?_
  refine LX_callVI cx (d := 30) (N := M_R_status) (As := []) rfl cv_R_status rfl (tk7 172 rfl rfl) rfl (Nat.le_of_ble_eq_true rfl) (by decide) dlw_257 ob_161 (h1.mono (fun r2 σ2 h2 => ?_))
  exact LX_icmp_eq cx (tgt := 1588) dlw_260 (by omega) h2.1 (nx σ2 h2.2)
theorem dlw_265 : decode code 265 = .ok (.aload_n 1, 1) := by decide +kernel
theorem dlw_266 : decode code 266 = .ok (.invokevirtual 18, 3) := by decide +kernel
theorem dlw_269 : decode code 269 = .ok (.aload_n 2, 1) := by decide +kernel
theorem dlw_270 : decode code 270 = .ok (.invokevirtual 22, 3) := by decide +kernel
theorem dlw_273 : decode code 273 = .ok (.lcmp, 1) := by decide +kernel
theorem dlw_274 : decode code 274 = .ok (.ifCond .eq 1314, 3) := by decide +kernel
theorem lc_1 {l : Launch} {g : GG} {p : Program} {e : Env} {s : State} {m : MethodId} {b : Nat} {below : List Frame} {meth : Method} {c : Code} {Lc : Nat} {xs : Nat → Int32} {σ : SG} {k : Nat} (cx : LC g p s m b meth c Lc xs) (hk : k + 6 ≤ Lc) (hI : IVT σ) (nx : ∀ σ2, IVT σ2 → LX l g p e s m b below meth c 1588 [vA (-33), vA 0, vA 161, vI k] [] σ2) : LX l g p e s m b below meth c 265 [vA (-33), vA 0, vA 161, vI k] [] σ := by
  refine LX_aload_n cx dlw_265 rfl (by omega) ?_
  refine LX_callVJ cx (d := 30) (N := M_X_top) (As := []) rfl cv_X_top rfl (tk2 230 rfl rfl) rfl (Nat.le_of_ble_eq_true rfl) (by decide) dlw_266 ob_0 ((c_top (d := 0) hI).mono (fun r1 σ1 h1 => ?_))
  refine LX_aload_n cx dlw_269 rfl (by omega) ?_
  refine LX_callVJ cx (d := 30) (N := M_R_top) (As := []) rfl cv_R_top rfl (tk7 176 rfl rfl) rfl (Nat.le_of_ble_eq_true rfl) (by decide) dlw_270 ob_161 (h1.mono (fun r2 σ2 h2 => ?_))
  refine LX_lcmp cx dlw_273 ?_
  exact LX_if_eq cx (tgt := 1588) dlw_274 (by omega) (cmp3_eq.mpr h2.1) (nx σ2 h2.2)
theorem dlw_279 : decode code 279 = .ok (.aload_n 1, 1) := by decide +kernel
theorem dlw_280 : decode code 280 = .ok (.invokevirtual 23, 3) := by decide +kernel
theorem dlw_283 : decode code 283 = .ok (.aload_n 2, 1) := by decide +kernel
theorem dlw_284 : decode code 284 = .ok (.invokevirtual 26, 3) := by decide +kernel
theorem dlw_287 : decode code 287 = .ok (.lcmp, 1) := by decide +kernel
theorem dlw_288 : decode code 288 = .ok (.ifCond .eq 1300, 3) := by decide +kernel
theorem lc_2 {l : Launch} {g : GG} {p : Program} {e : Env} {s : State} {m : MethodId} {b : Nat} {below : List Frame} {meth : Method} {c : Code} {Lc : Nat} {xs : Nat → Int32} {σ : SG} {k : Nat} (cx : LC g p s m b meth c Lc xs) (hk : k + 6 ≤ Lc) (hI : IVT σ) (nx : ∀ σ2, IVT σ2 → LX l g p e s m b below meth c 1588 [vA (-33), vA 0, vA 161, vI k] [] σ2) : LX l g p e s m b below meth c 279 [vA (-33), vA 0, vA 161, vI k] [] σ := by
  refine LX_aload_n cx dlw_279 rfl (by omega) ?_
  refine LX_callVJ cx (d := 30) (N := M_X_bottom) (As := []) rfl cv_X_bottom rfl (tk2 234 rfl rfl) rfl (Nat.le_of_ble_eq_true rfl) (by decide) dlw_280 ob_0 ((c_bottom (d := 0) hI).mono (fun r1 σ1 h1 => ?_))
  refine LX_aload_n cx dlw_283 rfl (by omega) ?_
  refine LX_callVJ cx (d := 30) (N := M_R_bottom) (As := []) rfl cv_R_bottom rfl (tk7 180 rfl rfl) rfl (Nat.le_of_ble_eq_true rfl) (by decide) dlw_284 ob_161 (h1.mono (fun r2 σ2 h2 => ?_))
  refine LX_lcmp cx dlw_287 ?_
  exact LX_if_eq cx (tgt := 1588) dlw_288 (by omega) (cmp3_eq.mpr h2.1) (nx σ2 h2.2)
theorem dlw_293 : decode code 293 = .ok (.aload_n 1, 1) := by decide +kernel
theorem dlw_294 : decode code 294 = .ok (.aload_n 0, 1) := by decide +kernel
theorem dlw_295 : decode code 295 = .ok (.iload_n 3, 1) := by decide +kernel
theorem dlw_296 : decode code 296 = .ok (.iconst 1, 1) := by decide +kernel
theorem dlw_297 : decode code 297 = .ok (.iadd, 1) := by decide +kernel
theorem dlw_298 : decode code 298 = .ok (.iaload, 1) := by decide +kernel
theorem dlw_299 : decode code 299 = .ok (.aload_n 0, 1) := by decide +kernel
theorem dlw_300 : decode code 300 = .ok (.iload_n 3, 1) := by decide +kernel
theorem dlw_301 : decode code 301 = .ok (.iconst 2, 1) := by decide +kernel
theorem dlw_302 : decode code 302 = .ok (.iadd, 1) := by decide +kernel
theorem dlw_303 : decode code 303 = .ok (.iaload, 1) := by decide +kernel
theorem dlw_304 : decode code 304 = .ok (.aload_n 0, 1) := by decide +kernel
theorem dlw_305 : decode code 305 = .ok (.iload_n 3, 1) := by decide +kernel
theorem dlw_306 : decode code 306 = .ok (.iconst 3, 1) := by decide +kernel
theorem dlw_307 : decode code 307 = .ok (.iadd, 1) := by decide +kernel
theorem dlw_308 : decode code 308 = .ok (.iaload, 1) := by decide +kernel
theorem dlw_309 : decode code 309 = .ok (.invokevirtual 27, 3) := by decide +kernel
theorem dlw_312 : decode code 312 = .ok (.aload_n 2, 1) := by decide +kernel
theorem dlw_313 : decode code 313 = .ok (.aload_n 0, 1) := by decide +kernel
theorem dlw_314 : decode code 314 = .ok (.iload_n 3, 1) := by decide +kernel
theorem dlw_315 : decode code 315 = .ok (.iconst 1, 1) := by decide +kernel
theorem dlw_316 : decode code 316 = .ok (.iadd, 1) := by decide +kernel
theorem dlw_317 : decode code 317 = .ok (.iaload, 1) := by decide +kernel
theorem dlw_318 : decode code 318 = .ok (.aload_n 0, 1) := by decide +kernel
theorem dlw_319 : decode code 319 = .ok (.iload_n 3, 1) := by decide +kernel
theorem dlw_320 : decode code 320 = .ok (.iconst 2, 1) := by decide +kernel
theorem dlw_321 : decode code 321 = .ok (.iadd, 1) := by decide +kernel
theorem dlw_322 : decode code 322 = .ok (.iaload, 1) := by decide +kernel
theorem dlw_323 : decode code 323 = .ok (.aload_n 0, 1) := by decide +kernel
theorem dlw_324 : decode code 324 = .ok (.iload_n 3, 1) := by decide +kernel
theorem dlw_325 : decode code 325 = .ok (.iconst 3, 1) := by decide +kernel
theorem dlw_326 : decode code 326 = .ok (.iadd, 1) := by decide +kernel
theorem dlw_327 : decode code 327 = .ok (.iaload, 1) := by decide +kernel
theorem dlw_328 : decode code 328 = .ok (.invokevirtual 31, 3) := by decide +kernel
theorem dlw_331 : decode code 331 = .ok (.if_icmp .eq 1257, 3) := by decide +kernel
theorem lc_3 {l : Launch} {g : GG} {p : Program} {e : Env} {s : State} {m : MethodId} {b : Nat} {below : List Frame} {meth : Method} {c : Code} {Lc : Nat} {xs : Nat → Int32} {σ : SG} {k : Nat} (cx : LC g p s m b meth c Lc xs) (hk : k + 6 ≤ Lc) (hI : IVT σ) (nx : ∀ σ2, IVT σ2 → LX l g p e s m b below meth c 1588 [vA (-33), vA 0, vA 161, vI k] [] σ2) : LX l g p e s m b below meth c 293 [vA (-33), vA 0, vA 161, vI k] [] σ := by
  refine LX_aload_n cx dlw_293 rfl (by omega) ?_
  refine LX_arg cx (n := 1) rfl (by omega) dlw_294 dlw_295 dlw_296 dlw_297 dlw_298 ?_
  refine LX_arg cx (n := 2) rfl (by omega) dlw_299 dlw_300 dlw_301 dlw_302 dlw_303 ?_
  refine LX_arg cx (n := 3) rfl (by omega) dlw_304 dlw_305 dlw_306 dlw_307 dlw_308 ?_
  refine LX_callVI cx (d := 30) (N := M_X_tray) (As := [vI ((xs (k + 1)).toInt), vI ((xs (k + 2)).toInt), vI ((xs (k + 3)).toInt)]) rfl cv_X_tray rfl (tk2 238 rfl rfl) rfl (Nat.le_of_ble_eq_true rfl) (by decide) dlw_309 ob_0 ((c_tray (d := 0) hI).mono (fun r1 σ1 h1 => ?_))
  refine LX_aload_n cx dlw_312 rfl (by omega) ?_
  refine LX_arg cx (n := 1) rfl (by omega) dlw_313 dlw_314 dlw_315 dlw_316 dlw_317 ?_
  refine LX_arg cx (n := 2) rfl (by omega) dlw_318 dlw_319 dlw_320 dlw_321 dlw_322 ?_
  refine LX_arg cx (n := 3) rfl (by omega) dlw_323 dlw_324 dlw_325 dlw_326 dlw_327 ?_
  refine LX_callVI cx (d := 30) (N := M_R_tray) (As := [vI ((xs (k + 1)).toInt), vI ((xs (k + 2)).toInt), vI ((xs (k + 3)).toInt)]) rfl cv_R_tray rfl (tk7 184 rfl rfl) rfl (Nat.le_of_ble_eq_true rfl) (by decide) dlw_328 ob_161 (h1.mono (fun r2 σ2 h2 => ?_))
  exact LX_icmp_eq cx (tgt := 1588) dlw_331 (by omega) h2.1 (nx σ2 h2.2)
theorem dlw_336 : decode code 336 = .ok (.aload_n 1, 1) := by decide +kernel
theorem dlw_337 : decode code 337 = .ok (.aload_n 0, 1) := by decide +kernel
theorem dlw_338 : decode code 338 = .ok (.iload_n 3, 1) := by decide +kernel
theorem dlw_339 : decode code 339 = .ok (.iconst 1, 1) := by decide +kernel
theorem dlw_340 : decode code 340 = .ok (.iadd, 1) := by decide +kernel
theorem dlw_341 : decode code 341 = .ok (.iaload, 1) := by decide +kernel
theorem dlw_342 : decode code 342 = .ok (.aload_n 0, 1) := by decide +kernel
theorem dlw_343 : decode code 343 = .ok (.iload_n 3, 1) := by decide +kernel
theorem dlw_344 : decode code 344 = .ok (.iconst 2, 1) := by decide +kernel
theorem dlw_345 : decode code 345 = .ok (.iadd, 1) := by decide +kernel
theorem dlw_346 : decode code 346 = .ok (.iaload, 1) := by decide +kernel
theorem dlw_347 : decode code 347 = .ok (.aload_n 0, 1) := by decide +kernel
theorem dlw_348 : decode code 348 = .ok (.iload_n 3, 1) := by decide +kernel
theorem dlw_349 : decode code 349 = .ok (.iconst 3, 1) := by decide +kernel
theorem dlw_350 : decode code 350 = .ok (.iadd, 1) := by decide +kernel
theorem dlw_351 : decode code 351 = .ok (.iaload, 1) := by decide +kernel
theorem dlw_352 : decode code 352 = .ok (.i2l, 1) := by decide +kernel
theorem dlw_353 : decode code 353 = .ok (.bipush 32, 2) := by decide +kernel
theorem dlw_355 : decode code 355 = .ok (.lshl, 1) := by decide +kernel
theorem dlw_356 : decode code 356 = .ok (.aload_n 0, 1) := by decide +kernel
theorem dlw_357 : decode code 357 = .ok (.iload_n 3, 1) := by decide +kernel
theorem dlw_358 : decode code 358 = .ok (.iconst 4, 1) := by decide +kernel
theorem dlw_359 : decode code 359 = .ok (.iadd, 1) := by decide +kernel
theorem dlw_360 : decode code 360 = .ok (.iaload, 1) := by decide +kernel
theorem dlw_361 : decode code 361 = .ok (.i2l, 1) := by decide +kernel
theorem dlw_362 : decode code 362 = .ok (.ldc2_w 32, 3) := by decide +kernel
theorem dlw_365 : decode code 365 = .ok (.land, 1) := by decide +kernel
theorem dlw_366 : decode code 366 = .ok (.lor, 1) := by decide +kernel
theorem dlw_367 : decode code 367 = .ok (.invokevirtual 34, 3) := by decide +kernel
theorem dlw_370 : decode code 370 = .ok (.aload_n 2, 1) := by decide +kernel
theorem dlw_371 : decode code 371 = .ok (.aload_n 0, 1) := by decide +kernel
theorem dlw_372 : decode code 372 = .ok (.iload_n 3, 1) := by decide +kernel
theorem dlw_373 : decode code 373 = .ok (.iconst 1, 1) := by decide +kernel
theorem dlw_374 : decode code 374 = .ok (.iadd, 1) := by decide +kernel
theorem dlw_375 : decode code 375 = .ok (.iaload, 1) := by decide +kernel
theorem dlw_376 : decode code 376 = .ok (.aload_n 0, 1) := by decide +kernel
theorem dlw_377 : decode code 377 = .ok (.iload_n 3, 1) := by decide +kernel
theorem dlw_378 : decode code 378 = .ok (.iconst 2, 1) := by decide +kernel
theorem dlw_379 : decode code 379 = .ok (.iadd, 1) := by decide +kernel
theorem dlw_380 : decode code 380 = .ok (.iaload, 1) := by decide +kernel
theorem dlw_381 : decode code 381 = .ok (.aload_n 0, 1) := by decide +kernel
theorem dlw_382 : decode code 382 = .ok (.iload_n 3, 1) := by decide +kernel
theorem dlw_383 : decode code 383 = .ok (.iconst 3, 1) := by decide +kernel
theorem dlw_384 : decode code 384 = .ok (.iadd, 1) := by decide +kernel
theorem dlw_385 : decode code 385 = .ok (.iaload, 1) := by decide +kernel
theorem dlw_386 : decode code 386 = .ok (.i2l, 1) := by decide +kernel
theorem dlw_387 : decode code 387 = .ok (.bipush 32, 2) := by decide +kernel
theorem dlw_389 : decode code 389 = .ok (.lshl, 1) := by decide +kernel
theorem dlw_390 : decode code 390 = .ok (.aload_n 0, 1) := by decide +kernel
theorem dlw_391 : decode code 391 = .ok (.iload_n 3, 1) := by decide +kernel
theorem dlw_392 : decode code 392 = .ok (.iconst 4, 1) := by decide +kernel
theorem dlw_393 : decode code 393 = .ok (.iadd, 1) := by decide +kernel
theorem dlw_394 : decode code 394 = .ok (.iaload, 1) := by decide +kernel
theorem dlw_395 : decode code 395 = .ok (.i2l, 1) := by decide +kernel
theorem dlw_396 : decode code 396 = .ok (.ldc2_w 32, 3) := by decide +kernel
theorem dlw_399 : decode code 399 = .ok (.land, 1) := by decide +kernel
theorem dlw_400 : decode code 400 = .ok (.lor, 1) := by decide +kernel
theorem dlw_401 : decode code 401 = .ok (.invokevirtual 38, 3) := by decide +kernel
theorem dlw_404 : decode code 404 = .ok (.if_icmp .eq 1184, 3) := by decide +kernel
theorem lc_4 {l : Launch} {g : GG} {p : Program} {e : Env} {s : State} {m : MethodId} {b : Nat} {below : List Frame} {meth : Method} {c : Code} {Lc : Nat} {xs : Nat → Int32} {σ : SG} {k : Nat} (cx : LC g p s m b meth c Lc xs) (hk : k + 6 ≤ Lc) (hI : IVT σ) (nx : ∀ σ2, IVT σ2 → LX l g p e s m b below meth c 1588 [vA (-33), vA 0, vA 161, vI k] [] σ2) : LX l g p e s m b below meth c 336 [vA (-33), vA 0, vA 161, vI k] [] σ := by
  refine LX_aload_n cx dlw_336 rfl (by omega) ?_
  refine LX_arg cx (n := 1) rfl (by omega) dlw_337 dlw_338 dlw_339 dlw_340 dlw_341 ?_
  refine LX_arg cx (n := 2) rfl (by omega) dlw_342 dlw_343 dlw_344 dlw_345 dlw_346 ?_
  refine LX_arg cx (n := 3) rfl (by omega) dlw_347 dlw_348 dlw_349 dlw_350 dlw_351 ?_
  refine LX_i2l cx dlw_352 ?_
  refine LX_bipush cx dlw_353 (by decide) ⟨by decide, by decide⟩ ?_
  refine LX_lshl cx dlw_355 ?_
  refine LX_arg cx (n := 4) rfl (by omega) dlw_356 dlw_357 dlw_358 dlw_359 dlw_360 ?_
  refine LX_i2l cx dlw_361 ?_
  refine LX_ldc2 cx (x := 4294967295) (tk10 196 rfl rfl) rfl ⟨by decide, by decide⟩ dlw_362 ?_
  refine LX_land cx dlw_365 ?_
  refine LX_lor cx dlw_366 ?_
  refine LX_callVI cx (d := 30) (N := M_X_write) (As := [vI ((xs (k + 1)).toInt), vI ((xs (k + 2)).toInt), vJ (or64 (shl64 ((xs (k + 3)).toInt) 32) (and64 ((xs (k + 4)).toInt) (4294967295)))]) rfl cv_X_write rfl (tk3 19 rfl rfl) rfl (Nat.le_of_ble_eq_true rfl) (by decide) dlw_367 ob_0 ((c_write (d := 0) hI).mono (fun r1 σ1 h1 => ?_))
  refine LX_aload_n cx dlw_370 rfl (by omega) ?_
  refine LX_arg cx (n := 1) rfl (by omega) dlw_371 dlw_372 dlw_373 dlw_374 dlw_375 ?_
  refine LX_arg cx (n := 2) rfl (by omega) dlw_376 dlw_377 dlw_378 dlw_379 dlw_380 ?_
  refine LX_arg cx (n := 3) rfl (by omega) dlw_381 dlw_382 dlw_383 dlw_384 dlw_385 ?_
  refine LX_i2l cx dlw_386 ?_
  refine LX_bipush cx dlw_387 (by decide) ⟨by decide, by decide⟩ ?_
  refine LX_lshl cx dlw_389 ?_
  refine LX_arg cx (n := 4) rfl (by omega) dlw_390 dlw_391 dlw_392 dlw_393 dlw_394 ?_
  refine LX_i2l cx dlw_395 ?_
  refine LX_ldc2 cx (x := 4294967295) (tk10 196 rfl rfl) rfl ⟨by decide, by decide⟩ dlw_396 ?_
  refine LX_land cx dlw_399 ?_
  refine LX_lor cx dlw_400 ?_
  refine LX_callVI cx (d := 30) (N := M_R_write) (As := [vI ((xs (k + 1)).toInt), vI ((xs (k + 2)).toInt), vJ (or64 (shl64 ((xs (k + 3)).toInt) 32) (and64 ((xs (k + 4)).toInt) (4294967295)))]) rfl cv_R_write rfl (tk7 192 rfl rfl) rfl (Nat.le_of_ble_eq_true rfl) (by decide) dlw_401 ob_161 (h1.mono (fun r2 σ2 h2 => ?_))
  exact LX_icmp_eq cx (tgt := 1588) dlw_404 (by omega) h2.1 (nx σ2 h2.2)
theorem dlw_409 : decode code 409 = .ok (.aload_n 1, 1) := by decide +kernel
theorem dlw_410 : decode code 410 = .ok (.aload_n 0, 1) := by decide +kernel
theorem dlw_411 : decode code 411 = .ok (.iload_n 3, 1) := by decide +kernel
theorem dlw_412 : decode code 412 = .ok (.iconst 1, 1) := by decide +kernel
theorem dlw_413 : decode code 413 = .ok (.iadd, 1) := by decide +kernel
theorem dlw_414 : decode code 414 = .ok (.iaload, 1) := by decide +kernel
theorem dlw_415 : decode code 415 = .ok (.aload_n 0, 1) := by decide +kernel
theorem dlw_416 : decode code 416 = .ok (.iload_n 3, 1) := by decide +kernel
theorem dlw_417 : decode code 417 = .ok (.iconst 2, 1) := by decide +kernel
theorem dlw_418 : decode code 418 = .ok (.iadd, 1) := by decide +kernel
theorem dlw_419 : decode code 419 = .ok (.iaload, 1) := by decide +kernel
theorem dlw_420 : decode code 420 = .ok (.invokevirtual 39, 3) := by decide +kernel
theorem dlw_423 : decode code 423 = .ok (.aload_n 2, 1) := by decide +kernel
theorem dlw_424 : decode code 424 = .ok (.aload_n 0, 1) := by decide +kernel
theorem dlw_425 : decode code 425 = .ok (.iload_n 3, 1) := by decide +kernel
theorem dlw_426 : decode code 426 = .ok (.iconst 1, 1) := by decide +kernel
theorem dlw_427 : decode code 427 = .ok (.iadd, 1) := by decide +kernel
theorem dlw_428 : decode code 428 = .ok (.iaload, 1) := by decide +kernel
theorem dlw_429 : decode code 429 = .ok (.aload_n 0, 1) := by decide +kernel
theorem dlw_430 : decode code 430 = .ok (.iload_n 3, 1) := by decide +kernel
theorem dlw_431 : decode code 431 = .ok (.iconst 2, 1) := by decide +kernel
theorem dlw_432 : decode code 432 = .ok (.iadd, 1) := by decide +kernel
theorem dlw_433 : decode code 433 = .ok (.iaload, 1) := by decide +kernel
theorem dlw_434 : decode code 434 = .ok (.invokevirtual 43, 3) := by decide +kernel
theorem dlw_437 : decode code 437 = .ok (.lcmp, 1) := by decide +kernel
theorem dlw_438 : decode code 438 = .ok (.ifCond .eq 1150, 3) := by decide +kernel
theorem lc_5 {l : Launch} {g : GG} {p : Program} {e : Env} {s : State} {m : MethodId} {b : Nat} {below : List Frame} {meth : Method} {c : Code} {Lc : Nat} {xs : Nat → Int32} {σ : SG} {k : Nat} (cx : LC g p s m b meth c Lc xs) (hk : k + 6 ≤ Lc) (hI : IVT σ) (nx : ∀ σ2, IVT σ2 → LX l g p e s m b below meth c 1588 [vA (-33), vA 0, vA 161, vI k] [] σ2) : LX l g p e s m b below meth c 409 [vA (-33), vA 0, vA 161, vI k] [] σ := by
  refine LX_aload_n cx dlw_409 rfl (by omega) ?_
  refine LX_arg cx (n := 1) rfl (by omega) dlw_410 dlw_411 dlw_412 dlw_413 dlw_414 ?_
  refine LX_arg cx (n := 2) rfl (by omega) dlw_415 dlw_416 dlw_417 dlw_418 dlw_419 ?_
  refine LX_callVJ cx (d := 30) (N := M_X_read) (As := [vI ((xs (k + 1)).toInt), vI ((xs (k + 2)).toInt)]) rfl cv_X_read rfl (tk3 34 rfl rfl) rfl (Nat.le_of_ble_eq_true rfl) (by decide) dlw_420 ob_0 ((c_read (d := 0) hI).mono (fun r1 σ1 h1 => ?_))
  refine LX_aload_n cx dlw_423 rfl (by omega) ?_
  refine LX_arg cx (n := 1) rfl (by omega) dlw_424 dlw_425 dlw_426 dlw_427 dlw_428 ?_
  refine LX_arg cx (n := 2) rfl (by omega) dlw_429 dlw_430 dlw_431 dlw_432 dlw_433 ?_
  refine LX_callVJ cx (d := 30) (N := M_R_read) (As := [vI ((xs (k + 1)).toInt), vI ((xs (k + 2)).toInt)]) rfl cv_R_read rfl (tk7 207 rfl rfl) rfl (Nat.le_of_ble_eq_true rfl) (by decide) dlw_434 ob_161 (h1.mono (fun r2 σ2 h2 => ?_))
  refine LX_lcmp cx dlw_437 ?_
  exact LX_if_eq cx (tgt := 1588) dlw_438 (by omega) (cmp3_eq.mpr h2.1) (nx σ2 h2.2)
theorem dlw_443 : decode code 443 = .ok (.aload_n 1, 1) := by decide +kernel
theorem dlw_444 : decode code 444 = .ok (.aload_n 0, 1) := by decide +kernel
theorem dlw_445 : decode code 445 = .ok (.iload_n 3, 1) := by decide +kernel
theorem dlw_446 : decode code 446 = .ok (.iconst 1, 1) := by decide +kernel
theorem dlw_447 : decode code 447 = .ok (.iadd, 1) := by decide +kernel
theorem dlw_448 : decode code 448 = .ok (.iaload, 1) := by decide +kernel
theorem dlw_449 : decode code 449 = .ok (.aload_n 0, 1) := by decide +kernel
theorem dlw_450 : decode code 450 = .ok (.iload_n 3, 1) := by decide +kernel
theorem dlw_451 : decode code 451 = .ok (.iconst 2, 1) := by decide +kernel
theorem dlw_452 : decode code 452 = .ok (.iadd, 1) := by decide +kernel
theorem dlw_453 : decode code 453 = .ok (.iaload, 1) := by decide +kernel
theorem dlw_454 : decode code 454 = .ok (.aload_n 0, 1) := by decide +kernel
theorem dlw_455 : decode code 455 = .ok (.iload_n 3, 1) := by decide +kernel
theorem dlw_456 : decode code 456 = .ok (.iconst 3, 1) := by decide +kernel
theorem dlw_457 : decode code 457 = .ok (.iadd, 1) := by decide +kernel
theorem dlw_458 : decode code 458 = .ok (.iaload, 1) := by decide +kernel
theorem dlw_459 : decode code 459 = .ok (.aload_n 0, 1) := by decide +kernel
theorem dlw_460 : decode code 460 = .ok (.iload_n 3, 1) := by decide +kernel
theorem dlw_461 : decode code 461 = .ok (.iconst 4, 1) := by decide +kernel
theorem dlw_462 : decode code 462 = .ok (.iadd, 1) := by decide +kernel
theorem dlw_463 : decode code 463 = .ok (.iaload, 1) := by decide +kernel
theorem dlw_464 : decode code 464 = .ok (.aload_n 0, 1) := by decide +kernel
theorem dlw_465 : decode code 465 = .ok (.iload_n 3, 1) := by decide +kernel
theorem dlw_466 : decode code 466 = .ok (.iconst 5, 1) := by decide +kernel
theorem dlw_467 : decode code 467 = .ok (.iadd, 1) := by decide +kernel
theorem dlw_468 : decode code 468 = .ok (.iaload, 1) := by decide +kernel
theorem dlw_469 : decode code 469 = .ok (.invokevirtual 44, 3) := by decide +kernel
theorem dlw_472 : decode code 472 = .ok (.aload_n 2, 1) := by decide +kernel
theorem dlw_473 : decode code 473 = .ok (.aload_n 0, 1) := by decide +kernel
theorem dlw_474 : decode code 474 = .ok (.iload_n 3, 1) := by decide +kernel
theorem dlw_475 : decode code 475 = .ok (.iconst 1, 1) := by decide +kernel
theorem dlw_476 : decode code 476 = .ok (.iadd, 1) := by decide +kernel
theorem dlw_477 : decode code 477 = .ok (.iaload, 1) := by decide +kernel
theorem dlw_478 : decode code 478 = .ok (.aload_n 0, 1) := by decide +kernel
theorem dlw_479 : decode code 479 = .ok (.iload_n 3, 1) := by decide +kernel
theorem dlw_480 : decode code 480 = .ok (.iconst 2, 1) := by decide +kernel
theorem dlw_481 : decode code 481 = .ok (.iadd, 1) := by decide +kernel
theorem dlw_482 : decode code 482 = .ok (.iaload, 1) := by decide +kernel
theorem dlw_483 : decode code 483 = .ok (.aload_n 0, 1) := by decide +kernel
theorem dlw_484 : decode code 484 = .ok (.iload_n 3, 1) := by decide +kernel
theorem dlw_485 : decode code 485 = .ok (.iconst 3, 1) := by decide +kernel
theorem dlw_486 : decode code 486 = .ok (.iadd, 1) := by decide +kernel
theorem dlw_487 : decode code 487 = .ok (.iaload, 1) := by decide +kernel
theorem dlw_488 : decode code 488 = .ok (.aload_n 0, 1) := by decide +kernel
theorem dlw_489 : decode code 489 = .ok (.iload_n 3, 1) := by decide +kernel
theorem dlw_490 : decode code 490 = .ok (.iconst 4, 1) := by decide +kernel
theorem dlw_491 : decode code 491 = .ok (.iadd, 1) := by decide +kernel
theorem dlw_492 : decode code 492 = .ok (.iaload, 1) := by decide +kernel
theorem dlw_493 : decode code 493 = .ok (.aload_n 0, 1) := by decide +kernel
theorem dlw_494 : decode code 494 = .ok (.iload_n 3, 1) := by decide +kernel
theorem dlw_495 : decode code 495 = .ok (.iconst 5, 1) := by decide +kernel
theorem dlw_496 : decode code 496 = .ok (.iadd, 1) := by decide +kernel
theorem dlw_497 : decode code 497 = .ok (.iaload, 1) := by decide +kernel
theorem dlw_498 : decode code 498 = .ok (.invokevirtual 48, 3) := by decide +kernel
theorem dlw_501 : decode code 501 = .ok (.if_icmp .eq 1087, 3) := by decide +kernel
theorem lc_6 {l : Launch} {g : GG} {p : Program} {e : Env} {s : State} {m : MethodId} {b : Nat} {below : List Frame} {meth : Method} {c : Code} {Lc : Nat} {xs : Nat → Int32} {σ : SG} {k : Nat} (cx : LC g p s m b meth c Lc xs) (hk : k + 6 ≤ Lc) (hI : IVT σ) (nx : ∀ σ2, IVT σ2 → LX l g p e s m b below meth c 1588 [vA (-33), vA 0, vA 161, vI k] [] σ2) : LX l g p e s m b below meth c 443 [vA (-33), vA 0, vA 161, vI k] [] σ := by
  refine LX_aload_n cx dlw_443 rfl (by omega) ?_
  refine LX_arg cx (n := 1) rfl (by omega) dlw_444 dlw_445 dlw_446 dlw_447 dlw_448 ?_
  refine LX_arg cx (n := 2) rfl (by omega) dlw_449 dlw_450 dlw_451 dlw_452 dlw_453 ?_
  refine LX_arg cx (n := 3) rfl (by omega) dlw_454 dlw_455 dlw_456 dlw_457 dlw_458 ?_
  refine LX_arg cx (n := 4) rfl (by omega) dlw_459 dlw_460 dlw_461 dlw_462 dlw_463 ?_
  refine LX_arg cx (n := 5) rfl (by omega) dlw_464 dlw_465 dlw_466 dlw_467 dlw_468 ?_
  refine LX_callVI cx (d := 30) (N := M_X_pour) (As := [vI ((xs (k + 1)).toInt), vI ((xs (k + 2)).toInt), vI ((xs (k + 3)).toInt), vI ((xs (k + 4)).toInt), vI ((xs (k + 5)).toInt)]) rfl cv_X_pour rfl (tk3 42 rfl rfl) rfl (Nat.le_of_ble_eq_true rfl) (by decide) dlw_469 ob_0 ((c_pour (d := 0) hI).mono (fun r1 σ1 h1 => ?_))
  refine LX_aload_n cx dlw_472 rfl (by omega) ?_
  refine LX_arg cx (n := 1) rfl (by omega) dlw_473 dlw_474 dlw_475 dlw_476 dlw_477 ?_
  refine LX_arg cx (n := 2) rfl (by omega) dlw_478 dlw_479 dlw_480 dlw_481 dlw_482 ?_
  refine LX_arg cx (n := 3) rfl (by omega) dlw_483 dlw_484 dlw_485 dlw_486 dlw_487 ?_
  refine LX_arg cx (n := 4) rfl (by omega) dlw_488 dlw_489 dlw_490 dlw_491 dlw_492 ?_
  refine LX_arg cx (n := 5) rfl (by omega) dlw_493 dlw_494 dlw_495 dlw_496 dlw_497 ?_
  refine LX_callVI cx (d := 30) (N := M_R_pour) (As := [vI ((xs (k + 1)).toInt), vI ((xs (k + 2)).toInt), vI ((xs (k + 3)).toInt), vI ((xs (k + 4)).toInt), vI ((xs (k + 5)).toInt)]) rfl cv_R_pour rfl (tk7 212 rfl rfl) rfl (Nat.le_of_ble_eq_true rfl) (by decide) dlw_498 ob_161 (h1.mono (fun r2 σ2 h2 => ?_))
  exact LX_icmp_eq cx (tgt := 1588) dlw_501 (by omega) h2.1 (nx σ2 h2.2)
