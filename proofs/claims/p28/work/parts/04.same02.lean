theorem dL_same_282 : decode cL_same 282 = .ok (.aload_n 2, 1) := by decide +kernel
theorem dL_same_283 : decode cL_same 283 = .ok (.iconst 0, 1) := by decide +kernel
theorem dL_same_284 : decode cL_same 284 = .ok (.iaload, 1) := by decide +kernel
theorem dL_same_285 : decode cL_same 285 = .ok (.if_icmp .lt 10, 3) := by decide +kernel
theorem dL_same_288 : decode cL_same 288 = .ok (.iconst 1, 1) := by decide +kernel
theorem dL_same_289 : decode cL_same 289 = .ok (.iload 11, 2) := by decide +kernel
theorem dL_same_291 : decode cL_same 291 = .ok (.ishl, 1) := by decide +kernel
theorem dL_same_292 : decode cL_same 292 = .ok (.goto 4, 3) := by decide +kernel
theorem dL_same_295 : decode cL_same 295 = .ok (.iconst 0, 1) := by decide +kernel
theorem dL_same_296 : decode cL_same 296 = .ok (.ior, 1) := by decide +kernel
theorem dL_same_297 : decode cL_same 297 = .ok (.istore 8, 2) := by decide +kernel
theorem dL_same_299 : decode cL_same 299 = .ok (.iconst 0, 1) := by decide +kernel
theorem dL_same_300 : decode cL_same 300 = .ok (.istore 14, 2) := by decide +kernel
theorem dL_same_302 : decode cL_same 302 = .ok (.iconst 0, 1) := by decide +kernel
theorem dL_same_303 : decode cL_same 303 = .ok (.istore 15, 2) := by decide +kernel
theorem dL_same_305 : decode cL_same 305 = .ok (.iload 15, 2) := by decide +kernel
theorem dL_same_307 : decode cL_same 307 = .ok (.aload_n 2, 1) := by decide +kernel
theorem dL_same_308 : decode cL_same 308 = .ok (.iconst 2, 1) := by decide +kernel
theorem dL_same_309 : decode cL_same 309 = .ok (.iaload, 1) := by decide +kernel
theorem dL_same_310 : decode cL_same 310 = .ok (.if_icmp .ge 51, 3) := by decide +kernel
theorem dL_same_313 : decode cL_same 313 = .ok (.iload 14, 2) := by decide +kernel
theorem dL_same_315 : decode cL_same 315 = .ok (.aload 4, 2) := by decide +kernel
theorem dL_same_317 : decode cL_same 317 = .ok (.iconst 2, 1) := by decide +kernel
theorem dL_same_318 : decode cL_same 318 = .ok (.iload 15, 2) := by decide +kernel
theorem dL_same_320 : decode cL_same 320 = .ok (.imul, 1) := by decide +kernel
theorem dL_same_321 : decode cL_same 321 = .ok (.iconst 1, 1) := by decide +kernel
theorem dL_same_322 : decode cL_same 322 = .ok (.iadd, 1) := by decide +kernel
theorem dL_same_323 : decode cL_same 323 = .ok (.iaload, 1) := by decide +kernel
theorem dL_same_324 : decode cL_same 324 = .ok (.iconst 1, 1) := by decide +kernel
theorem dL_same_325 : decode cL_same 325 = .ok (.if_icmp .ne 26, 3) := by decide +kernel
theorem dL_same_328 : decode cL_same 328 = .ok (.aload 4, 2) := by decide +kernel
theorem dL_same_330 : decode cL_same 330 = .ok (.iconst 2, 1) := by decide +kernel
theorem dL_same_331 : decode cL_same 331 = .ok (.iload 15, 2) := by decide +kernel
theorem dL_same_333 : decode cL_same 333 = .ok (.imul, 1) := by decide +kernel
theorem dL_same_334 : decode cL_same 334 = .ok (.iaload, 1) := by decide +kernel
theorem dL_same_335 : decode cL_same 335 = .ok (.iload 11, 2) := by decide +kernel
theorem dL_same_337 : decode cL_same 337 = .ok (.aload_n 3, 1) := by decide +kernel
theorem dL_same_338 : decode cL_same 338 = .ok (.invokestatic 53, 3) := by decide +kernel
theorem dL_same_341 : decode cL_same 341 = .ok (.ifCond .eq 10, 3) := by decide +kernel
theorem dL_same_344 : decode cL_same 344 = .ok (.iconst 1, 1) := by decide +kernel
theorem dL_same_345 : decode cL_same 345 = .ok (.iload 15, 2) := by decide +kernel
theorem dL_same_347 : decode cL_same 347 = .ok (.ishl, 1) := by decide +kernel
theorem dL_same_348 : decode cL_same 348 = .ok (.goto 4, 3) := by decide +kernel
theorem dL_same_351 : decode cL_same 351 = .ok (.iconst 0, 1) := by decide +kernel
theorem dL_same_352 : decode cL_same 352 = .ok (.ior, 1) := by decide +kernel
theorem dL_same_353 : decode cL_same 353 = .ok (.istore 14, 2) := by decide +kernel
theorem dL_same_355 : decode cL_same 355 = .ok (.iinc 15 1, 3) := by decide +kernel
theorem dL_same_358 : decode cL_same 358 = .ok (.goto (-53), 3) := by decide +kernel
theorem dL_same_361 : decode cL_same 361 = .ok (.aload_n 0, 1) := by decide +kernel
theorem dL_same_362 : decode cL_same 362 = .ok (.iload 11, 2) := by decide +kernel
theorem dL_same_364 : decode cL_same 364 = .ok (.invokevirtual 57, 3) := by decide +kernel
theorem dL_same_367 : decode cL_same 367 = .ok (.aload_n 3, 1) := by decide +kernel
theorem dL_same_368 : decode cL_same 368 = .ok (.iconst 4, 1) := by decide +kernel
theorem dL_same_369 : decode cL_same 369 = .ok (.iload 11, 2) := by decide +kernel
theorem dL_same_371 : decode cL_same 371 = .ok (.imul, 1) := by decide +kernel
theorem dL_same_372 : decode cL_same 372 = .ok (.iconst 1, 1) := by decide +kernel
theorem dL_same_373 : decode cL_same 373 = .ok (.iadd, 1) := by decide +kernel
theorem dL_same_374 : decode cL_same 374 = .ok (.iaload, 1) := by decide +kernel
theorem dL_same_375 : decode cL_same 375 = .ok (.iconst 1, 1) := by decide +kernel
theorem dL_same_376 : decode cL_same 376 = .ok (.if_icmp .ne 8, 3) := by decide +kernel
theorem dL_same_379 : decode cL_same 379 = .ok (.iload 14, 2) := by decide +kernel
theorem dL_same_381 : decode cL_same 381 = .ok (.goto 4, 3) := by decide +kernel
theorem dL_same_384 : decode cL_same 384 = .ok (.iconst (-1), 1) := by decide +kernel
theorem dL_same_385 : decode cL_same 385 = .ok (.if_icmp .eq 5, 3) := by decide +kernel
theorem dL_same_388 : decode cL_same 388 = .ok (.iconst 0, 1) := by decide +kernel
theorem dL_same_389 : decode cL_same 389 = .ok (.ireturn, 1) := by decide +kernel
theorem dL_same_390 : decode cL_same 390 = .ok (.iload_n 1, 1) := by decide +kernel
theorem dL_same_391 : decode cL_same 391 = .ok (.iload 11, 2) := by decide +kernel
theorem dL_same_393 : decode cL_same 393 = .ok (.ishr, 1) := by decide +kernel
theorem dL_same_394 : decode cL_same 394 = .ok (.aload_n 3, 1) := by decide +kernel
theorem dL_same_395 : decode cL_same 395 = .ok (.iconst 4, 1) := by decide +kernel
theorem dL_same_396 : decode cL_same 396 = .ok (.iload 11, 2) := by decide +kernel
theorem dL_same_398 : decode cL_same 398 = .ok (.imul, 1) := by decide +kernel
theorem dL_same_399 : decode cL_same 399 = .ok (.iconst 2, 1) := by decide +kernel
theorem dL_same_400 : decode cL_same 400 = .ok (.iadd, 1) := by decide +kernel
theorem dL_same_401 : decode cL_same 401 = .ok (.iaload, 1) := by decide +kernel
theorem dL_same_402 : decode cL_same 402 = .ok (.iconst 2, 1) := by decide +kernel
theorem dL_same_403 : decode cL_same 403 = .ok (.iadd, 1) := by decide +kernel
theorem dL_same_404 : decode cL_same 404 = .ok (.invokestatic 60, 3) := by decide +kernel
theorem dL_same_407 : decode cL_same 407 = .ok (.istore 15, 2) := by decide +kernel
theorem dL_same_409 : decode cL_same 409 = .ok (.iload_n 1, 1) := by decide +kernel
theorem dL_same_410 : decode cL_same 410 = .ok (.iconst 3, 1) := by decide +kernel
theorem dL_same_411 : decode cL_same 411 = .ok (.iload 11, 2) := by decide +kernel
theorem dL_same_413 : decode cL_same 413 = .ok (.iadd, 1) := by decide +kernel
theorem dL_same_414 : decode cL_same 414 = .ok (.ishr, 1) := by decide +kernel
theorem dL_same_415 : decode cL_same 415 = .ok (.bipush 8, 2) := by decide +kernel
theorem dL_same_417 : decode cL_same 417 = .ok (.invokestatic 60, 3) := by decide +kernel
theorem dL_same_420 : decode cL_same 420 = .ok (.istore 16, 2) := by decide +kernel
theorem dL_same_422 : decode cL_same 422 = .ok (.iload 16, 2) := by decide +kernel
theorem dL_same_424 : decode cL_same 424 = .ok (.iconst (-1), 1) := by decide +kernel
