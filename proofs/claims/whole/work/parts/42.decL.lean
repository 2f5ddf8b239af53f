theorem dL_law_0 : decode mL_law.2.1 0 = .ok (.new 8, 3) := by decide +kernel
theorem dL_law_3 : decode mL_law.2.1 3 = .ok (.dup, 1) := by decide +kernel
theorem dL_law_4 : decode mL_law.2.1 4 = .ok (.invokespecial 25, 3) := by decide +kernel
theorem dL_law_7 : decode mL_law.2.1 7 = .ok (.astore_n 1, 1) := by decide +kernel
theorem dL_law_8 : decode mL_law.2.1 8 = .ok (.new 26, 3) := by decide +kernel
theorem dL_law_11 : decode mL_law.2.1 11 = .ok (.dup, 1) := by decide +kernel
theorem dL_law_12 : decode mL_law.2.1 12 = .ok (.invokespecial 28, 3) := by decide +kernel
theorem dL_law_15 : decode mL_law.2.1 15 = .ok (.astore_n 2, 1) := by decide +kernel
theorem dL_law_16 : decode mL_law.2.1 16 = .ok (.iconst 1, 1) := by decide +kernel
theorem dL_law_17 : decode mL_law.2.1 17 = .ok (.newarray .long, 2) := by decide +kernel
theorem dL_law_19 : decode mL_law.2.1 19 = .ok (.astore_n 3, 1) := by decide +kernel
theorem dL_law_20 : decode mL_law.2.1 20 = .ok (.iconst 0, 1) := by decide +kernel
theorem dL_law_21 : decode mL_law.2.1 21 = .ok (.istore 4, 2) := by decide +kernel
theorem dL_law_23 : decode mL_law.2.1 23 = .ok (.iload 4, 2) := by decide +kernel
theorem dL_law_25 : decode mL_law.2.1 25 = .ok (.aload_n 0, 1) := by decide +kernel
theorem dL_law_26 : decode mL_law.2.1 26 = .ok (.arraylength, 1) := by decide +kernel
theorem dL_law_27 : decode mL_law.2.1 27 = .ok (.iconst 5, 1) := by decide +kernel
theorem dL_law_28 : decode mL_law.2.1 28 = .ok (.isub, 1) := by decide +kernel
theorem dL_law_29 : decode mL_law.2.1 29 = .ok (.if_icmp .gt 1573, 3) := by decide +kernel
theorem dL_law_32 : decode mL_law.2.1 32 = .ok (.aload_n 0, 1) := by decide +kernel
theorem dL_law_33 : decode mL_law.2.1 33 = .ok (.iload 4, 2) := by decide +kernel
theorem dL_law_35 : decode mL_law.2.1 35 = .ok (.iaload, 1) := by decide +kernel
theorem dL_law_36 : decode mL_law.2.1 36 = .ok (.bipush 63, 2) := by decide +kernel
theorem dL_law_38 : decode mL_law.2.1 38 = .ok (.iand, 1) := by decide +kernel
theorem dL_law_39 : decode mL_law.2.1 39 = .ok (.tableswitch 1557 0 43 #[189, 214, 239, 252, 265, 278, 291, 304, 372, 440, 508, 569, 606, 631, 656, 705, 730, 743, 756, 793, 830, 855, 892, 917, 930, 979, 1004, 1029, 1090, 1151, 1189, 1238, 1251, 1264, 1277, 1290, 1303, 1352, 1365, 1390, 1427, 1452, 1477, 1502], 189) := by decide +kernel
theorem dL_law_228 : decode mL_law.2.1 228 = .ok (.aload_n 1, 1) := by decide +kernel
theorem dL_law_229 : decode mL_law.2.1 229 = .ok (.aload_n 0, 1) := by decide +kernel
theorem dL_law_230 : decode mL_law.2.1 230 = .ok (.iload 4, 2) := by decide +kernel
theorem dL_law_232 : decode mL_law.2.1 232 = .ok (.iconst 1, 1) := by decide +kernel
theorem dL_law_233 : decode mL_law.2.1 233 = .ok (.iadd, 1) := by decide +kernel
theorem dL_law_234 : decode mL_law.2.1 234 = .ok (.iaload, 1) := by decide +kernel
theorem dL_law_235 : decode mL_law.2.1 235 = .ok (.invokevirtual 29, 3) := by decide +kernel
theorem dL_law_238 : decode mL_law.2.1 238 = .ok (.aload_n 2, 1) := by decide +kernel
theorem dL_law_239 : decode mL_law.2.1 239 = .ok (.aload_n 0, 1) := by decide +kernel
theorem dL_law_240 : decode mL_law.2.1 240 = .ok (.iload 4, 2) := by decide +kernel
theorem dL_law_242 : decode mL_law.2.1 242 = .ok (.iconst 1, 1) := by decide +kernel
theorem dL_law_243 : decode mL_law.2.1 243 = .ok (.iadd, 1) := by decide +kernel
theorem dL_law_244 : decode mL_law.2.1 244 = .ok (.iaload, 1) := by decide +kernel
theorem dL_law_245 : decode mL_law.2.1 245 = .ok (.invokevirtual 33, 3) := by decide +kernel
theorem dL_law_248 : decode mL_law.2.1 248 = .ok (.if_icmp .eq 1348, 3) := by decide +kernel
theorem dL_law_251 : decode mL_law.2.1 251 = .ok (.iconst 0, 1) := by decide +kernel
theorem dL_law_252 : decode mL_law.2.1 252 = .ok (.ireturn, 1) := by decide +kernel
theorem dL_law_253 : decode mL_law.2.1 253 = .ok (.aload_n 1, 1) := by decide +kernel
theorem dL_law_254 : decode mL_law.2.1 254 = .ok (.aload_n 0, 1) := by decide +kernel
theorem dL_law_255 : decode mL_law.2.1 255 = .ok (.iload 4, 2) := by decide +kernel
theorem dL_law_257 : decode mL_law.2.1 257 = .ok (.iconst 1, 1) := by decide +kernel
theorem dL_law_258 : decode mL_law.2.1 258 = .ok (.iadd, 1) := by decide +kernel
theorem dL_law_259 : decode mL_law.2.1 259 = .ok (.iaload, 1) := by decide +kernel
theorem dL_law_260 : decode mL_law.2.1 260 = .ok (.invokevirtual 34, 3) := by decide +kernel
theorem dL_law_263 : decode mL_law.2.1 263 = .ok (.aload_n 2, 1) := by decide +kernel
theorem dL_law_264 : decode mL_law.2.1 264 = .ok (.aload_n 0, 1) := by decide +kernel
theorem dL_law_265 : decode mL_law.2.1 265 = .ok (.iload 4, 2) := by decide +kernel
theorem dL_law_267 : decode mL_law.2.1 267 = .ok (.iconst 1, 1) := by decide +kernel
theorem dL_law_268 : decode mL_law.2.1 268 = .ok (.iadd, 1) := by decide +kernel
theorem dL_law_269 : decode mL_law.2.1 269 = .ok (.iaload, 1) := by decide +kernel
theorem dL_law_270 : decode mL_law.2.1 270 = .ok (.invokevirtual 38, 3) := by decide +kernel
theorem dL_law_273 : decode mL_law.2.1 273 = .ok (.if_icmp .eq 1323, 3) := by decide +kernel
theorem dL_law_276 : decode mL_law.2.1 276 = .ok (.iconst 0, 1) := by decide +kernel
theorem dL_law_277 : decode mL_law.2.1 277 = .ok (.ireturn, 1) := by decide +kernel
theorem dL_law_278 : decode mL_law.2.1 278 = .ok (.aload_n 1, 1) := by decide +kernel
theorem dL_law_279 : decode mL_law.2.1 279 = .ok (.invokevirtual 39, 3) := by decide +kernel
theorem dL_law_282 : decode mL_law.2.1 282 = .ok (.aload_n 2, 1) := by decide +kernel
theorem dL_law_283 : decode mL_law.2.1 283 = .ok (.invokevirtual 43, 3) := by decide +kernel
theorem dL_law_286 : decode mL_law.2.1 286 = .ok (.if_icmp .eq 1310, 3) := by decide +kernel
theorem dL_law_289 : decode mL_law.2.1 289 = .ok (.iconst 0, 1) := by decide +kernel
theorem dL_law_290 : decode mL_law.2.1 290 = .ok (.ireturn, 1) := by decide +kernel
theorem dL_law_291 : decode mL_law.2.1 291 = .ok (.aload_n 1, 1) := by decide +kernel
theorem dL_law_292 : decode mL_law.2.1 292 = .ok (.invokevirtual 44, 3) := by decide +kernel
theorem dL_law_295 : decode mL_law.2.1 295 = .ok (.aload_n 2, 1) := by decide +kernel
theorem dL_law_296 : decode mL_law.2.1 296 = .ok (.invokevirtual 47, 3) := by decide +kernel
theorem dL_law_299 : decode mL_law.2.1 299 = .ok (.if_icmp .eq 1297, 3) := by decide +kernel
theorem dL_law_302 : decode mL_law.2.1 302 = .ok (.iconst 0, 1) := by decide +kernel
theorem dL_law_303 : decode mL_law.2.1 303 = .ok (.ireturn, 1) := by decide +kernel
theorem dL_law_304 : decode mL_law.2.1 304 = .ok (.aload_n 1, 1) := by decide +kernel
theorem dL_law_305 : decode mL_law.2.1 305 = .ok (.invokevirtual 48, 3) := by decide +kernel
theorem dL_law_308 : decode mL_law.2.1 308 = .ok (.aload_n 2, 1) := by decide +kernel
theorem dL_law_309 : decode mL_law.2.1 309 = .ok (.invokevirtual 51, 3) := by decide +kernel
theorem dL_law_312 : decode mL_law.2.1 312 = .ok (.if_icmp .eq 1284, 3) := by decide +kernel
theorem dL_law_315 : decode mL_law.2.1 315 = .ok (.iconst 0, 1) := by decide +kernel
theorem dL_law_316 : decode mL_law.2.1 316 = .ok (.ireturn, 1) := by decide +kernel
theorem dL_law_317 : decode mL_law.2.1 317 = .ok (.aload_n 1, 1) := by decide +kernel
theorem dL_law_318 : decode mL_law.2.1 318 = .ok (.invokevirtual 52, 3) := by decide +kernel
theorem dL_law_321 : decode mL_law.2.1 321 = .ok (.aload_n 2, 1) := by decide +kernel
theorem dL_law_322 : decode mL_law.2.1 322 = .ok (.invokevirtual 55, 3) := by decide +kernel
theorem dL_law_325 : decode mL_law.2.1 325 = .ok (.if_icmp .eq 1271, 3) := by decide +kernel
theorem dL_law_328 : decode mL_law.2.1 328 = .ok (.iconst 0, 1) := by decide +kernel
theorem dL_law_329 : decode mL_law.2.1 329 = .ok (.ireturn, 1) := by decide +kernel
theorem dL_law_330 : decode mL_law.2.1 330 = .ok (.aload_n 1, 1) := by decide +kernel
theorem dL_law_331 : decode mL_law.2.1 331 = .ok (.invokevirtual 56, 3) := by decide +kernel
theorem dL_law_334 : decode mL_law.2.1 334 = .ok (.aload_n 2, 1) := by decide +kernel
theorem dL_law_335 : decode mL_law.2.1 335 = .ok (.invokevirtual 59, 3) := by decide +kernel
theorem dL_law_338 : decode mL_law.2.1 338 = .ok (.if_icmp .eq 1258, 3) := by decide +kernel
theorem dL_law_341 : decode mL_law.2.1 341 = .ok (.iconst 0, 1) := by decide +kernel
theorem dL_law_342 : decode mL_law.2.1 342 = .ok (.ireturn, 1) := by decide +kernel
theorem dL_law_343 : decode mL_law.2.1 343 = .ok (.aload_n 1, 1) := by decide +kernel
theorem dL_law_344 : decode mL_law.2.1 344 = .ok (.aload_n 0, 1) := by decide +kernel
theorem dL_law_345 : decode mL_law.2.1 345 = .ok (.iload 4, 2) := by decide +kernel
theorem dL_law_347 : decode mL_law.2.1 347 = .ok (.iconst 1, 1) := by decide +kernel
theorem dL_law_348 : decode mL_law.2.1 348 = .ok (.iadd, 1) := by decide +kernel
theorem dL_law_349 : decode mL_law.2.1 349 = .ok (.iaload, 1) := by decide +kernel
theorem dL_law_350 : decode mL_law.2.1 350 = .ok (.aload_n 0, 1) := by decide +kernel
theorem dL_law_351 : decode mL_law.2.1 351 = .ok (.iload 4, 2) := by decide +kernel
theorem dL_law_353 : decode mL_law.2.1 353 = .ok (.iconst 2, 1) := by decide +kernel
theorem dL_law_354 : decode mL_law.2.1 354 = .ok (.iadd, 1) := by decide +kernel
theorem dL_law_355 : decode mL_law.2.1 355 = .ok (.iaload, 1) := by decide +kernel
theorem dL_law_356 : decode mL_law.2.1 356 = .ok (.aload_n 3, 1) := by decide +kernel
theorem dL_law_357 : decode mL_law.2.1 357 = .ok (.invokestatic 60, 3) := by decide +kernel
theorem dL_law_360 : decode mL_law.2.1 360 = .ok (.istore 5, 2) := by decide +kernel
theorem dL_law_362 : decode mL_law.2.1 362 = .ok (.aload_n 2, 1) := by decide +kernel
theorem dL_law_363 : decode mL_law.2.1 363 = .ok (.aload_n 0, 1) := by decide +kernel
theorem dL_law_364 : decode mL_law.2.1 364 = .ok (.iload 4, 2) := by decide +kernel
theorem dL_law_366 : decode mL_law.2.1 366 = .ok (.iconst 1, 1) := by decide +kernel
theorem dL_law_367 : decode mL_law.2.1 367 = .ok (.iadd, 1) := by decide +kernel
theorem dL_law_368 : decode mL_law.2.1 368 = .ok (.iaload, 1) := by decide +kernel
theorem dL_law_369 : decode mL_law.2.1 369 = .ok (.aload_n 0, 1) := by decide +kernel
theorem dL_law_370 : decode mL_law.2.1 370 = .ok (.iload 4, 2) := by decide +kernel
theorem dL_law_372 : decode mL_law.2.1 372 = .ok (.iconst 2, 1) := by decide +kernel
theorem dL_law_373 : decode mL_law.2.1 373 = .ok (.iadd, 1) := by decide +kernel
theorem dL_law_374 : decode mL_law.2.1 374 = .ok (.iaload, 1) := by decide +kernel
theorem dL_law_375 : decode mL_law.2.1 375 = .ok (.invokevirtual 65, 3) := by decide +kernel
theorem dL_law_378 : decode mL_law.2.1 378 = .ok (.istore 6, 2) := by decide +kernel
theorem dL_law_380 : decode mL_law.2.1 380 = .ok (.aload_n 2, 1) := by decide +kernel
theorem dL_law_381 : decode mL_law.2.1 381 = .ok (.invokevirtual 66, 3) := by decide +kernel
theorem dL_law_384 : decode mL_law.2.1 384 = .ok (.iload 5, 2) := by decide +kernel
theorem dL_law_386 : decode mL_law.2.1 386 = .ok (.if_icmp .eq 5, 3) := by decide +kernel
theorem dL_law_389 : decode mL_law.2.1 389 = .ok (.iconst 0, 1) := by decide +kernel
theorem dL_law_390 : decode mL_law.2.1 390 = .ok (.ireturn, 1) := by decide +kernel
theorem dL_law_391 : decode mL_law.2.1 391 = .ok (.iload 5, 2) := by decide +kernel
theorem dL_law_393 : decode mL_law.2.1 393 = .ok (.ifCond .ne 15, 3) := by decide +kernel
theorem dL_law_396 : decode mL_law.2.1 396 = .ok (.aload_n 3, 1) := by decide +kernel
theorem dL_law_397 : decode mL_law.2.1 397 = .ok (.iconst 0, 1) := by decide +kernel
theorem dL_law_398 : decode mL_law.2.1 398 = .ok (.laload, 1) := by decide +kernel
theorem dL_law_399 : decode mL_law.2.1 399 = .ok (.iload 6, 2) := by decide +kernel
theorem dL_law_401 : decode mL_law.2.1 401 = .ok (.i2l, 1) := by decide +kernel
theorem dL_law_402 : decode mL_law.2.1 402 = .ok (.lcmp, 1) := by decide +kernel
theorem dL_law_403 : decode mL_law.2.1 403 = .ok (.ifCond .eq 5, 3) := by decide +kernel
theorem dL_law_406 : decode mL_law.2.1 406 = .ok (.iconst 0, 1) := by decide +kernel
theorem dL_law_407 : decode mL_law.2.1 407 = .ok (.ireturn, 1) := by decide +kernel
theorem dL_law_408 : decode mL_law.2.1 408 = .ok (.goto 1188, 3) := by decide +kernel
theorem dL_law_411 : decode mL_law.2.1 411 = .ok (.aload_n 1, 1) := by decide +kernel
theorem dL_law_412 : decode mL_law.2.1 412 = .ok (.aload_n 0, 1) := by decide +kernel
theorem dL_law_413 : decode mL_law.2.1 413 = .ok (.iload 4, 2) := by decide +kernel
theorem dL_law_415 : decode mL_law.2.1 415 = .ok (.iconst 1, 1) := by decide +kernel
theorem dL_law_416 : decode mL_law.2.1 416 = .ok (.iadd, 1) := by decide +kernel
theorem dL_law_417 : decode mL_law.2.1 417 = .ok (.iaload, 1) := by decide +kernel
theorem dL_law_418 : decode mL_law.2.1 418 = .ok (.aload_n 0, 1) := by decide +kernel
theorem dL_law_419 : decode mL_law.2.1 419 = .ok (.iload 4, 2) := by decide +kernel
theorem dL_law_421 : decode mL_law.2.1 421 = .ok (.iconst 2, 1) := by decide +kernel
theorem dL_law_422 : decode mL_law.2.1 422 = .ok (.iadd, 1) := by decide +kernel
theorem dL_law_423 : decode mL_law.2.1 423 = .ok (.iaload, 1) := by decide +kernel
theorem dL_law_424 : decode mL_law.2.1 424 = .ok (.aload_n 3, 1) := by decide +kernel
theorem dL_law_425 : decode mL_law.2.1 425 = .ok (.invokestatic 69, 3) := by decide +kernel
theorem dL_law_428 : decode mL_law.2.1 428 = .ok (.istore 5, 2) := by decide +kernel
theorem dL_law_430 : decode mL_law.2.1 430 = .ok (.aload_n 2, 1) := by decide +kernel
theorem dL_law_431 : decode mL_law.2.1 431 = .ok (.aload_n 0, 1) := by decide +kernel
theorem dL_law_432 : decode mL_law.2.1 432 = .ok (.iload 4, 2) := by decide +kernel
theorem dL_law_434 : decode mL_law.2.1 434 = .ok (.iconst 1, 1) := by decide +kernel
theorem dL_law_435 : decode mL_law.2.1 435 = .ok (.iadd, 1) := by decide +kernel
theorem dL_law_436 : decode mL_law.2.1 436 = .ok (.iaload, 1) := by decide +kernel
theorem dL_law_437 : decode mL_law.2.1 437 = .ok (.aload_n 0, 1) := by decide +kernel
theorem dL_law_438 : decode mL_law.2.1 438 = .ok (.iload 4, 2) := by decide +kernel
theorem dL_law_440 : decode mL_law.2.1 440 = .ok (.iconst 2, 1) := by decide +kernel
theorem dL_law_441 : decode mL_law.2.1 441 = .ok (.iadd, 1) := by decide +kernel
theorem dL_law_442 : decode mL_law.2.1 442 = .ok (.iaload, 1) := by decide +kernel
theorem dL_law_443 : decode mL_law.2.1 443 = .ok (.invokevirtual 71, 3) := by decide +kernel
theorem dL_law_446 : decode mL_law.2.1 446 = .ok (.istore 6, 2) := by decide +kernel
theorem dL_law_448 : decode mL_law.2.1 448 = .ok (.aload_n 2, 1) := by decide +kernel
theorem dL_law_449 : decode mL_law.2.1 449 = .ok (.invokevirtual 66, 3) := by decide +kernel
theorem dL_law_452 : decode mL_law.2.1 452 = .ok (.iload 5, 2) := by decide +kernel
theorem dL_law_454 : decode mL_law.2.1 454 = .ok (.if_icmp .eq 5, 3) := by decide +kernel
theorem dL_law_457 : decode mL_law.2.1 457 = .ok (.iconst 0, 1) := by decide +kernel
theorem dL_law_458 : decode mL_law.2.1 458 = .ok (.ireturn, 1) := by decide +kernel
theorem dL_law_459 : decode mL_law.2.1 459 = .ok (.iload 5, 2) := by decide +kernel
theorem dL_law_461 : decode mL_law.2.1 461 = .ok (.ifCond .ne 15, 3) := by decide +kernel
theorem dL_law_464 : decode mL_law.2.1 464 = .ok (.aload_n 3, 1) := by decide +kernel
theorem dL_law_465 : decode mL_law.2.1 465 = .ok (.iconst 0, 1) := by decide +kernel
theorem dL_law_466 : decode mL_law.2.1 466 = .ok (.laload, 1) := by decide +kernel
theorem dL_law_467 : decode mL_law.2.1 467 = .ok (.iload 6, 2) := by decide +kernel
theorem dL_law_469 : decode mL_law.2.1 469 = .ok (.i2l, 1) := by decide +kernel
theorem dL_law_470 : decode mL_law.2.1 470 = .ok (.lcmp, 1) := by decide +kernel
theorem dL_law_471 : decode mL_law.2.1 471 = .ok (.ifCond .eq 5, 3) := by decide +kernel
theorem dL_law_474 : decode mL_law.2.1 474 = .ok (.iconst 0, 1) := by decide +kernel
theorem dL_law_475 : decode mL_law.2.1 475 = .ok (.ireturn, 1) := by decide +kernel
theorem dL_law_476 : decode mL_law.2.1 476 = .ok (.goto 1120, 3) := by decide +kernel
theorem dL_law_479 : decode mL_law.2.1 479 = .ok (.aload_n 1, 1) := by decide +kernel
theorem dL_law_480 : decode mL_law.2.1 480 = .ok (.aload_n 0, 1) := by decide +kernel
theorem dL_law_481 : decode mL_law.2.1 481 = .ok (.iload 4, 2) := by decide +kernel
theorem dL_law_483 : decode mL_law.2.1 483 = .ok (.iconst 1, 1) := by decide +kernel
theorem dL_law_484 : decode mL_law.2.1 484 = .ok (.iadd, 1) := by decide +kernel
theorem dL_law_485 : decode mL_law.2.1 485 = .ok (.iaload, 1) := by decide +kernel
theorem dL_law_486 : decode mL_law.2.1 486 = .ok (.aload_n 0, 1) := by decide +kernel
theorem dL_law_487 : decode mL_law.2.1 487 = .ok (.iload 4, 2) := by decide +kernel
theorem dL_law_489 : decode mL_law.2.1 489 = .ok (.iconst 2, 1) := by decide +kernel
theorem dL_law_490 : decode mL_law.2.1 490 = .ok (.iadd, 1) := by decide +kernel
theorem dL_law_491 : decode mL_law.2.1 491 = .ok (.iaload, 1) := by decide +kernel
theorem dL_law_492 : decode mL_law.2.1 492 = .ok (.aload_n 3, 1) := by decide +kernel
theorem dL_law_493 : decode mL_law.2.1 493 = .ok (.invokestatic 72, 3) := by decide +kernel
theorem dL_law_496 : decode mL_law.2.1 496 = .ok (.istore 5, 2) := by decide +kernel
theorem dL_law_498 : decode mL_law.2.1 498 = .ok (.aload_n 2, 1) := by decide +kernel
theorem dL_law_499 : decode mL_law.2.1 499 = .ok (.aload_n 0, 1) := by decide +kernel
theorem dL_law_500 : decode mL_law.2.1 500 = .ok (.iload 4, 2) := by decide +kernel
theorem dL_law_502 : decode mL_law.2.1 502 = .ok (.iconst 1, 1) := by decide +kernel
theorem dL_law_503 : decode mL_law.2.1 503 = .ok (.iadd, 1) := by decide +kernel
theorem dL_law_504 : decode mL_law.2.1 504 = .ok (.iaload, 1) := by decide +kernel
theorem dL_law_505 : decode mL_law.2.1 505 = .ok (.aload_n 0, 1) := by decide +kernel
theorem dL_law_506 : decode mL_law.2.1 506 = .ok (.iload 4, 2) := by decide +kernel
theorem dL_law_508 : decode mL_law.2.1 508 = .ok (.iconst 2, 1) := by decide +kernel
theorem dL_law_509 : decode mL_law.2.1 509 = .ok (.iadd, 1) := by decide +kernel
theorem dL_law_510 : decode mL_law.2.1 510 = .ok (.iaload, 1) := by decide +kernel
theorem dL_law_511 : decode mL_law.2.1 511 = .ok (.invokevirtual 74, 3) := by decide +kernel
theorem dL_law_514 : decode mL_law.2.1 514 = .ok (.istore 6, 2) := by decide +kernel
theorem dL_law_516 : decode mL_law.2.1 516 = .ok (.aload_n 2, 1) := by decide +kernel
theorem dL_law_517 : decode mL_law.2.1 517 = .ok (.invokevirtual 66, 3) := by decide +kernel
theorem dL_law_520 : decode mL_law.2.1 520 = .ok (.iload 5, 2) := by decide +kernel
theorem dL_law_522 : decode mL_law.2.1 522 = .ok (.if_icmp .eq 5, 3) := by decide +kernel
theorem dL_law_525 : decode mL_law.2.1 525 = .ok (.iconst 0, 1) := by decide +kernel
theorem dL_law_526 : decode mL_law.2.1 526 = .ok (.ireturn, 1) := by decide +kernel
theorem dL_law_527 : decode mL_law.2.1 527 = .ok (.iload 5, 2) := by decide +kernel
theorem dL_law_529 : decode mL_law.2.1 529 = .ok (.ifCond .ne 15, 3) := by decide +kernel
theorem dL_law_532 : decode mL_law.2.1 532 = .ok (.aload_n 3, 1) := by decide +kernel
theorem dL_law_533 : decode mL_law.2.1 533 = .ok (.iconst 0, 1) := by decide +kernel
theorem dL_law_534 : decode mL_law.2.1 534 = .ok (.laload, 1) := by decide +kernel
theorem dL_law_535 : decode mL_law.2.1 535 = .ok (.iload 6, 2) := by decide +kernel
theorem dL_law_537 : decode mL_law.2.1 537 = .ok (.i2l, 1) := by decide +kernel
theorem dL_law_538 : decode mL_law.2.1 538 = .ok (.lcmp, 1) := by decide +kernel
theorem dL_law_539 : decode mL_law.2.1 539 = .ok (.ifCond .eq 5, 3) := by decide +kernel
theorem dL_law_542 : decode mL_law.2.1 542 = .ok (.iconst 0, 1) := by decide +kernel
theorem dL_law_543 : decode mL_law.2.1 543 = .ok (.ireturn, 1) := by decide +kernel
theorem dL_law_544 : decode mL_law.2.1 544 = .ok (.goto 1052, 3) := by decide +kernel
theorem dL_law_547 : decode mL_law.2.1 547 = .ok (.aload_n 1, 1) := by decide +kernel
theorem dL_law_548 : decode mL_law.2.1 548 = .ok (.aload_n 0, 1) := by decide +kernel
theorem dL_law_549 : decode mL_law.2.1 549 = .ok (.iload 4, 2) := by decide +kernel
theorem dL_law_551 : decode mL_law.2.1 551 = .ok (.iconst 1, 1) := by decide +kernel
theorem dL_law_552 : decode mL_law.2.1 552 = .ok (.iadd, 1) := by decide +kernel
theorem dL_law_553 : decode mL_law.2.1 553 = .ok (.iaload, 1) := by decide +kernel
theorem dL_law_554 : decode mL_law.2.1 554 = .ok (.aload_n 0, 1) := by decide +kernel
theorem dL_law_555 : decode mL_law.2.1 555 = .ok (.iload 4, 2) := by decide +kernel
theorem dL_law_557 : decode mL_law.2.1 557 = .ok (.iconst 2, 1) := by decide +kernel
theorem dL_law_558 : decode mL_law.2.1 558 = .ok (.iadd, 1) := by decide +kernel
theorem dL_law_559 : decode mL_law.2.1 559 = .ok (.iaload, 1) := by decide +kernel
theorem dL_law_560 : decode mL_law.2.1 560 = .ok (.aload_n 0, 1) := by decide +kernel
theorem dL_law_561 : decode mL_law.2.1 561 = .ok (.iload 4, 2) := by decide +kernel
theorem dL_law_563 : decode mL_law.2.1 563 = .ok (.iconst 3, 1) := by decide +kernel
theorem dL_law_564 : decode mL_law.2.1 564 = .ok (.iadd, 1) := by decide +kernel
theorem dL_law_565 : decode mL_law.2.1 565 = .ok (.iaload, 1) := by decide +kernel
theorem dL_law_566 : decode mL_law.2.1 566 = .ok (.aload_n 0, 1) := by decide +kernel
theorem dL_law_567 : decode mL_law.2.1 567 = .ok (.iload 4, 2) := by decide +kernel
theorem dL_law_569 : decode mL_law.2.1 569 = .ok (.iconst 4, 1) := by decide +kernel
theorem dL_law_570 : decode mL_law.2.1 570 = .ok (.iadd, 1) := by decide +kernel
theorem dL_law_571 : decode mL_law.2.1 571 = .ok (.iaload, 1) := by decide +kernel
theorem dL_law_572 : decode mL_law.2.1 572 = .ok (.invokevirtual 75, 3) := by decide +kernel
theorem dL_law_575 : decode mL_law.2.1 575 = .ok (.aload_n 2, 1) := by decide +kernel
theorem dL_law_576 : decode mL_law.2.1 576 = .ok (.aload_n 0, 1) := by decide +kernel
theorem dL_law_577 : decode mL_law.2.1 577 = .ok (.iload 4, 2) := by decide +kernel
theorem dL_law_579 : decode mL_law.2.1 579 = .ok (.iconst 1, 1) := by decide +kernel
theorem dL_law_580 : decode mL_law.2.1 580 = .ok (.iadd, 1) := by decide +kernel
theorem dL_law_581 : decode mL_law.2.1 581 = .ok (.iaload, 1) := by decide +kernel
theorem dL_law_582 : decode mL_law.2.1 582 = .ok (.aload_n 0, 1) := by decide +kernel
theorem dL_law_583 : decode mL_law.2.1 583 = .ok (.iload 4, 2) := by decide +kernel
theorem dL_law_585 : decode mL_law.2.1 585 = .ok (.iconst 2, 1) := by decide +kernel
theorem dL_law_586 : decode mL_law.2.1 586 = .ok (.iadd, 1) := by decide +kernel
theorem dL_law_587 : decode mL_law.2.1 587 = .ok (.iaload, 1) := by decide +kernel
theorem dL_law_588 : decode mL_law.2.1 588 = .ok (.aload_n 0, 1) := by decide +kernel
theorem dL_law_589 : decode mL_law.2.1 589 = .ok (.iload 4, 2) := by decide +kernel
theorem dL_law_591 : decode mL_law.2.1 591 = .ok (.iconst 3, 1) := by decide +kernel
theorem dL_law_592 : decode mL_law.2.1 592 = .ok (.iadd, 1) := by decide +kernel
theorem dL_law_593 : decode mL_law.2.1 593 = .ok (.iaload, 1) := by decide +kernel
theorem dL_law_594 : decode mL_law.2.1 594 = .ok (.aload_n 0, 1) := by decide +kernel
theorem dL_law_595 : decode mL_law.2.1 595 = .ok (.iload 4, 2) := by decide +kernel
theorem dL_law_597 : decode mL_law.2.1 597 = .ok (.iconst 4, 1) := by decide +kernel
theorem dL_law_598 : decode mL_law.2.1 598 = .ok (.iadd, 1) := by decide +kernel
theorem dL_law_599 : decode mL_law.2.1 599 = .ok (.iaload, 1) := by decide +kernel
theorem dL_law_600 : decode mL_law.2.1 600 = .ok (.invokevirtual 79, 3) := by decide +kernel
theorem dL_law_603 : decode mL_law.2.1 603 = .ok (.if_icmp .eq 993, 3) := by decide +kernel
theorem dL_law_606 : decode mL_law.2.1 606 = .ok (.iconst 0, 1) := by decide +kernel
theorem dL_law_607 : decode mL_law.2.1 607 = .ok (.ireturn, 1) := by decide +kernel
theorem dL_law_608 : decode mL_law.2.1 608 = .ok (.aload_n 1, 1) := by decide +kernel
theorem dL_law_609 : decode mL_law.2.1 609 = .ok (.aload_n 0, 1) := by decide +kernel
theorem dL_law_610 : decode mL_law.2.1 610 = .ok (.iload 4, 2) := by decide +kernel
theorem dL_law_612 : decode mL_law.2.1 612 = .ok (.iconst 1, 1) := by decide +kernel
theorem dL_law_613 : decode mL_law.2.1 613 = .ok (.iadd, 1) := by decide +kernel
theorem dL_law_614 : decode mL_law.2.1 614 = .ok (.iaload, 1) := by decide +kernel
theorem dL_law_615 : decode mL_law.2.1 615 = .ok (.aload_n 0, 1) := by decide +kernel
theorem dL_law_616 : decode mL_law.2.1 616 = .ok (.iload 4, 2) := by decide +kernel
theorem dL_law_618 : decode mL_law.2.1 618 = .ok (.iconst 2, 1) := by decide +kernel
theorem dL_law_619 : decode mL_law.2.1 619 = .ok (.iadd, 1) := by decide +kernel
theorem dL_law_620 : decode mL_law.2.1 620 = .ok (.iaload, 1) := by decide +kernel
theorem dL_law_621 : decode mL_law.2.1 621 = .ok (.invokevirtual 80, 3) := by decide +kernel
theorem dL_law_624 : decode mL_law.2.1 624 = .ok (.aload_n 2, 1) := by decide +kernel
theorem dL_law_625 : decode mL_law.2.1 625 = .ok (.aload_n 0, 1) := by decide +kernel
theorem dL_law_626 : decode mL_law.2.1 626 = .ok (.iload 4, 2) := by decide +kernel
theorem dL_law_628 : decode mL_law.2.1 628 = .ok (.iconst 1, 1) := by decide +kernel
theorem dL_law_629 : decode mL_law.2.1 629 = .ok (.iadd, 1) := by decide +kernel
theorem dL_law_630 : decode mL_law.2.1 630 = .ok (.iaload, 1) := by decide +kernel
theorem dL_law_631 : decode mL_law.2.1 631 = .ok (.aload_n 0, 1) := by decide +kernel
theorem dL_law_632 : decode mL_law.2.1 632 = .ok (.iload 4, 2) := by decide +kernel
theorem dL_law_634 : decode mL_law.2.1 634 = .ok (.iconst 2, 1) := by decide +kernel
theorem dL_law_635 : decode mL_law.2.1 635 = .ok (.iadd, 1) := by decide +kernel
theorem dL_law_636 : decode mL_law.2.1 636 = .ok (.iaload, 1) := by decide +kernel
theorem dL_law_637 : decode mL_law.2.1 637 = .ok (.invokevirtual 83, 3) := by decide +kernel
theorem dL_law_640 : decode mL_law.2.1 640 = .ok (.if_icmp .eq 956, 3) := by decide +kernel
theorem dL_law_643 : decode mL_law.2.1 643 = .ok (.iconst 0, 1) := by decide +kernel
theorem dL_law_644 : decode mL_law.2.1 644 = .ok (.ireturn, 1) := by decide +kernel
theorem dL_law_645 : decode mL_law.2.1 645 = .ok (.aload_n 1, 1) := by decide +kernel
theorem dL_law_646 : decode mL_law.2.1 646 = .ok (.aload_n 0, 1) := by decide +kernel
theorem dL_law_647 : decode mL_law.2.1 647 = .ok (.iload 4, 2) := by decide +kernel
theorem dL_law_649 : decode mL_law.2.1 649 = .ok (.iconst 1, 1) := by decide +kernel
theorem dL_law_650 : decode mL_law.2.1 650 = .ok (.iadd, 1) := by decide +kernel
theorem dL_law_651 : decode mL_law.2.1 651 = .ok (.iaload, 1) := by decide +kernel
theorem dL_law_652 : decode mL_law.2.1 652 = .ok (.invokevirtual 84, 3) := by decide +kernel
theorem dL_law_655 : decode mL_law.2.1 655 = .ok (.aload_n 2, 1) := by decide +kernel
theorem dL_law_656 : decode mL_law.2.1 656 = .ok (.aload_n 0, 1) := by decide +kernel
theorem dL_law_657 : decode mL_law.2.1 657 = .ok (.iload 4, 2) := by decide +kernel
theorem dL_law_659 : decode mL_law.2.1 659 = .ok (.iconst 1, 1) := by decide +kernel
theorem dL_law_660 : decode mL_law.2.1 660 = .ok (.iadd, 1) := by decide +kernel
theorem dL_law_661 : decode mL_law.2.1 661 = .ok (.iaload, 1) := by decide +kernel
theorem dL_law_662 : decode mL_law.2.1 662 = .ok (.invokevirtual 87, 3) := by decide +kernel
theorem dL_law_665 : decode mL_law.2.1 665 = .ok (.if_icmp .eq 931, 3) := by decide +kernel
theorem dL_law_668 : decode mL_law.2.1 668 = .ok (.iconst 0, 1) := by decide +kernel
theorem dL_law_669 : decode mL_law.2.1 669 = .ok (.ireturn, 1) := by decide +kernel
theorem dL_law_670 : decode mL_law.2.1 670 = .ok (.aload_n 1, 1) := by decide +kernel
theorem dL_law_671 : decode mL_law.2.1 671 = .ok (.aload_n 0, 1) := by decide +kernel
theorem dL_law_672 : decode mL_law.2.1 672 = .ok (.iload 4, 2) := by decide +kernel
theorem dL_law_674 : decode mL_law.2.1 674 = .ok (.iconst 1, 1) := by decide +kernel
theorem dL_law_675 : decode mL_law.2.1 675 = .ok (.iadd, 1) := by decide +kernel
theorem dL_law_676 : decode mL_law.2.1 676 = .ok (.iaload, 1) := by decide +kernel
theorem dL_law_677 : decode mL_law.2.1 677 = .ok (.invokevirtual 88, 3) := by decide +kernel
theorem dL_law_680 : decode mL_law.2.1 680 = .ok (.aload_n 2, 1) := by decide +kernel
theorem dL_law_681 : decode mL_law.2.1 681 = .ok (.aload_n 0, 1) := by decide +kernel
theorem dL_law_682 : decode mL_law.2.1 682 = .ok (.iload 4, 2) := by decide +kernel
theorem dL_law_684 : decode mL_law.2.1 684 = .ok (.iconst 1, 1) := by decide +kernel
theorem dL_law_685 : decode mL_law.2.1 685 = .ok (.iadd, 1) := by decide +kernel
theorem dL_law_686 : decode mL_law.2.1 686 = .ok (.iaload, 1) := by decide +kernel
theorem dL_law_687 : decode mL_law.2.1 687 = .ok (.invokevirtual 91, 3) := by decide +kernel
theorem dL_law_690 : decode mL_law.2.1 690 = .ok (.if_icmp .eq 906, 3) := by decide +kernel
theorem dL_law_693 : decode mL_law.2.1 693 = .ok (.iconst 0, 1) := by decide +kernel
theorem dL_law_694 : decode mL_law.2.1 694 = .ok (.ireturn, 1) := by decide +kernel
theorem dL_law_695 : decode mL_law.2.1 695 = .ok (.aload_n 1, 1) := by decide +kernel
theorem dL_law_696 : decode mL_law.2.1 696 = .ok (.aload_n 0, 1) := by decide +kernel
theorem dL_law_697 : decode mL_law.2.1 697 = .ok (.iload 4, 2) := by decide +kernel
theorem dL_law_699 : decode mL_law.2.1 699 = .ok (.iconst 1, 1) := by decide +kernel
theorem dL_law_700 : decode mL_law.2.1 700 = .ok (.iadd, 1) := by decide +kernel
theorem dL_law_701 : decode mL_law.2.1 701 = .ok (.iaload, 1) := by decide +kernel
theorem dL_law_702 : decode mL_law.2.1 702 = .ok (.aload_n 0, 1) := by decide +kernel
theorem dL_law_703 : decode mL_law.2.1 703 = .ok (.iload 4, 2) := by decide +kernel
theorem dL_law_705 : decode mL_law.2.1 705 = .ok (.iconst 2, 1) := by decide +kernel
theorem dL_law_706 : decode mL_law.2.1 706 = .ok (.iadd, 1) := by decide +kernel
theorem dL_law_707 : decode mL_law.2.1 707 = .ok (.iaload, 1) := by decide +kernel
theorem dL_law_708 : decode mL_law.2.1 708 = .ok (.aload_n 0, 1) := by decide +kernel
theorem dL_law_709 : decode mL_law.2.1 709 = .ok (.iload 4, 2) := by decide +kernel
theorem dL_law_711 : decode mL_law.2.1 711 = .ok (.iconst 3, 1) := by decide +kernel
theorem dL_law_712 : decode mL_law.2.1 712 = .ok (.iadd, 1) := by decide +kernel
theorem dL_law_713 : decode mL_law.2.1 713 = .ok (.iaload, 1) := by decide +kernel
theorem dL_law_714 : decode mL_law.2.1 714 = .ok (.invokevirtual 92, 3) := by decide +kernel
theorem dL_law_717 : decode mL_law.2.1 717 = .ok (.aload_n 2, 1) := by decide +kernel
theorem dL_law_718 : decode mL_law.2.1 718 = .ok (.aload_n 0, 1) := by decide +kernel
theorem dL_law_719 : decode mL_law.2.1 719 = .ok (.iload 4, 2) := by decide +kernel
theorem dL_law_721 : decode mL_law.2.1 721 = .ok (.iconst 1, 1) := by decide +kernel
theorem dL_law_722 : decode mL_law.2.1 722 = .ok (.iadd, 1) := by decide +kernel
theorem dL_law_723 : decode mL_law.2.1 723 = .ok (.iaload, 1) := by decide +kernel
theorem dL_law_724 : decode mL_law.2.1 724 = .ok (.aload_n 0, 1) := by decide +kernel
theorem dL_law_725 : decode mL_law.2.1 725 = .ok (.iload 4, 2) := by decide +kernel
theorem dL_law_727 : decode mL_law.2.1 727 = .ok (.iconst 2, 1) := by decide +kernel
theorem dL_law_728 : decode mL_law.2.1 728 = .ok (.iadd, 1) := by decide +kernel
theorem dL_law_729 : decode mL_law.2.1 729 = .ok (.iaload, 1) := by decide +kernel
theorem dL_law_730 : decode mL_law.2.1 730 = .ok (.aload_n 0, 1) := by decide +kernel
theorem dL_law_731 : decode mL_law.2.1 731 = .ok (.iload 4, 2) := by decide +kernel
theorem dL_law_733 : decode mL_law.2.1 733 = .ok (.iconst 3, 1) := by decide +kernel
theorem dL_law_734 : decode mL_law.2.1 734 = .ok (.iadd, 1) := by decide +kernel
theorem dL_law_735 : decode mL_law.2.1 735 = .ok (.iaload, 1) := by decide +kernel
theorem dL_law_736 : decode mL_law.2.1 736 = .ok (.invokevirtual 96, 3) := by decide +kernel
theorem dL_law_739 : decode mL_law.2.1 739 = .ok (.if_icmp .eq 857, 3) := by decide +kernel
theorem dL_law_742 : decode mL_law.2.1 742 = .ok (.iconst 0, 1) := by decide +kernel
theorem dL_law_743 : decode mL_law.2.1 743 = .ok (.ireturn, 1) := by decide +kernel
theorem dL_law_744 : decode mL_law.2.1 744 = .ok (.aload_n 1, 1) := by decide +kernel
theorem dL_law_745 : decode mL_law.2.1 745 = .ok (.aload_n 0, 1) := by decide +kernel
theorem dL_law_746 : decode mL_law.2.1 746 = .ok (.iload 4, 2) := by decide +kernel
theorem dL_law_748 : decode mL_law.2.1 748 = .ok (.iconst 1, 1) := by decide +kernel
theorem dL_law_749 : decode mL_law.2.1 749 = .ok (.iadd, 1) := by decide +kernel
theorem dL_law_750 : decode mL_law.2.1 750 = .ok (.iaload, 1) := by decide +kernel
theorem dL_law_751 : decode mL_law.2.1 751 = .ok (.invokevirtual 97, 3) := by decide +kernel
theorem dL_law_754 : decode mL_law.2.1 754 = .ok (.aload_n 2, 1) := by decide +kernel
theorem dL_law_755 : decode mL_law.2.1 755 = .ok (.aload_n 0, 1) := by decide +kernel
theorem dL_law_756 : decode mL_law.2.1 756 = .ok (.iload 4, 2) := by decide +kernel
theorem dL_law_758 : decode mL_law.2.1 758 = .ok (.iconst 1, 1) := by decide +kernel
theorem dL_law_759 : decode mL_law.2.1 759 = .ok (.iadd, 1) := by decide +kernel
theorem dL_law_760 : decode mL_law.2.1 760 = .ok (.iaload, 1) := by decide +kernel
theorem dL_law_761 : decode mL_law.2.1 761 = .ok (.invokevirtual 100, 3) := by decide +kernel
theorem dL_law_764 : decode mL_law.2.1 764 = .ok (.if_icmp .eq 832, 3) := by decide +kernel
theorem dL_law_767 : decode mL_law.2.1 767 = .ok (.iconst 0, 1) := by decide +kernel
theorem dL_law_768 : decode mL_law.2.1 768 = .ok (.ireturn, 1) := by decide +kernel
theorem dL_law_769 : decode mL_law.2.1 769 = .ok (.aload_n 1, 1) := by decide +kernel
theorem dL_law_770 : decode mL_law.2.1 770 = .ok (.invokevirtual 101, 3) := by decide +kernel
theorem dL_law_773 : decode mL_law.2.1 773 = .ok (.aload_n 2, 1) := by decide +kernel
theorem dL_law_774 : decode mL_law.2.1 774 = .ok (.invokevirtual 104, 3) := by decide +kernel
theorem dL_law_777 : decode mL_law.2.1 777 = .ok (.if_icmp .eq 819, 3) := by decide +kernel
theorem dL_law_780 : decode mL_law.2.1 780 = .ok (.iconst 0, 1) := by decide +kernel
theorem dL_law_781 : decode mL_law.2.1 781 = .ok (.ireturn, 1) := by decide +kernel
theorem dL_law_782 : decode mL_law.2.1 782 = .ok (.aload_n 1, 1) := by decide +kernel
theorem dL_law_783 : decode mL_law.2.1 783 = .ok (.invokevirtual 105, 3) := by decide +kernel
theorem dL_law_786 : decode mL_law.2.1 786 = .ok (.aload_n 2, 1) := by decide +kernel
theorem dL_law_787 : decode mL_law.2.1 787 = .ok (.invokevirtual 108, 3) := by decide +kernel
theorem dL_law_790 : decode mL_law.2.1 790 = .ok (.if_icmp .eq 806, 3) := by decide +kernel
theorem dL_law_793 : decode mL_law.2.1 793 = .ok (.iconst 0, 1) := by decide +kernel
theorem dL_law_794 : decode mL_law.2.1 794 = .ok (.ireturn, 1) := by decide +kernel
theorem dL_law_795 : decode mL_law.2.1 795 = .ok (.aload_n 1, 1) := by decide +kernel
theorem dL_law_796 : decode mL_law.2.1 796 = .ok (.aload_n 0, 1) := by decide +kernel
theorem dL_law_797 : decode mL_law.2.1 797 = .ok (.iload 4, 2) := by decide +kernel
theorem dL_law_799 : decode mL_law.2.1 799 = .ok (.iconst 1, 1) := by decide +kernel
theorem dL_law_800 : decode mL_law.2.1 800 = .ok (.iadd, 1) := by decide +kernel
theorem dL_law_801 : decode mL_law.2.1 801 = .ok (.iaload, 1) := by decide +kernel
theorem dL_law_802 : decode mL_law.2.1 802 = .ok (.aload_n 0, 1) := by decide +kernel
theorem dL_law_803 : decode mL_law.2.1 803 = .ok (.iload 4, 2) := by decide +kernel
theorem dL_law_805 : decode mL_law.2.1 805 = .ok (.iconst 2, 1) := by decide +kernel
theorem dL_law_806 : decode mL_law.2.1 806 = .ok (.iadd, 1) := by decide +kernel
theorem dL_law_807 : decode mL_law.2.1 807 = .ok (.iaload, 1) := by decide +kernel
theorem dL_law_808 : decode mL_law.2.1 808 = .ok (.invokevirtual 109, 3) := by decide +kernel
theorem dL_law_811 : decode mL_law.2.1 811 = .ok (.aload_n 2, 1) := by decide +kernel
theorem dL_law_812 : decode mL_law.2.1 812 = .ok (.aload_n 0, 1) := by decide +kernel
theorem dL_law_813 : decode mL_law.2.1 813 = .ok (.iload 4, 2) := by decide +kernel
theorem dL_law_815 : decode mL_law.2.1 815 = .ok (.iconst 1, 1) := by decide +kernel
theorem dL_law_816 : decode mL_law.2.1 816 = .ok (.iadd, 1) := by decide +kernel
theorem dL_law_817 : decode mL_law.2.1 817 = .ok (.iaload, 1) := by decide +kernel
theorem dL_law_818 : decode mL_law.2.1 818 = .ok (.aload_n 0, 1) := by decide +kernel
theorem dL_law_819 : decode mL_law.2.1 819 = .ok (.iload 4, 2) := by decide +kernel
theorem dL_law_821 : decode mL_law.2.1 821 = .ok (.iconst 2, 1) := by decide +kernel
theorem dL_law_822 : decode mL_law.2.1 822 = .ok (.iadd, 1) := by decide +kernel
theorem dL_law_823 : decode mL_law.2.1 823 = .ok (.iaload, 1) := by decide +kernel
theorem dL_law_824 : decode mL_law.2.1 824 = .ok (.invokevirtual 112, 3) := by decide +kernel
theorem dL_law_827 : decode mL_law.2.1 827 = .ok (.if_icmp .eq 769, 3) := by decide +kernel
theorem dL_law_830 : decode mL_law.2.1 830 = .ok (.iconst 0, 1) := by decide +kernel
theorem dL_law_831 : decode mL_law.2.1 831 = .ok (.ireturn, 1) := by decide +kernel
theorem dL_law_832 : decode mL_law.2.1 832 = .ok (.aload_n 1, 1) := by decide +kernel
theorem dL_law_833 : decode mL_law.2.1 833 = .ok (.aload_n 0, 1) := by decide +kernel
theorem dL_law_834 : decode mL_law.2.1 834 = .ok (.iload 4, 2) := by decide +kernel
theorem dL_law_836 : decode mL_law.2.1 836 = .ok (.iconst 1, 1) := by decide +kernel
theorem dL_law_837 : decode mL_law.2.1 837 = .ok (.iadd, 1) := by decide +kernel
theorem dL_law_838 : decode mL_law.2.1 838 = .ok (.iaload, 1) := by decide +kernel
theorem dL_law_839 : decode mL_law.2.1 839 = .ok (.aload_n 0, 1) := by decide +kernel
theorem dL_law_840 : decode mL_law.2.1 840 = .ok (.iload 4, 2) := by decide +kernel
theorem dL_law_842 : decode mL_law.2.1 842 = .ok (.iconst 2, 1) := by decide +kernel
theorem dL_law_843 : decode mL_law.2.1 843 = .ok (.iadd, 1) := by decide +kernel
theorem dL_law_844 : decode mL_law.2.1 844 = .ok (.iaload, 1) := by decide +kernel
theorem dL_law_845 : decode mL_law.2.1 845 = .ok (.invokevirtual 113, 3) := by decide +kernel
theorem dL_law_848 : decode mL_law.2.1 848 = .ok (.aload_n 2, 1) := by decide +kernel
theorem dL_law_849 : decode mL_law.2.1 849 = .ok (.aload_n 0, 1) := by decide +kernel
theorem dL_law_850 : decode mL_law.2.1 850 = .ok (.iload 4, 2) := by decide +kernel
theorem dL_law_852 : decode mL_law.2.1 852 = .ok (.iconst 1, 1) := by decide +kernel
theorem dL_law_853 : decode mL_law.2.1 853 = .ok (.iadd, 1) := by decide +kernel
theorem dL_law_854 : decode mL_law.2.1 854 = .ok (.iaload, 1) := by decide +kernel
theorem dL_law_855 : decode mL_law.2.1 855 = .ok (.aload_n 0, 1) := by decide +kernel
theorem dL_law_856 : decode mL_law.2.1 856 = .ok (.iload 4, 2) := by decide +kernel
theorem dL_law_858 : decode mL_law.2.1 858 = .ok (.iconst 2, 1) := by decide +kernel
theorem dL_law_859 : decode mL_law.2.1 859 = .ok (.iadd, 1) := by decide +kernel
theorem dL_law_860 : decode mL_law.2.1 860 = .ok (.iaload, 1) := by decide +kernel
theorem dL_law_861 : decode mL_law.2.1 861 = .ok (.invokevirtual 116, 3) := by decide +kernel
theorem dL_law_864 : decode mL_law.2.1 864 = .ok (.if_icmp .eq 732, 3) := by decide +kernel
theorem dL_law_867 : decode mL_law.2.1 867 = .ok (.iconst 0, 1) := by decide +kernel
theorem dL_law_868 : decode mL_law.2.1 868 = .ok (.ireturn, 1) := by decide +kernel
theorem dL_law_869 : decode mL_law.2.1 869 = .ok (.aload_n 1, 1) := by decide +kernel
theorem dL_law_870 : decode mL_law.2.1 870 = .ok (.aload_n 0, 1) := by decide +kernel
theorem dL_law_871 : decode mL_law.2.1 871 = .ok (.iload 4, 2) := by decide +kernel
theorem dL_law_873 : decode mL_law.2.1 873 = .ok (.iconst 1, 1) := by decide +kernel
theorem dL_law_874 : decode mL_law.2.1 874 = .ok (.iadd, 1) := by decide +kernel
theorem dL_law_875 : decode mL_law.2.1 875 = .ok (.iaload, 1) := by decide +kernel
theorem dL_law_876 : decode mL_law.2.1 876 = .ok (.invokevirtual 117, 3) := by decide +kernel
theorem dL_law_879 : decode mL_law.2.1 879 = .ok (.aload_n 2, 1) := by decide +kernel
theorem dL_law_880 : decode mL_law.2.1 880 = .ok (.aload_n 0, 1) := by decide +kernel
theorem dL_law_881 : decode mL_law.2.1 881 = .ok (.iload 4, 2) := by decide +kernel
theorem dL_law_883 : decode mL_law.2.1 883 = .ok (.iconst 1, 1) := by decide +kernel
theorem dL_law_884 : decode mL_law.2.1 884 = .ok (.iadd, 1) := by decide +kernel
theorem dL_law_885 : decode mL_law.2.1 885 = .ok (.iaload, 1) := by decide +kernel
theorem dL_law_886 : decode mL_law.2.1 886 = .ok (.invokevirtual 120, 3) := by decide +kernel
theorem dL_law_889 : decode mL_law.2.1 889 = .ok (.if_icmp .eq 707, 3) := by decide +kernel
theorem dL_law_892 : decode mL_law.2.1 892 = .ok (.iconst 0, 1) := by decide +kernel
theorem dL_law_893 : decode mL_law.2.1 893 = .ok (.ireturn, 1) := by decide +kernel
theorem dL_law_894 : decode mL_law.2.1 894 = .ok (.aload_n 1, 1) := by decide +kernel
theorem dL_law_895 : decode mL_law.2.1 895 = .ok (.aload_n 0, 1) := by decide +kernel
theorem dL_law_896 : decode mL_law.2.1 896 = .ok (.iload 4, 2) := by decide +kernel
theorem dL_law_898 : decode mL_law.2.1 898 = .ok (.iconst 1, 1) := by decide +kernel
theorem dL_law_899 : decode mL_law.2.1 899 = .ok (.iadd, 1) := by decide +kernel
theorem dL_law_900 : decode mL_law.2.1 900 = .ok (.iaload, 1) := by decide +kernel
theorem dL_law_901 : decode mL_law.2.1 901 = .ok (.aload_n 0, 1) := by decide +kernel
theorem dL_law_902 : decode mL_law.2.1 902 = .ok (.iload 4, 2) := by decide +kernel
theorem dL_law_904 : decode mL_law.2.1 904 = .ok (.iconst 2, 1) := by decide +kernel
theorem dL_law_905 : decode mL_law.2.1 905 = .ok (.iadd, 1) := by decide +kernel
theorem dL_law_906 : decode mL_law.2.1 906 = .ok (.iaload, 1) := by decide +kernel
theorem dL_law_907 : decode mL_law.2.1 907 = .ok (.invokevirtual 121, 3) := by decide +kernel
theorem dL_law_910 : decode mL_law.2.1 910 = .ok (.aload_n 2, 1) := by decide +kernel
theorem dL_law_911 : decode mL_law.2.1 911 = .ok (.aload_n 0, 1) := by decide +kernel
theorem dL_law_912 : decode mL_law.2.1 912 = .ok (.iload 4, 2) := by decide +kernel
theorem dL_law_914 : decode mL_law.2.1 914 = .ok (.iconst 1, 1) := by decide +kernel
theorem dL_law_915 : decode mL_law.2.1 915 = .ok (.iadd, 1) := by decide +kernel
theorem dL_law_916 : decode mL_law.2.1 916 = .ok (.iaload, 1) := by decide +kernel
theorem dL_law_917 : decode mL_law.2.1 917 = .ok (.aload_n 0, 1) := by decide +kernel
theorem dL_law_918 : decode mL_law.2.1 918 = .ok (.iload 4, 2) := by decide +kernel
theorem dL_law_920 : decode mL_law.2.1 920 = .ok (.iconst 2, 1) := by decide +kernel
theorem dL_law_921 : decode mL_law.2.1 921 = .ok (.iadd, 1) := by decide +kernel
theorem dL_law_922 : decode mL_law.2.1 922 = .ok (.iaload, 1) := by decide +kernel
theorem dL_law_923 : decode mL_law.2.1 923 = .ok (.invokevirtual 124, 3) := by decide +kernel
theorem dL_law_926 : decode mL_law.2.1 926 = .ok (.if_icmp .eq 670, 3) := by decide +kernel
theorem dL_law_929 : decode mL_law.2.1 929 = .ok (.iconst 0, 1) := by decide +kernel
theorem dL_law_930 : decode mL_law.2.1 930 = .ok (.ireturn, 1) := by decide +kernel
theorem dL_law_931 : decode mL_law.2.1 931 = .ok (.aload_n 1, 1) := by decide +kernel
theorem dL_law_932 : decode mL_law.2.1 932 = .ok (.aload_n 0, 1) := by decide +kernel
theorem dL_law_933 : decode mL_law.2.1 933 = .ok (.iload 4, 2) := by decide +kernel
theorem dL_law_935 : decode mL_law.2.1 935 = .ok (.iconst 1, 1) := by decide +kernel
theorem dL_law_936 : decode mL_law.2.1 936 = .ok (.iadd, 1) := by decide +kernel
theorem dL_law_937 : decode mL_law.2.1 937 = .ok (.iaload, 1) := by decide +kernel
theorem dL_law_938 : decode mL_law.2.1 938 = .ok (.invokevirtual 125, 3) := by decide +kernel
theorem dL_law_941 : decode mL_law.2.1 941 = .ok (.aload_n 2, 1) := by decide +kernel
theorem dL_law_942 : decode mL_law.2.1 942 = .ok (.aload_n 0, 1) := by decide +kernel
theorem dL_law_943 : decode mL_law.2.1 943 = .ok (.iload 4, 2) := by decide +kernel
theorem dL_law_945 : decode mL_law.2.1 945 = .ok (.iconst 1, 1) := by decide +kernel
theorem dL_law_946 : decode mL_law.2.1 946 = .ok (.iadd, 1) := by decide +kernel
theorem dL_law_947 : decode mL_law.2.1 947 = .ok (.iaload, 1) := by decide +kernel
theorem dL_law_948 : decode mL_law.2.1 948 = .ok (.invokevirtual 128, 3) := by decide +kernel
theorem dL_law_951 : decode mL_law.2.1 951 = .ok (.if_icmp .eq 645, 3) := by decide +kernel
theorem dL_law_954 : decode mL_law.2.1 954 = .ok (.iconst 0, 1) := by decide +kernel
theorem dL_law_955 : decode mL_law.2.1 955 = .ok (.ireturn, 1) := by decide +kernel
theorem dL_law_956 : decode mL_law.2.1 956 = .ok (.aload_n 1, 1) := by decide +kernel
theorem dL_law_957 : decode mL_law.2.1 957 = .ok (.invokevirtual 129, 3) := by decide +kernel
theorem dL_law_960 : decode mL_law.2.1 960 = .ok (.aload_n 2, 1) := by decide +kernel
theorem dL_law_961 : decode mL_law.2.1 961 = .ok (.invokevirtual 132, 3) := by decide +kernel
theorem dL_law_964 : decode mL_law.2.1 964 = .ok (.if_icmp .eq 632, 3) := by decide +kernel
theorem dL_law_967 : decode mL_law.2.1 967 = .ok (.iconst 0, 1) := by decide +kernel
theorem dL_law_968 : decode mL_law.2.1 968 = .ok (.ireturn, 1) := by decide +kernel
theorem dL_law_969 : decode mL_law.2.1 969 = .ok (.aload_n 1, 1) := by decide +kernel
theorem dL_law_970 : decode mL_law.2.1 970 = .ok (.aload_n 0, 1) := by decide +kernel
theorem dL_law_971 : decode mL_law.2.1 971 = .ok (.iload 4, 2) := by decide +kernel
theorem dL_law_973 : decode mL_law.2.1 973 = .ok (.iconst 1, 1) := by decide +kernel
theorem dL_law_974 : decode mL_law.2.1 974 = .ok (.iadd, 1) := by decide +kernel
theorem dL_law_975 : decode mL_law.2.1 975 = .ok (.iaload, 1) := by decide +kernel
theorem dL_law_976 : decode mL_law.2.1 976 = .ok (.aload_n 0, 1) := by decide +kernel
theorem dL_law_977 : decode mL_law.2.1 977 = .ok (.iload 4, 2) := by decide +kernel
theorem dL_law_979 : decode mL_law.2.1 979 = .ok (.iconst 2, 1) := by decide +kernel
theorem dL_law_980 : decode mL_law.2.1 980 = .ok (.iadd, 1) := by decide +kernel
theorem dL_law_981 : decode mL_law.2.1 981 = .ok (.iaload, 1) := by decide +kernel
theorem dL_law_982 : decode mL_law.2.1 982 = .ok (.aload_n 0, 1) := by decide +kernel
theorem dL_law_983 : decode mL_law.2.1 983 = .ok (.iload 4, 2) := by decide +kernel
theorem dL_law_985 : decode mL_law.2.1 985 = .ok (.iconst 3, 1) := by decide +kernel
theorem dL_law_986 : decode mL_law.2.1 986 = .ok (.iadd, 1) := by decide +kernel
theorem dL_law_987 : decode mL_law.2.1 987 = .ok (.iaload, 1) := by decide +kernel
theorem dL_law_988 : decode mL_law.2.1 988 = .ok (.invokevirtual 133, 3) := by decide +kernel
theorem dL_law_991 : decode mL_law.2.1 991 = .ok (.aload_n 2, 1) := by decide +kernel
theorem dL_law_992 : decode mL_law.2.1 992 = .ok (.aload_n 0, 1) := by decide +kernel
theorem dL_law_993 : decode mL_law.2.1 993 = .ok (.iload 4, 2) := by decide +kernel
theorem dL_law_995 : decode mL_law.2.1 995 = .ok (.iconst 1, 1) := by decide +kernel
theorem dL_law_996 : decode mL_law.2.1 996 = .ok (.iadd, 1) := by decide +kernel
theorem dL_law_997 : decode mL_law.2.1 997 = .ok (.iaload, 1) := by decide +kernel
theorem dL_law_998 : decode mL_law.2.1 998 = .ok (.aload_n 0, 1) := by decide +kernel
theorem dL_law_999 : decode mL_law.2.1 999 = .ok (.iload 4, 2) := by decide +kernel
theorem dL_law_1001 : decode mL_law.2.1 1001 = .ok (.iconst 2, 1) := by decide +kernel
theorem dL_law_1002 : decode mL_law.2.1 1002 = .ok (.iadd, 1) := by decide +kernel
theorem dL_law_1003 : decode mL_law.2.1 1003 = .ok (.iaload, 1) := by decide +kernel
theorem dL_law_1004 : decode mL_law.2.1 1004 = .ok (.aload_n 0, 1) := by decide +kernel
theorem dL_law_1005 : decode mL_law.2.1 1005 = .ok (.iload 4, 2) := by decide +kernel
theorem dL_law_1007 : decode mL_law.2.1 1007 = .ok (.iconst 3, 1) := by decide +kernel
theorem dL_law_1008 : decode mL_law.2.1 1008 = .ok (.iadd, 1) := by decide +kernel
theorem dL_law_1009 : decode mL_law.2.1 1009 = .ok (.iaload, 1) := by decide +kernel
theorem dL_law_1010 : decode mL_law.2.1 1010 = .ok (.invokevirtual 136, 3) := by decide +kernel
theorem dL_law_1013 : decode mL_law.2.1 1013 = .ok (.if_icmp .eq 583, 3) := by decide +kernel
theorem dL_law_1016 : decode mL_law.2.1 1016 = .ok (.iconst 0, 1) := by decide +kernel
theorem dL_law_1017 : decode mL_law.2.1 1017 = .ok (.ireturn, 1) := by decide +kernel
theorem dL_law_1018 : decode mL_law.2.1 1018 = .ok (.aload_n 1, 1) := by decide +kernel
theorem dL_law_1019 : decode mL_law.2.1 1019 = .ok (.aload_n 0, 1) := by decide +kernel
theorem dL_law_1020 : decode mL_law.2.1 1020 = .ok (.iload 4, 2) := by decide +kernel
theorem dL_law_1022 : decode mL_law.2.1 1022 = .ok (.iconst 1, 1) := by decide +kernel
theorem dL_law_1023 : decode mL_law.2.1 1023 = .ok (.iadd, 1) := by decide +kernel
theorem dL_law_1024 : decode mL_law.2.1 1024 = .ok (.iaload, 1) := by decide +kernel
theorem dL_law_1025 : decode mL_law.2.1 1025 = .ok (.invokevirtual 137, 3) := by decide +kernel
theorem dL_law_1028 : decode mL_law.2.1 1028 = .ok (.aload_n 2, 1) := by decide +kernel
theorem dL_law_1029 : decode mL_law.2.1 1029 = .ok (.aload_n 0, 1) := by decide +kernel
theorem dL_law_1030 : decode mL_law.2.1 1030 = .ok (.iload 4, 2) := by decide +kernel
theorem dL_law_1032 : decode mL_law.2.1 1032 = .ok (.iconst 1, 1) := by decide +kernel
theorem dL_law_1033 : decode mL_law.2.1 1033 = .ok (.iadd, 1) := by decide +kernel
theorem dL_law_1034 : decode mL_law.2.1 1034 = .ok (.iaload, 1) := by decide +kernel
theorem dL_law_1035 : decode mL_law.2.1 1035 = .ok (.invokevirtual 140, 3) := by decide +kernel
theorem dL_law_1038 : decode mL_law.2.1 1038 = .ok (.if_icmp .eq 558, 3) := by decide +kernel
theorem dL_law_1041 : decode mL_law.2.1 1041 = .ok (.iconst 0, 1) := by decide +kernel
theorem dL_law_1042 : decode mL_law.2.1 1042 = .ok (.ireturn, 1) := by decide +kernel
theorem dL_law_1043 : decode mL_law.2.1 1043 = .ok (.aload_n 1, 1) := by decide +kernel
theorem dL_law_1044 : decode mL_law.2.1 1044 = .ok (.aload_n 0, 1) := by decide +kernel
theorem dL_law_1045 : decode mL_law.2.1 1045 = .ok (.iload 4, 2) := by decide +kernel
theorem dL_law_1047 : decode mL_law.2.1 1047 = .ok (.iconst 1, 1) := by decide +kernel
theorem dL_law_1048 : decode mL_law.2.1 1048 = .ok (.iadd, 1) := by decide +kernel
theorem dL_law_1049 : decode mL_law.2.1 1049 = .ok (.iaload, 1) := by decide +kernel
theorem dL_law_1050 : decode mL_law.2.1 1050 = .ok (.invokevirtual 141, 3) := by decide +kernel
theorem dL_law_1053 : decode mL_law.2.1 1053 = .ok (.aload_n 2, 1) := by decide +kernel
theorem dL_law_1054 : decode mL_law.2.1 1054 = .ok (.aload_n 0, 1) := by decide +kernel
theorem dL_law_1055 : decode mL_law.2.1 1055 = .ok (.iload 4, 2) := by decide +kernel
theorem dL_law_1057 : decode mL_law.2.1 1057 = .ok (.iconst 1, 1) := by decide +kernel
theorem dL_law_1058 : decode mL_law.2.1 1058 = .ok (.iadd, 1) := by decide +kernel
theorem dL_law_1059 : decode mL_law.2.1 1059 = .ok (.iaload, 1) := by decide +kernel
theorem dL_law_1060 : decode mL_law.2.1 1060 = .ok (.invokevirtual 144, 3) := by decide +kernel
theorem dL_law_1063 : decode mL_law.2.1 1063 = .ok (.if_icmp .eq 533, 3) := by decide +kernel
theorem dL_law_1066 : decode mL_law.2.1 1066 = .ok (.iconst 0, 1) := by decide +kernel
theorem dL_law_1067 : decode mL_law.2.1 1067 = .ok (.ireturn, 1) := by decide +kernel
theorem dL_law_1068 : decode mL_law.2.1 1068 = .ok (.aload_n 1, 1) := by decide +kernel
theorem dL_law_1069 : decode mL_law.2.1 1069 = .ok (.aload_n 0, 1) := by decide +kernel
theorem dL_law_1070 : decode mL_law.2.1 1070 = .ok (.iload 4, 2) := by decide +kernel
theorem dL_law_1072 : decode mL_law.2.1 1072 = .ok (.iconst 1, 1) := by decide +kernel
theorem dL_law_1073 : decode mL_law.2.1 1073 = .ok (.iadd, 1) := by decide +kernel
theorem dL_law_1074 : decode mL_law.2.1 1074 = .ok (.iaload, 1) := by decide +kernel
theorem dL_law_1075 : decode mL_law.2.1 1075 = .ok (.aload_n 0, 1) := by decide +kernel
theorem dL_law_1076 : decode mL_law.2.1 1076 = .ok (.iload 4, 2) := by decide +kernel
theorem dL_law_1078 : decode mL_law.2.1 1078 = .ok (.iconst 2, 1) := by decide +kernel
theorem dL_law_1079 : decode mL_law.2.1 1079 = .ok (.iadd, 1) := by decide +kernel
theorem dL_law_1080 : decode mL_law.2.1 1080 = .ok (.iaload, 1) := by decide +kernel
theorem dL_law_1081 : decode mL_law.2.1 1081 = .ok (.aload_n 0, 1) := by decide +kernel
theorem dL_law_1082 : decode mL_law.2.1 1082 = .ok (.iload 4, 2) := by decide +kernel
theorem dL_law_1084 : decode mL_law.2.1 1084 = .ok (.iconst 3, 1) := by decide +kernel
theorem dL_law_1085 : decode mL_law.2.1 1085 = .ok (.iadd, 1) := by decide +kernel
theorem dL_law_1086 : decode mL_law.2.1 1086 = .ok (.iaload, 1) := by decide +kernel
theorem dL_law_1087 : decode mL_law.2.1 1087 = .ok (.aload_n 0, 1) := by decide +kernel
theorem dL_law_1088 : decode mL_law.2.1 1088 = .ok (.iload 4, 2) := by decide +kernel
theorem dL_law_1090 : decode mL_law.2.1 1090 = .ok (.iconst 4, 1) := by decide +kernel
theorem dL_law_1091 : decode mL_law.2.1 1091 = .ok (.iadd, 1) := by decide +kernel
theorem dL_law_1092 : decode mL_law.2.1 1092 = .ok (.iaload, 1) := by decide +kernel
theorem dL_law_1093 : decode mL_law.2.1 1093 = .ok (.invokevirtual 145, 3) := by decide +kernel
theorem dL_law_1096 : decode mL_law.2.1 1096 = .ok (.aload_n 2, 1) := by decide +kernel
theorem dL_law_1097 : decode mL_law.2.1 1097 = .ok (.aload_n 0, 1) := by decide +kernel
theorem dL_law_1098 : decode mL_law.2.1 1098 = .ok (.iload 4, 2) := by decide +kernel
theorem dL_law_1100 : decode mL_law.2.1 1100 = .ok (.iconst 1, 1) := by decide +kernel
theorem dL_law_1101 : decode mL_law.2.1 1101 = .ok (.iadd, 1) := by decide +kernel
theorem dL_law_1102 : decode mL_law.2.1 1102 = .ok (.iaload, 1) := by decide +kernel
theorem dL_law_1103 : decode mL_law.2.1 1103 = .ok (.aload_n 0, 1) := by decide +kernel
theorem dL_law_1104 : decode mL_law.2.1 1104 = .ok (.iload 4, 2) := by decide +kernel
theorem dL_law_1106 : decode mL_law.2.1 1106 = .ok (.iconst 2, 1) := by decide +kernel
theorem dL_law_1107 : decode mL_law.2.1 1107 = .ok (.iadd, 1) := by decide +kernel
theorem dL_law_1108 : decode mL_law.2.1 1108 = .ok (.iaload, 1) := by decide +kernel
theorem dL_law_1109 : decode mL_law.2.1 1109 = .ok (.aload_n 0, 1) := by decide +kernel
theorem dL_law_1110 : decode mL_law.2.1 1110 = .ok (.iload 4, 2) := by decide +kernel
theorem dL_law_1112 : decode mL_law.2.1 1112 = .ok (.iconst 3, 1) := by decide +kernel
theorem dL_law_1113 : decode mL_law.2.1 1113 = .ok (.iadd, 1) := by decide +kernel
theorem dL_law_1114 : decode mL_law.2.1 1114 = .ok (.iaload, 1) := by decide +kernel
theorem dL_law_1115 : decode mL_law.2.1 1115 = .ok (.aload_n 0, 1) := by decide +kernel
theorem dL_law_1116 : decode mL_law.2.1 1116 = .ok (.iload 4, 2) := by decide +kernel
theorem dL_law_1118 : decode mL_law.2.1 1118 = .ok (.iconst 4, 1) := by decide +kernel
theorem dL_law_1119 : decode mL_law.2.1 1119 = .ok (.iadd, 1) := by decide +kernel
theorem dL_law_1120 : decode mL_law.2.1 1120 = .ok (.iaload, 1) := by decide +kernel
theorem dL_law_1121 : decode mL_law.2.1 1121 = .ok (.invokevirtual 148, 3) := by decide +kernel
theorem dL_law_1124 : decode mL_law.2.1 1124 = .ok (.if_icmp .eq 472, 3) := by decide +kernel
theorem dL_law_1127 : decode mL_law.2.1 1127 = .ok (.iconst 0, 1) := by decide +kernel
theorem dL_law_1128 : decode mL_law.2.1 1128 = .ok (.ireturn, 1) := by decide +kernel
theorem dL_law_1129 : decode mL_law.2.1 1129 = .ok (.aload_n 1, 1) := by decide +kernel
theorem dL_law_1130 : decode mL_law.2.1 1130 = .ok (.aload_n 0, 1) := by decide +kernel
theorem dL_law_1131 : decode mL_law.2.1 1131 = .ok (.iload 4, 2) := by decide +kernel
theorem dL_law_1133 : decode mL_law.2.1 1133 = .ok (.iconst 1, 1) := by decide +kernel
theorem dL_law_1134 : decode mL_law.2.1 1134 = .ok (.iadd, 1) := by decide +kernel
theorem dL_law_1135 : decode mL_law.2.1 1135 = .ok (.iaload, 1) := by decide +kernel
theorem dL_law_1136 : decode mL_law.2.1 1136 = .ok (.aload_n 0, 1) := by decide +kernel
theorem dL_law_1137 : decode mL_law.2.1 1137 = .ok (.iload 4, 2) := by decide +kernel
theorem dL_law_1139 : decode mL_law.2.1 1139 = .ok (.iconst 2, 1) := by decide +kernel
theorem dL_law_1140 : decode mL_law.2.1 1140 = .ok (.iadd, 1) := by decide +kernel
theorem dL_law_1141 : decode mL_law.2.1 1141 = .ok (.iaload, 1) := by decide +kernel
theorem dL_law_1142 : decode mL_law.2.1 1142 = .ok (.aload_n 0, 1) := by decide +kernel
theorem dL_law_1143 : decode mL_law.2.1 1143 = .ok (.iload 4, 2) := by decide +kernel
theorem dL_law_1145 : decode mL_law.2.1 1145 = .ok (.iconst 3, 1) := by decide +kernel
theorem dL_law_1146 : decode mL_law.2.1 1146 = .ok (.iadd, 1) := by decide +kernel
theorem dL_law_1147 : decode mL_law.2.1 1147 = .ok (.iaload, 1) := by decide +kernel
theorem dL_law_1148 : decode mL_law.2.1 1148 = .ok (.aload_n 0, 1) := by decide +kernel
theorem dL_law_1149 : decode mL_law.2.1 1149 = .ok (.iload 4, 2) := by decide +kernel
theorem dL_law_1151 : decode mL_law.2.1 1151 = .ok (.iconst 4, 1) := by decide +kernel
theorem dL_law_1152 : decode mL_law.2.1 1152 = .ok (.iadd, 1) := by decide +kernel
theorem dL_law_1153 : decode mL_law.2.1 1153 = .ok (.iaload, 1) := by decide +kernel
theorem dL_law_1154 : decode mL_law.2.1 1154 = .ok (.invokevirtual 149, 3) := by decide +kernel
theorem dL_law_1157 : decode mL_law.2.1 1157 = .ok (.aload_n 2, 1) := by decide +kernel
theorem dL_law_1158 : decode mL_law.2.1 1158 = .ok (.aload_n 0, 1) := by decide +kernel
theorem dL_law_1159 : decode mL_law.2.1 1159 = .ok (.iload 4, 2) := by decide +kernel
theorem dL_law_1161 : decode mL_law.2.1 1161 = .ok (.iconst 1, 1) := by decide +kernel
theorem dL_law_1162 : decode mL_law.2.1 1162 = .ok (.iadd, 1) := by decide +kernel
theorem dL_law_1163 : decode mL_law.2.1 1163 = .ok (.iaload, 1) := by decide +kernel
theorem dL_law_1164 : decode mL_law.2.1 1164 = .ok (.aload_n 0, 1) := by decide +kernel
theorem dL_law_1165 : decode mL_law.2.1 1165 = .ok (.iload 4, 2) := by decide +kernel
theorem dL_law_1167 : decode mL_law.2.1 1167 = .ok (.iconst 2, 1) := by decide +kernel
theorem dL_law_1168 : decode mL_law.2.1 1168 = .ok (.iadd, 1) := by decide +kernel
theorem dL_law_1169 : decode mL_law.2.1 1169 = .ok (.iaload, 1) := by decide +kernel
theorem dL_law_1170 : decode mL_law.2.1 1170 = .ok (.aload_n 0, 1) := by decide +kernel
theorem dL_law_1171 : decode mL_law.2.1 1171 = .ok (.iload 4, 2) := by decide +kernel
theorem dL_law_1173 : decode mL_law.2.1 1173 = .ok (.iconst 3, 1) := by decide +kernel
theorem dL_law_1174 : decode mL_law.2.1 1174 = .ok (.iadd, 1) := by decide +kernel
theorem dL_law_1175 : decode mL_law.2.1 1175 = .ok (.iaload, 1) := by decide +kernel
theorem dL_law_1176 : decode mL_law.2.1 1176 = .ok (.aload_n 0, 1) := by decide +kernel
theorem dL_law_1177 : decode mL_law.2.1 1177 = .ok (.iload 4, 2) := by decide +kernel
theorem dL_law_1179 : decode mL_law.2.1 1179 = .ok (.iconst 4, 1) := by decide +kernel
theorem dL_law_1180 : decode mL_law.2.1 1180 = .ok (.iadd, 1) := by decide +kernel
theorem dL_law_1181 : decode mL_law.2.1 1181 = .ok (.iaload, 1) := by decide +kernel
theorem dL_law_1182 : decode mL_law.2.1 1182 = .ok (.invokevirtual 152, 3) := by decide +kernel
theorem dL_law_1185 : decode mL_law.2.1 1185 = .ok (.if_icmp .eq 411, 3) := by decide +kernel
theorem dL_law_1188 : decode mL_law.2.1 1188 = .ok (.iconst 0, 1) := by decide +kernel
theorem dL_law_1189 : decode mL_law.2.1 1189 = .ok (.ireturn, 1) := by decide +kernel
theorem dL_law_1190 : decode mL_law.2.1 1190 = .ok (.aload_n 1, 1) := by decide +kernel
theorem dL_law_1191 : decode mL_law.2.1 1191 = .ok (.aload_n 0, 1) := by decide +kernel
theorem dL_law_1192 : decode mL_law.2.1 1192 = .ok (.iload 4, 2) := by decide +kernel
theorem dL_law_1194 : decode mL_law.2.1 1194 = .ok (.iconst 1, 1) := by decide +kernel
theorem dL_law_1195 : decode mL_law.2.1 1195 = .ok (.iadd, 1) := by decide +kernel
theorem dL_law_1196 : decode mL_law.2.1 1196 = .ok (.iaload, 1) := by decide +kernel
theorem dL_law_1197 : decode mL_law.2.1 1197 = .ok (.aload_n 0, 1) := by decide +kernel
theorem dL_law_1198 : decode mL_law.2.1 1198 = .ok (.iload 4, 2) := by decide +kernel
theorem dL_law_1200 : decode mL_law.2.1 1200 = .ok (.iconst 2, 1) := by decide +kernel
theorem dL_law_1201 : decode mL_law.2.1 1201 = .ok (.iadd, 1) := by decide +kernel
theorem dL_law_1202 : decode mL_law.2.1 1202 = .ok (.iaload, 1) := by decide +kernel
theorem dL_law_1203 : decode mL_law.2.1 1203 = .ok (.invokevirtual 153, 3) := by decide +kernel
theorem dL_law_1206 : decode mL_law.2.1 1206 = .ok (.aload_n 2, 1) := by decide +kernel
theorem dL_law_1207 : decode mL_law.2.1 1207 = .ok (.aload_n 0, 1) := by decide +kernel
theorem dL_law_1208 : decode mL_law.2.1 1208 = .ok (.iload 4, 2) := by decide +kernel
theorem dL_law_1210 : decode mL_law.2.1 1210 = .ok (.iconst 1, 1) := by decide +kernel
theorem dL_law_1211 : decode mL_law.2.1 1211 = .ok (.iadd, 1) := by decide +kernel
theorem dL_law_1212 : decode mL_law.2.1 1212 = .ok (.iaload, 1) := by decide +kernel
theorem dL_law_1213 : decode mL_law.2.1 1213 = .ok (.aload_n 0, 1) := by decide +kernel
theorem dL_law_1214 : decode mL_law.2.1 1214 = .ok (.iload 4, 2) := by decide +kernel
theorem dL_law_1216 : decode mL_law.2.1 1216 = .ok (.iconst 2, 1) := by decide +kernel
theorem dL_law_1217 : decode mL_law.2.1 1217 = .ok (.iadd, 1) := by decide +kernel
theorem dL_law_1218 : decode mL_law.2.1 1218 = .ok (.iaload, 1) := by decide +kernel
theorem dL_law_1219 : decode mL_law.2.1 1219 = .ok (.invokevirtual 157, 3) := by decide +kernel
theorem dL_law_1222 : decode mL_law.2.1 1222 = .ok (.lcmp, 1) := by decide +kernel
theorem dL_law_1223 : decode mL_law.2.1 1223 = .ok (.ifCond .eq 373, 3) := by decide +kernel
theorem dL_law_1226 : decode mL_law.2.1 1226 = .ok (.iconst 0, 1) := by decide +kernel
theorem dL_law_1227 : decode mL_law.2.1 1227 = .ok (.ireturn, 1) := by decide +kernel
theorem dL_law_1228 : decode mL_law.2.1 1228 = .ok (.aload_n 1, 1) := by decide +kernel
theorem dL_law_1229 : decode mL_law.2.1 1229 = .ok (.aload_n 0, 1) := by decide +kernel
theorem dL_law_1230 : decode mL_law.2.1 1230 = .ok (.iload 4, 2) := by decide +kernel
theorem dL_law_1232 : decode mL_law.2.1 1232 = .ok (.iconst 1, 1) := by decide +kernel
theorem dL_law_1233 : decode mL_law.2.1 1233 = .ok (.iadd, 1) := by decide +kernel
theorem dL_law_1234 : decode mL_law.2.1 1234 = .ok (.iaload, 1) := by decide +kernel
theorem dL_law_1235 : decode mL_law.2.1 1235 = .ok (.aload_n 0, 1) := by decide +kernel
theorem dL_law_1236 : decode mL_law.2.1 1236 = .ok (.iload 4, 2) := by decide +kernel
theorem dL_law_1238 : decode mL_law.2.1 1238 = .ok (.iconst 2, 1) := by decide +kernel
theorem dL_law_1239 : decode mL_law.2.1 1239 = .ok (.iadd, 1) := by decide +kernel
theorem dL_law_1240 : decode mL_law.2.1 1240 = .ok (.iaload, 1) := by decide +kernel
theorem dL_law_1241 : decode mL_law.2.1 1241 = .ok (.aload_n 0, 1) := by decide +kernel
theorem dL_law_1242 : decode mL_law.2.1 1242 = .ok (.iload 4, 2) := by decide +kernel
theorem dL_law_1244 : decode mL_law.2.1 1244 = .ok (.iconst 3, 1) := by decide +kernel
theorem dL_law_1245 : decode mL_law.2.1 1245 = .ok (.iadd, 1) := by decide +kernel
theorem dL_law_1246 : decode mL_law.2.1 1246 = .ok (.iaload, 1) := by decide +kernel
theorem dL_law_1247 : decode mL_law.2.1 1247 = .ok (.invokevirtual 158, 3) := by decide +kernel
theorem dL_law_1250 : decode mL_law.2.1 1250 = .ok (.aload_n 2, 1) := by decide +kernel
theorem dL_law_1251 : decode mL_law.2.1 1251 = .ok (.aload_n 0, 1) := by decide +kernel
theorem dL_law_1252 : decode mL_law.2.1 1252 = .ok (.iload 4, 2) := by decide +kernel
theorem dL_law_1254 : decode mL_law.2.1 1254 = .ok (.iconst 1, 1) := by decide +kernel
theorem dL_law_1255 : decode mL_law.2.1 1255 = .ok (.iadd, 1) := by decide +kernel
theorem dL_law_1256 : decode mL_law.2.1 1256 = .ok (.iaload, 1) := by decide +kernel
theorem dL_law_1257 : decode mL_law.2.1 1257 = .ok (.aload_n 0, 1) := by decide +kernel
theorem dL_law_1258 : decode mL_law.2.1 1258 = .ok (.iload 4, 2) := by decide +kernel
theorem dL_law_1260 : decode mL_law.2.1 1260 = .ok (.iconst 2, 1) := by decide +kernel
theorem dL_law_1261 : decode mL_law.2.1 1261 = .ok (.iadd, 1) := by decide +kernel
theorem dL_law_1262 : decode mL_law.2.1 1262 = .ok (.iaload, 1) := by decide +kernel
theorem dL_law_1263 : decode mL_law.2.1 1263 = .ok (.aload_n 0, 1) := by decide +kernel
theorem dL_law_1264 : decode mL_law.2.1 1264 = .ok (.iload 4, 2) := by decide +kernel
theorem dL_law_1266 : decode mL_law.2.1 1266 = .ok (.iconst 3, 1) := by decide +kernel
theorem dL_law_1267 : decode mL_law.2.1 1267 = .ok (.iadd, 1) := by decide +kernel
theorem dL_law_1268 : decode mL_law.2.1 1268 = .ok (.iaload, 1) := by decide +kernel
theorem dL_law_1269 : decode mL_law.2.1 1269 = .ok (.invokevirtual 161, 3) := by decide +kernel
theorem dL_law_1272 : decode mL_law.2.1 1272 = .ok (.if_icmp .eq 324, 3) := by decide +kernel
theorem dL_law_1275 : decode mL_law.2.1 1275 = .ok (.iconst 0, 1) := by decide +kernel
theorem dL_law_1276 : decode mL_law.2.1 1276 = .ok (.ireturn, 1) := by decide +kernel
theorem dL_law_1277 : decode mL_law.2.1 1277 = .ok (.aload_n 1, 1) := by decide +kernel
theorem dL_law_1278 : decode mL_law.2.1 1278 = .ok (.invokevirtual 162, 3) := by decide +kernel
theorem dL_law_1281 : decode mL_law.2.1 1281 = .ok (.aload_n 2, 1) := by decide +kernel
theorem dL_law_1282 : decode mL_law.2.1 1282 = .ok (.invokevirtual 165, 3) := by decide +kernel
theorem dL_law_1285 : decode mL_law.2.1 1285 = .ok (.if_icmp .eq 311, 3) := by decide +kernel
theorem dL_law_1288 : decode mL_law.2.1 1288 = .ok (.iconst 0, 1) := by decide +kernel
theorem dL_law_1289 : decode mL_law.2.1 1289 = .ok (.ireturn, 1) := by decide +kernel
theorem dL_law_1290 : decode mL_law.2.1 1290 = .ok (.aload_n 1, 1) := by decide +kernel
theorem dL_law_1291 : decode mL_law.2.1 1291 = .ok (.invokevirtual 166, 3) := by decide +kernel
theorem dL_law_1294 : decode mL_law.2.1 1294 = .ok (.aload_n 2, 1) := by decide +kernel
theorem dL_law_1295 : decode mL_law.2.1 1295 = .ok (.invokevirtual 169, 3) := by decide +kernel
theorem dL_law_1298 : decode mL_law.2.1 1298 = .ok (.if_icmp .eq 298, 3) := by decide +kernel
theorem dL_law_1301 : decode mL_law.2.1 1301 = .ok (.iconst 0, 1) := by decide +kernel
theorem dL_law_1302 : decode mL_law.2.1 1302 = .ok (.ireturn, 1) := by decide +kernel
theorem dL_law_1303 : decode mL_law.2.1 1303 = .ok (.aload_n 1, 1) := by decide +kernel
theorem dL_law_1304 : decode mL_law.2.1 1304 = .ok (.invokevirtual 170, 3) := by decide +kernel
theorem dL_law_1307 : decode mL_law.2.1 1307 = .ok (.aload_n 2, 1) := by decide +kernel
theorem dL_law_1308 : decode mL_law.2.1 1308 = .ok (.invokevirtual 173, 3) := by decide +kernel
theorem dL_law_1311 : decode mL_law.2.1 1311 = .ok (.if_icmp .eq 285, 3) := by decide +kernel
theorem dL_law_1314 : decode mL_law.2.1 1314 = .ok (.iconst 0, 1) := by decide +kernel
theorem dL_law_1315 : decode mL_law.2.1 1315 = .ok (.ireturn, 1) := by decide +kernel
theorem dL_law_1316 : decode mL_law.2.1 1316 = .ok (.aload_n 1, 1) := by decide +kernel
theorem dL_law_1317 : decode mL_law.2.1 1317 = .ok (.invokevirtual 174, 3) := by decide +kernel
theorem dL_law_1320 : decode mL_law.2.1 1320 = .ok (.aload_n 2, 1) := by decide +kernel
theorem dL_law_1321 : decode mL_law.2.1 1321 = .ok (.invokevirtual 177, 3) := by decide +kernel
theorem dL_law_1324 : decode mL_law.2.1 1324 = .ok (.if_icmp .eq 272, 3) := by decide +kernel
theorem dL_law_1327 : decode mL_law.2.1 1327 = .ok (.iconst 0, 1) := by decide +kernel
theorem dL_law_1328 : decode mL_law.2.1 1328 = .ok (.ireturn, 1) := by decide +kernel
theorem dL_law_1329 : decode mL_law.2.1 1329 = .ok (.aload_n 1, 1) := by decide +kernel
theorem dL_law_1330 : decode mL_law.2.1 1330 = .ok (.invokevirtual 178, 3) := by decide +kernel
theorem dL_law_1333 : decode mL_law.2.1 1333 = .ok (.aload_n 2, 1) := by decide +kernel
theorem dL_law_1334 : decode mL_law.2.1 1334 = .ok (.invokevirtual 181, 3) := by decide +kernel
theorem dL_law_1337 : decode mL_law.2.1 1337 = .ok (.if_icmp .eq 259, 3) := by decide +kernel
theorem dL_law_1340 : decode mL_law.2.1 1340 = .ok (.iconst 0, 1) := by decide +kernel
theorem dL_law_1341 : decode mL_law.2.1 1341 = .ok (.ireturn, 1) := by decide +kernel
theorem dL_law_1342 : decode mL_law.2.1 1342 = .ok (.aload_n 1, 1) := by decide +kernel
theorem dL_law_1343 : decode mL_law.2.1 1343 = .ok (.aload_n 0, 1) := by decide +kernel
theorem dL_law_1344 : decode mL_law.2.1 1344 = .ok (.iload 4, 2) := by decide +kernel
theorem dL_law_1346 : decode mL_law.2.1 1346 = .ok (.iconst 1, 1) := by decide +kernel
theorem dL_law_1347 : decode mL_law.2.1 1347 = .ok (.iadd, 1) := by decide +kernel
theorem dL_law_1348 : decode mL_law.2.1 1348 = .ok (.iaload, 1) := by decide +kernel
theorem dL_law_1349 : decode mL_law.2.1 1349 = .ok (.aload_n 0, 1) := by decide +kernel
theorem dL_law_1350 : decode mL_law.2.1 1350 = .ok (.iload 4, 2) := by decide +kernel
theorem dL_law_1352 : decode mL_law.2.1 1352 = .ok (.iconst 2, 1) := by decide +kernel
theorem dL_law_1353 : decode mL_law.2.1 1353 = .ok (.iadd, 1) := by decide +kernel
theorem dL_law_1354 : decode mL_law.2.1 1354 = .ok (.iaload, 1) := by decide +kernel
theorem dL_law_1355 : decode mL_law.2.1 1355 = .ok (.aload_n 0, 1) := by decide +kernel
theorem dL_law_1356 : decode mL_law.2.1 1356 = .ok (.iload 4, 2) := by decide +kernel
theorem dL_law_1358 : decode mL_law.2.1 1358 = .ok (.iconst 3, 1) := by decide +kernel
theorem dL_law_1359 : decode mL_law.2.1 1359 = .ok (.iadd, 1) := by decide +kernel
theorem dL_law_1360 : decode mL_law.2.1 1360 = .ok (.iaload, 1) := by decide +kernel
theorem dL_law_1361 : decode mL_law.2.1 1361 = .ok (.invokevirtual 182, 3) := by decide +kernel
theorem dL_law_1364 : decode mL_law.2.1 1364 = .ok (.aload_n 2, 1) := by decide +kernel
theorem dL_law_1365 : decode mL_law.2.1 1365 = .ok (.aload_n 0, 1) := by decide +kernel
theorem dL_law_1366 : decode mL_law.2.1 1366 = .ok (.iload 4, 2) := by decide +kernel
theorem dL_law_1368 : decode mL_law.2.1 1368 = .ok (.iconst 1, 1) := by decide +kernel
theorem dL_law_1369 : decode mL_law.2.1 1369 = .ok (.iadd, 1) := by decide +kernel
theorem dL_law_1370 : decode mL_law.2.1 1370 = .ok (.iaload, 1) := by decide +kernel
theorem dL_law_1371 : decode mL_law.2.1 1371 = .ok (.aload_n 0, 1) := by decide +kernel
theorem dL_law_1372 : decode mL_law.2.1 1372 = .ok (.iload 4, 2) := by decide +kernel
theorem dL_law_1374 : decode mL_law.2.1 1374 = .ok (.iconst 2, 1) := by decide +kernel
theorem dL_law_1375 : decode mL_law.2.1 1375 = .ok (.iadd, 1) := by decide +kernel
theorem dL_law_1376 : decode mL_law.2.1 1376 = .ok (.iaload, 1) := by decide +kernel
theorem dL_law_1377 : decode mL_law.2.1 1377 = .ok (.aload_n 0, 1) := by decide +kernel
theorem dL_law_1378 : decode mL_law.2.1 1378 = .ok (.iload 4, 2) := by decide +kernel
theorem dL_law_1380 : decode mL_law.2.1 1380 = .ok (.iconst 3, 1) := by decide +kernel
theorem dL_law_1381 : decode mL_law.2.1 1381 = .ok (.iadd, 1) := by decide +kernel
theorem dL_law_1382 : decode mL_law.2.1 1382 = .ok (.iaload, 1) := by decide +kernel
theorem dL_law_1383 : decode mL_law.2.1 1383 = .ok (.invokevirtual 185, 3) := by decide +kernel
theorem dL_law_1386 : decode mL_law.2.1 1386 = .ok (.if_icmp .eq 210, 3) := by decide +kernel
theorem dL_law_1389 : decode mL_law.2.1 1389 = .ok (.iconst 0, 1) := by decide +kernel
theorem dL_law_1390 : decode mL_law.2.1 1390 = .ok (.ireturn, 1) := by decide +kernel
theorem dL_law_1391 : decode mL_law.2.1 1391 = .ok (.aload_n 1, 1) := by decide +kernel
theorem dL_law_1392 : decode mL_law.2.1 1392 = .ok (.invokevirtual 186, 3) := by decide +kernel
theorem dL_law_1395 : decode mL_law.2.1 1395 = .ok (.aload_n 2, 1) := by decide +kernel
theorem dL_law_1396 : decode mL_law.2.1 1396 = .ok (.invokevirtual 189, 3) := by decide +kernel
theorem dL_law_1399 : decode mL_law.2.1 1399 = .ok (.if_icmp .eq 197, 3) := by decide +kernel
theorem dL_law_1402 : decode mL_law.2.1 1402 = .ok (.iconst 0, 1) := by decide +kernel
theorem dL_law_1403 : decode mL_law.2.1 1403 = .ok (.ireturn, 1) := by decide +kernel
theorem dL_law_1404 : decode mL_law.2.1 1404 = .ok (.aload_n 1, 1) := by decide +kernel
theorem dL_law_1405 : decode mL_law.2.1 1405 = .ok (.aload_n 0, 1) := by decide +kernel
theorem dL_law_1406 : decode mL_law.2.1 1406 = .ok (.iload 4, 2) := by decide +kernel
theorem dL_law_1408 : decode mL_law.2.1 1408 = .ok (.iconst 1, 1) := by decide +kernel
theorem dL_law_1409 : decode mL_law.2.1 1409 = .ok (.iadd, 1) := by decide +kernel
theorem dL_law_1410 : decode mL_law.2.1 1410 = .ok (.iaload, 1) := by decide +kernel
theorem dL_law_1411 : decode mL_law.2.1 1411 = .ok (.invokevirtual 190, 3) := by decide +kernel
theorem dL_law_1414 : decode mL_law.2.1 1414 = .ok (.aload_n 2, 1) := by decide +kernel
theorem dL_law_1415 : decode mL_law.2.1 1415 = .ok (.aload_n 0, 1) := by decide +kernel
theorem dL_law_1416 : decode mL_law.2.1 1416 = .ok (.iload 4, 2) := by decide +kernel
theorem dL_law_1418 : decode mL_law.2.1 1418 = .ok (.iconst 1, 1) := by decide +kernel
theorem dL_law_1419 : decode mL_law.2.1 1419 = .ok (.iadd, 1) := by decide +kernel
theorem dL_law_1420 : decode mL_law.2.1 1420 = .ok (.iaload, 1) := by decide +kernel
theorem dL_law_1421 : decode mL_law.2.1 1421 = .ok (.invokevirtual 193, 3) := by decide +kernel
theorem dL_law_1424 : decode mL_law.2.1 1424 = .ok (.if_icmp .eq 172, 3) := by decide +kernel
theorem dL_law_1427 : decode mL_law.2.1 1427 = .ok (.iconst 0, 1) := by decide +kernel
theorem dL_law_1428 : decode mL_law.2.1 1428 = .ok (.ireturn, 1) := by decide +kernel
theorem dL_law_1429 : decode mL_law.2.1 1429 = .ok (.aload_n 1, 1) := by decide +kernel
theorem dL_law_1430 : decode mL_law.2.1 1430 = .ok (.aload_n 0, 1) := by decide +kernel
theorem dL_law_1431 : decode mL_law.2.1 1431 = .ok (.iload 4, 2) := by decide +kernel
theorem dL_law_1433 : decode mL_law.2.1 1433 = .ok (.iconst 1, 1) := by decide +kernel
theorem dL_law_1434 : decode mL_law.2.1 1434 = .ok (.iadd, 1) := by decide +kernel
theorem dL_law_1435 : decode mL_law.2.1 1435 = .ok (.iaload, 1) := by decide +kernel
theorem dL_law_1436 : decode mL_law.2.1 1436 = .ok (.aload_n 0, 1) := by decide +kernel
theorem dL_law_1437 : decode mL_law.2.1 1437 = .ok (.iload 4, 2) := by decide +kernel
theorem dL_law_1439 : decode mL_law.2.1 1439 = .ok (.iconst 2, 1) := by decide +kernel
theorem dL_law_1440 : decode mL_law.2.1 1440 = .ok (.iadd, 1) := by decide +kernel
theorem dL_law_1441 : decode mL_law.2.1 1441 = .ok (.iaload, 1) := by decide +kernel
theorem dL_law_1442 : decode mL_law.2.1 1442 = .ok (.invokevirtual 194, 3) := by decide +kernel
theorem dL_law_1445 : decode mL_law.2.1 1445 = .ok (.aload_n 2, 1) := by decide +kernel
theorem dL_law_1446 : decode mL_law.2.1 1446 = .ok (.aload_n 0, 1) := by decide +kernel
theorem dL_law_1447 : decode mL_law.2.1 1447 = .ok (.iload 4, 2) := by decide +kernel
theorem dL_law_1449 : decode mL_law.2.1 1449 = .ok (.iconst 1, 1) := by decide +kernel
theorem dL_law_1450 : decode mL_law.2.1 1450 = .ok (.iadd, 1) := by decide +kernel
theorem dL_law_1451 : decode mL_law.2.1 1451 = .ok (.iaload, 1) := by decide +kernel
theorem dL_law_1452 : decode mL_law.2.1 1452 = .ok (.aload_n 0, 1) := by decide +kernel
theorem dL_law_1453 : decode mL_law.2.1 1453 = .ok (.iload 4, 2) := by decide +kernel
theorem dL_law_1455 : decode mL_law.2.1 1455 = .ok (.iconst 2, 1) := by decide +kernel
theorem dL_law_1456 : decode mL_law.2.1 1456 = .ok (.iadd, 1) := by decide +kernel
theorem dL_law_1457 : decode mL_law.2.1 1457 = .ok (.iaload, 1) := by decide +kernel
theorem dL_law_1458 : decode mL_law.2.1 1458 = .ok (.invokevirtual 197, 3) := by decide +kernel
theorem dL_law_1461 : decode mL_law.2.1 1461 = .ok (.if_icmp .eq 135, 3) := by decide +kernel
theorem dL_law_1464 : decode mL_law.2.1 1464 = .ok (.iconst 0, 1) := by decide +kernel
theorem dL_law_1465 : decode mL_law.2.1 1465 = .ok (.ireturn, 1) := by decide +kernel
theorem dL_law_1466 : decode mL_law.2.1 1466 = .ok (.aload_n 1, 1) := by decide +kernel
theorem dL_law_1467 : decode mL_law.2.1 1467 = .ok (.aload_n 0, 1) := by decide +kernel
theorem dL_law_1468 : decode mL_law.2.1 1468 = .ok (.iload 4, 2) := by decide +kernel
theorem dL_law_1470 : decode mL_law.2.1 1470 = .ok (.iconst 1, 1) := by decide +kernel
theorem dL_law_1471 : decode mL_law.2.1 1471 = .ok (.iadd, 1) := by decide +kernel
theorem dL_law_1472 : decode mL_law.2.1 1472 = .ok (.iaload, 1) := by decide +kernel
theorem dL_law_1473 : decode mL_law.2.1 1473 = .ok (.invokevirtual 198, 3) := by decide +kernel
theorem dL_law_1476 : decode mL_law.2.1 1476 = .ok (.aload_n 2, 1) := by decide +kernel
theorem dL_law_1477 : decode mL_law.2.1 1477 = .ok (.aload_n 0, 1) := by decide +kernel
theorem dL_law_1478 : decode mL_law.2.1 1478 = .ok (.iload 4, 2) := by decide +kernel
theorem dL_law_1480 : decode mL_law.2.1 1480 = .ok (.iconst 1, 1) := by decide +kernel
theorem dL_law_1481 : decode mL_law.2.1 1481 = .ok (.iadd, 1) := by decide +kernel
theorem dL_law_1482 : decode mL_law.2.1 1482 = .ok (.iaload, 1) := by decide +kernel
theorem dL_law_1483 : decode mL_law.2.1 1483 = .ok (.invokevirtual 201, 3) := by decide +kernel
theorem dL_law_1486 : decode mL_law.2.1 1486 = .ok (.if_icmp .eq 110, 3) := by decide +kernel
theorem dL_law_1489 : decode mL_law.2.1 1489 = .ok (.iconst 0, 1) := by decide +kernel
theorem dL_law_1490 : decode mL_law.2.1 1490 = .ok (.ireturn, 1) := by decide +kernel
theorem dL_law_1491 : decode mL_law.2.1 1491 = .ok (.aload_n 1, 1) := by decide +kernel
theorem dL_law_1492 : decode mL_law.2.1 1492 = .ok (.aload_n 0, 1) := by decide +kernel
theorem dL_law_1493 : decode mL_law.2.1 1493 = .ok (.iload 4, 2) := by decide +kernel
theorem dL_law_1495 : decode mL_law.2.1 1495 = .ok (.iconst 1, 1) := by decide +kernel
theorem dL_law_1496 : decode mL_law.2.1 1496 = .ok (.iadd, 1) := by decide +kernel
theorem dL_law_1497 : decode mL_law.2.1 1497 = .ok (.iaload, 1) := by decide +kernel
theorem dL_law_1498 : decode mL_law.2.1 1498 = .ok (.invokevirtual 202, 3) := by decide +kernel
theorem dL_law_1501 : decode mL_law.2.1 1501 = .ok (.aload_n 2, 1) := by decide +kernel
theorem dL_law_1502 : decode mL_law.2.1 1502 = .ok (.aload_n 0, 1) := by decide +kernel
theorem dL_law_1503 : decode mL_law.2.1 1503 = .ok (.iload 4, 2) := by decide +kernel
theorem dL_law_1505 : decode mL_law.2.1 1505 = .ok (.iconst 1, 1) := by decide +kernel
theorem dL_law_1506 : decode mL_law.2.1 1506 = .ok (.iadd, 1) := by decide +kernel
theorem dL_law_1507 : decode mL_law.2.1 1507 = .ok (.iaload, 1) := by decide +kernel
theorem dL_law_1508 : decode mL_law.2.1 1508 = .ok (.invokevirtual 205, 3) := by decide +kernel
theorem dL_law_1511 : decode mL_law.2.1 1511 = .ok (.if_icmp .eq 85, 3) := by decide +kernel
theorem dL_law_1514 : decode mL_law.2.1 1514 = .ok (.iconst 0, 1) := by decide +kernel
theorem dL_law_1515 : decode mL_law.2.1 1515 = .ok (.ireturn, 1) := by decide +kernel
theorem dL_law_1516 : decode mL_law.2.1 1516 = .ok (.aload_n 1, 1) := by decide +kernel
theorem dL_law_1517 : decode mL_law.2.1 1517 = .ok (.aload_n 0, 1) := by decide +kernel
theorem dL_law_1518 : decode mL_law.2.1 1518 = .ok (.iload 4, 2) := by decide +kernel
theorem dL_law_1520 : decode mL_law.2.1 1520 = .ok (.iconst 1, 1) := by decide +kernel
theorem dL_law_1521 : decode mL_law.2.1 1521 = .ok (.iadd, 1) := by decide +kernel
theorem dL_law_1522 : decode mL_law.2.1 1522 = .ok (.iaload, 1) := by decide +kernel
theorem dL_law_1523 : decode mL_law.2.1 1523 = .ok (.invokevirtual 206, 3) := by decide +kernel
theorem dL_law_1526 : decode mL_law.2.1 1526 = .ok (.aload_n 2, 1) := by decide +kernel
theorem dL_law_1527 : decode mL_law.2.1 1527 = .ok (.aload_n 0, 1) := by decide +kernel
theorem dL_law_1528 : decode mL_law.2.1 1528 = .ok (.iload 4, 2) := by decide +kernel
theorem dL_law_1530 : decode mL_law.2.1 1530 = .ok (.iconst 1, 1) := by decide +kernel
theorem dL_law_1531 : decode mL_law.2.1 1531 = .ok (.iadd, 1) := by decide +kernel
theorem dL_law_1532 : decode mL_law.2.1 1532 = .ok (.iaload, 1) := by decide +kernel
theorem dL_law_1533 : decode mL_law.2.1 1533 = .ok (.invokevirtual 209, 3) := by decide +kernel
theorem dL_law_1536 : decode mL_law.2.1 1536 = .ok (.if_icmp .eq 60, 3) := by decide +kernel
theorem dL_law_1539 : decode mL_law.2.1 1539 = .ok (.iconst 0, 1) := by decide +kernel
theorem dL_law_1540 : decode mL_law.2.1 1540 = .ok (.ireturn, 1) := by decide +kernel
theorem dL_law_1541 : decode mL_law.2.1 1541 = .ok (.aload_n 1, 1) := by decide +kernel
theorem dL_law_1542 : decode mL_law.2.1 1542 = .ok (.aload_n 0, 1) := by decide +kernel
theorem dL_law_1543 : decode mL_law.2.1 1543 = .ok (.iload 4, 2) := by decide +kernel
theorem dL_law_1545 : decode mL_law.2.1 1545 = .ok (.iconst 1, 1) := by decide +kernel
theorem dL_law_1546 : decode mL_law.2.1 1546 = .ok (.iadd, 1) := by decide +kernel
theorem dL_law_1547 : decode mL_law.2.1 1547 = .ok (.iaload, 1) := by decide +kernel
theorem dL_law_1548 : decode mL_law.2.1 1548 = .ok (.aload_n 3, 1) := by decide +kernel
theorem dL_law_1549 : decode mL_law.2.1 1549 = .ok (.invokestatic 210, 3) := by decide +kernel
theorem dL_law_1552 : decode mL_law.2.1 1552 = .ok (.istore 5, 2) := by decide +kernel
theorem dL_law_1554 : decode mL_law.2.1 1554 = .ok (.aload_n 2, 1) := by decide +kernel
theorem dL_law_1555 : decode mL_law.2.1 1555 = .ok (.aload_n 0, 1) := by decide +kernel
theorem dL_law_1556 : decode mL_law.2.1 1556 = .ok (.iload 4, 2) := by decide +kernel
theorem dL_law_1558 : decode mL_law.2.1 1558 = .ok (.iconst 1, 1) := by decide +kernel
theorem dL_law_1559 : decode mL_law.2.1 1559 = .ok (.iadd, 1) := by decide +kernel
theorem dL_law_1560 : decode mL_law.2.1 1560 = .ok (.iaload, 1) := by decide +kernel
theorem dL_law_1561 : decode mL_law.2.1 1561 = .ok (.invokevirtual 213, 3) := by decide +kernel
theorem dL_law_1564 : decode mL_law.2.1 1564 = .ok (.lstore 6, 2) := by decide +kernel
theorem dL_law_1566 : decode mL_law.2.1 1566 = .ok (.aload_n 2, 1) := by decide +kernel
theorem dL_law_1567 : decode mL_law.2.1 1567 = .ok (.invokevirtual 66, 3) := by decide +kernel
theorem dL_law_1570 : decode mL_law.2.1 1570 = .ok (.iload 5, 2) := by decide +kernel
theorem dL_law_1572 : decode mL_law.2.1 1572 = .ok (.if_icmp .eq 5, 3) := by decide +kernel
theorem dL_law_1575 : decode mL_law.2.1 1575 = .ok (.iconst 0, 1) := by decide +kernel
theorem dL_law_1576 : decode mL_law.2.1 1576 = .ok (.ireturn, 1) := by decide +kernel
theorem dL_law_1577 : decode mL_law.2.1 1577 = .ok (.iload 5, 2) := by decide +kernel
theorem dL_law_1579 : decode mL_law.2.1 1579 = .ok (.ifCond .ne 14, 3) := by decide +kernel
theorem dL_law_1582 : decode mL_law.2.1 1582 = .ok (.aload_n 3, 1) := by decide +kernel
theorem dL_law_1583 : decode mL_law.2.1 1583 = .ok (.iconst 0, 1) := by decide +kernel
theorem dL_law_1584 : decode mL_law.2.1 1584 = .ok (.laload, 1) := by decide +kernel
theorem dL_law_1585 : decode mL_law.2.1 1585 = .ok (.lload 6, 2) := by decide +kernel
theorem dL_law_1587 : decode mL_law.2.1 1587 = .ok (.lcmp, 1) := by decide +kernel
theorem dL_law_1588 : decode mL_law.2.1 1588 = .ok (.ifCond .eq 5, 3) := by decide +kernel
theorem dL_law_1591 : decode mL_law.2.1 1591 = .ok (.iconst 0, 1) := by decide +kernel
theorem dL_law_1592 : decode mL_law.2.1 1592 = .ok (.ireturn, 1) := by decide +kernel
theorem dL_law_1593 : decode mL_law.2.1 1593 = .ok (.goto 3, 3) := by decide +kernel
theorem dL_law_1596 : decode mL_law.2.1 1596 = .ok (.iinc 4 5, 3) := by decide +kernel
theorem dL_law_1599 : decode mL_law.2.1 1599 = .ok (.goto (-1576), 3) := by decide +kernel
theorem dL_law_1602 : decode mL_law.2.1 1602 = .ok (.iconst 1, 1) := by decide +kernel
theorem dL_law_1603 : decode mL_law.2.1 1603 = .ok (.ireturn, 1) := by decide +kernel
