theorem dL_law_0 : decode cL_law 0 = .ok (.new 7, 3) := by decide +kernel
theorem dL_law_3 : decode cL_law 3 = .ok (.dup, 1) := by decide +kernel
theorem dL_law_4 : decode cL_law 4 = .ok (.invokespecial 9, 3) := by decide +kernel
theorem dL_law_7 : decode cL_law 7 = .ok (.astore_n 1, 1) := by decide +kernel
theorem dL_law_8 : decode cL_law 8 = .ok (.new 10, 3) := by decide +kernel
theorem dL_law_11 : decode cL_law 11 = .ok (.dup, 1) := by decide +kernel
theorem dL_law_12 : decode cL_law 12 = .ok (.invokespecial 12, 3) := by decide +kernel
theorem dL_law_15 : decode cL_law 15 = .ok (.astore_n 2, 1) := by decide +kernel
theorem dL_law_16 : decode cL_law 16 = .ok (.iconst 0, 1) := by decide +kernel
theorem dL_law_17 : decode cL_law 17 = .ok (.istore_n 3, 1) := by decide +kernel
theorem dL_law_18 : decode cL_law 18 = .ok (.iload_n 3, 1) := by decide +kernel
theorem dL_law_19 : decode cL_law 19 = .ok (.aload_n 0, 1) := by decide +kernel
theorem dL_law_20 : decode cL_law 20 = .ok (.arraylength, 1) := by decide +kernel
theorem dL_law_21 : decode cL_law 21 = .ok (.bipush 6, 2) := by decide +kernel
theorem dL_law_23 : decode cL_law 23 = .ok (.isub, 1) := by decide +kernel
theorem dL_law_24 : decode cL_law 24 = .ok (.if_icmp .gt 1489, 3) := by decide +kernel
theorem dL_law_27 : decode cL_law 27 = .ok (.aload_n 0, 1) := by decide +kernel
theorem dL_law_28 : decode cL_law 28 = .ok (.iload_n 3, 1) := by decide +kernel
theorem dL_law_29 : decode cL_law 29 = .ok (.iaload, 1) := by decide +kernel
theorem dL_law_30 : decode cL_law 30 = .ok (.bipush 63, 2) := by decide +kernel
theorem dL_law_32 : decode cL_law 32 = .ok (.iand, 1) := by decide +kernel
theorem dL_law_33 : decode cL_law 33 = .ok (.tableswitch 1474 0 47 #[207, 220, 234, 248, 291, 364, 398, 461, 524, 547, 570, 593, 616, 649, 672, 695, 718, 751, 774, 807, 830, 853, 886, 919, 942, 965, 978, 991, 1014, 1027, 1040, 1053, 1086, 1099, 1112, 1125, 1148, 1171, 1214, 1267, 1290, 1313, 1346, 1369, 1392, 1415, 1448, 1461], 207) := by decide +kernel
theorem dL_law_240 : decode cL_law 240 = .ok (.aload_n 1, 1) := by decide +kernel
theorem dL_law_241 : decode cL_law 241 = .ok (.invokevirtual 13, 3) := by decide +kernel
theorem dL_law_244 : decode cL_law 244 = .ok (.aload_n 2, 1) := by decide +kernel
theorem dL_law_245 : decode cL_law 245 = .ok (.invokevirtual 17, 3) := by decide +kernel
theorem dL_law_248 : decode cL_law 248 = .ok (.if_icmp .eq 1259, 3) := by decide +kernel
theorem dL_law_251 : decode cL_law 251 = .ok (.iconst 0, 1) := by decide +kernel
theorem dL_law_252 : decode cL_law 252 = .ok (.ireturn, 1) := by decide +kernel
theorem dL_law_253 : decode cL_law 253 = .ok (.aload_n 1, 1) := by decide +kernel
theorem dL_law_254 : decode cL_law 254 = .ok (.invokevirtual 18, 3) := by decide +kernel
theorem dL_law_257 : decode cL_law 257 = .ok (.aload_n 2, 1) := by decide +kernel
theorem dL_law_258 : decode cL_law 258 = .ok (.invokevirtual 22, 3) := by decide +kernel
theorem dL_law_261 : decode cL_law 261 = .ok (.lcmp, 1) := by decide +kernel
theorem dL_law_262 : decode cL_law 262 = .ok (.ifCond .eq 1245, 3) := by decide +kernel
theorem dL_law_265 : decode cL_law 265 = .ok (.iconst 0, 1) := by decide +kernel
theorem dL_law_266 : decode cL_law 266 = .ok (.ireturn, 1) := by decide +kernel
theorem dL_law_267 : decode cL_law 267 = .ok (.aload_n 1, 1) := by decide +kernel
theorem dL_law_268 : decode cL_law 268 = .ok (.invokevirtual 23, 3) := by decide +kernel
theorem dL_law_271 : decode cL_law 271 = .ok (.aload_n 2, 1) := by decide +kernel
theorem dL_law_272 : decode cL_law 272 = .ok (.invokevirtual 26, 3) := by decide +kernel
theorem dL_law_275 : decode cL_law 275 = .ok (.lcmp, 1) := by decide +kernel
theorem dL_law_276 : decode cL_law 276 = .ok (.ifCond .eq 1231, 3) := by decide +kernel
theorem dL_law_279 : decode cL_law 279 = .ok (.iconst 0, 1) := by decide +kernel
theorem dL_law_280 : decode cL_law 280 = .ok (.ireturn, 1) := by decide +kernel
theorem dL_law_281 : decode cL_law 281 = .ok (.aload_n 1, 1) := by decide +kernel
theorem dL_law_282 : decode cL_law 282 = .ok (.aload_n 0, 1) := by decide +kernel
theorem dL_law_283 : decode cL_law 283 = .ok (.iload_n 3, 1) := by decide +kernel
theorem dL_law_284 : decode cL_law 284 = .ok (.iconst 1, 1) := by decide +kernel
theorem dL_law_285 : decode cL_law 285 = .ok (.iadd, 1) := by decide +kernel
theorem dL_law_286 : decode cL_law 286 = .ok (.iaload, 1) := by decide +kernel
theorem dL_law_287 : decode cL_law 287 = .ok (.aload_n 0, 1) := by decide +kernel
theorem dL_law_288 : decode cL_law 288 = .ok (.iload_n 3, 1) := by decide +kernel
theorem dL_law_289 : decode cL_law 289 = .ok (.iconst 2, 1) := by decide +kernel
theorem dL_law_290 : decode cL_law 290 = .ok (.iadd, 1) := by decide +kernel
theorem dL_law_291 : decode cL_law 291 = .ok (.iaload, 1) := by decide +kernel
theorem dL_law_292 : decode cL_law 292 = .ok (.aload_n 0, 1) := by decide +kernel
theorem dL_law_293 : decode cL_law 293 = .ok (.iload_n 3, 1) := by decide +kernel
theorem dL_law_294 : decode cL_law 294 = .ok (.iconst 3, 1) := by decide +kernel
theorem dL_law_295 : decode cL_law 295 = .ok (.iadd, 1) := by decide +kernel
theorem dL_law_296 : decode cL_law 296 = .ok (.iaload, 1) := by decide +kernel
theorem dL_law_297 : decode cL_law 297 = .ok (.invokevirtual 27, 3) := by decide +kernel
theorem dL_law_300 : decode cL_law 300 = .ok (.aload_n 2, 1) := by decide +kernel
theorem dL_law_301 : decode cL_law 301 = .ok (.aload_n 0, 1) := by decide +kernel
theorem dL_law_302 : decode cL_law 302 = .ok (.iload_n 3, 1) := by decide +kernel
theorem dL_law_303 : decode cL_law 303 = .ok (.iconst 1, 1) := by decide +kernel
theorem dL_law_304 : decode cL_law 304 = .ok (.iadd, 1) := by decide +kernel
theorem dL_law_305 : decode cL_law 305 = .ok (.iaload, 1) := by decide +kernel
theorem dL_law_306 : decode cL_law 306 = .ok (.aload_n 0, 1) := by decide +kernel
theorem dL_law_307 : decode cL_law 307 = .ok (.iload_n 3, 1) := by decide +kernel
theorem dL_law_308 : decode cL_law 308 = .ok (.iconst 2, 1) := by decide +kernel
theorem dL_law_309 : decode cL_law 309 = .ok (.iadd, 1) := by decide +kernel
theorem dL_law_310 : decode cL_law 310 = .ok (.iaload, 1) := by decide +kernel
theorem dL_law_311 : decode cL_law 311 = .ok (.aload_n 0, 1) := by decide +kernel
theorem dL_law_312 : decode cL_law 312 = .ok (.iload_n 3, 1) := by decide +kernel
theorem dL_law_313 : decode cL_law 313 = .ok (.iconst 3, 1) := by decide +kernel
theorem dL_law_314 : decode cL_law 314 = .ok (.iadd, 1) := by decide +kernel
theorem dL_law_315 : decode cL_law 315 = .ok (.iaload, 1) := by decide +kernel
theorem dL_law_316 : decode cL_law 316 = .ok (.invokevirtual 31, 3) := by decide +kernel
theorem dL_law_319 : decode cL_law 319 = .ok (.if_icmp .eq 1188, 3) := by decide +kernel
theorem dL_law_322 : decode cL_law 322 = .ok (.iconst 0, 1) := by decide +kernel
theorem dL_law_323 : decode cL_law 323 = .ok (.ireturn, 1) := by decide +kernel
theorem dL_law_324 : decode cL_law 324 = .ok (.aload_n 1, 1) := by decide +kernel
theorem dL_law_325 : decode cL_law 325 = .ok (.aload_n 0, 1) := by decide +kernel
theorem dL_law_326 : decode cL_law 326 = .ok (.iload_n 3, 1) := by decide +kernel
theorem dL_law_327 : decode cL_law 327 = .ok (.iconst 1, 1) := by decide +kernel
theorem dL_law_328 : decode cL_law 328 = .ok (.iadd, 1) := by decide +kernel
theorem dL_law_329 : decode cL_law 329 = .ok (.iaload, 1) := by decide +kernel
theorem dL_law_330 : decode cL_law 330 = .ok (.aload_n 0, 1) := by decide +kernel
theorem dL_law_331 : decode cL_law 331 = .ok (.iload_n 3, 1) := by decide +kernel
theorem dL_law_332 : decode cL_law 332 = .ok (.iconst 2, 1) := by decide +kernel
theorem dL_law_333 : decode cL_law 333 = .ok (.iadd, 1) := by decide +kernel
theorem dL_law_334 : decode cL_law 334 = .ok (.iaload, 1) := by decide +kernel
theorem dL_law_335 : decode cL_law 335 = .ok (.aload_n 0, 1) := by decide +kernel
theorem dL_law_336 : decode cL_law 336 = .ok (.iload_n 3, 1) := by decide +kernel
theorem dL_law_337 : decode cL_law 337 = .ok (.iconst 3, 1) := by decide +kernel
theorem dL_law_338 : decode cL_law 338 = .ok (.iadd, 1) := by decide +kernel
theorem dL_law_339 : decode cL_law 339 = .ok (.iaload, 1) := by decide +kernel
theorem dL_law_340 : decode cL_law 340 = .ok (.i2l, 1) := by decide +kernel
theorem dL_law_341 : decode cL_law 341 = .ok (.bipush 32, 2) := by decide +kernel
theorem dL_law_343 : decode cL_law 343 = .ok (.lshl, 1) := by decide +kernel
theorem dL_law_344 : decode cL_law 344 = .ok (.aload_n 0, 1) := by decide +kernel
theorem dL_law_345 : decode cL_law 345 = .ok (.iload_n 3, 1) := by decide +kernel
theorem dL_law_346 : decode cL_law 346 = .ok (.iconst 4, 1) := by decide +kernel
theorem dL_law_347 : decode cL_law 347 = .ok (.iadd, 1) := by decide +kernel
theorem dL_law_348 : decode cL_law 348 = .ok (.iaload, 1) := by decide +kernel
theorem dL_law_349 : decode cL_law 349 = .ok (.i2l, 1) := by decide +kernel
theorem dL_law_350 : decode cL_law 350 = .ok (.ldc2_w 32, 3) := by decide +kernel
theorem dL_law_353 : decode cL_law 353 = .ok (.land, 1) := by decide +kernel
theorem dL_law_354 : decode cL_law 354 = .ok (.lor, 1) := by decide +kernel
theorem dL_law_355 : decode cL_law 355 = .ok (.invokevirtual 34, 3) := by decide +kernel
theorem dL_law_358 : decode cL_law 358 = .ok (.aload_n 2, 1) := by decide +kernel
theorem dL_law_359 : decode cL_law 359 = .ok (.aload_n 0, 1) := by decide +kernel
theorem dL_law_360 : decode cL_law 360 = .ok (.iload_n 3, 1) := by decide +kernel
theorem dL_law_361 : decode cL_law 361 = .ok (.iconst 1, 1) := by decide +kernel
theorem dL_law_362 : decode cL_law 362 = .ok (.iadd, 1) := by decide +kernel
theorem dL_law_363 : decode cL_law 363 = .ok (.iaload, 1) := by decide +kernel
theorem dL_law_364 : decode cL_law 364 = .ok (.aload_n 0, 1) := by decide +kernel
theorem dL_law_365 : decode cL_law 365 = .ok (.iload_n 3, 1) := by decide +kernel
theorem dL_law_366 : decode cL_law 366 = .ok (.iconst 2, 1) := by decide +kernel
theorem dL_law_367 : decode cL_law 367 = .ok (.iadd, 1) := by decide +kernel
theorem dL_law_368 : decode cL_law 368 = .ok (.iaload, 1) := by decide +kernel
theorem dL_law_369 : decode cL_law 369 = .ok (.aload_n 0, 1) := by decide +kernel
theorem dL_law_370 : decode cL_law 370 = .ok (.iload_n 3, 1) := by decide +kernel
theorem dL_law_371 : decode cL_law 371 = .ok (.iconst 3, 1) := by decide +kernel
theorem dL_law_372 : decode cL_law 372 = .ok (.iadd, 1) := by decide +kernel
theorem dL_law_373 : decode cL_law 373 = .ok (.iaload, 1) := by decide +kernel
theorem dL_law_374 : decode cL_law 374 = .ok (.i2l, 1) := by decide +kernel
theorem dL_law_375 : decode cL_law 375 = .ok (.bipush 32, 2) := by decide +kernel
theorem dL_law_377 : decode cL_law 377 = .ok (.lshl, 1) := by decide +kernel
theorem dL_law_378 : decode cL_law 378 = .ok (.aload_n 0, 1) := by decide +kernel
theorem dL_law_379 : decode cL_law 379 = .ok (.iload_n 3, 1) := by decide +kernel
theorem dL_law_380 : decode cL_law 380 = .ok (.iconst 4, 1) := by decide +kernel
theorem dL_law_381 : decode cL_law 381 = .ok (.iadd, 1) := by decide +kernel
theorem dL_law_382 : decode cL_law 382 = .ok (.iaload, 1) := by decide +kernel
theorem dL_law_383 : decode cL_law 383 = .ok (.i2l, 1) := by decide +kernel
theorem dL_law_384 : decode cL_law 384 = .ok (.ldc2_w 32, 3) := by decide +kernel
theorem dL_law_387 : decode cL_law 387 = .ok (.land, 1) := by decide +kernel
theorem dL_law_388 : decode cL_law 388 = .ok (.lor, 1) := by decide +kernel
theorem dL_law_389 : decode cL_law 389 = .ok (.invokevirtual 38, 3) := by decide +kernel
theorem dL_law_392 : decode cL_law 392 = .ok (.if_icmp .eq 1115, 3) := by decide +kernel
theorem dL_law_395 : decode cL_law 395 = .ok (.iconst 0, 1) := by decide +kernel
theorem dL_law_396 : decode cL_law 396 = .ok (.ireturn, 1) := by decide +kernel
theorem dL_law_397 : decode cL_law 397 = .ok (.aload_n 1, 1) := by decide +kernel
theorem dL_law_398 : decode cL_law 398 = .ok (.aload_n 0, 1) := by decide +kernel
theorem dL_law_399 : decode cL_law 399 = .ok (.iload_n 3, 1) := by decide +kernel
theorem dL_law_400 : decode cL_law 400 = .ok (.iconst 1, 1) := by decide +kernel
theorem dL_law_401 : decode cL_law 401 = .ok (.iadd, 1) := by decide +kernel
theorem dL_law_402 : decode cL_law 402 = .ok (.iaload, 1) := by decide +kernel
theorem dL_law_403 : decode cL_law 403 = .ok (.aload_n 0, 1) := by decide +kernel
theorem dL_law_404 : decode cL_law 404 = .ok (.iload_n 3, 1) := by decide +kernel
theorem dL_law_405 : decode cL_law 405 = .ok (.iconst 2, 1) := by decide +kernel
theorem dL_law_406 : decode cL_law 406 = .ok (.iadd, 1) := by decide +kernel
theorem dL_law_407 : decode cL_law 407 = .ok (.iaload, 1) := by decide +kernel
theorem dL_law_408 : decode cL_law 408 = .ok (.invokevirtual 39, 3) := by decide +kernel
theorem dL_law_411 : decode cL_law 411 = .ok (.aload_n 2, 1) := by decide +kernel
theorem dL_law_412 : decode cL_law 412 = .ok (.aload_n 0, 1) := by decide +kernel
theorem dL_law_413 : decode cL_law 413 = .ok (.iload_n 3, 1) := by decide +kernel
theorem dL_law_414 : decode cL_law 414 = .ok (.iconst 1, 1) := by decide +kernel
theorem dL_law_415 : decode cL_law 415 = .ok (.iadd, 1) := by decide +kernel
theorem dL_law_416 : decode cL_law 416 = .ok (.iaload, 1) := by decide +kernel
theorem dL_law_417 : decode cL_law 417 = .ok (.aload_n 0, 1) := by decide +kernel
theorem dL_law_418 : decode cL_law 418 = .ok (.iload_n 3, 1) := by decide +kernel
theorem dL_law_419 : decode cL_law 419 = .ok (.iconst 2, 1) := by decide +kernel
theorem dL_law_420 : decode cL_law 420 = .ok (.iadd, 1) := by decide +kernel
theorem dL_law_421 : decode cL_law 421 = .ok (.iaload, 1) := by decide +kernel
theorem dL_law_422 : decode cL_law 422 = .ok (.invokevirtual 43, 3) := by decide +kernel
theorem dL_law_425 : decode cL_law 425 = .ok (.lcmp, 1) := by decide +kernel
theorem dL_law_426 : decode cL_law 426 = .ok (.ifCond .eq 1081, 3) := by decide +kernel
theorem dL_law_429 : decode cL_law 429 = .ok (.iconst 0, 1) := by decide +kernel
theorem dL_law_430 : decode cL_law 430 = .ok (.ireturn, 1) := by decide +kernel
theorem dL_law_431 : decode cL_law 431 = .ok (.aload_n 1, 1) := by decide +kernel
theorem dL_law_432 : decode cL_law 432 = .ok (.aload_n 0, 1) := by decide +kernel
theorem dL_law_433 : decode cL_law 433 = .ok (.iload_n 3, 1) := by decide +kernel
theorem dL_law_434 : decode cL_law 434 = .ok (.iconst 1, 1) := by decide +kernel
theorem dL_law_435 : decode cL_law 435 = .ok (.iadd, 1) := by decide +kernel
theorem dL_law_436 : decode cL_law 436 = .ok (.iaload, 1) := by decide +kernel
theorem dL_law_437 : decode cL_law 437 = .ok (.aload_n 0, 1) := by decide +kernel
theorem dL_law_438 : decode cL_law 438 = .ok (.iload_n 3, 1) := by decide +kernel
theorem dL_law_439 : decode cL_law 439 = .ok (.iconst 2, 1) := by decide +kernel
theorem dL_law_440 : decode cL_law 440 = .ok (.iadd, 1) := by decide +kernel
theorem dL_law_441 : decode cL_law 441 = .ok (.iaload, 1) := by decide +kernel
theorem dL_law_442 : decode cL_law 442 = .ok (.aload_n 0, 1) := by decide +kernel
theorem dL_law_443 : decode cL_law 443 = .ok (.iload_n 3, 1) := by decide +kernel
theorem dL_law_444 : decode cL_law 444 = .ok (.iconst 3, 1) := by decide +kernel
theorem dL_law_445 : decode cL_law 445 = .ok (.iadd, 1) := by decide +kernel
theorem dL_law_446 : decode cL_law 446 = .ok (.iaload, 1) := by decide +kernel
theorem dL_law_447 : decode cL_law 447 = .ok (.aload_n 0, 1) := by decide +kernel
theorem dL_law_448 : decode cL_law 448 = .ok (.iload_n 3, 1) := by decide +kernel
theorem dL_law_449 : decode cL_law 449 = .ok (.iconst 4, 1) := by decide +kernel
theorem dL_law_450 : decode cL_law 450 = .ok (.iadd, 1) := by decide +kernel
theorem dL_law_451 : decode cL_law 451 = .ok (.iaload, 1) := by decide +kernel
theorem dL_law_452 : decode cL_law 452 = .ok (.aload_n 0, 1) := by decide +kernel
theorem dL_law_453 : decode cL_law 453 = .ok (.iload_n 3, 1) := by decide +kernel
theorem dL_law_454 : decode cL_law 454 = .ok (.iconst 5, 1) := by decide +kernel
theorem dL_law_455 : decode cL_law 455 = .ok (.iadd, 1) := by decide +kernel
theorem dL_law_456 : decode cL_law 456 = .ok (.iaload, 1) := by decide +kernel
theorem dL_law_457 : decode cL_law 457 = .ok (.invokevirtual 44, 3) := by decide +kernel
theorem dL_law_460 : decode cL_law 460 = .ok (.aload_n 2, 1) := by decide +kernel
theorem dL_law_461 : decode cL_law 461 = .ok (.aload_n 0, 1) := by decide +kernel
theorem dL_law_462 : decode cL_law 462 = .ok (.iload_n 3, 1) := by decide +kernel
theorem dL_law_463 : decode cL_law 463 = .ok (.iconst 1, 1) := by decide +kernel
theorem dL_law_464 : decode cL_law 464 = .ok (.iadd, 1) := by decide +kernel
theorem dL_law_465 : decode cL_law 465 = .ok (.iaload, 1) := by decide +kernel
theorem dL_law_466 : decode cL_law 466 = .ok (.aload_n 0, 1) := by decide +kernel
theorem dL_law_467 : decode cL_law 467 = .ok (.iload_n 3, 1) := by decide +kernel
theorem dL_law_468 : decode cL_law 468 = .ok (.iconst 2, 1) := by decide +kernel
theorem dL_law_469 : decode cL_law 469 = .ok (.iadd, 1) := by decide +kernel
theorem dL_law_470 : decode cL_law 470 = .ok (.iaload, 1) := by decide +kernel
theorem dL_law_471 : decode cL_law 471 = .ok (.aload_n 0, 1) := by decide +kernel
theorem dL_law_472 : decode cL_law 472 = .ok (.iload_n 3, 1) := by decide +kernel
theorem dL_law_473 : decode cL_law 473 = .ok (.iconst 3, 1) := by decide +kernel
theorem dL_law_474 : decode cL_law 474 = .ok (.iadd, 1) := by decide +kernel
theorem dL_law_475 : decode cL_law 475 = .ok (.iaload, 1) := by decide +kernel
theorem dL_law_476 : decode cL_law 476 = .ok (.aload_n 0, 1) := by decide +kernel
theorem dL_law_477 : decode cL_law 477 = .ok (.iload_n 3, 1) := by decide +kernel
theorem dL_law_478 : decode cL_law 478 = .ok (.iconst 4, 1) := by decide +kernel
theorem dL_law_479 : decode cL_law 479 = .ok (.iadd, 1) := by decide +kernel
theorem dL_law_480 : decode cL_law 480 = .ok (.iaload, 1) := by decide +kernel
theorem dL_law_481 : decode cL_law 481 = .ok (.aload_n 0, 1) := by decide +kernel
theorem dL_law_482 : decode cL_law 482 = .ok (.iload_n 3, 1) := by decide +kernel
theorem dL_law_483 : decode cL_law 483 = .ok (.iconst 5, 1) := by decide +kernel
theorem dL_law_484 : decode cL_law 484 = .ok (.iadd, 1) := by decide +kernel
theorem dL_law_485 : decode cL_law 485 = .ok (.iaload, 1) := by decide +kernel
theorem dL_law_486 : decode cL_law 486 = .ok (.invokevirtual 48, 3) := by decide +kernel
theorem dL_law_489 : decode cL_law 489 = .ok (.if_icmp .eq 1018, 3) := by decide +kernel
theorem dL_law_492 : decode cL_law 492 = .ok (.iconst 0, 1) := by decide +kernel
theorem dL_law_493 : decode cL_law 493 = .ok (.ireturn, 1) := by decide +kernel
theorem dL_law_494 : decode cL_law 494 = .ok (.aload_n 1, 1) := by decide +kernel
theorem dL_law_495 : decode cL_law 495 = .ok (.aload_n 0, 1) := by decide +kernel
theorem dL_law_496 : decode cL_law 496 = .ok (.iload_n 3, 1) := by decide +kernel
theorem dL_law_497 : decode cL_law 497 = .ok (.iconst 1, 1) := by decide +kernel
theorem dL_law_498 : decode cL_law 498 = .ok (.iadd, 1) := by decide +kernel
theorem dL_law_499 : decode cL_law 499 = .ok (.iaload, 1) := by decide +kernel
theorem dL_law_500 : decode cL_law 500 = .ok (.aload_n 0, 1) := by decide +kernel
theorem dL_law_501 : decode cL_law 501 = .ok (.iload_n 3, 1) := by decide +kernel
theorem dL_law_502 : decode cL_law 502 = .ok (.iconst 2, 1) := by decide +kernel
theorem dL_law_503 : decode cL_law 503 = .ok (.iadd, 1) := by decide +kernel
theorem dL_law_504 : decode cL_law 504 = .ok (.iaload, 1) := by decide +kernel
theorem dL_law_505 : decode cL_law 505 = .ok (.aload_n 0, 1) := by decide +kernel
theorem dL_law_506 : decode cL_law 506 = .ok (.iload_n 3, 1) := by decide +kernel
theorem dL_law_507 : decode cL_law 507 = .ok (.iconst 3, 1) := by decide +kernel
theorem dL_law_508 : decode cL_law 508 = .ok (.iadd, 1) := by decide +kernel
theorem dL_law_509 : decode cL_law 509 = .ok (.iaload, 1) := by decide +kernel
theorem dL_law_510 : decode cL_law 510 = .ok (.aload_n 0, 1) := by decide +kernel
theorem dL_law_511 : decode cL_law 511 = .ok (.iload_n 3, 1) := by decide +kernel
theorem dL_law_512 : decode cL_law 512 = .ok (.iconst 4, 1) := by decide +kernel
theorem dL_law_513 : decode cL_law 513 = .ok (.iadd, 1) := by decide +kernel
theorem dL_law_514 : decode cL_law 514 = .ok (.iaload, 1) := by decide +kernel
theorem dL_law_515 : decode cL_law 515 = .ok (.aload_n 0, 1) := by decide +kernel
theorem dL_law_516 : decode cL_law 516 = .ok (.iload_n 3, 1) := by decide +kernel
theorem dL_law_517 : decode cL_law 517 = .ok (.iconst 5, 1) := by decide +kernel
theorem dL_law_518 : decode cL_law 518 = .ok (.iadd, 1) := by decide +kernel
theorem dL_law_519 : decode cL_law 519 = .ok (.iaload, 1) := by decide +kernel
theorem dL_law_520 : decode cL_law 520 = .ok (.invokevirtual 49, 3) := by decide +kernel
theorem dL_law_523 : decode cL_law 523 = .ok (.aload_n 2, 1) := by decide +kernel
theorem dL_law_524 : decode cL_law 524 = .ok (.aload_n 0, 1) := by decide +kernel
theorem dL_law_525 : decode cL_law 525 = .ok (.iload_n 3, 1) := by decide +kernel
theorem dL_law_526 : decode cL_law 526 = .ok (.iconst 1, 1) := by decide +kernel
theorem dL_law_527 : decode cL_law 527 = .ok (.iadd, 1) := by decide +kernel
theorem dL_law_528 : decode cL_law 528 = .ok (.iaload, 1) := by decide +kernel
theorem dL_law_529 : decode cL_law 529 = .ok (.aload_n 0, 1) := by decide +kernel
theorem dL_law_530 : decode cL_law 530 = .ok (.iload_n 3, 1) := by decide +kernel
theorem dL_law_531 : decode cL_law 531 = .ok (.iconst 2, 1) := by decide +kernel
theorem dL_law_532 : decode cL_law 532 = .ok (.iadd, 1) := by decide +kernel
theorem dL_law_533 : decode cL_law 533 = .ok (.iaload, 1) := by decide +kernel
theorem dL_law_534 : decode cL_law 534 = .ok (.aload_n 0, 1) := by decide +kernel
theorem dL_law_535 : decode cL_law 535 = .ok (.iload_n 3, 1) := by decide +kernel
theorem dL_law_536 : decode cL_law 536 = .ok (.iconst 3, 1) := by decide +kernel
theorem dL_law_537 : decode cL_law 537 = .ok (.iadd, 1) := by decide +kernel
theorem dL_law_538 : decode cL_law 538 = .ok (.iaload, 1) := by decide +kernel
theorem dL_law_539 : decode cL_law 539 = .ok (.aload_n 0, 1) := by decide +kernel
theorem dL_law_540 : decode cL_law 540 = .ok (.iload_n 3, 1) := by decide +kernel
theorem dL_law_541 : decode cL_law 541 = .ok (.iconst 4, 1) := by decide +kernel
theorem dL_law_542 : decode cL_law 542 = .ok (.iadd, 1) := by decide +kernel
theorem dL_law_543 : decode cL_law 543 = .ok (.iaload, 1) := by decide +kernel
theorem dL_law_544 : decode cL_law 544 = .ok (.aload_n 0, 1) := by decide +kernel
theorem dL_law_545 : decode cL_law 545 = .ok (.iload_n 3, 1) := by decide +kernel
theorem dL_law_546 : decode cL_law 546 = .ok (.iconst 5, 1) := by decide +kernel
theorem dL_law_547 : decode cL_law 547 = .ok (.iadd, 1) := by decide +kernel
theorem dL_law_548 : decode cL_law 548 = .ok (.iaload, 1) := by decide +kernel
theorem dL_law_549 : decode cL_law 549 = .ok (.invokevirtual 53, 3) := by decide +kernel
theorem dL_law_552 : decode cL_law 552 = .ok (.if_icmp .eq 955, 3) := by decide +kernel
theorem dL_law_555 : decode cL_law 555 = .ok (.iconst 0, 1) := by decide +kernel
theorem dL_law_556 : decode cL_law 556 = .ok (.ireturn, 1) := by decide +kernel
theorem dL_law_557 : decode cL_law 557 = .ok (.aload_n 1, 1) := by decide +kernel
theorem dL_law_558 : decode cL_law 558 = .ok (.aload_n 0, 1) := by decide +kernel
theorem dL_law_559 : decode cL_law 559 = .ok (.iload_n 3, 1) := by decide +kernel
theorem dL_law_560 : decode cL_law 560 = .ok (.iconst 1, 1) := by decide +kernel
theorem dL_law_561 : decode cL_law 561 = .ok (.iadd, 1) := by decide +kernel
theorem dL_law_562 : decode cL_law 562 = .ok (.iaload, 1) := by decide +kernel
theorem dL_law_563 : decode cL_law 563 = .ok (.invokevirtual 54, 3) := by decide +kernel
theorem dL_law_566 : decode cL_law 566 = .ok (.aload_n 2, 1) := by decide +kernel
theorem dL_law_567 : decode cL_law 567 = .ok (.aload_n 0, 1) := by decide +kernel
theorem dL_law_568 : decode cL_law 568 = .ok (.iload_n 3, 1) := by decide +kernel
theorem dL_law_569 : decode cL_law 569 = .ok (.iconst 1, 1) := by decide +kernel
theorem dL_law_570 : decode cL_law 570 = .ok (.iadd, 1) := by decide +kernel
theorem dL_law_571 : decode cL_law 571 = .ok (.iaload, 1) := by decide +kernel
theorem dL_law_572 : decode cL_law 572 = .ok (.invokevirtual 58, 3) := by decide +kernel
theorem dL_law_575 : decode cL_law 575 = .ok (.if_icmp .eq 932, 3) := by decide +kernel
theorem dL_law_578 : decode cL_law 578 = .ok (.iconst 0, 1) := by decide +kernel
theorem dL_law_579 : decode cL_law 579 = .ok (.ireturn, 1) := by decide +kernel
theorem dL_law_580 : decode cL_law 580 = .ok (.aload_n 1, 1) := by decide +kernel
theorem dL_law_581 : decode cL_law 581 = .ok (.aload_n 0, 1) := by decide +kernel
theorem dL_law_582 : decode cL_law 582 = .ok (.iload_n 3, 1) := by decide +kernel
theorem dL_law_583 : decode cL_law 583 = .ok (.iconst 1, 1) := by decide +kernel
theorem dL_law_584 : decode cL_law 584 = .ok (.iadd, 1) := by decide +kernel
theorem dL_law_585 : decode cL_law 585 = .ok (.iaload, 1) := by decide +kernel
theorem dL_law_586 : decode cL_law 586 = .ok (.invokevirtual 59, 3) := by decide +kernel
theorem dL_law_589 : decode cL_law 589 = .ok (.aload_n 2, 1) := by decide +kernel
theorem dL_law_590 : decode cL_law 590 = .ok (.aload_n 0, 1) := by decide +kernel
theorem dL_law_591 : decode cL_law 591 = .ok (.iload_n 3, 1) := by decide +kernel
theorem dL_law_592 : decode cL_law 592 = .ok (.iconst 1, 1) := by decide +kernel
theorem dL_law_593 : decode cL_law 593 = .ok (.iadd, 1) := by decide +kernel
theorem dL_law_594 : decode cL_law 594 = .ok (.iaload, 1) := by decide +kernel
theorem dL_law_595 : decode cL_law 595 = .ok (.invokevirtual 62, 3) := by decide +kernel
theorem dL_law_598 : decode cL_law 598 = .ok (.if_icmp .eq 909, 3) := by decide +kernel
theorem dL_law_601 : decode cL_law 601 = .ok (.iconst 0, 1) := by decide +kernel
theorem dL_law_602 : decode cL_law 602 = .ok (.ireturn, 1) := by decide +kernel
theorem dL_law_603 : decode cL_law 603 = .ok (.aload_n 1, 1) := by decide +kernel
theorem dL_law_604 : decode cL_law 604 = .ok (.aload_n 0, 1) := by decide +kernel
theorem dL_law_605 : decode cL_law 605 = .ok (.iload_n 3, 1) := by decide +kernel
theorem dL_law_606 : decode cL_law 606 = .ok (.iconst 1, 1) := by decide +kernel
theorem dL_law_607 : decode cL_law 607 = .ok (.iadd, 1) := by decide +kernel
theorem dL_law_608 : decode cL_law 608 = .ok (.iaload, 1) := by decide +kernel
theorem dL_law_609 : decode cL_law 609 = .ok (.invokevirtual 63, 3) := by decide +kernel
theorem dL_law_612 : decode cL_law 612 = .ok (.aload_n 2, 1) := by decide +kernel
theorem dL_law_613 : decode cL_law 613 = .ok (.aload_n 0, 1) := by decide +kernel
theorem dL_law_614 : decode cL_law 614 = .ok (.iload_n 3, 1) := by decide +kernel
theorem dL_law_615 : decode cL_law 615 = .ok (.iconst 1, 1) := by decide +kernel
theorem dL_law_616 : decode cL_law 616 = .ok (.iadd, 1) := by decide +kernel
theorem dL_law_617 : decode cL_law 617 = .ok (.iaload, 1) := by decide +kernel
theorem dL_law_618 : decode cL_law 618 = .ok (.invokevirtual 66, 3) := by decide +kernel
theorem dL_law_621 : decode cL_law 621 = .ok (.if_icmp .eq 886, 3) := by decide +kernel
theorem dL_law_624 : decode cL_law 624 = .ok (.iconst 0, 1) := by decide +kernel
theorem dL_law_625 : decode cL_law 625 = .ok (.ireturn, 1) := by decide +kernel
theorem dL_law_626 : decode cL_law 626 = .ok (.aload_n 1, 1) := by decide +kernel
theorem dL_law_627 : decode cL_law 627 = .ok (.aload_n 0, 1) := by decide +kernel
theorem dL_law_628 : decode cL_law 628 = .ok (.iload_n 3, 1) := by decide +kernel
theorem dL_law_629 : decode cL_law 629 = .ok (.iconst 1, 1) := by decide +kernel
theorem dL_law_630 : decode cL_law 630 = .ok (.iadd, 1) := by decide +kernel
theorem dL_law_631 : decode cL_law 631 = .ok (.iaload, 1) := by decide +kernel
theorem dL_law_632 : decode cL_law 632 = .ok (.invokevirtual 67, 3) := by decide +kernel
theorem dL_law_635 : decode cL_law 635 = .ok (.aload_n 2, 1) := by decide +kernel
theorem dL_law_636 : decode cL_law 636 = .ok (.aload_n 0, 1) := by decide +kernel
theorem dL_law_637 : decode cL_law 637 = .ok (.iload_n 3, 1) := by decide +kernel
theorem dL_law_638 : decode cL_law 638 = .ok (.iconst 1, 1) := by decide +kernel
theorem dL_law_639 : decode cL_law 639 = .ok (.iadd, 1) := by decide +kernel
theorem dL_law_640 : decode cL_law 640 = .ok (.iaload, 1) := by decide +kernel
theorem dL_law_641 : decode cL_law 641 = .ok (.invokevirtual 70, 3) := by decide +kernel
theorem dL_law_644 : decode cL_law 644 = .ok (.if_icmp .eq 863, 3) := by decide +kernel
theorem dL_law_647 : decode cL_law 647 = .ok (.iconst 0, 1) := by decide +kernel
theorem dL_law_648 : decode cL_law 648 = .ok (.ireturn, 1) := by decide +kernel
theorem dL_law_649 : decode cL_law 649 = .ok (.aload_n 1, 1) := by decide +kernel
theorem dL_law_650 : decode cL_law 650 = .ok (.aload_n 0, 1) := by decide +kernel
theorem dL_law_651 : decode cL_law 651 = .ok (.iload_n 3, 1) := by decide +kernel
theorem dL_law_652 : decode cL_law 652 = .ok (.iconst 1, 1) := by decide +kernel
theorem dL_law_653 : decode cL_law 653 = .ok (.iadd, 1) := by decide +kernel
theorem dL_law_654 : decode cL_law 654 = .ok (.iaload, 1) := by decide +kernel
theorem dL_law_655 : decode cL_law 655 = .ok (.aload_n 0, 1) := by decide +kernel
theorem dL_law_656 : decode cL_law 656 = .ok (.iload_n 3, 1) := by decide +kernel
theorem dL_law_657 : decode cL_law 657 = .ok (.iconst 2, 1) := by decide +kernel
theorem dL_law_658 : decode cL_law 658 = .ok (.iadd, 1) := by decide +kernel
theorem dL_law_659 : decode cL_law 659 = .ok (.iaload, 1) := by decide +kernel
theorem dL_law_660 : decode cL_law 660 = .ok (.invokevirtual 71, 3) := by decide +kernel
theorem dL_law_663 : decode cL_law 663 = .ok (.aload_n 2, 1) := by decide +kernel
theorem dL_law_664 : decode cL_law 664 = .ok (.aload_n 0, 1) := by decide +kernel
theorem dL_law_665 : decode cL_law 665 = .ok (.iload_n 3, 1) := by decide +kernel
theorem dL_law_666 : decode cL_law 666 = .ok (.iconst 1, 1) := by decide +kernel
theorem dL_law_667 : decode cL_law 667 = .ok (.iadd, 1) := by decide +kernel
theorem dL_law_668 : decode cL_law 668 = .ok (.iaload, 1) := by decide +kernel
theorem dL_law_669 : decode cL_law 669 = .ok (.aload_n 0, 1) := by decide +kernel
theorem dL_law_670 : decode cL_law 670 = .ok (.iload_n 3, 1) := by decide +kernel
theorem dL_law_671 : decode cL_law 671 = .ok (.iconst 2, 1) := by decide +kernel
theorem dL_law_672 : decode cL_law 672 = .ok (.iadd, 1) := by decide +kernel
theorem dL_law_673 : decode cL_law 673 = .ok (.iaload, 1) := by decide +kernel
theorem dL_law_674 : decode cL_law 674 = .ok (.invokevirtual 75, 3) := by decide +kernel
theorem dL_law_677 : decode cL_law 677 = .ok (.if_icmp .eq 830, 3) := by decide +kernel
theorem dL_law_680 : decode cL_law 680 = .ok (.iconst 0, 1) := by decide +kernel
theorem dL_law_681 : decode cL_law 681 = .ok (.ireturn, 1) := by decide +kernel
theorem dL_law_682 : decode cL_law 682 = .ok (.aload_n 1, 1) := by decide +kernel
theorem dL_law_683 : decode cL_law 683 = .ok (.aload_n 0, 1) := by decide +kernel
theorem dL_law_684 : decode cL_law 684 = .ok (.iload_n 3, 1) := by decide +kernel
theorem dL_law_685 : decode cL_law 685 = .ok (.iconst 1, 1) := by decide +kernel
theorem dL_law_686 : decode cL_law 686 = .ok (.iadd, 1) := by decide +kernel
theorem dL_law_687 : decode cL_law 687 = .ok (.iaload, 1) := by decide +kernel
theorem dL_law_688 : decode cL_law 688 = .ok (.invokevirtual 76, 3) := by decide +kernel
theorem dL_law_691 : decode cL_law 691 = .ok (.aload_n 2, 1) := by decide +kernel
theorem dL_law_692 : decode cL_law 692 = .ok (.aload_n 0, 1) := by decide +kernel
theorem dL_law_693 : decode cL_law 693 = .ok (.iload_n 3, 1) := by decide +kernel
theorem dL_law_694 : decode cL_law 694 = .ok (.iconst 1, 1) := by decide +kernel
theorem dL_law_695 : decode cL_law 695 = .ok (.iadd, 1) := by decide +kernel
theorem dL_law_696 : decode cL_law 696 = .ok (.iaload, 1) := by decide +kernel
theorem dL_law_697 : decode cL_law 697 = .ok (.invokevirtual 79, 3) := by decide +kernel
theorem dL_law_700 : decode cL_law 700 = .ok (.if_icmp .eq 807, 3) := by decide +kernel
theorem dL_law_703 : decode cL_law 703 = .ok (.iconst 0, 1) := by decide +kernel
theorem dL_law_704 : decode cL_law 704 = .ok (.ireturn, 1) := by decide +kernel
theorem dL_law_705 : decode cL_law 705 = .ok (.aload_n 1, 1) := by decide +kernel
theorem dL_law_706 : decode cL_law 706 = .ok (.aload_n 0, 1) := by decide +kernel
theorem dL_law_707 : decode cL_law 707 = .ok (.iload_n 3, 1) := by decide +kernel
theorem dL_law_708 : decode cL_law 708 = .ok (.iconst 1, 1) := by decide +kernel
theorem dL_law_709 : decode cL_law 709 = .ok (.iadd, 1) := by decide +kernel
theorem dL_law_710 : decode cL_law 710 = .ok (.iaload, 1) := by decide +kernel
theorem dL_law_711 : decode cL_law 711 = .ok (.invokevirtual 80, 3) := by decide +kernel
theorem dL_law_714 : decode cL_law 714 = .ok (.aload_n 2, 1) := by decide +kernel
theorem dL_law_715 : decode cL_law 715 = .ok (.aload_n 0, 1) := by decide +kernel
theorem dL_law_716 : decode cL_law 716 = .ok (.iload_n 3, 1) := by decide +kernel
theorem dL_law_717 : decode cL_law 717 = .ok (.iconst 1, 1) := by decide +kernel
theorem dL_law_718 : decode cL_law 718 = .ok (.iadd, 1) := by decide +kernel
theorem dL_law_719 : decode cL_law 719 = .ok (.iaload, 1) := by decide +kernel
theorem dL_law_720 : decode cL_law 720 = .ok (.invokevirtual 83, 3) := by decide +kernel
theorem dL_law_723 : decode cL_law 723 = .ok (.if_icmp .eq 784, 3) := by decide +kernel
theorem dL_law_726 : decode cL_law 726 = .ok (.iconst 0, 1) := by decide +kernel
theorem dL_law_727 : decode cL_law 727 = .ok (.ireturn, 1) := by decide +kernel
theorem dL_law_728 : decode cL_law 728 = .ok (.aload_n 1, 1) := by decide +kernel
theorem dL_law_729 : decode cL_law 729 = .ok (.aload_n 0, 1) := by decide +kernel
theorem dL_law_730 : decode cL_law 730 = .ok (.iload_n 3, 1) := by decide +kernel
theorem dL_law_731 : decode cL_law 731 = .ok (.iconst 1, 1) := by decide +kernel
theorem dL_law_732 : decode cL_law 732 = .ok (.iadd, 1) := by decide +kernel
theorem dL_law_733 : decode cL_law 733 = .ok (.iaload, 1) := by decide +kernel
theorem dL_law_734 : decode cL_law 734 = .ok (.invokevirtual 84, 3) := by decide +kernel
theorem dL_law_737 : decode cL_law 737 = .ok (.aload_n 2, 1) := by decide +kernel
theorem dL_law_738 : decode cL_law 738 = .ok (.aload_n 0, 1) := by decide +kernel
theorem dL_law_739 : decode cL_law 739 = .ok (.iload_n 3, 1) := by decide +kernel
theorem dL_law_740 : decode cL_law 740 = .ok (.iconst 1, 1) := by decide +kernel
theorem dL_law_741 : decode cL_law 741 = .ok (.iadd, 1) := by decide +kernel
theorem dL_law_742 : decode cL_law 742 = .ok (.iaload, 1) := by decide +kernel
theorem dL_law_743 : decode cL_law 743 = .ok (.invokevirtual 87, 3) := by decide +kernel
theorem dL_law_746 : decode cL_law 746 = .ok (.if_icmp .eq 761, 3) := by decide +kernel
theorem dL_law_749 : decode cL_law 749 = .ok (.iconst 0, 1) := by decide +kernel
theorem dL_law_750 : decode cL_law 750 = .ok (.ireturn, 1) := by decide +kernel
theorem dL_law_751 : decode cL_law 751 = .ok (.aload_n 1, 1) := by decide +kernel
theorem dL_law_752 : decode cL_law 752 = .ok (.aload_n 0, 1) := by decide +kernel
theorem dL_law_753 : decode cL_law 753 = .ok (.iload_n 3, 1) := by decide +kernel
theorem dL_law_754 : decode cL_law 754 = .ok (.iconst 1, 1) := by decide +kernel
theorem dL_law_755 : decode cL_law 755 = .ok (.iadd, 1) := by decide +kernel
theorem dL_law_756 : decode cL_law 756 = .ok (.iaload, 1) := by decide +kernel
theorem dL_law_757 : decode cL_law 757 = .ok (.aload_n 0, 1) := by decide +kernel
theorem dL_law_758 : decode cL_law 758 = .ok (.iload_n 3, 1) := by decide +kernel
theorem dL_law_759 : decode cL_law 759 = .ok (.iconst 2, 1) := by decide +kernel
theorem dL_law_760 : decode cL_law 760 = .ok (.iadd, 1) := by decide +kernel
theorem dL_law_761 : decode cL_law 761 = .ok (.iaload, 1) := by decide +kernel
theorem dL_law_762 : decode cL_law 762 = .ok (.invokevirtual 88, 3) := by decide +kernel
theorem dL_law_765 : decode cL_law 765 = .ok (.aload_n 2, 1) := by decide +kernel
theorem dL_law_766 : decode cL_law 766 = .ok (.aload_n 0, 1) := by decide +kernel
theorem dL_law_767 : decode cL_law 767 = .ok (.iload_n 3, 1) := by decide +kernel
theorem dL_law_768 : decode cL_law 768 = .ok (.iconst 1, 1) := by decide +kernel
theorem dL_law_769 : decode cL_law 769 = .ok (.iadd, 1) := by decide +kernel
theorem dL_law_770 : decode cL_law 770 = .ok (.iaload, 1) := by decide +kernel
theorem dL_law_771 : decode cL_law 771 = .ok (.aload_n 0, 1) := by decide +kernel
theorem dL_law_772 : decode cL_law 772 = .ok (.iload_n 3, 1) := by decide +kernel
theorem dL_law_773 : decode cL_law 773 = .ok (.iconst 2, 1) := by decide +kernel
theorem dL_law_774 : decode cL_law 774 = .ok (.iadd, 1) := by decide +kernel
theorem dL_law_775 : decode cL_law 775 = .ok (.iaload, 1) := by decide +kernel
theorem dL_law_776 : decode cL_law 776 = .ok (.invokevirtual 91, 3) := by decide +kernel
theorem dL_law_779 : decode cL_law 779 = .ok (.if_icmp .eq 728, 3) := by decide +kernel
theorem dL_law_782 : decode cL_law 782 = .ok (.iconst 0, 1) := by decide +kernel
theorem dL_law_783 : decode cL_law 783 = .ok (.ireturn, 1) := by decide +kernel
theorem dL_law_784 : decode cL_law 784 = .ok (.aload_n 1, 1) := by decide +kernel
theorem dL_law_785 : decode cL_law 785 = .ok (.aload_n 0, 1) := by decide +kernel
theorem dL_law_786 : decode cL_law 786 = .ok (.iload_n 3, 1) := by decide +kernel
theorem dL_law_787 : decode cL_law 787 = .ok (.iconst 1, 1) := by decide +kernel
theorem dL_law_788 : decode cL_law 788 = .ok (.iadd, 1) := by decide +kernel
theorem dL_law_789 : decode cL_law 789 = .ok (.iaload, 1) := by decide +kernel
theorem dL_law_790 : decode cL_law 790 = .ok (.invokevirtual 92, 3) := by decide +kernel
theorem dL_law_793 : decode cL_law 793 = .ok (.aload_n 2, 1) := by decide +kernel
theorem dL_law_794 : decode cL_law 794 = .ok (.aload_n 0, 1) := by decide +kernel
theorem dL_law_795 : decode cL_law 795 = .ok (.iload_n 3, 1) := by decide +kernel
theorem dL_law_796 : decode cL_law 796 = .ok (.iconst 1, 1) := by decide +kernel
theorem dL_law_797 : decode cL_law 797 = .ok (.iadd, 1) := by decide +kernel
theorem dL_law_798 : decode cL_law 798 = .ok (.iaload, 1) := by decide +kernel
theorem dL_law_799 : decode cL_law 799 = .ok (.invokevirtual 95, 3) := by decide +kernel
theorem dL_law_802 : decode cL_law 802 = .ok (.if_icmp .eq 705, 3) := by decide +kernel
theorem dL_law_805 : decode cL_law 805 = .ok (.iconst 0, 1) := by decide +kernel
theorem dL_law_806 : decode cL_law 806 = .ok (.ireturn, 1) := by decide +kernel
theorem dL_law_807 : decode cL_law 807 = .ok (.aload_n 1, 1) := by decide +kernel
theorem dL_law_808 : decode cL_law 808 = .ok (.aload_n 0, 1) := by decide +kernel
theorem dL_law_809 : decode cL_law 809 = .ok (.iload_n 3, 1) := by decide +kernel
theorem dL_law_810 : decode cL_law 810 = .ok (.iconst 1, 1) := by decide +kernel
theorem dL_law_811 : decode cL_law 811 = .ok (.iadd, 1) := by decide +kernel
theorem dL_law_812 : decode cL_law 812 = .ok (.iaload, 1) := by decide +kernel
theorem dL_law_813 : decode cL_law 813 = .ok (.aload_n 0, 1) := by decide +kernel
theorem dL_law_814 : decode cL_law 814 = .ok (.iload_n 3, 1) := by decide +kernel
theorem dL_law_815 : decode cL_law 815 = .ok (.iconst 2, 1) := by decide +kernel
theorem dL_law_816 : decode cL_law 816 = .ok (.iadd, 1) := by decide +kernel
theorem dL_law_817 : decode cL_law 817 = .ok (.iaload, 1) := by decide +kernel
theorem dL_law_818 : decode cL_law 818 = .ok (.invokevirtual 96, 3) := by decide +kernel
theorem dL_law_821 : decode cL_law 821 = .ok (.aload_n 2, 1) := by decide +kernel
theorem dL_law_822 : decode cL_law 822 = .ok (.aload_n 0, 1) := by decide +kernel
theorem dL_law_823 : decode cL_law 823 = .ok (.iload_n 3, 1) := by decide +kernel
theorem dL_law_824 : decode cL_law 824 = .ok (.iconst 1, 1) := by decide +kernel
theorem dL_law_825 : decode cL_law 825 = .ok (.iadd, 1) := by decide +kernel
theorem dL_law_826 : decode cL_law 826 = .ok (.iaload, 1) := by decide +kernel
theorem dL_law_827 : decode cL_law 827 = .ok (.aload_n 0, 1) := by decide +kernel
theorem dL_law_828 : decode cL_law 828 = .ok (.iload_n 3, 1) := by decide +kernel
theorem dL_law_829 : decode cL_law 829 = .ok (.iconst 2, 1) := by decide +kernel
theorem dL_law_830 : decode cL_law 830 = .ok (.iadd, 1) := by decide +kernel
theorem dL_law_831 : decode cL_law 831 = .ok (.iaload, 1) := by decide +kernel
theorem dL_law_832 : decode cL_law 832 = .ok (.invokevirtual 99, 3) := by decide +kernel
theorem dL_law_835 : decode cL_law 835 = .ok (.if_icmp .eq 672, 3) := by decide +kernel
theorem dL_law_838 : decode cL_law 838 = .ok (.iconst 0, 1) := by decide +kernel
theorem dL_law_839 : decode cL_law 839 = .ok (.ireturn, 1) := by decide +kernel
theorem dL_law_840 : decode cL_law 840 = .ok (.aload_n 1, 1) := by decide +kernel
theorem dL_law_841 : decode cL_law 841 = .ok (.aload_n 0, 1) := by decide +kernel
theorem dL_law_842 : decode cL_law 842 = .ok (.iload_n 3, 1) := by decide +kernel
theorem dL_law_843 : decode cL_law 843 = .ok (.iconst 1, 1) := by decide +kernel
theorem dL_law_844 : decode cL_law 844 = .ok (.iadd, 1) := by decide +kernel
theorem dL_law_845 : decode cL_law 845 = .ok (.iaload, 1) := by decide +kernel
theorem dL_law_846 : decode cL_law 846 = .ok (.invokevirtual 100, 3) := by decide +kernel
theorem dL_law_849 : decode cL_law 849 = .ok (.aload_n 2, 1) := by decide +kernel
theorem dL_law_850 : decode cL_law 850 = .ok (.aload_n 0, 1) := by decide +kernel
theorem dL_law_851 : decode cL_law 851 = .ok (.iload_n 3, 1) := by decide +kernel
theorem dL_law_852 : decode cL_law 852 = .ok (.iconst 1, 1) := by decide +kernel
theorem dL_law_853 : decode cL_law 853 = .ok (.iadd, 1) := by decide +kernel
theorem dL_law_854 : decode cL_law 854 = .ok (.iaload, 1) := by decide +kernel
theorem dL_law_855 : decode cL_law 855 = .ok (.invokevirtual 104, 3) := by decide +kernel
theorem dL_law_858 : decode cL_law 858 = .ok (.if_icmp .eq 649, 3) := by decide +kernel
theorem dL_law_861 : decode cL_law 861 = .ok (.iconst 0, 1) := by decide +kernel
theorem dL_law_862 : decode cL_law 862 = .ok (.ireturn, 1) := by decide +kernel
theorem dL_law_863 : decode cL_law 863 = .ok (.aload_n 1, 1) := by decide +kernel
theorem dL_law_864 : decode cL_law 864 = .ok (.aload_n 0, 1) := by decide +kernel
theorem dL_law_865 : decode cL_law 865 = .ok (.iload_n 3, 1) := by decide +kernel
theorem dL_law_866 : decode cL_law 866 = .ok (.iconst 1, 1) := by decide +kernel
theorem dL_law_867 : decode cL_law 867 = .ok (.iadd, 1) := by decide +kernel
theorem dL_law_868 : decode cL_law 868 = .ok (.iaload, 1) := by decide +kernel
theorem dL_law_869 : decode cL_law 869 = .ok (.invokevirtual 105, 3) := by decide +kernel
theorem dL_law_872 : decode cL_law 872 = .ok (.aload_n 2, 1) := by decide +kernel
theorem dL_law_873 : decode cL_law 873 = .ok (.aload_n 0, 1) := by decide +kernel
theorem dL_law_874 : decode cL_law 874 = .ok (.iload_n 3, 1) := by decide +kernel
theorem dL_law_875 : decode cL_law 875 = .ok (.iconst 1, 1) := by decide +kernel
theorem dL_law_876 : decode cL_law 876 = .ok (.iadd, 1) := by decide +kernel
theorem dL_law_877 : decode cL_law 877 = .ok (.iaload, 1) := by decide +kernel
theorem dL_law_878 : decode cL_law 878 = .ok (.invokevirtual 108, 3) := by decide +kernel
theorem dL_law_881 : decode cL_law 881 = .ok (.if_icmp .eq 626, 3) := by decide +kernel
theorem dL_law_884 : decode cL_law 884 = .ok (.iconst 0, 1) := by decide +kernel
theorem dL_law_885 : decode cL_law 885 = .ok (.ireturn, 1) := by decide +kernel
theorem dL_law_886 : decode cL_law 886 = .ok (.aload_n 1, 1) := by decide +kernel
theorem dL_law_887 : decode cL_law 887 = .ok (.aload_n 0, 1) := by decide +kernel
theorem dL_law_888 : decode cL_law 888 = .ok (.iload_n 3, 1) := by decide +kernel
theorem dL_law_889 : decode cL_law 889 = .ok (.iconst 1, 1) := by decide +kernel
theorem dL_law_890 : decode cL_law 890 = .ok (.iadd, 1) := by decide +kernel
theorem dL_law_891 : decode cL_law 891 = .ok (.iaload, 1) := by decide +kernel
theorem dL_law_892 : decode cL_law 892 = .ok (.aload_n 0, 1) := by decide +kernel
theorem dL_law_893 : decode cL_law 893 = .ok (.iload_n 3, 1) := by decide +kernel
theorem dL_law_894 : decode cL_law 894 = .ok (.iconst 2, 1) := by decide +kernel
theorem dL_law_895 : decode cL_law 895 = .ok (.iadd, 1) := by decide +kernel
theorem dL_law_896 : decode cL_law 896 = .ok (.iaload, 1) := by decide +kernel
theorem dL_law_897 : decode cL_law 897 = .ok (.invokevirtual 109, 3) := by decide +kernel
theorem dL_law_900 : decode cL_law 900 = .ok (.aload_n 2, 1) := by decide +kernel
theorem dL_law_901 : decode cL_law 901 = .ok (.aload_n 0, 1) := by decide +kernel
theorem dL_law_902 : decode cL_law 902 = .ok (.iload_n 3, 1) := by decide +kernel
theorem dL_law_903 : decode cL_law 903 = .ok (.iconst 1, 1) := by decide +kernel
theorem dL_law_904 : decode cL_law 904 = .ok (.iadd, 1) := by decide +kernel
theorem dL_law_905 : decode cL_law 905 = .ok (.iaload, 1) := by decide +kernel
theorem dL_law_906 : decode cL_law 906 = .ok (.aload_n 0, 1) := by decide +kernel
theorem dL_law_907 : decode cL_law 907 = .ok (.iload_n 3, 1) := by decide +kernel
theorem dL_law_908 : decode cL_law 908 = .ok (.iconst 2, 1) := by decide +kernel
theorem dL_law_909 : decode cL_law 909 = .ok (.iadd, 1) := by decide +kernel
theorem dL_law_910 : decode cL_law 910 = .ok (.iaload, 1) := by decide +kernel
theorem dL_law_911 : decode cL_law 911 = .ok (.invokevirtual 112, 3) := by decide +kernel
theorem dL_law_914 : decode cL_law 914 = .ok (.if_icmp .eq 593, 3) := by decide +kernel
theorem dL_law_917 : decode cL_law 917 = .ok (.iconst 0, 1) := by decide +kernel
theorem dL_law_918 : decode cL_law 918 = .ok (.ireturn, 1) := by decide +kernel
theorem dL_law_919 : decode cL_law 919 = .ok (.aload_n 1, 1) := by decide +kernel
theorem dL_law_920 : decode cL_law 920 = .ok (.aload_n 0, 1) := by decide +kernel
theorem dL_law_921 : decode cL_law 921 = .ok (.iload_n 3, 1) := by decide +kernel
theorem dL_law_922 : decode cL_law 922 = .ok (.iconst 1, 1) := by decide +kernel
theorem dL_law_923 : decode cL_law 923 = .ok (.iadd, 1) := by decide +kernel
theorem dL_law_924 : decode cL_law 924 = .ok (.iaload, 1) := by decide +kernel
theorem dL_law_925 : decode cL_law 925 = .ok (.aload_n 0, 1) := by decide +kernel
theorem dL_law_926 : decode cL_law 926 = .ok (.iload_n 3, 1) := by decide +kernel
theorem dL_law_927 : decode cL_law 927 = .ok (.iconst 2, 1) := by decide +kernel
theorem dL_law_928 : decode cL_law 928 = .ok (.iadd, 1) := by decide +kernel
theorem dL_law_929 : decode cL_law 929 = .ok (.iaload, 1) := by decide +kernel
theorem dL_law_930 : decode cL_law 930 = .ok (.invokevirtual 113, 3) := by decide +kernel
theorem dL_law_933 : decode cL_law 933 = .ok (.aload_n 2, 1) := by decide +kernel
theorem dL_law_934 : decode cL_law 934 = .ok (.aload_n 0, 1) := by decide +kernel
theorem dL_law_935 : decode cL_law 935 = .ok (.iload_n 3, 1) := by decide +kernel
theorem dL_law_936 : decode cL_law 936 = .ok (.iconst 1, 1) := by decide +kernel
theorem dL_law_937 : decode cL_law 937 = .ok (.iadd, 1) := by decide +kernel
theorem dL_law_938 : decode cL_law 938 = .ok (.iaload, 1) := by decide +kernel
theorem dL_law_939 : decode cL_law 939 = .ok (.aload_n 0, 1) := by decide +kernel
theorem dL_law_940 : decode cL_law 940 = .ok (.iload_n 3, 1) := by decide +kernel
theorem dL_law_941 : decode cL_law 941 = .ok (.iconst 2, 1) := by decide +kernel
theorem dL_law_942 : decode cL_law 942 = .ok (.iadd, 1) := by decide +kernel
theorem dL_law_943 : decode cL_law 943 = .ok (.iaload, 1) := by decide +kernel
theorem dL_law_944 : decode cL_law 944 = .ok (.invokevirtual 116, 3) := by decide +kernel
theorem dL_law_947 : decode cL_law 947 = .ok (.if_icmp .eq 560, 3) := by decide +kernel
theorem dL_law_950 : decode cL_law 950 = .ok (.iconst 0, 1) := by decide +kernel
theorem dL_law_951 : decode cL_law 951 = .ok (.ireturn, 1) := by decide +kernel
theorem dL_law_952 : decode cL_law 952 = .ok (.aload_n 1, 1) := by decide +kernel
theorem dL_law_953 : decode cL_law 953 = .ok (.aload_n 0, 1) := by decide +kernel
theorem dL_law_954 : decode cL_law 954 = .ok (.iload_n 3, 1) := by decide +kernel
theorem dL_law_955 : decode cL_law 955 = .ok (.iconst 1, 1) := by decide +kernel
theorem dL_law_956 : decode cL_law 956 = .ok (.iadd, 1) := by decide +kernel
theorem dL_law_957 : decode cL_law 957 = .ok (.iaload, 1) := by decide +kernel
theorem dL_law_958 : decode cL_law 958 = .ok (.invokevirtual 117, 3) := by decide +kernel
theorem dL_law_961 : decode cL_law 961 = .ok (.aload_n 2, 1) := by decide +kernel
theorem dL_law_962 : decode cL_law 962 = .ok (.aload_n 0, 1) := by decide +kernel
theorem dL_law_963 : decode cL_law 963 = .ok (.iload_n 3, 1) := by decide +kernel
theorem dL_law_964 : decode cL_law 964 = .ok (.iconst 1, 1) := by decide +kernel
theorem dL_law_965 : decode cL_law 965 = .ok (.iadd, 1) := by decide +kernel
theorem dL_law_966 : decode cL_law 966 = .ok (.iaload, 1) := by decide +kernel
theorem dL_law_967 : decode cL_law 967 = .ok (.invokevirtual 120, 3) := by decide +kernel
theorem dL_law_970 : decode cL_law 970 = .ok (.if_icmp .eq 537, 3) := by decide +kernel
theorem dL_law_973 : decode cL_law 973 = .ok (.iconst 0, 1) := by decide +kernel
theorem dL_law_974 : decode cL_law 974 = .ok (.ireturn, 1) := by decide +kernel
theorem dL_law_975 : decode cL_law 975 = .ok (.aload_n 1, 1) := by decide +kernel
theorem dL_law_976 : decode cL_law 976 = .ok (.aload_n 0, 1) := by decide +kernel
theorem dL_law_977 : decode cL_law 977 = .ok (.iload_n 3, 1) := by decide +kernel
theorem dL_law_978 : decode cL_law 978 = .ok (.iconst 1, 1) := by decide +kernel
theorem dL_law_979 : decode cL_law 979 = .ok (.iadd, 1) := by decide +kernel
theorem dL_law_980 : decode cL_law 980 = .ok (.iaload, 1) := by decide +kernel
theorem dL_law_981 : decode cL_law 981 = .ok (.invokevirtual 121, 3) := by decide +kernel
theorem dL_law_984 : decode cL_law 984 = .ok (.aload_n 2, 1) := by decide +kernel
theorem dL_law_985 : decode cL_law 985 = .ok (.aload_n 0, 1) := by decide +kernel
theorem dL_law_986 : decode cL_law 986 = .ok (.iload_n 3, 1) := by decide +kernel
theorem dL_law_987 : decode cL_law 987 = .ok (.iconst 1, 1) := by decide +kernel
theorem dL_law_988 : decode cL_law 988 = .ok (.iadd, 1) := by decide +kernel
theorem dL_law_989 : decode cL_law 989 = .ok (.iaload, 1) := by decide +kernel
theorem dL_law_990 : decode cL_law 990 = .ok (.invokevirtual 124, 3) := by decide +kernel
theorem dL_law_993 : decode cL_law 993 = .ok (.if_icmp .eq 514, 3) := by decide +kernel
theorem dL_law_996 : decode cL_law 996 = .ok (.iconst 0, 1) := by decide +kernel
theorem dL_law_997 : decode cL_law 997 = .ok (.ireturn, 1) := by decide +kernel
theorem dL_law_998 : decode cL_law 998 = .ok (.aload_n 1, 1) := by decide +kernel
theorem dL_law_999 : decode cL_law 999 = .ok (.invokevirtual 125, 3) := by decide +kernel
theorem dL_law_1002 : decode cL_law 1002 = .ok (.aload_n 2, 1) := by decide +kernel
theorem dL_law_1003 : decode cL_law 1003 = .ok (.invokevirtual 129, 3) := by decide +kernel
theorem dL_law_1006 : decode cL_law 1006 = .ok (.if_icmp .eq 501, 3) := by decide +kernel
theorem dL_law_1009 : decode cL_law 1009 = .ok (.iconst 0, 1) := by decide +kernel
theorem dL_law_1010 : decode cL_law 1010 = .ok (.ireturn, 1) := by decide +kernel
theorem dL_law_1011 : decode cL_law 1011 = .ok (.aload_n 1, 1) := by decide +kernel
theorem dL_law_1012 : decode cL_law 1012 = .ok (.invokevirtual 130, 3) := by decide +kernel
theorem dL_law_1015 : decode cL_law 1015 = .ok (.aload_n 2, 1) := by decide +kernel
theorem dL_law_1016 : decode cL_law 1016 = .ok (.invokevirtual 133, 3) := by decide +kernel
theorem dL_law_1019 : decode cL_law 1019 = .ok (.if_icmp .eq 488, 3) := by decide +kernel
theorem dL_law_1022 : decode cL_law 1022 = .ok (.iconst 0, 1) := by decide +kernel
theorem dL_law_1023 : decode cL_law 1023 = .ok (.ireturn, 1) := by decide +kernel
theorem dL_law_1024 : decode cL_law 1024 = .ok (.aload_n 1, 1) := by decide +kernel
theorem dL_law_1025 : decode cL_law 1025 = .ok (.aload_n 0, 1) := by decide +kernel
theorem dL_law_1026 : decode cL_law 1026 = .ok (.iload_n 3, 1) := by decide +kernel
theorem dL_law_1027 : decode cL_law 1027 = .ok (.iconst 1, 1) := by decide +kernel
theorem dL_law_1028 : decode cL_law 1028 = .ok (.iadd, 1) := by decide +kernel
theorem dL_law_1029 : decode cL_law 1029 = .ok (.iaload, 1) := by decide +kernel
theorem dL_law_1030 : decode cL_law 1030 = .ok (.invokevirtual 134, 3) := by decide +kernel
theorem dL_law_1033 : decode cL_law 1033 = .ok (.aload_n 2, 1) := by decide +kernel
theorem dL_law_1034 : decode cL_law 1034 = .ok (.aload_n 0, 1) := by decide +kernel
theorem dL_law_1035 : decode cL_law 1035 = .ok (.iload_n 3, 1) := by decide +kernel
theorem dL_law_1036 : decode cL_law 1036 = .ok (.iconst 1, 1) := by decide +kernel
theorem dL_law_1037 : decode cL_law 1037 = .ok (.iadd, 1) := by decide +kernel
theorem dL_law_1038 : decode cL_law 1038 = .ok (.iaload, 1) := by decide +kernel
theorem dL_law_1039 : decode cL_law 1039 = .ok (.invokevirtual 137, 3) := by decide +kernel
theorem dL_law_1042 : decode cL_law 1042 = .ok (.if_icmp .eq 465, 3) := by decide +kernel
theorem dL_law_1045 : decode cL_law 1045 = .ok (.iconst 0, 1) := by decide +kernel
theorem dL_law_1046 : decode cL_law 1046 = .ok (.ireturn, 1) := by decide +kernel
theorem dL_law_1047 : decode cL_law 1047 = .ok (.aload_n 1, 1) := by decide +kernel
theorem dL_law_1048 : decode cL_law 1048 = .ok (.invokevirtual 138, 3) := by decide +kernel
theorem dL_law_1051 : decode cL_law 1051 = .ok (.aload_n 2, 1) := by decide +kernel
theorem dL_law_1052 : decode cL_law 1052 = .ok (.invokevirtual 141, 3) := by decide +kernel
theorem dL_law_1055 : decode cL_law 1055 = .ok (.if_icmp .eq 452, 3) := by decide +kernel
theorem dL_law_1058 : decode cL_law 1058 = .ok (.iconst 0, 1) := by decide +kernel
theorem dL_law_1059 : decode cL_law 1059 = .ok (.ireturn, 1) := by decide +kernel
theorem dL_law_1060 : decode cL_law 1060 = .ok (.aload_n 1, 1) := by decide +kernel
theorem dL_law_1061 : decode cL_law 1061 = .ok (.invokevirtual 142, 3) := by decide +kernel
theorem dL_law_1064 : decode cL_law 1064 = .ok (.aload_n 2, 1) := by decide +kernel
theorem dL_law_1065 : decode cL_law 1065 = .ok (.invokevirtual 145, 3) := by decide +kernel
theorem dL_law_1068 : decode cL_law 1068 = .ok (.if_icmp .eq 439, 3) := by decide +kernel
theorem dL_law_1071 : decode cL_law 1071 = .ok (.iconst 0, 1) := by decide +kernel
theorem dL_law_1072 : decode cL_law 1072 = .ok (.ireturn, 1) := by decide +kernel
theorem dL_law_1073 : decode cL_law 1073 = .ok (.aload_n 1, 1) := by decide +kernel
theorem dL_law_1074 : decode cL_law 1074 = .ok (.invokevirtual 146, 3) := by decide +kernel
theorem dL_law_1077 : decode cL_law 1077 = .ok (.aload_n 2, 1) := by decide +kernel
theorem dL_law_1078 : decode cL_law 1078 = .ok (.invokevirtual 149, 3) := by decide +kernel
theorem dL_law_1081 : decode cL_law 1081 = .ok (.if_icmp .eq 426, 3) := by decide +kernel
theorem dL_law_1084 : decode cL_law 1084 = .ok (.iconst 0, 1) := by decide +kernel
theorem dL_law_1085 : decode cL_law 1085 = .ok (.ireturn, 1) := by decide +kernel
theorem dL_law_1086 : decode cL_law 1086 = .ok (.aload_n 1, 1) := by decide +kernel
theorem dL_law_1087 : decode cL_law 1087 = .ok (.aload_n 0, 1) := by decide +kernel
theorem dL_law_1088 : decode cL_law 1088 = .ok (.iload_n 3, 1) := by decide +kernel
theorem dL_law_1089 : decode cL_law 1089 = .ok (.iconst 1, 1) := by decide +kernel
theorem dL_law_1090 : decode cL_law 1090 = .ok (.iadd, 1) := by decide +kernel
theorem dL_law_1091 : decode cL_law 1091 = .ok (.iaload, 1) := by decide +kernel
theorem dL_law_1092 : decode cL_law 1092 = .ok (.aload_n 0, 1) := by decide +kernel
theorem dL_law_1093 : decode cL_law 1093 = .ok (.iload_n 3, 1) := by decide +kernel
theorem dL_law_1094 : decode cL_law 1094 = .ok (.iconst 2, 1) := by decide +kernel
theorem dL_law_1095 : decode cL_law 1095 = .ok (.iadd, 1) := by decide +kernel
theorem dL_law_1096 : decode cL_law 1096 = .ok (.iaload, 1) := by decide +kernel
theorem dL_law_1097 : decode cL_law 1097 = .ok (.invokevirtual 150, 3) := by decide +kernel
theorem dL_law_1100 : decode cL_law 1100 = .ok (.aload_n 2, 1) := by decide +kernel
theorem dL_law_1101 : decode cL_law 1101 = .ok (.aload_n 0, 1) := by decide +kernel
theorem dL_law_1102 : decode cL_law 1102 = .ok (.iload_n 3, 1) := by decide +kernel
theorem dL_law_1103 : decode cL_law 1103 = .ok (.iconst 1, 1) := by decide +kernel
theorem dL_law_1104 : decode cL_law 1104 = .ok (.iadd, 1) := by decide +kernel
theorem dL_law_1105 : decode cL_law 1105 = .ok (.iaload, 1) := by decide +kernel
theorem dL_law_1106 : decode cL_law 1106 = .ok (.aload_n 0, 1) := by decide +kernel
theorem dL_law_1107 : decode cL_law 1107 = .ok (.iload_n 3, 1) := by decide +kernel
theorem dL_law_1108 : decode cL_law 1108 = .ok (.iconst 2, 1) := by decide +kernel
theorem dL_law_1109 : decode cL_law 1109 = .ok (.iadd, 1) := by decide +kernel
theorem dL_law_1110 : decode cL_law 1110 = .ok (.iaload, 1) := by decide +kernel
theorem dL_law_1111 : decode cL_law 1111 = .ok (.invokevirtual 153, 3) := by decide +kernel
theorem dL_law_1114 : decode cL_law 1114 = .ok (.if_icmp .eq 393, 3) := by decide +kernel
theorem dL_law_1117 : decode cL_law 1117 = .ok (.iconst 0, 1) := by decide +kernel
theorem dL_law_1118 : decode cL_law 1118 = .ok (.ireturn, 1) := by decide +kernel
theorem dL_law_1119 : decode cL_law 1119 = .ok (.aload_n 1, 1) := by decide +kernel
theorem dL_law_1120 : decode cL_law 1120 = .ok (.invokevirtual 154, 3) := by decide +kernel
theorem dL_law_1123 : decode cL_law 1123 = .ok (.aload_n 2, 1) := by decide +kernel
theorem dL_law_1124 : decode cL_law 1124 = .ok (.invokevirtual 157, 3) := by decide +kernel
theorem dL_law_1127 : decode cL_law 1127 = .ok (.if_icmp .eq 380, 3) := by decide +kernel
theorem dL_law_1130 : decode cL_law 1130 = .ok (.iconst 0, 1) := by decide +kernel
theorem dL_law_1131 : decode cL_law 1131 = .ok (.ireturn, 1) := by decide +kernel
theorem dL_law_1132 : decode cL_law 1132 = .ok (.aload_n 1, 1) := by decide +kernel
theorem dL_law_1133 : decode cL_law 1133 = .ok (.invokevirtual 158, 3) := by decide +kernel
theorem dL_law_1136 : decode cL_law 1136 = .ok (.aload_n 2, 1) := by decide +kernel
theorem dL_law_1137 : decode cL_law 1137 = .ok (.invokevirtual 161, 3) := by decide +kernel
theorem dL_law_1140 : decode cL_law 1140 = .ok (.if_icmp .eq 367, 3) := by decide +kernel
theorem dL_law_1143 : decode cL_law 1143 = .ok (.iconst 0, 1) := by decide +kernel
theorem dL_law_1144 : decode cL_law 1144 = .ok (.ireturn, 1) := by decide +kernel
theorem dL_law_1145 : decode cL_law 1145 = .ok (.aload_n 1, 1) := by decide +kernel
theorem dL_law_1146 : decode cL_law 1146 = .ok (.invokevirtual 162, 3) := by decide +kernel
theorem dL_law_1149 : decode cL_law 1149 = .ok (.aload_n 2, 1) := by decide +kernel
theorem dL_law_1150 : decode cL_law 1150 = .ok (.invokevirtual 165, 3) := by decide +kernel
theorem dL_law_1153 : decode cL_law 1153 = .ok (.if_icmp .eq 354, 3) := by decide +kernel
theorem dL_law_1156 : decode cL_law 1156 = .ok (.iconst 0, 1) := by decide +kernel
theorem dL_law_1157 : decode cL_law 1157 = .ok (.ireturn, 1) := by decide +kernel
theorem dL_law_1158 : decode cL_law 1158 = .ok (.aload_n 1, 1) := by decide +kernel
theorem dL_law_1159 : decode cL_law 1159 = .ok (.aload_n 0, 1) := by decide +kernel
theorem dL_law_1160 : decode cL_law 1160 = .ok (.iload_n 3, 1) := by decide +kernel
theorem dL_law_1161 : decode cL_law 1161 = .ok (.iconst 1, 1) := by decide +kernel
theorem dL_law_1162 : decode cL_law 1162 = .ok (.iadd, 1) := by decide +kernel
theorem dL_law_1163 : decode cL_law 1163 = .ok (.iaload, 1) := by decide +kernel
theorem dL_law_1164 : decode cL_law 1164 = .ok (.invokevirtual 166, 3) := by decide +kernel
theorem dL_law_1167 : decode cL_law 1167 = .ok (.aload_n 2, 1) := by decide +kernel
theorem dL_law_1168 : decode cL_law 1168 = .ok (.aload_n 0, 1) := by decide +kernel
theorem dL_law_1169 : decode cL_law 1169 = .ok (.iload_n 3, 1) := by decide +kernel
theorem dL_law_1170 : decode cL_law 1170 = .ok (.iconst 1, 1) := by decide +kernel
theorem dL_law_1171 : decode cL_law 1171 = .ok (.iadd, 1) := by decide +kernel
theorem dL_law_1172 : decode cL_law 1172 = .ok (.iaload, 1) := by decide +kernel
theorem dL_law_1173 : decode cL_law 1173 = .ok (.invokevirtual 169, 3) := by decide +kernel
theorem dL_law_1176 : decode cL_law 1176 = .ok (.if_icmp .eq 331, 3) := by decide +kernel
theorem dL_law_1179 : decode cL_law 1179 = .ok (.iconst 0, 1) := by decide +kernel
theorem dL_law_1180 : decode cL_law 1180 = .ok (.ireturn, 1) := by decide +kernel
theorem dL_law_1181 : decode cL_law 1181 = .ok (.aload_n 1, 1) := by decide +kernel
theorem dL_law_1182 : decode cL_law 1182 = .ok (.aload_n 0, 1) := by decide +kernel
theorem dL_law_1183 : decode cL_law 1183 = .ok (.iload_n 3, 1) := by decide +kernel
theorem dL_law_1184 : decode cL_law 1184 = .ok (.iconst 1, 1) := by decide +kernel
theorem dL_law_1185 : decode cL_law 1185 = .ok (.iadd, 1) := by decide +kernel
theorem dL_law_1186 : decode cL_law 1186 = .ok (.iaload, 1) := by decide +kernel
theorem dL_law_1187 : decode cL_law 1187 = .ok (.invokevirtual 170, 3) := by decide +kernel
theorem dL_law_1190 : decode cL_law 1190 = .ok (.aload_n 2, 1) := by decide +kernel
theorem dL_law_1191 : decode cL_law 1191 = .ok (.aload_n 0, 1) := by decide +kernel
theorem dL_law_1192 : decode cL_law 1192 = .ok (.iload_n 3, 1) := by decide +kernel
theorem dL_law_1193 : decode cL_law 1193 = .ok (.iconst 1, 1) := by decide +kernel
theorem dL_law_1194 : decode cL_law 1194 = .ok (.iadd, 1) := by decide +kernel
theorem dL_law_1195 : decode cL_law 1195 = .ok (.iaload, 1) := by decide +kernel
theorem dL_law_1196 : decode cL_law 1196 = .ok (.invokevirtual 173, 3) := by decide +kernel
theorem dL_law_1199 : decode cL_law 1199 = .ok (.if_icmp .eq 308, 3) := by decide +kernel
theorem dL_law_1202 : decode cL_law 1202 = .ok (.iconst 0, 1) := by decide +kernel
theorem dL_law_1203 : decode cL_law 1203 = .ok (.ireturn, 1) := by decide +kernel
theorem dL_law_1204 : decode cL_law 1204 = .ok (.aload_n 1, 1) := by decide +kernel
theorem dL_law_1205 : decode cL_law 1205 = .ok (.aload_n 0, 1) := by decide +kernel
theorem dL_law_1206 : decode cL_law 1206 = .ok (.iload_n 3, 1) := by decide +kernel
theorem dL_law_1207 : decode cL_law 1207 = .ok (.iconst 1, 1) := by decide +kernel
theorem dL_law_1208 : decode cL_law 1208 = .ok (.iadd, 1) := by decide +kernel
theorem dL_law_1209 : decode cL_law 1209 = .ok (.iaload, 1) := by decide +kernel
theorem dL_law_1210 : decode cL_law 1210 = .ok (.aload_n 0, 1) := by decide +kernel
theorem dL_law_1211 : decode cL_law 1211 = .ok (.iload_n 3, 1) := by decide +kernel
theorem dL_law_1212 : decode cL_law 1212 = .ok (.iconst 2, 1) := by decide +kernel
theorem dL_law_1213 : decode cL_law 1213 = .ok (.iadd, 1) := by decide +kernel
theorem dL_law_1214 : decode cL_law 1214 = .ok (.iaload, 1) := by decide +kernel
theorem dL_law_1215 : decode cL_law 1215 = .ok (.aload_n 0, 1) := by decide +kernel
theorem dL_law_1216 : decode cL_law 1216 = .ok (.iload_n 3, 1) := by decide +kernel
theorem dL_law_1217 : decode cL_law 1217 = .ok (.iconst 3, 1) := by decide +kernel
theorem dL_law_1218 : decode cL_law 1218 = .ok (.iadd, 1) := by decide +kernel
theorem dL_law_1219 : decode cL_law 1219 = .ok (.iaload, 1) := by decide +kernel
theorem dL_law_1220 : decode cL_law 1220 = .ok (.invokevirtual 174, 3) := by decide +kernel
theorem dL_law_1223 : decode cL_law 1223 = .ok (.aload_n 2, 1) := by decide +kernel
theorem dL_law_1224 : decode cL_law 1224 = .ok (.aload_n 0, 1) := by decide +kernel
theorem dL_law_1225 : decode cL_law 1225 = .ok (.iload_n 3, 1) := by decide +kernel
theorem dL_law_1226 : decode cL_law 1226 = .ok (.iconst 1, 1) := by decide +kernel
theorem dL_law_1227 : decode cL_law 1227 = .ok (.iadd, 1) := by decide +kernel
theorem dL_law_1228 : decode cL_law 1228 = .ok (.iaload, 1) := by decide +kernel
theorem dL_law_1229 : decode cL_law 1229 = .ok (.aload_n 0, 1) := by decide +kernel
theorem dL_law_1230 : decode cL_law 1230 = .ok (.iload_n 3, 1) := by decide +kernel
theorem dL_law_1231 : decode cL_law 1231 = .ok (.iconst 2, 1) := by decide +kernel
theorem dL_law_1232 : decode cL_law 1232 = .ok (.iadd, 1) := by decide +kernel
theorem dL_law_1233 : decode cL_law 1233 = .ok (.iaload, 1) := by decide +kernel
theorem dL_law_1234 : decode cL_law 1234 = .ok (.aload_n 0, 1) := by decide +kernel
theorem dL_law_1235 : decode cL_law 1235 = .ok (.iload_n 3, 1) := by decide +kernel
theorem dL_law_1236 : decode cL_law 1236 = .ok (.iconst 3, 1) := by decide +kernel
theorem dL_law_1237 : decode cL_law 1237 = .ok (.iadd, 1) := by decide +kernel
theorem dL_law_1238 : decode cL_law 1238 = .ok (.iaload, 1) := by decide +kernel
theorem dL_law_1239 : decode cL_law 1239 = .ok (.invokevirtual 178, 3) := by decide +kernel
theorem dL_law_1242 : decode cL_law 1242 = .ok (.if_icmp .eq 265, 3) := by decide +kernel
theorem dL_law_1245 : decode cL_law 1245 = .ok (.iconst 0, 1) := by decide +kernel
theorem dL_law_1246 : decode cL_law 1246 = .ok (.ireturn, 1) := by decide +kernel
theorem dL_law_1247 : decode cL_law 1247 = .ok (.aload_n 1, 1) := by decide +kernel
theorem dL_law_1248 : decode cL_law 1248 = .ok (.aload_n 0, 1) := by decide +kernel
theorem dL_law_1249 : decode cL_law 1249 = .ok (.iload_n 3, 1) := by decide +kernel
theorem dL_law_1250 : decode cL_law 1250 = .ok (.iconst 1, 1) := by decide +kernel
theorem dL_law_1251 : decode cL_law 1251 = .ok (.iadd, 1) := by decide +kernel
theorem dL_law_1252 : decode cL_law 1252 = .ok (.iaload, 1) := by decide +kernel
theorem dL_law_1253 : decode cL_law 1253 = .ok (.aload_n 0, 1) := by decide +kernel
theorem dL_law_1254 : decode cL_law 1254 = .ok (.iload_n 3, 1) := by decide +kernel
theorem dL_law_1255 : decode cL_law 1255 = .ok (.iconst 2, 1) := by decide +kernel
theorem dL_law_1256 : decode cL_law 1256 = .ok (.iadd, 1) := by decide +kernel
theorem dL_law_1257 : decode cL_law 1257 = .ok (.iaload, 1) := by decide +kernel
theorem dL_law_1258 : decode cL_law 1258 = .ok (.aload_n 0, 1) := by decide +kernel
theorem dL_law_1259 : decode cL_law 1259 = .ok (.iload_n 3, 1) := by decide +kernel
theorem dL_law_1260 : decode cL_law 1260 = .ok (.iconst 3, 1) := by decide +kernel
theorem dL_law_1261 : decode cL_law 1261 = .ok (.iadd, 1) := by decide +kernel
theorem dL_law_1262 : decode cL_law 1262 = .ok (.iaload, 1) := by decide +kernel
theorem dL_law_1263 : decode cL_law 1263 = .ok (.aload_n 0, 1) := by decide +kernel
theorem dL_law_1264 : decode cL_law 1264 = .ok (.iload_n 3, 1) := by decide +kernel
theorem dL_law_1265 : decode cL_law 1265 = .ok (.iconst 4, 1) := by decide +kernel
theorem dL_law_1266 : decode cL_law 1266 = .ok (.iadd, 1) := by decide +kernel
theorem dL_law_1267 : decode cL_law 1267 = .ok (.iaload, 1) := by decide +kernel
theorem dL_law_1268 : decode cL_law 1268 = .ok (.invokevirtual 179, 3) := by decide +kernel
theorem dL_law_1271 : decode cL_law 1271 = .ok (.aload_n 2, 1) := by decide +kernel
theorem dL_law_1272 : decode cL_law 1272 = .ok (.aload_n 0, 1) := by decide +kernel
theorem dL_law_1273 : decode cL_law 1273 = .ok (.iload_n 3, 1) := by decide +kernel
theorem dL_law_1274 : decode cL_law 1274 = .ok (.iconst 1, 1) := by decide +kernel
theorem dL_law_1275 : decode cL_law 1275 = .ok (.iadd, 1) := by decide +kernel
theorem dL_law_1276 : decode cL_law 1276 = .ok (.iaload, 1) := by decide +kernel
theorem dL_law_1277 : decode cL_law 1277 = .ok (.aload_n 0, 1) := by decide +kernel
theorem dL_law_1278 : decode cL_law 1278 = .ok (.iload_n 3, 1) := by decide +kernel
theorem dL_law_1279 : decode cL_law 1279 = .ok (.iconst 2, 1) := by decide +kernel
theorem dL_law_1280 : decode cL_law 1280 = .ok (.iadd, 1) := by decide +kernel
theorem dL_law_1281 : decode cL_law 1281 = .ok (.iaload, 1) := by decide +kernel
theorem dL_law_1282 : decode cL_law 1282 = .ok (.aload_n 0, 1) := by decide +kernel
theorem dL_law_1283 : decode cL_law 1283 = .ok (.iload_n 3, 1) := by decide +kernel
theorem dL_law_1284 : decode cL_law 1284 = .ok (.iconst 3, 1) := by decide +kernel
theorem dL_law_1285 : decode cL_law 1285 = .ok (.iadd, 1) := by decide +kernel
theorem dL_law_1286 : decode cL_law 1286 = .ok (.iaload, 1) := by decide +kernel
theorem dL_law_1287 : decode cL_law 1287 = .ok (.aload_n 0, 1) := by decide +kernel
theorem dL_law_1288 : decode cL_law 1288 = .ok (.iload_n 3, 1) := by decide +kernel
theorem dL_law_1289 : decode cL_law 1289 = .ok (.iconst 4, 1) := by decide +kernel
theorem dL_law_1290 : decode cL_law 1290 = .ok (.iadd, 1) := by decide +kernel
theorem dL_law_1291 : decode cL_law 1291 = .ok (.iaload, 1) := by decide +kernel
theorem dL_law_1292 : decode cL_law 1292 = .ok (.invokevirtual 183, 3) := by decide +kernel
theorem dL_law_1295 : decode cL_law 1295 = .ok (.if_icmp .eq 212, 3) := by decide +kernel
theorem dL_law_1298 : decode cL_law 1298 = .ok (.iconst 0, 1) := by decide +kernel
theorem dL_law_1299 : decode cL_law 1299 = .ok (.ireturn, 1) := by decide +kernel
theorem dL_law_1300 : decode cL_law 1300 = .ok (.aload_n 1, 1) := by decide +kernel
theorem dL_law_1301 : decode cL_law 1301 = .ok (.aload_n 0, 1) := by decide +kernel
theorem dL_law_1302 : decode cL_law 1302 = .ok (.iload_n 3, 1) := by decide +kernel
theorem dL_law_1303 : decode cL_law 1303 = .ok (.iconst 1, 1) := by decide +kernel
theorem dL_law_1304 : decode cL_law 1304 = .ok (.iadd, 1) := by decide +kernel
theorem dL_law_1305 : decode cL_law 1305 = .ok (.iaload, 1) := by decide +kernel
theorem dL_law_1306 : decode cL_law 1306 = .ok (.invokevirtual 184, 3) := by decide +kernel
theorem dL_law_1309 : decode cL_law 1309 = .ok (.aload_n 2, 1) := by decide +kernel
theorem dL_law_1310 : decode cL_law 1310 = .ok (.aload_n 0, 1) := by decide +kernel
theorem dL_law_1311 : decode cL_law 1311 = .ok (.iload_n 3, 1) := by decide +kernel
theorem dL_law_1312 : decode cL_law 1312 = .ok (.iconst 1, 1) := by decide +kernel
theorem dL_law_1313 : decode cL_law 1313 = .ok (.iadd, 1) := by decide +kernel
theorem dL_law_1314 : decode cL_law 1314 = .ok (.iaload, 1) := by decide +kernel
theorem dL_law_1315 : decode cL_law 1315 = .ok (.invokevirtual 187, 3) := by decide +kernel
theorem dL_law_1318 : decode cL_law 1318 = .ok (.if_icmp .eq 189, 3) := by decide +kernel
theorem dL_law_1321 : decode cL_law 1321 = .ok (.iconst 0, 1) := by decide +kernel
theorem dL_law_1322 : decode cL_law 1322 = .ok (.ireturn, 1) := by decide +kernel
theorem dL_law_1323 : decode cL_law 1323 = .ok (.aload_n 1, 1) := by decide +kernel
theorem dL_law_1324 : decode cL_law 1324 = .ok (.aload_n 0, 1) := by decide +kernel
theorem dL_law_1325 : decode cL_law 1325 = .ok (.iload_n 3, 1) := by decide +kernel
theorem dL_law_1326 : decode cL_law 1326 = .ok (.iconst 1, 1) := by decide +kernel
theorem dL_law_1327 : decode cL_law 1327 = .ok (.iadd, 1) := by decide +kernel
theorem dL_law_1328 : decode cL_law 1328 = .ok (.iaload, 1) := by decide +kernel
theorem dL_law_1329 : decode cL_law 1329 = .ok (.invokevirtual 188, 3) := by decide +kernel
theorem dL_law_1332 : decode cL_law 1332 = .ok (.aload_n 2, 1) := by decide +kernel
theorem dL_law_1333 : decode cL_law 1333 = .ok (.aload_n 0, 1) := by decide +kernel
theorem dL_law_1334 : decode cL_law 1334 = .ok (.iload_n 3, 1) := by decide +kernel
theorem dL_law_1335 : decode cL_law 1335 = .ok (.iconst 1, 1) := by decide +kernel
theorem dL_law_1336 : decode cL_law 1336 = .ok (.iadd, 1) := by decide +kernel
theorem dL_law_1337 : decode cL_law 1337 = .ok (.iaload, 1) := by decide +kernel
theorem dL_law_1338 : decode cL_law 1338 = .ok (.invokevirtual 191, 3) := by decide +kernel
theorem dL_law_1341 : decode cL_law 1341 = .ok (.if_icmp .eq 166, 3) := by decide +kernel
theorem dL_law_1344 : decode cL_law 1344 = .ok (.iconst 0, 1) := by decide +kernel
theorem dL_law_1345 : decode cL_law 1345 = .ok (.ireturn, 1) := by decide +kernel
theorem dL_law_1346 : decode cL_law 1346 = .ok (.aload_n 1, 1) := by decide +kernel
theorem dL_law_1347 : decode cL_law 1347 = .ok (.aload_n 0, 1) := by decide +kernel
theorem dL_law_1348 : decode cL_law 1348 = .ok (.iload_n 3, 1) := by decide +kernel
theorem dL_law_1349 : decode cL_law 1349 = .ok (.iconst 1, 1) := by decide +kernel
theorem dL_law_1350 : decode cL_law 1350 = .ok (.iadd, 1) := by decide +kernel
theorem dL_law_1351 : decode cL_law 1351 = .ok (.iaload, 1) := by decide +kernel
theorem dL_law_1352 : decode cL_law 1352 = .ok (.aload_n 0, 1) := by decide +kernel
theorem dL_law_1353 : decode cL_law 1353 = .ok (.iload_n 3, 1) := by decide +kernel
theorem dL_law_1354 : decode cL_law 1354 = .ok (.iconst 2, 1) := by decide +kernel
theorem dL_law_1355 : decode cL_law 1355 = .ok (.iadd, 1) := by decide +kernel
theorem dL_law_1356 : decode cL_law 1356 = .ok (.iaload, 1) := by decide +kernel
theorem dL_law_1357 : decode cL_law 1357 = .ok (.invokevirtual 192, 3) := by decide +kernel
theorem dL_law_1360 : decode cL_law 1360 = .ok (.aload_n 2, 1) := by decide +kernel
theorem dL_law_1361 : decode cL_law 1361 = .ok (.aload_n 0, 1) := by decide +kernel
theorem dL_law_1362 : decode cL_law 1362 = .ok (.iload_n 3, 1) := by decide +kernel
theorem dL_law_1363 : decode cL_law 1363 = .ok (.iconst 1, 1) := by decide +kernel
theorem dL_law_1364 : decode cL_law 1364 = .ok (.iadd, 1) := by decide +kernel
theorem dL_law_1365 : decode cL_law 1365 = .ok (.iaload, 1) := by decide +kernel
theorem dL_law_1366 : decode cL_law 1366 = .ok (.aload_n 0, 1) := by decide +kernel
theorem dL_law_1367 : decode cL_law 1367 = .ok (.iload_n 3, 1) := by decide +kernel
theorem dL_law_1368 : decode cL_law 1368 = .ok (.iconst 2, 1) := by decide +kernel
theorem dL_law_1369 : decode cL_law 1369 = .ok (.iadd, 1) := by decide +kernel
theorem dL_law_1370 : decode cL_law 1370 = .ok (.iaload, 1) := by decide +kernel
theorem dL_law_1371 : decode cL_law 1371 = .ok (.invokevirtual 196, 3) := by decide +kernel
theorem dL_law_1374 : decode cL_law 1374 = .ok (.if_icmp .eq 133, 3) := by decide +kernel
theorem dL_law_1377 : decode cL_law 1377 = .ok (.iconst 0, 1) := by decide +kernel
theorem dL_law_1378 : decode cL_law 1378 = .ok (.ireturn, 1) := by decide +kernel
theorem dL_law_1379 : decode cL_law 1379 = .ok (.aload_n 1, 1) := by decide +kernel
theorem dL_law_1380 : decode cL_law 1380 = .ok (.aload_n 0, 1) := by decide +kernel
theorem dL_law_1381 : decode cL_law 1381 = .ok (.iload_n 3, 1) := by decide +kernel
theorem dL_law_1382 : decode cL_law 1382 = .ok (.iconst 1, 1) := by decide +kernel
theorem dL_law_1383 : decode cL_law 1383 = .ok (.iadd, 1) := by decide +kernel
theorem dL_law_1384 : decode cL_law 1384 = .ok (.iaload, 1) := by decide +kernel
theorem dL_law_1385 : decode cL_law 1385 = .ok (.invokevirtual 197, 3) := by decide +kernel
theorem dL_law_1388 : decode cL_law 1388 = .ok (.aload_n 2, 1) := by decide +kernel
theorem dL_law_1389 : decode cL_law 1389 = .ok (.aload_n 0, 1) := by decide +kernel
theorem dL_law_1390 : decode cL_law 1390 = .ok (.iload_n 3, 1) := by decide +kernel
theorem dL_law_1391 : decode cL_law 1391 = .ok (.iconst 1, 1) := by decide +kernel
theorem dL_law_1392 : decode cL_law 1392 = .ok (.iadd, 1) := by decide +kernel
theorem dL_law_1393 : decode cL_law 1393 = .ok (.iaload, 1) := by decide +kernel
theorem dL_law_1394 : decode cL_law 1394 = .ok (.invokevirtual 200, 3) := by decide +kernel
theorem dL_law_1397 : decode cL_law 1397 = .ok (.if_icmp .eq 110, 3) := by decide +kernel
theorem dL_law_1400 : decode cL_law 1400 = .ok (.iconst 0, 1) := by decide +kernel
theorem dL_law_1401 : decode cL_law 1401 = .ok (.ireturn, 1) := by decide +kernel
theorem dL_law_1402 : decode cL_law 1402 = .ok (.aload_n 1, 1) := by decide +kernel
theorem dL_law_1403 : decode cL_law 1403 = .ok (.aload_n 0, 1) := by decide +kernel
theorem dL_law_1404 : decode cL_law 1404 = .ok (.iload_n 3, 1) := by decide +kernel
theorem dL_law_1405 : decode cL_law 1405 = .ok (.iconst 1, 1) := by decide +kernel
theorem dL_law_1406 : decode cL_law 1406 = .ok (.iadd, 1) := by decide +kernel
theorem dL_law_1407 : decode cL_law 1407 = .ok (.iaload, 1) := by decide +kernel
theorem dL_law_1408 : decode cL_law 1408 = .ok (.invokevirtual 201, 3) := by decide +kernel
theorem dL_law_1411 : decode cL_law 1411 = .ok (.aload_n 2, 1) := by decide +kernel
theorem dL_law_1412 : decode cL_law 1412 = .ok (.aload_n 0, 1) := by decide +kernel
theorem dL_law_1413 : decode cL_law 1413 = .ok (.iload_n 3, 1) := by decide +kernel
theorem dL_law_1414 : decode cL_law 1414 = .ok (.iconst 1, 1) := by decide +kernel
theorem dL_law_1415 : decode cL_law 1415 = .ok (.iadd, 1) := by decide +kernel
theorem dL_law_1416 : decode cL_law 1416 = .ok (.iaload, 1) := by decide +kernel
theorem dL_law_1417 : decode cL_law 1417 = .ok (.invokevirtual 204, 3) := by decide +kernel
theorem dL_law_1420 : decode cL_law 1420 = .ok (.if_icmp .eq 87, 3) := by decide +kernel
theorem dL_law_1423 : decode cL_law 1423 = .ok (.iconst 0, 1) := by decide +kernel
theorem dL_law_1424 : decode cL_law 1424 = .ok (.ireturn, 1) := by decide +kernel
theorem dL_law_1425 : decode cL_law 1425 = .ok (.aload_n 1, 1) := by decide +kernel
theorem dL_law_1426 : decode cL_law 1426 = .ok (.aload_n 0, 1) := by decide +kernel
theorem dL_law_1427 : decode cL_law 1427 = .ok (.iload_n 3, 1) := by decide +kernel
theorem dL_law_1428 : decode cL_law 1428 = .ok (.iconst 1, 1) := by decide +kernel
theorem dL_law_1429 : decode cL_law 1429 = .ok (.iadd, 1) := by decide +kernel
theorem dL_law_1430 : decode cL_law 1430 = .ok (.iaload, 1) := by decide +kernel
theorem dL_law_1431 : decode cL_law 1431 = .ok (.invokevirtual 205, 3) := by decide +kernel
theorem dL_law_1434 : decode cL_law 1434 = .ok (.aload_n 2, 1) := by decide +kernel
theorem dL_law_1435 : decode cL_law 1435 = .ok (.aload_n 0, 1) := by decide +kernel
theorem dL_law_1436 : decode cL_law 1436 = .ok (.iload_n 3, 1) := by decide +kernel
theorem dL_law_1437 : decode cL_law 1437 = .ok (.iconst 1, 1) := by decide +kernel
theorem dL_law_1438 : decode cL_law 1438 = .ok (.iadd, 1) := by decide +kernel
theorem dL_law_1439 : decode cL_law 1439 = .ok (.iaload, 1) := by decide +kernel
theorem dL_law_1440 : decode cL_law 1440 = .ok (.invokevirtual 208, 3) := by decide +kernel
theorem dL_law_1443 : decode cL_law 1443 = .ok (.if_icmp .eq 64, 3) := by decide +kernel
theorem dL_law_1446 : decode cL_law 1446 = .ok (.iconst 0, 1) := by decide +kernel
theorem dL_law_1447 : decode cL_law 1447 = .ok (.ireturn, 1) := by decide +kernel
theorem dL_law_1448 : decode cL_law 1448 = .ok (.aload_n 1, 1) := by decide +kernel
theorem dL_law_1449 : decode cL_law 1449 = .ok (.aload_n 0, 1) := by decide +kernel
theorem dL_law_1450 : decode cL_law 1450 = .ok (.iload_n 3, 1) := by decide +kernel
theorem dL_law_1451 : decode cL_law 1451 = .ok (.iconst 1, 1) := by decide +kernel
theorem dL_law_1452 : decode cL_law 1452 = .ok (.iadd, 1) := by decide +kernel
theorem dL_law_1453 : decode cL_law 1453 = .ok (.iaload, 1) := by decide +kernel
theorem dL_law_1454 : decode cL_law 1454 = .ok (.aload_n 0, 1) := by decide +kernel
theorem dL_law_1455 : decode cL_law 1455 = .ok (.iload_n 3, 1) := by decide +kernel
theorem dL_law_1456 : decode cL_law 1456 = .ok (.iconst 2, 1) := by decide +kernel
theorem dL_law_1457 : decode cL_law 1457 = .ok (.iadd, 1) := by decide +kernel
theorem dL_law_1458 : decode cL_law 1458 = .ok (.iaload, 1) := by decide +kernel
theorem dL_law_1459 : decode cL_law 1459 = .ok (.invokevirtual 209, 3) := by decide +kernel
theorem dL_law_1462 : decode cL_law 1462 = .ok (.aload_n 2, 1) := by decide +kernel
theorem dL_law_1463 : decode cL_law 1463 = .ok (.aload_n 0, 1) := by decide +kernel
theorem dL_law_1464 : decode cL_law 1464 = .ok (.iload_n 3, 1) := by decide +kernel
theorem dL_law_1465 : decode cL_law 1465 = .ok (.iconst 1, 1) := by decide +kernel
theorem dL_law_1466 : decode cL_law 1466 = .ok (.iadd, 1) := by decide +kernel
theorem dL_law_1467 : decode cL_law 1467 = .ok (.iaload, 1) := by decide +kernel
theorem dL_law_1468 : decode cL_law 1468 = .ok (.aload_n 0, 1) := by decide +kernel
theorem dL_law_1469 : decode cL_law 1469 = .ok (.iload_n 3, 1) := by decide +kernel
theorem dL_law_1470 : decode cL_law 1470 = .ok (.iconst 2, 1) := by decide +kernel
theorem dL_law_1471 : decode cL_law 1471 = .ok (.iadd, 1) := by decide +kernel
theorem dL_law_1472 : decode cL_law 1472 = .ok (.iaload, 1) := by decide +kernel
theorem dL_law_1473 : decode cL_law 1473 = .ok (.invokevirtual 212, 3) := by decide +kernel
theorem dL_law_1476 : decode cL_law 1476 = .ok (.if_icmp .eq 31, 3) := by decide +kernel
theorem dL_law_1479 : decode cL_law 1479 = .ok (.iconst 0, 1) := by decide +kernel
theorem dL_law_1480 : decode cL_law 1480 = .ok (.ireturn, 1) := by decide +kernel
theorem dL_law_1481 : decode cL_law 1481 = .ok (.aload_n 1, 1) := by decide +kernel
theorem dL_law_1482 : decode cL_law 1482 = .ok (.invokevirtual 213, 3) := by decide +kernel
theorem dL_law_1485 : decode cL_law 1485 = .ok (.aload_n 2, 1) := by decide +kernel
theorem dL_law_1486 : decode cL_law 1486 = .ok (.invokevirtual 216, 3) := by decide +kernel
theorem dL_law_1489 : decode cL_law 1489 = .ok (.if_icmp .eq 18, 3) := by decide +kernel
theorem dL_law_1492 : decode cL_law 1492 = .ok (.iconst 0, 1) := by decide +kernel
theorem dL_law_1493 : decode cL_law 1493 = .ok (.ireturn, 1) := by decide +kernel
theorem dL_law_1494 : decode cL_law 1494 = .ok (.aload_n 1, 1) := by decide +kernel
theorem dL_law_1495 : decode cL_law 1495 = .ok (.invokevirtual 217, 3) := by decide +kernel
theorem dL_law_1498 : decode cL_law 1498 = .ok (.aload_n 2, 1) := by decide +kernel
theorem dL_law_1499 : decode cL_law 1499 = .ok (.invokevirtual 220, 3) := by decide +kernel
theorem dL_law_1502 : decode cL_law 1502 = .ok (.if_icmp .eq 5, 3) := by decide +kernel
theorem dL_law_1505 : decode cL_law 1505 = .ok (.iconst 0, 1) := by decide +kernel
theorem dL_law_1506 : decode cL_law 1506 = .ok (.ireturn, 1) := by decide +kernel
theorem dL_law_1507 : decode cL_law 1507 = .ok (.iinc 3 6, 3) := by decide +kernel
theorem dL_law_1510 : decode cL_law 1510 = .ok (.goto (-1492), 3) := by decide +kernel
theorem dL_law_1513 : decode cL_law 1513 = .ok (.iconst 1, 1) := by decide +kernel
theorem dL_law_1514 : decode cL_law 1514 = .ok (.ireturn, 1) := by decide +kernel
def M_L_law : Mi := (x, code, 4, ret)
theorem k_constl_L_32 : Cond.constantLong "ResidueCoverLaw" 32 (4294967295) ∈ lw_good := (gt8 199 rfl rfl)
theorem k_ml_L_13 : Cv "ResidueCoverLaw" 13 M_X11_status 0 8 := ⟨Or.inl (gt2 119 rfl rfl), ok2_X11_status, (gt2 120 rfl rfl), (gt2 121 rfl rfl), TX11, 17, rfl⟩
theorem k_ml_L_17 : Cv "ResidueCoverLaw" 17 M_X12_status 0 9 := ⟨Or.inl (gt6 139 rfl rfl), ok2_X12_status, (gt6 140 rfl rfl), (gt6 141 rfl rfl), TX12, 39, rfl⟩
theorem k_ml_L_18 : Cv "ResidueCoverLaw" 18 M_X11_top 0 8 := ⟨Or.inl (gt2 123 rfl rfl), ok2_X11_top, (gt2 124 rfl rfl), (gt2 125 rfl rfl), TX11, 17, rfl⟩
theorem k_ml_L_22 : Cv "ResidueCoverLaw" 22 M_X12_top 0 9 := ⟨Or.inl (gt6 143 rfl rfl), ok2_X12_top, (gt6 144 rfl rfl), (gt6 145 rfl rfl), TX12, 39, rfl⟩
theorem k_ml_L_23 : Cv "ResidueCoverLaw" 23 M_X11_bottom 0 8 := ⟨Or.inl (gt2 127 rfl rfl), ok2_X11_bottom, (gt2 128 rfl rfl), (gt2 129 rfl rfl), TX11, 17, rfl⟩
theorem k_ml_L_26 : Cv "ResidueCoverLaw" 26 M_X12_bottom 0 9 := ⟨Or.inl (gt6 147 rfl rfl), ok2_X12_bottom, (gt6 148 rfl rfl), (gt6 149 rfl rfl), TX12, 39, rfl⟩
theorem k_ml_L_27 : Cv "ResidueCoverLaw" 27 M_X11_tray 3 8 := ⟨Or.inl (gt2 131 rfl rfl), ok2_X11_tray, (gt2 132 rfl rfl), (gt2 133 rfl rfl), TX11, 17, rfl⟩
theorem k_ml_L_31 : Cv "ResidueCoverLaw" 31 M_X12_tray 3 9 := ⟨Or.inl (gt6 151 rfl rfl), ok2_X12_tray, (gt6 152 rfl rfl), (gt6 153 rfl rfl), TX12, 39, rfl⟩
theorem k_ml_L_34 : Cv "ResidueCoverLaw" 34 M_X11_write 3 8 := ⟨Or.inl (gt2 155 rfl rfl), ok2_X11_write, (gt2 156 rfl rfl), (gt2 157 rfl rfl), TX11, 17, rfl⟩
theorem k_ml_L_38 : Cv "ResidueCoverLaw" 38 M_X12_write 3 9 := ⟨Or.inl (gt6 162 rfl rfl), ok2_X12_write, (gt6 163 rfl rfl), (gt6 164 rfl rfl), TX12, 39, rfl⟩
theorem k_ml_L_39 : Cv "ResidueCoverLaw" 39 M_X11_read 2 8 := ⟨Or.inl (gt2 184 rfl rfl), ok2_X11_read, (gt2 185 rfl rfl), (gt2 186 rfl rfl), TX11, 17, rfl⟩
theorem k_ml_L_43 : Cv "ResidueCoverLaw" 43 M_X12_read 2 9 := ⟨Or.inl (gt6 173 rfl rfl), ok2_X12_read, (gt6 174 rfl rfl), (gt6 175 rfl rfl), TX12, 39, rfl⟩
theorem k_ml_L_44 : Cv "ResidueCoverLaw" 44 M_X11_pour 5 8 := ⟨Or.inl (gt2 197 rfl rfl), ok2_X11_pour, (gt2 198 rfl rfl), (gt2 199 rfl rfl), TX11, 17, rfl⟩
theorem k_ml_L_48 : Cv "ResidueCoverLaw" 48 M_X12_pour 5 9 := ⟨Or.inl (gt6 178 rfl rfl), ok2_X12_pour, (gt6 179 rfl rfl), (gt6 180 rfl rfl), TX12, 39, rfl⟩
theorem k_ml_L_49 : Cv "ResidueCoverLaw" 49 M_X11_feed 5 8 := ⟨Or.inl (gt2 208 rfl rfl), ok2_X11_feed, (gt2 209 rfl rfl), (gt2 210 rfl rfl), TX11, 17, rfl⟩
theorem k_ml_L_53 : Cv "ResidueCoverLaw" 53 M_X12_feed 5 9 := ⟨Or.inl (gt6 182 rfl rfl), ok2_X12_feed, (gt6 183 rfl rfl), (gt6 184 rfl rfl), TX12, 39, rfl⟩
theorem k_ml_L_54 : Cv "ResidueCoverLaw" 54 M_X11_system 1 8 := ⟨Or.inl (gt2 216 rfl rfl), ok2_X11_system, (gt2 217 rfl rfl), (gt2 218 rfl rfl), TX11, 17, rfl⟩
theorem k_ml_L_58 : Cv "ResidueCoverLaw" 58 M_X12_system 1 9 := ⟨Or.inl (gt6 194 rfl rfl), ok2_X12_system, (gt6 195 rfl rfl), (gt6 196 rfl rfl), TX12, 39, rfl⟩
theorem k_ml_L_59 : Cv "ResidueCoverLaw" 59 M_X11_days 1 8 := ⟨Or.inl (gt3 148 rfl rfl), ok2_X11_days, (gt3 149 rfl rfl), (gt3 150 rfl rfl), TX11, 17, rfl⟩
theorem k_ml_L_62 : Cv "ResidueCoverLaw" 62 M_X12_days 1 9 := ⟨Or.inl (gt7 40 rfl rfl), ok2_X12_days, (gt7 41 rfl rfl), (gt7 42 rfl rfl), TX12, 39, rfl⟩
theorem k_ml_L_63 : Cv "ResidueCoverLaw" 63 M_X11_fault 1 8 := ⟨Or.inl (gt3 206 rfl rfl), ok2_X11_fault, (gt3 207 rfl rfl), (gt3 208 rfl rfl), TX11, 17, rfl⟩
theorem k_ml_L_66 : Cv "ResidueCoverLaw" 66 M_X12_fault 1 9 := ⟨Or.inl (gt6 190 rfl rfl), ok2_X12_fault, (gt6 191 rfl rfl), (gt6 192 rfl rfl), TX12, 39, rfl⟩
theorem k_ml_L_67 : Cv "ResidueCoverLaw" 67 M_X11_told 1 8 := ⟨Or.inl (gt3 210 rfl rfl), ok2_X11_told, (gt3 211 rfl rfl), (gt3 212 rfl rfl), TX11, 17, rfl⟩
theorem k_ml_L_70 : Cv "ResidueCoverLaw" 70 M_X12_told 1 9 := ⟨Or.inl (gt7 63 rfl rfl), ok2_X12_told, (gt7 64 rfl rfl), (gt7 65 rfl rfl), TX12, 39, rfl⟩
theorem k_ml_L_71 : Cv "ResidueCoverLaw" 71 M_X11_classOf 2 8 := ⟨Or.inl (gt4 59 rfl rfl), ok2_X11_classOf, (gt4 60 rfl rfl), (gt4 61 rfl rfl), TX11, 17, rfl⟩
theorem k_ml_L_75 : Cv "ResidueCoverLaw" 75 M_X12_classOf 2 9 := ⟨Or.inl (gt7 121 rfl rfl), ok2_X12_classOf, (gt7 122 rfl rfl), (gt7 123 rfl rfl), TX12, 39, rfl⟩
theorem k_ml_L_76 : Cv "ResidueCoverLaw" 76 M_X11_caught 1 8 := ⟨Or.inl (gt4 68 rfl rfl), ok2_X11_caught, (gt4 69 rfl rfl), (gt4 70 rfl rfl), TX11, 17, rfl⟩
theorem k_ml_L_79 : Cv "ResidueCoverLaw" 79 M_X12_caught 1 9 := ⟨Or.inl (gt7 129 rfl rfl), ok2_X12_caught, (gt7 130 rfl rfl), (gt7 131 rfl rfl), TX12, 39, rfl⟩
theorem k_ml_L_80 : Cv "ResidueCoverLaw" 80 M_X11_tightest 1 8 := ⟨Or.inl (gt4 81 rfl rfl), ok2_X11_tightest, (gt4 82 rfl rfl), (gt4 83 rfl rfl), TX11, 17, rfl⟩
theorem k_ml_L_83 : Cv "ResidueCoverLaw" 83 M_X12_tightest 1 9 := ⟨Or.inl (gt7 138 rfl rfl), ok2_X12_tightest, (gt7 139 rfl rfl), (gt7 140 rfl rfl), TX12, 39, rfl⟩
theorem k_ml_L_84 : Cv "ResidueCoverLaw" 84 M_X11_turn 1 8 := ⟨Or.inl (gt4 93 rfl rfl), ok2_X11_turn, (gt4 94 rfl rfl), (gt4 95 rfl rfl), TX11, 17, rfl⟩
theorem k_ml_L_87 : Cv "ResidueCoverLaw" 87 M_X12_turn 1 9 := ⟨Or.inl (gt7 146 rfl rfl), ok2_X12_turn, (gt7 147 rfl rfl), (gt7 148 rfl rfl), TX12, 39, rfl⟩
theorem k_ml_L_88 : Cv "ResidueCoverLaw" 88 M_X11_add 2 8 := ⟨Or.inl (gt4 102 rfl rfl), ok2_X11_add, (gt4 103 rfl rfl), (gt4 104 rfl rfl), TX11, 17, rfl⟩
theorem k_ml_L_91 : Cv "ResidueCoverLaw" 91 M_X12_add 2 9 := ⟨Or.inl (gt7 150 rfl rfl), ok2_X12_add, (gt7 151 rfl rfl), (gt7 152 rfl rfl), TX12, 39, rfl⟩
theorem k_ml_L_92 : Cv "ResidueCoverLaw" 92 M_X11_drop 1 8 := ⟨Or.inl (gt4 108 rfl rfl), ok2_X11_drop, (gt4 109 rfl rfl), (gt4 110 rfl rfl), TX11, 17, rfl⟩
theorem k_ml_L_95 : Cv "ResidueCoverLaw" 95 M_X12_drop 1 9 := ⟨Or.inl (gt7 160 rfl rfl), ok2_X12_drop, (gt7 161 rfl rfl), (gt7 162 rfl rfl), TX12, 39, rfl⟩
theorem k_ml_L_96 : Cv "ResidueCoverLaw" 96 M_X11_move 2 8 := ⟨Or.inl (gt4 116 rfl rfl), ok2_X11_move, (gt4 117 rfl rfl), (gt4 118 rfl rfl), TX11, 17, rfl⟩
theorem k_ml_L_99 : Cv "ResidueCoverLaw" 99 M_X12_move 2 9 := ⟨Or.inl (gt7 168 rfl rfl), ok2_X12_move, (gt7 169 rfl rfl), (gt7 170 rfl rfl), TX12, 39, rfl⟩
theorem k_ml_L_100 : Cv "ResidueCoverLaw" 100 M_X11_shift 1 8 := ⟨Or.inl (gt4 121 rfl rfl), ok2_X11_shift, (gt4 122 rfl rfl), (gt4 123 rfl rfl), TX11, 17, rfl⟩
theorem k_ml_L_104 : Cv "ResidueCoverLaw" 104 M_X12_shift 1 9 := ⟨Or.inl (gt7 172 rfl rfl), ok2_X12_shift, (gt7 173 rfl rfl), (gt7 174 rfl rfl), TX12, 39, rfl⟩
theorem k_ml_L_105 : Cv "ResidueCoverLaw" 105 M_X11_spread 1 8 := ⟨Or.inl (gt4 129 rfl rfl), ok2_X11_spread, (gt4 130 rfl rfl), (gt4 131 rfl rfl), TX11, 17, rfl⟩
theorem k_ml_L_108 : Cv "ResidueCoverLaw" 108 M_X12_spread 1 9 := ⟨Or.inl (gt7 180 rfl rfl), ok2_X12_spread, (gt7 181 rfl rfl), (gt7 182 rfl rfl), TX12, 39, rfl⟩
theorem k_ml_L_109 : Cv "ResidueCoverLaw" 109 M_X11_split 2 8 := ⟨Or.inl (gt4 143 rfl rfl), ok2_X11_split, (gt4 144 rfl rfl), (gt4 145 rfl rfl), TX11, 17, rfl⟩
theorem k_ml_L_112 : Cv "ResidueCoverLaw" 112 M_X12_split 2 9 := ⟨Or.inl (gt7 186 rfl rfl), ok2_X12_split, (gt7 187 rfl rfl), (gt7 188 rfl rfl), TX12, 39, rfl⟩
theorem k_ml_L_113 : Cv "ResidueCoverLaw" 113 M_X11_join 2 8 := ⟨Or.inl (gt4 157 rfl rfl), ok2_X11_join, (gt4 158 rfl rfl), (gt4 159 rfl rfl), TX11, 17, rfl⟩
theorem k_ml_L_116 : Cv "ResidueCoverLaw" 116 M_X12_join 2 9 := ⟨Or.inl (gt7 198 rfl rfl), ok2_X12_join, (gt7 199 rfl rfl), (gt7 200 rfl rfl), TX12, 39, rfl⟩
theorem k_ml_L_117 : Cv "ResidueCoverLaw" 117 M_X11_rule 1 8 := ⟨Or.inl (gt4 174 rfl rfl), ok2_X11_rule, (gt4 175 rfl rfl), (gt4 176 rfl rfl), TX11, 17, rfl⟩
theorem k_ml_L_120 : Cv "ResidueCoverLaw" 120 M_X12_rule 1 9 := ⟨Or.inl (gt7 206 rfl rfl), ok2_X12_rule, (gt7 207 rfl rfl), (gt7 208 rfl rfl), TX12, 39, rfl⟩
theorem k_ml_L_121 : Cv "ResidueCoverLaw" 121 M_X11_gapAt 1 8 := ⟨Or.inl (gt4 179 rfl rfl), ok2_X11_gapAt, (gt4 180 rfl rfl), (gt4 181 rfl rfl), TX11, 17, rfl⟩
theorem k_ml_L_124 : Cv "ResidueCoverLaw" 124 M_X12_gapAt 1 9 := ⟨Or.inl (gt7 211 rfl rfl), ok2_X12_gapAt, (gt7 212 rfl rfl), (gt7 213 rfl rfl), TX12, 39, rfl⟩
theorem k_ml_L_125 : Cv "ResidueCoverLaw" 125 M_X11_gaps 0 8 := ⟨Or.inl (gt4 190 rfl rfl), ok2_X11_gaps, (gt4 191 rfl rfl), (gt4 192 rfl rfl), TX11, 17, rfl⟩
theorem k_ml_L_129 : Cv "ResidueCoverLaw" 129 M_X12_gaps 0 9 := ⟨Or.inl (gt7 215 rfl rfl), ok2_X12_gaps, (gt7 216 rfl rfl), (gt7 217 rfl rfl), TX12, 39, rfl⟩
theorem k_ml_L_130 : Cv "ResidueCoverLaw" 130 M_X11_weight 0 8 := ⟨Or.inl (gt4 202 rfl rfl), ok2_X11_weight, (gt4 203 rfl rfl), (gt4 204 rfl rfl), TX11, 17, rfl⟩
theorem k_ml_L_133 : Cv "ResidueCoverLaw" 133 M_X12_weight 0 9 := ⟨Or.inl (gt7 223 rfl rfl), ok2_X12_weight, (gt7 224 rfl rfl), (gt7 225 rfl rfl), TX12, 39, rfl⟩
theorem k_ml_L_134 : Cv "ResidueCoverLaw" 134 M_X11_alone 1 8 := ⟨Or.inl (gt4 211 rfl rfl), ok2_X11_alone, (gt4 212 rfl rfl), (gt4 213 rfl rfl), TX11, 17, rfl⟩
theorem k_ml_L_137 : Cv "ResidueCoverLaw" 137 M_X12_alone 1 9 := ⟨Or.inl (gt7 227 rfl rfl), ok2_X12_alone, (gt7 228 rfl rfl), (gt7 229 rfl rfl), TX12, 39, rfl⟩
theorem k_ml_L_138 : Cv "ResidueCoverLaw" 138 M_X11_needless 0 8 := ⟨Or.inl (gt4 222 rfl rfl), ok2_X11_needless, (gt4 223 rfl rfl), (gt4 224 rfl rfl), TX11, 17, rfl⟩
theorem k_ml_L_141 : Cv "ResidueCoverLaw" 141 M_X12_needless 0 9 := ⟨Or.inl (gt7 231 rfl rfl), ok2_X12_needless, (gt7 232 rfl rfl), (gt7 233 rfl rfl), TX12, 39, rfl⟩
theorem k_ml_L_142 : Cv "ResidueCoverLaw" 142 M_X11_fewest 0 8 := ⟨Or.inl (gt4 232 rfl rfl), ok2_X11_fewest, (gt4 233 rfl rfl), (gt4 234 rfl rfl), TX11, 17, rfl⟩
theorem k_ml_L_145 : Cv "ResidueCoverLaw" 145 M_X12_fewest 0 9 := ⟨Or.inl (gt7 235 rfl rfl), ok2_X12_fewest, (gt7 236 rfl rfl), (gt7 237 rfl rfl), TX12, 39, rfl⟩
theorem k_ml_L_146 : Cv "ResidueCoverLaw" 146 M_X11_fewestSet 0 8 := ⟨Or.inl (gt5 13 rfl rfl), ok2_X11_fewestSet, (gt5 14 rfl rfl), (gt5 15 rfl rfl), TX11, 17, rfl⟩
theorem k_ml_L_149 : Cv "ResidueCoverLaw" 149 M_X12_fewestSet 0 9 := ⟨Or.inl (gt8 6 rfl rfl), ok2_X12_fewestSet, (gt8 7 rfl rfl), (gt8 8 rfl rfl), TX12, 39, rfl⟩
theorem k_ml_L_150 : Cv "ResidueCoverLaw" 150 M_X11_meet 2 8 := ⟨Or.inl (gt5 17 rfl rfl), ok2_X11_meet, (gt5 18 rfl rfl), (gt5 19 rfl rfl), TX11, 17, rfl⟩
theorem k_ml_L_153 : Cv "ResidueCoverLaw" 153 M_X12_meet 2 9 := ⟨Or.inl (gt8 10 rfl rfl), ok2_X12_meet, (gt8 11 rfl rfl), (gt8 12 rfl rfl), TX12, 39, rfl⟩
theorem k_ml_L_154 : Cv "ResidueCoverLaw" 154 M_X11_thick 0 8 := ⟨Or.inl (gt5 25 rfl rfl), ok2_X11_thick, (gt5 26 rfl rfl), (gt5 27 rfl rfl), TX11, 17, rfl⟩
theorem k_ml_L_157 : Cv "ResidueCoverLaw" 157 M_X12_thick 0 9 := ⟨Or.inl (gt8 14 rfl rfl), ok2_X12_thick, (gt8 15 rfl rfl), (gt8 16 rfl rfl), TX12, 39, rfl⟩
theorem k_ml_L_158 : Cv "ResidueCoverLaw" 158 M_X11_ask 0 8 := ⟨Or.inl (gt5 33 rfl rfl), ok2_X11_ask, (gt5 34 rfl rfl), (gt5 35 rfl rfl), TX11, 17, rfl⟩
theorem k_ml_L_161 : Cv "ResidueCoverLaw" 161 M_X12_ask 0 9 := ⟨Or.inl (gt8 22 rfl rfl), ok2_X12_ask, (gt8 23 rfl rfl), (gt8 24 rfl rfl), TX12, 39, rfl⟩
theorem k_ml_L_162 : Cv "ResidueCoverLaw" 162 M_X11_turnsBy 0 8 := ⟨Or.inl (gt5 37 rfl rfl), ok2_X11_turnsBy, (gt5 38 rfl rfl), (gt5 39 rfl rfl), TX11, 17, rfl⟩
theorem k_ml_L_165 : Cv "ResidueCoverLaw" 165 M_X12_turnsBy 0 9 := ⟨Or.inl (gt8 26 rfl rfl), ok2_X12_turnsBy, (gt8 27 rfl rfl), (gt8 28 rfl rfl), TX12, 39, rfl⟩
theorem k_ml_L_166 : Cv "ResidueCoverLaw" 166 M_X11_tree 1 8 := ⟨Or.inl (gt5 49 rfl rfl), ok2_X11_tree, (gt5 50 rfl rfl), (gt5 51 rfl rfl), TX11, 17, rfl⟩
theorem k_ml_L_169 : Cv "ResidueCoverLaw" 169 M_X12_tree 1 9 := ⟨Or.inl (gt8 34 rfl rfl), ok2_X12_tree, (gt8 35 rfl rfl), (gt8 36 rfl rfl), TX12, 39, rfl⟩
theorem k_ml_L_170 : Cv "ResidueCoverLaw" 170 M_X11_leafOf 1 8 := ⟨Or.inl (gt5 70 rfl rfl), ok2_X11_leafOf, (gt5 71 rfl rfl), (gt5 72 rfl rfl), TX11, 17, rfl⟩
theorem k_ml_L_173 : Cv "ResidueCoverLaw" 173 M_X12_leafOf 1 9 := ⟨Or.inl (gt8 50 rfl rfl), ok2_X12_leafOf, (gt8 51 rfl rfl), (gt8 52 rfl rfl), TX12, 39, rfl⟩
theorem k_ml_L_174 : Cv "ResidueCoverLaw" 174 M_X11_choices 3 8 := ⟨Or.inl (gt5 78 rfl rfl), ok2_X11_choices, (gt5 79 rfl rfl), (gt5 80 rfl rfl), TX11, 17, rfl⟩
theorem k_ml_L_178 : Cv "ResidueCoverLaw" 178 M_X12_choices 3 9 := ⟨Or.inl (gt8 54 rfl rfl), ok2_X12_choices, (gt8 55 rfl rfl), (gt8 56 rfl rfl), TX12, 39, rfl⟩
theorem k_ml_L_179 : Cv "ResidueCoverLaw" 179 M_X11_choiceAt 4 8 := ⟨Or.inl (gt5 125 rfl rfl), ok2_X11_choiceAt, (gt5 126 rfl rfl), (gt5 127 rfl rfl), TX11, 17, rfl⟩
theorem k_ml_L_183 : Cv "ResidueCoverLaw" 183 M_X12_choiceAt 4 9 := ⟨Or.inl (gt8 88 rfl rfl), ok2_X12_choiceAt, (gt8 89 rfl rfl), (gt8 90 rfl rfl), TX12, 39, rfl⟩
theorem k_ml_L_184 : Cv "ResidueCoverLaw" 184 M_X11_game 1 8 := ⟨Or.inl (gt5 138 rfl rfl), ok2_X11_game, (gt5 139 rfl rfl), (gt5 140 rfl rfl), TX11, 17, rfl⟩
theorem k_ml_L_187 : Cv "ResidueCoverLaw" 187 M_X12_game 1 9 := ⟨Or.inl (gt8 92 rfl rfl), ok2_X12_game, (gt8 93 rfl rfl), (gt8 94 rfl rfl), TX12, 39, rfl⟩
theorem k_ml_L_188 : Cv "ResidueCoverLaw" 188 M_X11_moveOf 1 8 := ⟨Or.inl (gt5 152 rfl rfl), ok2_X11_moveOf, (gt5 153 rfl rfl), (gt5 154 rfl rfl), TX11, 17, rfl⟩
theorem k_ml_L_191 : Cv "ResidueCoverLaw" 191 M_X12_moveOf 1 9 := ⟨Or.inl (gt8 116 rfl rfl), ok2_X12_moveOf, (gt8 117 rfl rfl), (gt8 118 rfl rfl), TX12, 39, rfl⟩
theorem k_ml_L_192 : Cv "ResidueCoverLaw" 192 M_X11_uncaught 2 8 := ⟨Or.inl (gt5 159 rfl rfl), ok2_X11_uncaught, (gt5 160 rfl rfl), (gt5 161 rfl rfl), TX11, 17, rfl⟩
theorem k_ml_L_196 : Cv "ResidueCoverLaw" 196 M_X12_uncaught 2 9 := ⟨Or.inl (gt8 120 rfl rfl), ok2_X12_uncaught, (gt8 121 rfl rfl), (gt8 122 rfl rfl), TX12, 39, rfl⟩
theorem k_ml_L_197 : Cv "ResidueCoverLaw" 197 M_X11_copySystem 1 8 := ⟨Or.inl (gt5 170 rfl rfl), ok2_X11_copySystem, (gt5 171 rfl rfl), (gt5 172 rfl rfl), TX11, 17, rfl⟩
theorem k_ml_L_200 : Cv "ResidueCoverLaw" 200 M_X12_copySystem 1 9 := ⟨Or.inl (gt8 125 rfl rfl), ok2_X12_copySystem, (gt8 126 rfl rfl), (gt8 127 rfl rfl), TX12, 39, rfl⟩
theorem k_ml_L_201 : Cv "ResidueCoverLaw" 201 M_X11_live 1 8 := ⟨Or.inl (gt5 174 rfl rfl), ok2_X11_live, (gt5 175 rfl rfl), (gt5 176 rfl rfl), TX11, 17, rfl⟩
theorem k_ml_L_204 : Cv "ResidueCoverLaw" 204 M_X12_live 1 9 := ⟨Or.inl (gt8 129 rfl rfl), ok2_X12_live, (gt8 130 rfl rfl), (gt8 131 rfl rfl), TX12, 39, rfl⟩
theorem k_ml_L_205 : Cv "ResidueCoverLaw" 205 M_X11_lived 1 8 := ⟨Or.inl (gt5 232 rfl rfl), ok2_X11_lived, (gt5 233 rfl rfl), (gt5 234 rfl rfl), TX11, 17, rfl⟩
theorem k_ml_L_208 : Cv "ResidueCoverLaw" 208 M_X12_lived 1 9 := ⟨Or.inl (gt8 170 rfl rfl), ok2_X12_lived, (gt8 171 rfl rfl), (gt8 172 rfl rfl), TX12, 39, rfl⟩
theorem k_ml_L_209 : Cv "ResidueCoverLaw" 209 M_X11_mean 2 8 := ⟨Or.inl (gt5 237 rfl rfl), ok2_X11_mean, (gt5 238 rfl rfl), (gt5 239 rfl rfl), TX11, 17, rfl⟩
theorem k_ml_L_212 : Cv "ResidueCoverLaw" 212 M_X12_mean 2 9 := ⟨Or.inl (gt8 174 rfl rfl), ok2_X12_mean, (gt8 175 rfl rfl), (gt8 176 rfl rfl), TX12, 39, rfl⟩
theorem k_ml_L_213 : Cv "ResidueCoverLaw" 213 M_X11_mark 0 8 := ⟨Or.inl (gt6 2 rfl rfl), ok2_X11_mark, (gt6 3 rfl rfl), (gt6 4 rfl rfl), TX11, 17, rfl⟩
theorem k_ml_L_216 : Cv "ResidueCoverLaw" 216 M_X12_mark 0 9 := ⟨Or.inl (gt8 187 rfl rfl), ok2_X12_mark, (gt8 188 rfl rfl), (gt8 189 rfl rfl), TX12, 39, rfl⟩
theorem k_ml_L_217 : Cv "ResidueCoverLaw" 217 M_X11_undo 0 8 := ⟨Or.inl (gt6 6 rfl rfl), ok2_X11_undo, (gt6 7 rfl rfl), (gt6 8 rfl rfl), TX11, 17, rfl⟩
theorem k_ml_L_220 : Cv "ResidueCoverLaw" 220 M_X12_undo 0 9 := ⟨Or.inl (gt8 195 rfl rfl), ok2_X12_undo, (gt8 196 rfl rfl), (gt8 197 rfl rfl), TX12, 39, rfl⟩
section GL
variable {V : Ev} {Γ : Cn} {M : Mi} {Z : Zt} {pc : Nat} {lv : List (Nat × Value)} {st : List Value} {σ : St}
theorem g_sld {b Ln : Nat} {xs : Nat → Int32} {j : Int32} (X : Cx V Γ M) (hX : va_X b Ln xs Γ.2.2.2.1 Γ.2.2.2.1.heap) (hbl : b < Γ.2.2.2.1.heap.size) (hbA : ¬ AA V b) (hj : ix j Ln = true) (hd : decode M.2.1 pc = .ok (.iaload, 1)) (kk : Go V Γ M Z (pc + 1) lv (.int (xs (tn j)) :: st) σ) : Go V Γ M Z pc lv (.int j :: .ref b :: st) σ := by
  intro H locs ls hP hS hl
  obtain ⟨hx, hb, hml, hown, hts, hrr, hlk, hWk⟩ := X
  exact va_sld hx hb hX hbl hbA hS (ix_in hj) hd (kk H locs ls hP hS hl)
theorem g_slenX {b Ln : Nat} {xs : Nat → Int32} (X : Cx V Γ M) (hX : va_X b Ln xs Γ.2.2.2.1 Γ.2.2.2.1.heap) (hbl : b < Γ.2.2.2.1.heap.size) (hbA : ¬ AA V b) (hd : decode M.2.1 pc = .ok (.arraylength, 1)) (kk : Go V Γ M Z (pc + 1) lv (.int (Int32.ofNat Ln) :: st) σ) : Go V Γ M Z pc lv (.ref b :: st) σ := by
  intro H locs ls hP hS hl
  obtain ⟨hx, hb, hml, hown, hts, hrr, hlk, hWk⟩ := X
  exact va_slen hx hb hX hbl hbA hS hd (kk H locs ls hP hS hl)
end GL
theorem room_law {Z : Zt} (hZ : Z.1 = room_1) {d' mL : Nat} (h : d' + 1 ≤ 800) (hm : mL ≤ 80) : d' + 1 ≤ Z.1.frames ∧ 8 + (mL + 11) + 100 * d' ≤ Z.1.locals := by
  rw [hZ]
  refine ⟨?_, ?_⟩
  · show d' + 1 ≤ 2048
    omega
  · show 8 + (mL + 11) + 100 * d' ≤ 84000
    omega
noncomputable def LW_law_L18 (Ln : Nat) (xs : Nat → Int32) (σ : St) (x3 : Int32) : Option ((Int32 × St) ⊕ Int32) :=
  if ((Int32.ofNat Ln) - 6) < x3 then (some (.inr 1)) else (chk (ix x3 Ln) (if ((xs (tn x3)) &&& 63) = 0 then (bd (RC_status σ) (fun r3 => bd (Mo_status σ) (fun r5 => if r3 = r5 then (bnd (x3 + 6) (fun v6 => some (.inl (v6, σ)))) else (some (.inr 0))))) else if ((xs (tn x3)) &&& 63) = 1 then (bd (RC_top σ) (fun r10 => bd (Mo_top σ) (fun r12 => if r10 = r12 then (bnd (x3 + 6) (fun v13 => some (.inl (v13, σ)))) else (some (.inr 0))))) else if ((xs (tn x3)) &&& 63) = 2 then (bd (RC_bottom σ) (fun r17 => bd (Mo_bottom σ) (fun r19 => if r17 = r19 then (bnd (x3 + 6) (fun v20 => some (.inl (v20, σ)))) else (some (.inr 0))))) else if ((xs (tn x3)) &&& 63) = 3 then (chk (ix (x3 + 1) Ln) (chk (ix (x3 + 2) Ln) (chk (ix (x3 + 3) Ln) (bd2 (RC_tray σ (xs (tn (x3 + 1))) (xs (tn (x3 + 2))) (xs (tn (x3 + 3)))) (fun r27 σ28 => chk (ix (x3 + 1) Ln) (chk (ix (x3 + 2) Ln) (chk (ix (x3 + 3) Ln) (bd2 (Mo_tray σ28 (xs (tn (x3 + 1))) (xs (tn (x3 + 2))) (xs (tn (x3 + 3)))) (fun r33 σ34 => if r27 = r33 then (bnd (x3 + 6) (fun v35 => some (.inl (v35, σ34)))) else (some (.inr 0))))))))))) else if ((xs (tn x3)) &&& 63) = 4 then (chk (ix (x3 + 1) Ln) (chk (ix (x3 + 2) Ln) (chk (ix (x3 + 3) Ln) (chk (ix (x3 + 4) Ln) (bd2 (RC_write σ (xs (tn (x3 + 1))) (xs (tn (x3 + 2))) ((((xs (tn (x3 + 3))).toInt64) <<< ((32 : Int32).toInt64 &&& 63)) ||| (((xs (tn (x3 + 4))).toInt64) &&& 4294967295))) (fun r43 σ44 => chk (ix (x3 + 1) Ln) (chk (ix (x3 + 2) Ln) (chk (ix (x3 + 3) Ln) (chk (ix (x3 + 4) Ln) (bd2 (Mo_write σ44 (xs (tn (x3 + 1))) (xs (tn (x3 + 2))) ((((xs (tn (x3 + 3))).toInt64) <<< ((32 : Int32).toInt64 &&& 63)) ||| (((xs (tn (x3 + 4))).toInt64) &&& 4294967295))) (fun r50 σ51 => if r43 = r50 then (bnd (x3 + 6) (fun v52 => some (.inl (v52, σ51)))) else (some (.inr 0))))))))))))) else if ((xs (tn x3)) &&& 63) = 5 then (chk (ix (x3 + 1) Ln) (chk (ix (x3 + 2) Ln) (bd2 (RC_read σ (xs (tn (x3 + 1))) (xs (tn (x3 + 2)))) (fun r58 σ59 => chk (ix (x3 + 1) Ln) (chk (ix (x3 + 2) Ln) (bd2 (Mo_read σ59 (xs (tn (x3 + 1))) (xs (tn (x3 + 2)))) (fun r63 σ64 => if r58 = r63 then (bnd (x3 + 6) (fun v65 => some (.inl (v65, σ64)))) else (some (.inr 0))))))))) else if ((xs (tn x3)) &&& 63) = 6 then (chk (ix (x3 + 1) Ln) (chk (ix (x3 + 2) Ln) (chk (ix (x3 + 3) Ln) (chk (ix (x3 + 4) Ln) (chk (ix (x3 + 5) Ln) (bd2 (RC_pour σ (xs (tn (x3 + 1))) (xs (tn (x3 + 2))) (xs (tn (x3 + 3))) (xs (tn (x3 + 4))) (xs (tn (x3 + 5)))) (fun r74 σ75 => chk (ix (x3 + 1) Ln) (chk (ix (x3 + 2) Ln) (chk (ix (x3 + 3) Ln) (chk (ix (x3 + 4) Ln) (chk (ix (x3 + 5) Ln) (bd2 (Mo_pour σ75 (xs (tn (x3 + 1))) (xs (tn (x3 + 2))) (xs (tn (x3 + 3))) (xs (tn (x3 + 4))) (xs (tn (x3 + 5)))) (fun r82 σ83 => if r74 = r82 then (bnd (x3 + 6) (fun v84 => some (.inl (v84, σ83)))) else (some (.inr 0))))))))))))))) else if ((xs (tn x3)) &&& 63) = 7 then (chk (ix (x3 + 1) Ln) (chk (ix (x3 + 2) Ln) (chk (ix (x3 + 3) Ln) (chk (ix (x3 + 4) Ln) (chk (ix (x3 + 5) Ln) (bd2 (RC_feed σ (xs (tn (x3 + 1))) (xs (tn (x3 + 2))) (xs (tn (x3 + 3))) (xs (tn (x3 + 4))) (xs (tn (x3 + 5)))) (fun r93 σ94 => chk (ix (x3 + 1) Ln) (chk (ix (x3 + 2) Ln) (chk (ix (x3 + 3) Ln) (chk (ix (x3 + 4) Ln) (chk (ix (x3 + 5) Ln) (bd2 (Mo_feed σ94 (xs (tn (x3 + 1))) (xs (tn (x3 + 2))) (xs (tn (x3 + 3))) (xs (tn (x3 + 4))) (xs (tn (x3 + 5)))) (fun r101 σ102 => if r93 = r101 then (bnd (x3 + 6) (fun v103 => some (.inl (v103, σ102)))) else (some (.inr 0))))))))))))))) else if ((xs (tn x3)) &&& 63) = 8 then (chk (ix (x3 + 1) Ln) (bd2 (RC_system σ (xs (tn (x3 + 1)))) (fun r108 σ109 => chk (ix (x3 + 1) Ln) (bd2 (Mo_system σ109 (xs (tn (x3 + 1)))) (fun r112 σ113 => if r108 = r112 then (bnd (x3 + 6) (fun v114 => some (.inl (v114, σ113)))) else (some (.inr 0))))))) else if ((xs (tn x3)) &&& 63) = 9 then (chk (ix (x3 + 1) Ln) (bd2 (RC_days σ (xs (tn (x3 + 1)))) (fun r119 σ120 => chk (ix (x3 + 1) Ln) (bd2 (Mo_days σ120 (xs (tn (x3 + 1)))) (fun r123 σ124 => if r119 = r123 then (bnd (x3 + 6) (fun v125 => some (.inl (v125, σ124)))) else (some (.inr 0))))))) else if ((xs (tn x3)) &&& 63) = 10 then (chk (ix (x3 + 1) Ln) (bd (RC_fault σ (xs (tn (x3 + 1)))) (fun r130 => chk (ix (x3 + 1) Ln) (bd (Mo_fault σ (xs (tn (x3 + 1)))) (fun r133 => if r130 = r133 then (bnd (x3 + 6) (fun v134 => some (.inl (v134, σ)))) else (some (.inr 0))))))) else if ((xs (tn x3)) &&& 63) = 11 then (chk (ix (x3 + 1) Ln) (bd2 (RC_told σ (xs (tn (x3 + 1)))) (fun r139 σ140 => chk (ix (x3 + 1) Ln) (bd2 (Mo_told σ140 (xs (tn (x3 + 1)))) (fun r143 σ144 => if r139 = r143 then (bnd (x3 + 6) (fun v145 => some (.inl (v145, σ144)))) else (some (.inr 0))))))) else if ((xs (tn x3)) &&& 63) = 12 then (chk (ix (x3 + 1) Ln) (chk (ix (x3 + 2) Ln) (bd2 (RC_classOf σ (xs (tn (x3 + 1))) (xs (tn (x3 + 2)))) (fun r151 σ152 => chk (ix (x3 + 1) Ln) (chk (ix (x3 + 2) Ln) (bd2 (Mo_classOf σ152 (xs (tn (x3 + 1))) (xs (tn (x3 + 2)))) (fun r156 σ157 => if r151 = r156 then (bnd (x3 + 6) (fun v158 => some (.inl (v158, σ157)))) else (some (.inr 0))))))))) else if ((xs (tn x3)) &&& 63) = 13 then (chk (ix (x3 + 1) Ln) (bd2 (RC_caught σ (xs (tn (x3 + 1)))) (fun r163 σ164 => chk (ix (x3 + 1) Ln) (bd2 (Mo_caught σ164 (xs (tn (x3 + 1)))) (fun r167 σ168 => if r163 = r167 then (bnd (x3 + 6) (fun v169 => some (.inl (v169, σ168)))) else (some (.inr 0))))))) else if ((xs (tn x3)) &&& 63) = 14 then (chk (ix (x3 + 1) Ln) (bd2 (RC_tightest σ (xs (tn (x3 + 1)))) (fun r174 σ175 => chk (ix (x3 + 1) Ln) (bd2 (Mo_tightest σ175 (xs (tn (x3 + 1)))) (fun r178 σ179 => if r174 = r178 then (bnd (x3 + 6) (fun v180 => some (.inl (v180, σ179)))) else (some (.inr 0))))))) else if ((xs (tn x3)) &&& 63) = 15 then (chk (ix (x3 + 1) Ln) (bd2 (RC_turn σ (xs (tn (x3 + 1)))) (fun r185 σ186 => chk (ix (x3 + 1) Ln) (bd2 (Mo_turn σ186 (xs (tn (x3 + 1)))) (fun r189 σ190 => if r185 = r189 then (bnd (x3 + 6) (fun v191 => some (.inl (v191, σ190)))) else (some (.inr 0))))))) else if ((xs (tn x3)) &&& 63) = 16 then (chk (ix (x3 + 1) Ln) (chk (ix (x3 + 2) Ln) (bd2 (RC_add σ (xs (tn (x3 + 1))) (xs (tn (x3 + 2)))) (fun r197 σ198 => chk (ix (x3 + 1) Ln) (chk (ix (x3 + 2) Ln) (bd2 (Mo_add σ198 (xs (tn (x3 + 1))) (xs (tn (x3 + 2)))) (fun r202 σ203 => if r197 = r202 then (bnd (x3 + 6) (fun v204 => some (.inl (v204, σ203)))) else (some (.inr 0))))))))) else if ((xs (tn x3)) &&& 63) = 17 then (chk (ix (x3 + 1) Ln) (bd2 (RC_drop σ (xs (tn (x3 + 1)))) (fun r209 σ210 => chk (ix (x3 + 1) Ln) (bd2 (Mo_drop σ210 (xs (tn (x3 + 1)))) (fun r213 σ214 => if r209 = r213 then (bnd (x3 + 6) (fun v215 => some (.inl (v215, σ214)))) else (some (.inr 0))))))) else if ((xs (tn x3)) &&& 63) = 18 then (chk (ix (x3 + 1) Ln) (chk (ix (x3 + 2) Ln) (bd2 (RC_move σ (xs (tn (x3 + 1))) (xs (tn (x3 + 2)))) (fun r221 σ222 => chk (ix (x3 + 1) Ln) (chk (ix (x3 + 2) Ln) (bd2 (Mo_move σ222 (xs (tn (x3 + 1))) (xs (tn (x3 + 2)))) (fun r226 σ227 => if r221 = r226 then (bnd (x3 + 6) (fun v228 => some (.inl (v228, σ227)))) else (some (.inr 0))))))))) else if ((xs (tn x3)) &&& 63) = 19 then (chk (ix (x3 + 1) Ln) (bd2 (RC_shift σ (xs (tn (x3 + 1)))) (fun r233 σ234 => chk (ix (x3 + 1) Ln) (bd2 (Mo_shift σ234 (xs (tn (x3 + 1)))) (fun r237 σ238 => if r233 = r237 then (bnd (x3 + 6) (fun v239 => some (.inl (v239, σ238)))) else (some (.inr 0))))))) else if ((xs (tn x3)) &&& 63) = 20 then (chk (ix (x3 + 1) Ln) (bd2 (RC_spread σ (xs (tn (x3 + 1)))) (fun r244 σ245 => chk (ix (x3 + 1) Ln) (bd2 (Mo_spread σ245 (xs (tn (x3 + 1)))) (fun r248 σ249 => if r244 = r248 then (bnd (x3 + 6) (fun v250 => some (.inl (v250, σ249)))) else (some (.inr 0))))))) else if ((xs (tn x3)) &&& 63) = 21 then (chk (ix (x3 + 1) Ln) (chk (ix (x3 + 2) Ln) (bd2 (RC_split σ (xs (tn (x3 + 1))) (xs (tn (x3 + 2)))) (fun r256 σ257 => chk (ix (x3 + 1) Ln) (chk (ix (x3 + 2) Ln) (bd2 (Mo_split σ257 (xs (tn (x3 + 1))) (xs (tn (x3 + 2)))) (fun r261 σ262 => if r256 = r261 then (bnd (x3 + 6) (fun v263 => some (.inl (v263, σ262)))) else (some (.inr 0))))))))) else if ((xs (tn x3)) &&& 63) = 22 then (chk (ix (x3 + 1) Ln) (chk (ix (x3 + 2) Ln) (bd2 (RC_join σ (xs (tn (x3 + 1))) (xs (tn (x3 + 2)))) (fun r269 σ270 => chk (ix (x3 + 1) Ln) (chk (ix (x3 + 2) Ln) (bd2 (Mo_join σ270 (xs (tn (x3 + 1))) (xs (tn (x3 + 2)))) (fun r274 σ275 => if r269 = r274 then (bnd (x3 + 6) (fun v276 => some (.inl (v276, σ275)))) else (some (.inr 0))))))))) else if ((xs (tn x3)) &&& 63) = 23 then (chk (ix (x3 + 1) Ln) (bd2 (RC_rule σ (xs (tn (x3 + 1)))) (fun r281 σ282 => chk (ix (x3 + 1) Ln) (bd2 (Mo_rule σ282 (xs (tn (x3 + 1)))) (fun r285 σ286 => if r281 = r285 then (bnd (x3 + 6) (fun v287 => some (.inl (v287, σ286)))) else (some (.inr 0))))))) else if ((xs (tn x3)) &&& 63) = 24 then (chk (ix (x3 + 1) Ln) (bd2 (RC_gapAt σ (xs (tn (x3 + 1)))) (fun r292 σ293 => chk (ix (x3 + 1) Ln) (bd2 (Mo_gapAt σ293 (xs (tn (x3 + 1)))) (fun r296 σ297 => if r292 = r296 then (bnd (x3 + 6) (fun v298 => some (.inl (v298, σ297)))) else (some (.inr 0))))))) else if ((xs (tn x3)) &&& 63) = 25 then (bd2 (RC_gaps σ) (fun r302 σ303 => bd2 (Mo_gaps σ303) (fun r305 σ306 => if r302 = r305 then (bnd (x3 + 6) (fun v307 => some (.inl (v307, σ306)))) else (some (.inr 0))))) else if ((xs (tn x3)) &&& 63) = 26 then (bd2 (RC_weight σ) (fun r311 σ312 => bd2 (Mo_weight σ312) (fun r314 σ315 => if r311 = r314 then (bnd (x3 + 6) (fun v316 => some (.inl (v316, σ315)))) else (some (.inr 0))))) else if ((xs (tn x3)) &&& 63) = 27 then (chk (ix (x3 + 1) Ln) (bd2 (RC_alone σ (xs (tn (x3 + 1)))) (fun r321 σ322 => chk (ix (x3 + 1) Ln) (bd2 (Mo_alone σ322 (xs (tn (x3 + 1)))) (fun r325 σ326 => if r321 = r325 then (bnd (x3 + 6) (fun v327 => some (.inl (v327, σ326)))) else (some (.inr 0))))))) else if ((xs (tn x3)) &&& 63) = 28 then (bd2 (RC_needless σ) (fun r331 σ332 => bd2 (Mo_needless σ332) (fun r334 σ335 => if r331 = r334 then (bnd (x3 + 6) (fun v336 => some (.inl (v336, σ335)))) else (some (.inr 0))))) else if ((xs (tn x3)) &&& 63) = 29 then (bd2 (RC_fewest σ) (fun r340 σ341 => bd2 (Mo_fewest σ341) (fun r343 σ344 => if r340 = r343 then (bnd (x3 + 6) (fun v345 => some (.inl (v345, σ344)))) else (some (.inr 0))))) else if ((xs (tn x3)) &&& 63) = 30 then (bd2 (RC_fewestSet σ) (fun r349 σ350 => bd2 (Mo_fewestSet σ350) (fun r352 σ353 => if r349 = r352 then (bnd (x3 + 6) (fun v354 => some (.inl (v354, σ353)))) else (some (.inr 0))))) else if ((xs (tn x3)) &&& 63) = 31 then (chk (ix (x3 + 1) Ln) (chk (ix (x3 + 2) Ln) (bd2 (RC_meet σ (xs (tn (x3 + 1))) (xs (tn (x3 + 2)))) (fun r360 σ361 => chk (ix (x3 + 1) Ln) (chk (ix (x3 + 2) Ln) (bd2 (Mo_meet σ361 (xs (tn (x3 + 1))) (xs (tn (x3 + 2)))) (fun r365 σ366 => if r360 = r365 then (bnd (x3 + 6) (fun v367 => some (.inl (v367, σ366)))) else (some (.inr 0))))))))) else if ((xs (tn x3)) &&& 63) = 32 then (bd2 (RC_thick σ) (fun r371 σ372 => bd2 (Mo_thick σ372) (fun r374 σ375 => if r371 = r374 then (bnd (x3 + 6) (fun v376 => some (.inl (v376, σ375)))) else (some (.inr 0))))) else if ((xs (tn x3)) &&& 63) = 33 then (bd2 (RC_ask σ) (fun r380 σ381 => bd2 (Mo_ask σ381) (fun r383 σ384 => if r380 = r383 then (bnd (x3 + 6) (fun v385 => some (.inl (v385, σ384)))) else (some (.inr 0))))) else if ((xs (tn x3)) &&& 63) = 34 then (bd2 (RC_turnsBy σ) (fun r389 σ390 => bd2 (Mo_turnsBy σ390) (fun r392 σ393 => if r389 = r392 then (bnd (x3 + 6) (fun v394 => some (.inl (v394, σ393)))) else (some (.inr 0))))) else if ((xs (tn x3)) &&& 63) = 35 then (chk (ix (x3 + 1) Ln) (bd2 (RC_tree σ (xs (tn (x3 + 1)))) (fun r399 σ400 => chk (ix (x3 + 1) Ln) (bd2 (Mo_tree σ400 (xs (tn (x3 + 1)))) (fun r403 σ404 => if r399 = r403 then (bnd (x3 + 6) (fun v405 => some (.inl (v405, σ404)))) else (some (.inr 0))))))) else if ((xs (tn x3)) &&& 63) = 36 then (chk (ix (x3 + 1) Ln) (bd2 (RC_leafOf σ (xs (tn (x3 + 1)))) (fun r410 σ411 => chk (ix (x3 + 1) Ln) (bd2 (Mo_leafOf σ411 (xs (tn (x3 + 1)))) (fun r414 σ415 => if r410 = r414 then (bnd (x3 + 6) (fun v416 => some (.inl (v416, σ415)))) else (some (.inr 0))))))) else if ((xs (tn x3)) &&& 63) = 37 then (chk (ix (x3 + 1) Ln) (chk (ix (x3 + 2) Ln) (chk (ix (x3 + 3) Ln) (bd2 (RC_choices σ (xs (tn (x3 + 1))) (xs (tn (x3 + 2))) (xs (tn (x3 + 3)))) (fun r423 σ424 => chk (ix (x3 + 1) Ln) (chk (ix (x3 + 2) Ln) (chk (ix (x3 + 3) Ln) (bd2 (Mo_choices σ424 (xs (tn (x3 + 1))) (xs (tn (x3 + 2))) (xs (tn (x3 + 3)))) (fun r429 σ430 => if r423 = r429 then (bnd (x3 + 6) (fun v431 => some (.inl (v431, σ430)))) else (some (.inr 0))))))))))) else if ((xs (tn x3)) &&& 63) = 38 then (chk (ix (x3 + 1) Ln) (chk (ix (x3 + 2) Ln) (chk (ix (x3 + 3) Ln) (chk (ix (x3 + 4) Ln) (bd2 (RC_choiceAt σ (xs (tn (x3 + 1))) (xs (tn (x3 + 2))) (xs (tn (x3 + 3))) (xs (tn (x3 + 4)))) (fun r439 σ440 => chk (ix (x3 + 1) Ln) (chk (ix (x3 + 2) Ln) (chk (ix (x3 + 3) Ln) (chk (ix (x3 + 4) Ln) (bd2 (Mo_choiceAt σ440 (xs (tn (x3 + 1))) (xs (tn (x3 + 2))) (xs (tn (x3 + 3))) (xs (tn (x3 + 4)))) (fun r446 σ447 => if r439 = r446 then (bnd (x3 + 6) (fun v448 => some (.inl (v448, σ447)))) else (some (.inr 0))))))))))))) else if ((xs (tn x3)) &&& 63) = 39 then (chk (ix (x3 + 1) Ln) (bd2 (RC_game σ (xs (tn (x3 + 1)))) (fun r453 σ454 => chk (ix (x3 + 1) Ln) (bd2 (Mo_game σ454 (xs (tn (x3 + 1)))) (fun r457 σ458 => if r453 = r457 then (bnd (x3 + 6) (fun v459 => some (.inl (v459, σ458)))) else (some (.inr 0))))))) else if ((xs (tn x3)) &&& 63) = 40 then (chk (ix (x3 + 1) Ln) (bd2 (RC_moveOf σ (xs (tn (x3 + 1)))) (fun r464 σ465 => chk (ix (x3 + 1) Ln) (bd2 (Mo_moveOf σ465 (xs (tn (x3 + 1)))) (fun r468 σ469 => if r464 = r468 then (bnd (x3 + 6) (fun v470 => some (.inl (v470, σ469)))) else (some (.inr 0))))))) else if ((xs (tn x3)) &&& 63) = 41 then (chk (ix (x3 + 1) Ln) (chk (ix (x3 + 2) Ln) (bd2 (RC_uncaught σ (xs (tn (x3 + 1))) (xs (tn (x3 + 2)))) (fun r476 σ477 => chk (ix (x3 + 1) Ln) (chk (ix (x3 + 2) Ln) (bd2 (Mo_uncaught σ477 (xs (tn (x3 + 1))) (xs (tn (x3 + 2)))) (fun r481 σ482 => if r476 = r481 then (bnd (x3 + 6) (fun v483 => some (.inl (v483, σ482)))) else (some (.inr 0))))))))) else if ((xs (tn x3)) &&& 63) = 42 then (chk (ix (x3 + 1) Ln) (bd2 (RC_copySystem σ (xs (tn (x3 + 1)))) (fun r488 σ489 => chk (ix (x3 + 1) Ln) (bd2 (Mo_copySystem σ489 (xs (tn (x3 + 1)))) (fun r492 σ493 => if r488 = r492 then (bnd (x3 + 6) (fun v494 => some (.inl (v494, σ493)))) else (some (.inr 0))))))) else if ((xs (tn x3)) &&& 63) = 43 then (chk (ix (x3 + 1) Ln) (bd2 (RC_live σ (xs (tn (x3 + 1)))) (fun r499 σ500 => chk (ix (x3 + 1) Ln) (bd2 (Mo_live σ500 (xs (tn (x3 + 1)))) (fun r503 σ504 => if r499 = r503 then (bnd (x3 + 6) (fun v505 => some (.inl (v505, σ504)))) else (some (.inr 0))))))) else if ((xs (tn x3)) &&& 63) = 44 then (chk (ix (x3 + 1) Ln) (bd2 (RC_lived σ (xs (tn (x3 + 1)))) (fun r510 σ511 => chk (ix (x3 + 1) Ln) (bd2 (Mo_lived σ511 (xs (tn (x3 + 1)))) (fun r514 σ515 => if r510 = r514 then (bnd (x3 + 6) (fun v516 => some (.inl (v516, σ515)))) else (some (.inr 0))))))) else if ((xs (tn x3)) &&& 63) = 45 then (chk (ix (x3 + 1) Ln) (chk (ix (x3 + 2) Ln) (bd2 (RC_mean σ (xs (tn (x3 + 1))) (xs (tn (x3 + 2)))) (fun r522 σ523 => chk (ix (x3 + 1) Ln) (chk (ix (x3 + 2) Ln) (bd2 (Mo_mean σ523 (xs (tn (x3 + 1))) (xs (tn (x3 + 2)))) (fun r527 σ528 => if r522 = r527 then (bnd (x3 + 6) (fun v529 => some (.inl (v529, σ528)))) else (some (.inr 0))))))))) else if ((xs (tn x3)) &&& 63) = 46 then (bd2 (RC_mark σ) (fun r533 σ534 => bd2 (Mo_mark σ534) (fun r536 σ537 => if r533 = r536 then (bnd (x3 + 6) (fun v538 => some (.inl (v538, σ537)))) else (some (.inr 0))))) else if ((xs (tn x3)) &&& 63) = 47 then (bd2 (RC_undo σ) (fun r542 σ543 => bd2 (Mo_undo σ543) (fun r545 σ546 => if r542 = r545 then (bnd (x3 + 6) (fun v547 => some (.inl (v547, σ546)))) else (some (.inr 0))))) else (bnd (x3 + 6) (fun v550 => some (.inl (v550, σ))))))
set_option maxRecDepth 100000 in
set_option maxHeartbeats 4000000 in
theorem tb_LW_law_L18 {V : Ev} {Γ : Cn} {Z : Zt} {b Ln : Nat} {xs : Nat → Int32} {σ : St} {x3 : Int32} {o : ((Int32 × St) ⊕ Int32)} (X : Cx V Γ M_L_law) (hX : va_X b Ln xs Γ.2.2.2.1 Γ.2.2.2.1.heap) (hbl : b < Γ.2.2.2.1.heap.size) (hbA : ¬ AA V b) (hZ : Z.1 = room_1) (hzz : Z.2.1 ≤ Z.1.cells ∧ Z.2.2.1 ≤ Z.1.slots) (hret : ∀ lv σ, Go V Γ M_L_law Z 1514 lv [.int 1] σ) {A : ((Int32 × St) ⊕ Int32) → Prop}  (hr : ∀ (r : Int32), A (.inr r) → r = 1) (hb18 : ∀ (x3 : Int32) (σ9 : St), A (.inl (x3, σ9)) → Go V Γ M_L_law Z 18 [(0, .ref b), (1, .ref (V.2.2.1 + 0)), (2, .ref (V.2.2.1 + 92)), (3, .int x3)] [] σ9) (h : LW_law_L18 Ln xs σ x3 = some o) (hA : A o) : Go V Γ M_L_law Z 18 [(0, .ref b), (1, .ref (V.2.2.1 + 0)), (2, .ref (V.2.2.1 + 92)), (3, .int x3)] [] σ := by
  unfold LW_law_L18 at h
  refine g_iload_n (pc := 18) X 3 rfl dL_law_18 ?_
  refine g_aload_n (pc := 19) X 0 rfl dL_law_19 ?_
  refine g_slenX (pc := 20) X hX hbl hbA dL_law_20 ?_
  refine g_bipush (v := 6) (pc := 21) X (by decide) dL_law_21 ?_
  refine g_isub (pc := 23) X dL_law_23 ?_
  refine g_icmp_gt (pc := 24) (tgt := 1513) X dL_law_24 rfl (fun c551 => ?_) (fun c551 => ?_)
  · replace h := if_t c551 h
    refine g_iconst (v := 1) (pc := 1513) X rfl dL_law_1513 ?_
    cases h
    exact hret _ _
  · replace h := if_f c551 h
    refine g_aload_n (pc := 27) X 0 rfl dL_law_27 ?_
    refine g_iload_n (pc := 28) X 3 rfl dL_law_28 ?_
    obtain ⟨c1, h⟩ := chk_e h
    refine g_sld (pc := 29) X hX hbl hbA c1 dL_law_29 ?_
    refine g_bipush (v := 63) (pc := 30) X (by decide) dL_law_30 ?_
    refine g_iand (pc := 32) X dL_law_32 ?_
    by_cases c8 : ((xs (tn x3)) &&& 63) = 0
    · replace h := if_t c8 h
      refine g_tabIn (pc := 33) (tgt := 240) X c8 dL_law_33 (by decide) (by decide) rfl rfl ?_
      refine g_aload_n (pc := 240) X 1 rfl dL_law_240 ?_
      obtain ⟨r3, hc2, h⟩ := bd_e h
      refine g_callV (pc := 241) X k_ml_L_13 (run_RC_status  hc2) s_0 rfl (room_law hZ (Nat.le_of_ble_eq_true rfl) (Nat.le_of_ble_eq_true rfl)) hzz _ rfl (Nat.le_of_ble_eq_true rfl) dL_law_241 ?_
      show Go V Γ M_L_law Z 244 [(0, .ref b), (1, .ref (V.2.2.1 + 0)), (2, .ref (V.2.2.1 + 92)), (3, .int x3)] [.int r3] σ
      refine g_aload_n (pc := 244) X 2 rfl dL_law_244 ?_
      obtain ⟨r5, hc4, h⟩ := bd_e h
      refine g_callV (pc := 245) X k_ml_L_17 (run_Mo_status  hc4) s_92 rfl (room_law hZ (Nat.le_of_ble_eq_true rfl) (Nat.le_of_ble_eq_true rfl)) hzz _ rfl (Nat.le_of_ble_eq_true rfl) dL_law_245 ?_
      show Go V Γ M_L_law Z 248 [(0, .ref b), (1, .ref (V.2.2.1 + 0)), (2, .ref (V.2.2.1 + 92)), (3, .int x3)] [.int r5, .int r3] σ
      refine g_icmp_eq (pc := 248) (tgt := 1507) X dL_law_248 rfl (fun c7 => ?_) (fun c7 => ?_)
      · replace h := if_t c7 h
        obtain ⟨v6, e_v6, h⟩ := bnd_e h
        refine g_iinc (pc := 1507) (v := v6) X [(3, .int v6), (0, .ref b), (1, .ref (V.2.2.1 + 0)), (2, .ref (V.2.2.1 + 92))] 3 rfl (by rw [e_v6]; rfl) (Nat.le_of_ble_eq_true rfl) rfl dL_law_1507 ?_
        refine g_goto (pc := 1510) (tgt := 18) X dL_law_1510 rfl ?_
        refine g_sub [1, 2, 3, 0] rfl ?_
        cases h
        exact hb18 _ _ hA
      · replace h := if_f c7 h
        refine g_iconst (v := 0) (pc := 251) X rfl dL_law_251 ?_
        cases h
        exact absurd (hr _ hA) (by decide)
    replace h := if_f c8 h
    by_cases c15 : ((xs (tn x3)) &&& 63) = 1
    · replace h := if_t c15 h
      refine g_tabIn (pc := 33) (tgt := 253) X c15 dL_law_33 (by decide) (by decide) rfl rfl ?_
      refine g_aload_n (pc := 253) X 1 rfl dL_law_253 ?_
      obtain ⟨r10, hc9, h⟩ := bd_e h
      refine g_callV (pc := 254) X k_ml_L_18 (run_RC_top  hc9) s_0 rfl (room_law hZ (Nat.le_of_ble_eq_true rfl) (Nat.le_of_ble_eq_true rfl)) hzz _ rfl (Nat.le_of_ble_eq_true rfl) dL_law_254 ?_
      show Go V Γ M_L_law Z 257 [(0, .ref b), (1, .ref (V.2.2.1 + 0)), (2, .ref (V.2.2.1 + 92)), (3, .int x3)] [.long r10] σ
      refine g_aload_n (pc := 257) X 2 rfl dL_law_257 ?_
      obtain ⟨r12, hc11, h⟩ := bd_e h
      refine g_callV (pc := 258) X k_ml_L_22 (run_Mo_top  hc11) s_92 rfl (room_law hZ (Nat.le_of_ble_eq_true rfl) (Nat.le_of_ble_eq_true rfl)) hzz _ rfl (Nat.le_of_ble_eq_true rfl) dL_law_258 ?_
      show Go V Γ M_L_law Z 261 [(0, .ref b), (1, .ref (V.2.2.1 + 0)), (2, .ref (V.2.2.1 + 92)), (3, .int x3)] [.long r12, .long r10] σ
      refine g_lcmp_eq (pc := 261) (tgt := 1507) X dL_law_261 dL_law_262 rfl (fun c14 => ?_) (fun c14 => ?_)
      · replace h := if_t c14 h
        obtain ⟨v13, e_v13, h⟩ := bnd_e h
        refine g_iinc (pc := 1507) (v := v13) X [(3, .int v13), (0, .ref b), (1, .ref (V.2.2.1 + 0)), (2, .ref (V.2.2.1 + 92))] 3 rfl (by rw [e_v13]; rfl) (Nat.le_of_ble_eq_true rfl) rfl dL_law_1507 ?_
        refine g_goto (pc := 1510) (tgt := 18) X dL_law_1510 rfl ?_
        refine g_sub [1, 2, 3, 0] rfl ?_
        cases h
        exact hb18 _ _ hA
      · replace h := if_f c14 h
        refine g_iconst (v := 0) (pc := 265) X rfl dL_law_265 ?_
        cases h
        exact absurd (hr _ hA) (by decide)
    replace h := if_f c15 h
    by_cases c22 : ((xs (tn x3)) &&& 63) = 2
    · replace h := if_t c22 h
      refine g_tabIn (pc := 33) (tgt := 267) X c22 dL_law_33 (by decide) (by decide) rfl rfl ?_
      refine g_aload_n (pc := 267) X 1 rfl dL_law_267 ?_
      obtain ⟨r17, hc16, h⟩ := bd_e h
      refine g_callV (pc := 268) X k_ml_L_23 (run_RC_bottom  hc16) s_0 rfl (room_law hZ (Nat.le_of_ble_eq_true rfl) (Nat.le_of_ble_eq_true rfl)) hzz _ rfl (Nat.le_of_ble_eq_true rfl) dL_law_268 ?_
      show Go V Γ M_L_law Z 271 [(0, .ref b), (1, .ref (V.2.2.1 + 0)), (2, .ref (V.2.2.1 + 92)), (3, .int x3)] [.long r17] σ
      refine g_aload_n (pc := 271) X 2 rfl dL_law_271 ?_
      obtain ⟨r19, hc18, h⟩ := bd_e h
      refine g_callV (pc := 272) X k_ml_L_26 (run_Mo_bottom  hc18) s_92 rfl (room_law hZ (Nat.le_of_ble_eq_true rfl) (Nat.le_of_ble_eq_true rfl)) hzz _ rfl (Nat.le_of_ble_eq_true rfl) dL_law_272 ?_
      show Go V Γ M_L_law Z 275 [(0, .ref b), (1, .ref (V.2.2.1 + 0)), (2, .ref (V.2.2.1 + 92)), (3, .int x3)] [.long r19, .long r17] σ
      refine g_lcmp_eq (pc := 275) (tgt := 1507) X dL_law_275 dL_law_276 rfl (fun c21 => ?_) (fun c21 => ?_)
      · replace h := if_t c21 h
        obtain ⟨v20, e_v20, h⟩ := bnd_e h
        refine g_iinc (pc := 1507) (v := v20) X [(3, .int v20), (0, .ref b), (1, .ref (V.2.2.1 + 0)), (2, .ref (V.2.2.1 + 92))] 3 rfl (by rw [e_v20]; rfl) (Nat.le_of_ble_eq_true rfl) rfl dL_law_1507 ?_
        refine g_goto (pc := 1510) (tgt := 18) X dL_law_1510 rfl ?_
        refine g_sub [1, 2, 3, 0] rfl ?_
        cases h
        exact hb18 _ _ hA
      · replace h := if_f c21 h
        refine g_iconst (v := 0) (pc := 279) X rfl dL_law_279 ?_
        cases h
        exact absurd (hr _ hA) (by decide)
    replace h := if_f c22 h
    by_cases c37 : ((xs (tn x3)) &&& 63) = 3
    · replace h := if_t c37 h
      refine g_tabIn (pc := 33) (tgt := 281) X c37 dL_law_33 (by decide) (by decide) rfl rfl ?_
      refine g_aload_n (pc := 281) X 1 rfl dL_law_281 ?_
      refine g_aload_n (pc := 282) X 0 rfl dL_law_282 ?_
      refine g_iload_n (pc := 283) X 3 rfl dL_law_283 ?_
      refine g_iconst (v := 1) (pc := 284) X rfl dL_law_284 ?_
      refine g_iadd (pc := 285) X dL_law_285 ?_
      obtain ⟨c23, h⟩ := chk_e h
      refine g_sld (pc := 286) X hX hbl hbA c23 dL_law_286 ?_
      refine g_aload_n (pc := 287) X 0 rfl dL_law_287 ?_
      refine g_iload_n (pc := 288) X 3 rfl dL_law_288 ?_
      refine g_iconst (v := 2) (pc := 289) X rfl dL_law_289 ?_
      refine g_iadd (pc := 290) X dL_law_290 ?_
      obtain ⟨c24, h⟩ := chk_e h
      refine g_sld (pc := 291) X hX hbl hbA c24 dL_law_291 ?_
      refine g_aload_n (pc := 292) X 0 rfl dL_law_292 ?_
      refine g_iload_n (pc := 293) X 3 rfl dL_law_293 ?_
      refine g_iconst (v := 3) (pc := 294) X rfl dL_law_294 ?_
      refine g_iadd (pc := 295) X dL_law_295 ?_
      obtain ⟨c25, h⟩ := chk_e h
      refine g_sld (pc := 296) X hX hbl hbA c25 dL_law_296 ?_
      obtain ⟨r27, σ28, hc26, h⟩ := bd2_e h
      refine g_callV (pc := 297) X k_ml_L_27 (run_RC_tray  hc26) s_0 rfl (room_law hZ (Nat.le_of_ble_eq_true rfl) (Nat.le_of_ble_eq_true rfl)) hzz _ rfl (Nat.le_of_ble_eq_true rfl) dL_law_297 ?_
      show Go V Γ M_L_law Z 300 [(0, .ref b), (1, .ref (V.2.2.1 + 0)), (2, .ref (V.2.2.1 + 92)), (3, .int x3)] [.int r27] σ28
      refine g_aload_n (pc := 300) X 2 rfl dL_law_300 ?_
      refine g_aload_n (pc := 301) X 0 rfl dL_law_301 ?_
      refine g_iload_n (pc := 302) X 3 rfl dL_law_302 ?_
      refine g_iconst (v := 1) (pc := 303) X rfl dL_law_303 ?_
      refine g_iadd (pc := 304) X dL_law_304 ?_
      obtain ⟨c29, h⟩ := chk_e h
      refine g_sld (pc := 305) X hX hbl hbA c29 dL_law_305 ?_
      refine g_aload_n (pc := 306) X 0 rfl dL_law_306 ?_
      refine g_iload_n (pc := 307) X 3 rfl dL_law_307 ?_
      refine g_iconst (v := 2) (pc := 308) X rfl dL_law_308 ?_
      refine g_iadd (pc := 309) X dL_law_309 ?_
      obtain ⟨c30, h⟩ := chk_e h
      refine g_sld (pc := 310) X hX hbl hbA c30 dL_law_310 ?_
      refine g_aload_n (pc := 311) X 0 rfl dL_law_311 ?_
      refine g_iload_n (pc := 312) X 3 rfl dL_law_312 ?_
      refine g_iconst (v := 3) (pc := 313) X rfl dL_law_313 ?_
      refine g_iadd (pc := 314) X dL_law_314 ?_
      obtain ⟨c31, h⟩ := chk_e h
      refine g_sld (pc := 315) X hX hbl hbA c31 dL_law_315 ?_
      obtain ⟨r33, σ34, hc32, h⟩ := bd2_e h
      refine g_callV (pc := 316) X k_ml_L_31 (run_Mo_tray  hc32) s_92 rfl (room_law hZ (Nat.le_of_ble_eq_true rfl) (Nat.le_of_ble_eq_true rfl)) hzz _ rfl (Nat.le_of_ble_eq_true rfl) dL_law_316 ?_
      show Go V Γ M_L_law Z 319 [(0, .ref b), (1, .ref (V.2.2.1 + 0)), (2, .ref (V.2.2.1 + 92)), (3, .int x3)] [.int r33, .int r27] σ34
      refine g_icmp_eq (pc := 319) (tgt := 1507) X dL_law_319 rfl (fun c36 => ?_) (fun c36 => ?_)
      · replace h := if_t c36 h
        obtain ⟨v35, e_v35, h⟩ := bnd_e h
        refine g_iinc (pc := 1507) (v := v35) X [(3, .int v35), (0, .ref b), (1, .ref (V.2.2.1 + 0)), (2, .ref (V.2.2.1 + 92))] 3 rfl (by rw [e_v35]; rfl) (Nat.le_of_ble_eq_true rfl) rfl dL_law_1507 ?_
        refine g_goto (pc := 1510) (tgt := 18) X dL_law_1510 rfl ?_
        refine g_sub [1, 2, 3, 0] rfl ?_
        cases h
        exact hb18 _ _ hA
      · replace h := if_f c36 h
        refine g_iconst (v := 0) (pc := 322) X rfl dL_law_322 ?_
        cases h
        exact absurd (hr _ hA) (by decide)
    replace h := if_f c37 h
    by_cases c54 : ((xs (tn x3)) &&& 63) = 4
    · replace h := if_t c54 h
      refine g_tabIn (pc := 33) (tgt := 324) X c54 dL_law_33 (by decide) (by decide) rfl rfl ?_
      refine g_aload_n (pc := 324) X 1 rfl dL_law_324 ?_
      refine g_aload_n (pc := 325) X 0 rfl dL_law_325 ?_
      refine g_iload_n (pc := 326) X 3 rfl dL_law_326 ?_
      refine g_iconst (v := 1) (pc := 327) X rfl dL_law_327 ?_
      refine g_iadd (pc := 328) X dL_law_328 ?_
      obtain ⟨c38, h⟩ := chk_e h
      refine g_sld (pc := 329) X hX hbl hbA c38 dL_law_329 ?_
      refine g_aload_n (pc := 330) X 0 rfl dL_law_330 ?_
      refine g_iload_n (pc := 331) X 3 rfl dL_law_331 ?_
      refine g_iconst (v := 2) (pc := 332) X rfl dL_law_332 ?_
      refine g_iadd (pc := 333) X dL_law_333 ?_
      obtain ⟨c39, h⟩ := chk_e h
      refine g_sld (pc := 334) X hX hbl hbA c39 dL_law_334 ?_
      refine g_aload_n (pc := 335) X 0 rfl dL_law_335 ?_
      refine g_iload_n (pc := 336) X 3 rfl dL_law_336 ?_
      refine g_iconst (v := 3) (pc := 337) X rfl dL_law_337 ?_
      refine g_iadd (pc := 338) X dL_law_338 ?_
      obtain ⟨c40, h⟩ := chk_e h
      refine g_sld (pc := 339) X hX hbl hbA c40 dL_law_339 ?_
      refine g_i2l (pc := 340) X dL_law_340 ?_
      refine g_bipush (v := 32) (pc := 341) X (by decide) dL_law_341 ?_
      refine g_lshl (pc := 343) X dL_law_343 ?_
      refine g_aload_n (pc := 344) X 0 rfl dL_law_344 ?_
      refine g_iload_n (pc := 345) X 3 rfl dL_law_345 ?_
      refine g_iconst (v := 4) (pc := 346) X rfl dL_law_346 ?_
      refine g_iadd (pc := 347) X dL_law_347 ?_
      obtain ⟨c41, h⟩ := chk_e h
      refine g_sld (pc := 348) X hX hbl hbA c41 dL_law_348 ?_
      refine g_i2l (pc := 349) X dL_law_349 ?_
      refine g_ldc2 (v := 4294967295) (pc := 350) X k_constl_L_32 dL_law_350 ?_
      refine g_land (pc := 353) X dL_law_353 ?_
      refine g_lor (pc := 354) X dL_law_354 ?_
      obtain ⟨r43, σ44, hc42, h⟩ := bd2_e h
      refine g_callV (pc := 355) X k_ml_L_34 (run_RC_write  hc42) s_0 rfl (room_law hZ (Nat.le_of_ble_eq_true rfl) (Nat.le_of_ble_eq_true rfl)) hzz _ rfl (Nat.le_of_ble_eq_true rfl) dL_law_355 ?_
      show Go V Γ M_L_law Z 358 [(0, .ref b), (1, .ref (V.2.2.1 + 0)), (2, .ref (V.2.2.1 + 92)), (3, .int x3)] [.int r43] σ44
      refine g_aload_n (pc := 358) X 2 rfl dL_law_358 ?_
      refine g_aload_n (pc := 359) X 0 rfl dL_law_359 ?_
      refine g_iload_n (pc := 360) X 3 rfl dL_law_360 ?_
      refine g_iconst (v := 1) (pc := 361) X rfl dL_law_361 ?_
      refine g_iadd (pc := 362) X dL_law_362 ?_
      obtain ⟨c45, h⟩ := chk_e h
      refine g_sld (pc := 363) X hX hbl hbA c45 dL_law_363 ?_
      refine g_aload_n (pc := 364) X 0 rfl dL_law_364 ?_
      refine g_iload_n (pc := 365) X 3 rfl dL_law_365 ?_
      refine g_iconst (v := 2) (pc := 366) X rfl dL_law_366 ?_
      refine g_iadd (pc := 367) X dL_law_367 ?_
      obtain ⟨c46, h⟩ := chk_e h
      refine g_sld (pc := 368) X hX hbl hbA c46 dL_law_368 ?_
      refine g_aload_n (pc := 369) X 0 rfl dL_law_369 ?_
      refine g_iload_n (pc := 370) X 3 rfl dL_law_370 ?_
      refine g_iconst (v := 3) (pc := 371) X rfl dL_law_371 ?_
      refine g_iadd (pc := 372) X dL_law_372 ?_
      obtain ⟨c47, h⟩ := chk_e h
      refine g_sld (pc := 373) X hX hbl hbA c47 dL_law_373 ?_
      refine g_i2l (pc := 374) X dL_law_374 ?_
      refine g_bipush (v := 32) (pc := 375) X (by decide) dL_law_375 ?_
      refine g_lshl (pc := 377) X dL_law_377 ?_
      refine g_aload_n (pc := 378) X 0 rfl dL_law_378 ?_
      refine g_iload_n (pc := 379) X 3 rfl dL_law_379 ?_
      refine g_iconst (v := 4) (pc := 380) X rfl dL_law_380 ?_
      refine g_iadd (pc := 381) X dL_law_381 ?_
      obtain ⟨c48, h⟩ := chk_e h
      refine g_sld (pc := 382) X hX hbl hbA c48 dL_law_382 ?_
      refine g_i2l (pc := 383) X dL_law_383 ?_
      refine g_ldc2 (v := 4294967295) (pc := 384) X k_constl_L_32 dL_law_384 ?_
      refine g_land (pc := 387) X dL_law_387 ?_
      refine g_lor (pc := 388) X dL_law_388 ?_
      obtain ⟨r50, σ51, hc49, h⟩ := bd2_e h
      refine g_callV (pc := 389) X k_ml_L_38 (run_Mo_write  hc49) s_92 rfl (room_law hZ (Nat.le_of_ble_eq_true rfl) (Nat.le_of_ble_eq_true rfl)) hzz _ rfl (Nat.le_of_ble_eq_true rfl) dL_law_389 ?_
      show Go V Γ M_L_law Z 392 [(0, .ref b), (1, .ref (V.2.2.1 + 0)), (2, .ref (V.2.2.1 + 92)), (3, .int x3)] [.int r50, .int r43] σ51
      refine g_icmp_eq (pc := 392) (tgt := 1507) X dL_law_392 rfl (fun c53 => ?_) (fun c53 => ?_)
      · replace h := if_t c53 h
        obtain ⟨v52, e_v52, h⟩ := bnd_e h
        refine g_iinc (pc := 1507) (v := v52) X [(3, .int v52), (0, .ref b), (1, .ref (V.2.2.1 + 0)), (2, .ref (V.2.2.1 + 92))] 3 rfl (by rw [e_v52]; rfl) (Nat.le_of_ble_eq_true rfl) rfl dL_law_1507 ?_
        refine g_goto (pc := 1510) (tgt := 18) X dL_law_1510 rfl ?_
        refine g_sub [1, 2, 3, 0] rfl ?_
        cases h
        exact hb18 _ _ hA
      · replace h := if_f c53 h
        refine g_iconst (v := 0) (pc := 395) X rfl dL_law_395 ?_
        cases h
        exact absurd (hr _ hA) (by decide)
    replace h := if_f c54 h
    by_cases c67 : ((xs (tn x3)) &&& 63) = 5
    · replace h := if_t c67 h
      refine g_tabIn (pc := 33) (tgt := 397) X c67 dL_law_33 (by decide) (by decide) rfl rfl ?_
      refine g_aload_n (pc := 397) X 1 rfl dL_law_397 ?_
      refine g_aload_n (pc := 398) X 0 rfl dL_law_398 ?_
      refine g_iload_n (pc := 399) X 3 rfl dL_law_399 ?_
      refine g_iconst (v := 1) (pc := 400) X rfl dL_law_400 ?_
      refine g_iadd (pc := 401) X dL_law_401 ?_
      obtain ⟨c55, h⟩ := chk_e h
      refine g_sld (pc := 402) X hX hbl hbA c55 dL_law_402 ?_
      refine g_aload_n (pc := 403) X 0 rfl dL_law_403 ?_
      refine g_iload_n (pc := 404) X 3 rfl dL_law_404 ?_
      refine g_iconst (v := 2) (pc := 405) X rfl dL_law_405 ?_
      refine g_iadd (pc := 406) X dL_law_406 ?_
      obtain ⟨c56, h⟩ := chk_e h
      refine g_sld (pc := 407) X hX hbl hbA c56 dL_law_407 ?_
      obtain ⟨r58, σ59, hc57, h⟩ := bd2_e h
      refine g_callV (pc := 408) X k_ml_L_39 (run_RC_read  hc57) s_0 rfl (room_law hZ (Nat.le_of_ble_eq_true rfl) (Nat.le_of_ble_eq_true rfl)) hzz _ rfl (Nat.le_of_ble_eq_true rfl) dL_law_408 ?_
      show Go V Γ M_L_law Z 411 [(0, .ref b), (1, .ref (V.2.2.1 + 0)), (2, .ref (V.2.2.1 + 92)), (3, .int x3)] [.long r58] σ59
      refine g_aload_n (pc := 411) X 2 rfl dL_law_411 ?_
      refine g_aload_n (pc := 412) X 0 rfl dL_law_412 ?_
      refine g_iload_n (pc := 413) X 3 rfl dL_law_413 ?_
      refine g_iconst (v := 1) (pc := 414) X rfl dL_law_414 ?_
      refine g_iadd (pc := 415) X dL_law_415 ?_
      obtain ⟨c60, h⟩ := chk_e h
      refine g_sld (pc := 416) X hX hbl hbA c60 dL_law_416 ?_
      refine g_aload_n (pc := 417) X 0 rfl dL_law_417 ?_
      refine g_iload_n (pc := 418) X 3 rfl dL_law_418 ?_
      refine g_iconst (v := 2) (pc := 419) X rfl dL_law_419 ?_
      refine g_iadd (pc := 420) X dL_law_420 ?_
      obtain ⟨c61, h⟩ := chk_e h
      refine g_sld (pc := 421) X hX hbl hbA c61 dL_law_421 ?_
      obtain ⟨r63, σ64, hc62, h⟩ := bd2_e h
      refine g_callV (pc := 422) X k_ml_L_43 (run_Mo_read  hc62) s_92 rfl (room_law hZ (Nat.le_of_ble_eq_true rfl) (Nat.le_of_ble_eq_true rfl)) hzz _ rfl (Nat.le_of_ble_eq_true rfl) dL_law_422 ?_
      show Go V Γ M_L_law Z 425 [(0, .ref b), (1, .ref (V.2.2.1 + 0)), (2, .ref (V.2.2.1 + 92)), (3, .int x3)] [.long r63, .long r58] σ64
      refine g_lcmp_eq (pc := 425) (tgt := 1507) X dL_law_425 dL_law_426 rfl (fun c66 => ?_) (fun c66 => ?_)
      · replace h := if_t c66 h
        obtain ⟨v65, e_v65, h⟩ := bnd_e h
        refine g_iinc (pc := 1507) (v := v65) X [(3, .int v65), (0, .ref b), (1, .ref (V.2.2.1 + 0)), (2, .ref (V.2.2.1 + 92))] 3 rfl (by rw [e_v65]; rfl) (Nat.le_of_ble_eq_true rfl) rfl dL_law_1507 ?_
        refine g_goto (pc := 1510) (tgt := 18) X dL_law_1510 rfl ?_
        refine g_sub [1, 2, 3, 0] rfl ?_
        cases h
        exact hb18 _ _ hA
      · replace h := if_f c66 h
        refine g_iconst (v := 0) (pc := 429) X rfl dL_law_429 ?_
        cases h
        exact absurd (hr _ hA) (by decide)
    replace h := if_f c67 h
    by_cases c86 : ((xs (tn x3)) &&& 63) = 6
    · replace h := if_t c86 h
      refine g_tabIn (pc := 33) (tgt := 431) X c86 dL_law_33 (by decide) (by decide) rfl rfl ?_
      refine g_aload_n (pc := 431) X 1 rfl dL_law_431 ?_
      refine g_aload_n (pc := 432) X 0 rfl dL_law_432 ?_
      refine g_iload_n (pc := 433) X 3 rfl dL_law_433 ?_
      refine g_iconst (v := 1) (pc := 434) X rfl dL_law_434 ?_
      refine g_iadd (pc := 435) X dL_law_435 ?_
      obtain ⟨c68, h⟩ := chk_e h
      refine g_sld (pc := 436) X hX hbl hbA c68 dL_law_436 ?_
      refine g_aload_n (pc := 437) X 0 rfl dL_law_437 ?_
      refine g_iload_n (pc := 438) X 3 rfl dL_law_438 ?_
      refine g_iconst (v := 2) (pc := 439) X rfl dL_law_439 ?_
      refine g_iadd (pc := 440) X dL_law_440 ?_
      obtain ⟨c69, h⟩ := chk_e h
      refine g_sld (pc := 441) X hX hbl hbA c69 dL_law_441 ?_
      refine g_aload_n (pc := 442) X 0 rfl dL_law_442 ?_
      refine g_iload_n (pc := 443) X 3 rfl dL_law_443 ?_
      refine g_iconst (v := 3) (pc := 444) X rfl dL_law_444 ?_
      refine g_iadd (pc := 445) X dL_law_445 ?_
      obtain ⟨c70, h⟩ := chk_e h
      refine g_sld (pc := 446) X hX hbl hbA c70 dL_law_446 ?_
      refine g_aload_n (pc := 447) X 0 rfl dL_law_447 ?_
      refine g_iload_n (pc := 448) X 3 rfl dL_law_448 ?_
      refine g_iconst (v := 4) (pc := 449) X rfl dL_law_449 ?_
      refine g_iadd (pc := 450) X dL_law_450 ?_
      obtain ⟨c71, h⟩ := chk_e h
      refine g_sld (pc := 451) X hX hbl hbA c71 dL_law_451 ?_
      refine g_aload_n (pc := 452) X 0 rfl dL_law_452 ?_
      refine g_iload_n (pc := 453) X 3 rfl dL_law_453 ?_
      refine g_iconst (v := 5) (pc := 454) X rfl dL_law_454 ?_
      refine g_iadd (pc := 455) X dL_law_455 ?_
      obtain ⟨c72, h⟩ := chk_e h
      refine g_sld (pc := 456) X hX hbl hbA c72 dL_law_456 ?_
      obtain ⟨r74, σ75, hc73, h⟩ := bd2_e h
      refine g_callV (pc := 457) X k_ml_L_44 (run_RC_pour  hc73) s_0 rfl (room_law hZ (Nat.le_of_ble_eq_true rfl) (Nat.le_of_ble_eq_true rfl)) hzz _ rfl (Nat.le_of_ble_eq_true rfl) dL_law_457 ?_
      show Go V Γ M_L_law Z 460 [(0, .ref b), (1, .ref (V.2.2.1 + 0)), (2, .ref (V.2.2.1 + 92)), (3, .int x3)] [.int r74] σ75
      refine g_aload_n (pc := 460) X 2 rfl dL_law_460 ?_
      refine g_aload_n (pc := 461) X 0 rfl dL_law_461 ?_
      refine g_iload_n (pc := 462) X 3 rfl dL_law_462 ?_
      refine g_iconst (v := 1) (pc := 463) X rfl dL_law_463 ?_
      refine g_iadd (pc := 464) X dL_law_464 ?_
      obtain ⟨c76, h⟩ := chk_e h
      refine g_sld (pc := 465) X hX hbl hbA c76 dL_law_465 ?_
      refine g_aload_n (pc := 466) X 0 rfl dL_law_466 ?_
      refine g_iload_n (pc := 467) X 3 rfl dL_law_467 ?_
      refine g_iconst (v := 2) (pc := 468) X rfl dL_law_468 ?_
      refine g_iadd (pc := 469) X dL_law_469 ?_
      obtain ⟨c77, h⟩ := chk_e h
      refine g_sld (pc := 470) X hX hbl hbA c77 dL_law_470 ?_
      refine g_aload_n (pc := 471) X 0 rfl dL_law_471 ?_
      refine g_iload_n (pc := 472) X 3 rfl dL_law_472 ?_
      refine g_iconst (v := 3) (pc := 473) X rfl dL_law_473 ?_
      refine g_iadd (pc := 474) X dL_law_474 ?_
      obtain ⟨c78, h⟩ := chk_e h
      refine g_sld (pc := 475) X hX hbl hbA c78 dL_law_475 ?_
      refine g_aload_n (pc := 476) X 0 rfl dL_law_476 ?_
      refine g_iload_n (pc := 477) X 3 rfl dL_law_477 ?_
      refine g_iconst (v := 4) (pc := 478) X rfl dL_law_478 ?_
      refine g_iadd (pc := 479) X dL_law_479 ?_
      obtain ⟨c79, h⟩ := chk_e h
      refine g_sld (pc := 480) X hX hbl hbA c79 dL_law_480 ?_
      refine g_aload_n (pc := 481) X 0 rfl dL_law_481 ?_
      refine g_iload_n (pc := 482) X 3 rfl dL_law_482 ?_
      refine g_iconst (v := 5) (pc := 483) X rfl dL_law_483 ?_
      refine g_iadd (pc := 484) X dL_law_484 ?_
      obtain ⟨c80, h⟩ := chk_e h
      refine g_sld (pc := 485) X hX hbl hbA c80 dL_law_485 ?_
      obtain ⟨r82, σ83, hc81, h⟩ := bd2_e h
      refine g_callV (pc := 486) X k_ml_L_48 (run_Mo_pour  hc81) s_92 rfl (room_law hZ (Nat.le_of_ble_eq_true rfl) (Nat.le_of_ble_eq_true rfl)) hzz _ rfl (Nat.le_of_ble_eq_true rfl) dL_law_486 ?_
      show Go V Γ M_L_law Z 489 [(0, .ref b), (1, .ref (V.2.2.1 + 0)), (2, .ref (V.2.2.1 + 92)), (3, .int x3)] [.int r82, .int r74] σ83
      refine g_icmp_eq (pc := 489) (tgt := 1507) X dL_law_489 rfl (fun c85 => ?_) (fun c85 => ?_)
      · replace h := if_t c85 h
        obtain ⟨v84, e_v84, h⟩ := bnd_e h
        refine g_iinc (pc := 1507) (v := v84) X [(3, .int v84), (0, .ref b), (1, .ref (V.2.2.1 + 0)), (2, .ref (V.2.2.1 + 92))] 3 rfl (by rw [e_v84]; rfl) (Nat.le_of_ble_eq_true rfl) rfl dL_law_1507 ?_
        refine g_goto (pc := 1510) (tgt := 18) X dL_law_1510 rfl ?_
        refine g_sub [1, 2, 3, 0] rfl ?_
        cases h
        exact hb18 _ _ hA
      · replace h := if_f c85 h
        refine g_iconst (v := 0) (pc := 492) X rfl dL_law_492 ?_
        cases h
        exact absurd (hr _ hA) (by decide)
    replace h := if_f c86 h
    by_cases c105 : ((xs (tn x3)) &&& 63) = 7
    · replace h := if_t c105 h
      refine g_tabIn (pc := 33) (tgt := 494) X c105 dL_law_33 (by decide) (by decide) rfl rfl ?_
      refine g_aload_n (pc := 494) X 1 rfl dL_law_494 ?_
      refine g_aload_n (pc := 495) X 0 rfl dL_law_495 ?_
      refine g_iload_n (pc := 496) X 3 rfl dL_law_496 ?_
      refine g_iconst (v := 1) (pc := 497) X rfl dL_law_497 ?_
      refine g_iadd (pc := 498) X dL_law_498 ?_
      obtain ⟨c87, h⟩ := chk_e h
      refine g_sld (pc := 499) X hX hbl hbA c87 dL_law_499 ?_
      refine g_aload_n (pc := 500) X 0 rfl dL_law_500 ?_
      refine g_iload_n (pc := 501) X 3 rfl dL_law_501 ?_
      refine g_iconst (v := 2) (pc := 502) X rfl dL_law_502 ?_
      refine g_iadd (pc := 503) X dL_law_503 ?_
      obtain ⟨c88, h⟩ := chk_e h
      refine g_sld (pc := 504) X hX hbl hbA c88 dL_law_504 ?_
      refine g_aload_n (pc := 505) X 0 rfl dL_law_505 ?_
      refine g_iload_n (pc := 506) X 3 rfl dL_law_506 ?_
      refine g_iconst (v := 3) (pc := 507) X rfl dL_law_507 ?_
      refine g_iadd (pc := 508) X dL_law_508 ?_
      obtain ⟨c89, h⟩ := chk_e h
      refine g_sld (pc := 509) X hX hbl hbA c89 dL_law_509 ?_
      refine g_aload_n (pc := 510) X 0 rfl dL_law_510 ?_
      refine g_iload_n (pc := 511) X 3 rfl dL_law_511 ?_
      refine g_iconst (v := 4) (pc := 512) X rfl dL_law_512 ?_
      refine g_iadd (pc := 513) X dL_law_513 ?_
      obtain ⟨c90, h⟩ := chk_e h
      refine g_sld (pc := 514) X hX hbl hbA c90 dL_law_514 ?_
      refine g_aload_n (pc := 515) X 0 rfl dL_law_515 ?_
      refine g_iload_n (pc := 516) X 3 rfl dL_law_516 ?_
      refine g_iconst (v := 5) (pc := 517) X rfl dL_law_517 ?_
      refine g_iadd (pc := 518) X dL_law_518 ?_
      obtain ⟨c91, h⟩ := chk_e h
      refine g_sld (pc := 519) X hX hbl hbA c91 dL_law_519 ?_
      obtain ⟨r93, σ94, hc92, h⟩ := bd2_e h
      refine g_callV (pc := 520) X k_ml_L_49 (run_RC_feed  hc92) s_0 rfl (room_law hZ (Nat.le_of_ble_eq_true rfl) (Nat.le_of_ble_eq_true rfl)) hzz _ rfl (Nat.le_of_ble_eq_true rfl) dL_law_520 ?_
      show Go V Γ M_L_law Z 523 [(0, .ref b), (1, .ref (V.2.2.1 + 0)), (2, .ref (V.2.2.1 + 92)), (3, .int x3)] [.int r93] σ94
      refine g_aload_n (pc := 523) X 2 rfl dL_law_523 ?_
      refine g_aload_n (pc := 524) X 0 rfl dL_law_524 ?_
      refine g_iload_n (pc := 525) X 3 rfl dL_law_525 ?_
      refine g_iconst (v := 1) (pc := 526) X rfl dL_law_526 ?_
      refine g_iadd (pc := 527) X dL_law_527 ?_
      obtain ⟨c95, h⟩ := chk_e h
      refine g_sld (pc := 528) X hX hbl hbA c95 dL_law_528 ?_
      refine g_aload_n (pc := 529) X 0 rfl dL_law_529 ?_
      refine g_iload_n (pc := 530) X 3 rfl dL_law_530 ?_
      refine g_iconst (v := 2) (pc := 531) X rfl dL_law_531 ?_
      refine g_iadd (pc := 532) X dL_law_532 ?_
      obtain ⟨c96, h⟩ := chk_e h
      refine g_sld (pc := 533) X hX hbl hbA c96 dL_law_533 ?_
      refine g_aload_n (pc := 534) X 0 rfl dL_law_534 ?_
      refine g_iload_n (pc := 535) X 3 rfl dL_law_535 ?_
      refine g_iconst (v := 3) (pc := 536) X rfl dL_law_536 ?_
      refine g_iadd (pc := 537) X dL_law_537 ?_
      obtain ⟨c97, h⟩ := chk_e h
      refine g_sld (pc := 538) X hX hbl hbA c97 dL_law_538 ?_
      refine g_aload_n (pc := 539) X 0 rfl dL_law_539 ?_
      refine g_iload_n (pc := 540) X 3 rfl dL_law_540 ?_
      refine g_iconst (v := 4) (pc := 541) X rfl dL_law_541 ?_
      refine g_iadd (pc := 542) X dL_law_542 ?_
      obtain ⟨c98, h⟩ := chk_e h
      refine g_sld (pc := 543) X hX hbl hbA c98 dL_law_543 ?_
      refine g_aload_n (pc := 544) X 0 rfl dL_law_544 ?_
      refine g_iload_n (pc := 545) X 3 rfl dL_law_545 ?_
      refine g_iconst (v := 5) (pc := 546) X rfl dL_law_546 ?_
      refine g_iadd (pc := 547) X dL_law_547 ?_
      obtain ⟨c99, h⟩ := chk_e h
      refine g_sld (pc := 548) X hX hbl hbA c99 dL_law_548 ?_
      obtain ⟨r101, σ102, hc100, h⟩ := bd2_e h
      refine g_callV (pc := 549) X k_ml_L_53 (run_Mo_feed  hc100) s_92 rfl (room_law hZ (Nat.le_of_ble_eq_true rfl) (Nat.le_of_ble_eq_true rfl)) hzz _ rfl (Nat.le_of_ble_eq_true rfl) dL_law_549 ?_
      show Go V Γ M_L_law Z 552 [(0, .ref b), (1, .ref (V.2.2.1 + 0)), (2, .ref (V.2.2.1 + 92)), (3, .int x3)] [.int r101, .int r93] σ102
      refine g_icmp_eq (pc := 552) (tgt := 1507) X dL_law_552 rfl (fun c104 => ?_) (fun c104 => ?_)
      · replace h := if_t c104 h
        obtain ⟨v103, e_v103, h⟩ := bnd_e h
        refine g_iinc (pc := 1507) (v := v103) X [(3, .int v103), (0, .ref b), (1, .ref (V.2.2.1 + 0)), (2, .ref (V.2.2.1 + 92))] 3 rfl (by rw [e_v103]; rfl) (Nat.le_of_ble_eq_true rfl) rfl dL_law_1507 ?_
        refine g_goto (pc := 1510) (tgt := 18) X dL_law_1510 rfl ?_
        refine g_sub [1, 2, 3, 0] rfl ?_
        cases h
        exact hb18 _ _ hA
      · replace h := if_f c104 h
        refine g_iconst (v := 0) (pc := 555) X rfl dL_law_555 ?_
        cases h
        exact absurd (hr _ hA) (by decide)
    replace h := if_f c105 h
    by_cases c116 : ((xs (tn x3)) &&& 63) = 8
    · replace h := if_t c116 h
      refine g_tabIn (pc := 33) (tgt := 557) X c116 dL_law_33 (by decide) (by decide) rfl rfl ?_
      refine g_aload_n (pc := 557) X 1 rfl dL_law_557 ?_
      refine g_aload_n (pc := 558) X 0 rfl dL_law_558 ?_
      refine g_iload_n (pc := 559) X 3 rfl dL_law_559 ?_
      refine g_iconst (v := 1) (pc := 560) X rfl dL_law_560 ?_
      refine g_iadd (pc := 561) X dL_law_561 ?_
      obtain ⟨c106, h⟩ := chk_e h
      refine g_sld (pc := 562) X hX hbl hbA c106 dL_law_562 ?_
      obtain ⟨r108, σ109, hc107, h⟩ := bd2_e h
      refine g_callV (pc := 563) X k_ml_L_54 (run_RC_system  hc107) s_0 rfl (room_law hZ (Nat.le_of_ble_eq_true rfl) (Nat.le_of_ble_eq_true rfl)) hzz _ rfl (Nat.le_of_ble_eq_true rfl) dL_law_563 ?_
      show Go V Γ M_L_law Z 566 [(0, .ref b), (1, .ref (V.2.2.1 + 0)), (2, .ref (V.2.2.1 + 92)), (3, .int x3)] [.int r108] σ109
      refine g_aload_n (pc := 566) X 2 rfl dL_law_566 ?_
      refine g_aload_n (pc := 567) X 0 rfl dL_law_567 ?_
      refine g_iload_n (pc := 568) X 3 rfl dL_law_568 ?_
      refine g_iconst (v := 1) (pc := 569) X rfl dL_law_569 ?_
      refine g_iadd (pc := 570) X dL_law_570 ?_
      obtain ⟨c110, h⟩ := chk_e h
      refine g_sld (pc := 571) X hX hbl hbA c110 dL_law_571 ?_
      obtain ⟨r112, σ113, hc111, h⟩ := bd2_e h
      refine g_callV (pc := 572) X k_ml_L_58 (run_Mo_system  hc111) s_92 rfl (room_law hZ (Nat.le_of_ble_eq_true rfl) (Nat.le_of_ble_eq_true rfl)) hzz _ rfl (Nat.le_of_ble_eq_true rfl) dL_law_572 ?_
      show Go V Γ M_L_law Z 575 [(0, .ref b), (1, .ref (V.2.2.1 + 0)), (2, .ref (V.2.2.1 + 92)), (3, .int x3)] [.int r112, .int r108] σ113
      refine g_icmp_eq (pc := 575) (tgt := 1507) X dL_law_575 rfl (fun c115 => ?_) (fun c115 => ?_)
      · replace h := if_t c115 h
        obtain ⟨v114, e_v114, h⟩ := bnd_e h
        refine g_iinc (pc := 1507) (v := v114) X [(3, .int v114), (0, .ref b), (1, .ref (V.2.2.1 + 0)), (2, .ref (V.2.2.1 + 92))] 3 rfl (by rw [e_v114]; rfl) (Nat.le_of_ble_eq_true rfl) rfl dL_law_1507 ?_
        refine g_goto (pc := 1510) (tgt := 18) X dL_law_1510 rfl ?_
        refine g_sub [1, 2, 3, 0] rfl ?_
        cases h
        exact hb18 _ _ hA
      · replace h := if_f c115 h
        refine g_iconst (v := 0) (pc := 578) X rfl dL_law_578 ?_
        cases h
        exact absurd (hr _ hA) (by decide)
    replace h := if_f c116 h
    by_cases c127 : ((xs (tn x3)) &&& 63) = 9
    · replace h := if_t c127 h
      refine g_tabIn (pc := 33) (tgt := 580) X c127 dL_law_33 (by decide) (by decide) rfl rfl ?_
      refine g_aload_n (pc := 580) X 1 rfl dL_law_580 ?_
      refine g_aload_n (pc := 581) X 0 rfl dL_law_581 ?_
      refine g_iload_n (pc := 582) X 3 rfl dL_law_582 ?_
      refine g_iconst (v := 1) (pc := 583) X rfl dL_law_583 ?_
      refine g_iadd (pc := 584) X dL_law_584 ?_
      obtain ⟨c117, h⟩ := chk_e h
      refine g_sld (pc := 585) X hX hbl hbA c117 dL_law_585 ?_
      obtain ⟨r119, σ120, hc118, h⟩ := bd2_e h
      refine g_callV (pc := 586) X k_ml_L_59 (run_RC_days  hc118) s_0 rfl (room_law hZ (Nat.le_of_ble_eq_true rfl) (Nat.le_of_ble_eq_true rfl)) hzz _ rfl (Nat.le_of_ble_eq_true rfl) dL_law_586 ?_
      show Go V Γ M_L_law Z 589 [(0, .ref b), (1, .ref (V.2.2.1 + 0)), (2, .ref (V.2.2.1 + 92)), (3, .int x3)] [.int r119] σ120
      refine g_aload_n (pc := 589) X 2 rfl dL_law_589 ?_
      refine g_aload_n (pc := 590) X 0 rfl dL_law_590 ?_
      refine g_iload_n (pc := 591) X 3 rfl dL_law_591 ?_
      refine g_iconst (v := 1) (pc := 592) X rfl dL_law_592 ?_
      refine g_iadd (pc := 593) X dL_law_593 ?_
      obtain ⟨c121, h⟩ := chk_e h
      refine g_sld (pc := 594) X hX hbl hbA c121 dL_law_594 ?_
      obtain ⟨r123, σ124, hc122, h⟩ := bd2_e h
      refine g_callV (pc := 595) X k_ml_L_62 (run_Mo_days  hc122) s_92 rfl (room_law hZ (Nat.le_of_ble_eq_true rfl) (Nat.le_of_ble_eq_true rfl)) hzz _ rfl (Nat.le_of_ble_eq_true rfl) dL_law_595 ?_
      show Go V Γ M_L_law Z 598 [(0, .ref b), (1, .ref (V.2.2.1 + 0)), (2, .ref (V.2.2.1 + 92)), (3, .int x3)] [.int r123, .int r119] σ124
      refine g_icmp_eq (pc := 598) (tgt := 1507) X dL_law_598 rfl (fun c126 => ?_) (fun c126 => ?_)
      · replace h := if_t c126 h
        obtain ⟨v125, e_v125, h⟩ := bnd_e h
        refine g_iinc (pc := 1507) (v := v125) X [(3, .int v125), (0, .ref b), (1, .ref (V.2.2.1 + 0)), (2, .ref (V.2.2.1 + 92))] 3 rfl (by rw [e_v125]; rfl) (Nat.le_of_ble_eq_true rfl) rfl dL_law_1507 ?_
        refine g_goto (pc := 1510) (tgt := 18) X dL_law_1510 rfl ?_
        refine g_sub [1, 2, 3, 0] rfl ?_
        cases h
        exact hb18 _ _ hA
      · replace h := if_f c126 h
        refine g_iconst (v := 0) (pc := 601) X rfl dL_law_601 ?_
        cases h
        exact absurd (hr _ hA) (by decide)
    replace h := if_f c127 h
    by_cases c136 : ((xs (tn x3)) &&& 63) = 10
    · replace h := if_t c136 h
      refine g_tabIn (pc := 33) (tgt := 603) X c136 dL_law_33 (by decide) (by decide) rfl rfl ?_
      refine g_aload_n (pc := 603) X 1 rfl dL_law_603 ?_
      refine g_aload_n (pc := 604) X 0 rfl dL_law_604 ?_
      refine g_iload_n (pc := 605) X 3 rfl dL_law_605 ?_
      refine g_iconst (v := 1) (pc := 606) X rfl dL_law_606 ?_
      refine g_iadd (pc := 607) X dL_law_607 ?_
      obtain ⟨c128, h⟩ := chk_e h
      refine g_sld (pc := 608) X hX hbl hbA c128 dL_law_608 ?_
      obtain ⟨r130, hc129, h⟩ := bd_e h
      refine g_callV (pc := 609) X k_ml_L_63 (run_RC_fault  hc129) s_0 rfl (room_law hZ (Nat.le_of_ble_eq_true rfl) (Nat.le_of_ble_eq_true rfl)) hzz _ rfl (Nat.le_of_ble_eq_true rfl) dL_law_609 ?_
      show Go V Γ M_L_law Z 612 [(0, .ref b), (1, .ref (V.2.2.1 + 0)), (2, .ref (V.2.2.1 + 92)), (3, .int x3)] [.int r130] σ
      refine g_aload_n (pc := 612) X 2 rfl dL_law_612 ?_
      refine g_aload_n (pc := 613) X 0 rfl dL_law_613 ?_
      refine g_iload_n (pc := 614) X 3 rfl dL_law_614 ?_
      refine g_iconst (v := 1) (pc := 615) X rfl dL_law_615 ?_
      refine g_iadd (pc := 616) X dL_law_616 ?_
      obtain ⟨c131, h⟩ := chk_e h
      refine g_sld (pc := 617) X hX hbl hbA c131 dL_law_617 ?_
      obtain ⟨r133, hc132, h⟩ := bd_e h
      refine g_callV (pc := 618) X k_ml_L_66 (run_Mo_fault  hc132) s_92 rfl (room_law hZ (Nat.le_of_ble_eq_true rfl) (Nat.le_of_ble_eq_true rfl)) hzz _ rfl (Nat.le_of_ble_eq_true rfl) dL_law_618 ?_
      show Go V Γ M_L_law Z 621 [(0, .ref b), (1, .ref (V.2.2.1 + 0)), (2, .ref (V.2.2.1 + 92)), (3, .int x3)] [.int r133, .int r130] σ
      refine g_icmp_eq (pc := 621) (tgt := 1507) X dL_law_621 rfl (fun c135 => ?_) (fun c135 => ?_)
      · replace h := if_t c135 h
        obtain ⟨v134, e_v134, h⟩ := bnd_e h
        refine g_iinc (pc := 1507) (v := v134) X [(3, .int v134), (0, .ref b), (1, .ref (V.2.2.1 + 0)), (2, .ref (V.2.2.1 + 92))] 3 rfl (by rw [e_v134]; rfl) (Nat.le_of_ble_eq_true rfl) rfl dL_law_1507 ?_
        refine g_goto (pc := 1510) (tgt := 18) X dL_law_1510 rfl ?_
        refine g_sub [1, 2, 3, 0] rfl ?_
        cases h
        exact hb18 _ _ hA
      · replace h := if_f c135 h
        refine g_iconst (v := 0) (pc := 624) X rfl dL_law_624 ?_
        cases h
        exact absurd (hr _ hA) (by decide)
    replace h := if_f c136 h
    by_cases c147 : ((xs (tn x3)) &&& 63) = 11
    · replace h := if_t c147 h
      refine g_tabIn (pc := 33) (tgt := 626) X c147 dL_law_33 (by decide) (by decide) rfl rfl ?_
      refine g_aload_n (pc := 626) X 1 rfl dL_law_626 ?_
      refine g_aload_n (pc := 627) X 0 rfl dL_law_627 ?_
      refine g_iload_n (pc := 628) X 3 rfl dL_law_628 ?_
      refine g_iconst (v := 1) (pc := 629) X rfl dL_law_629 ?_
      refine g_iadd (pc := 630) X dL_law_630 ?_
      obtain ⟨c137, h⟩ := chk_e h
      refine g_sld (pc := 631) X hX hbl hbA c137 dL_law_631 ?_
      obtain ⟨r139, σ140, hc138, h⟩ := bd2_e h
      refine g_callV (pc := 632) X k_ml_L_67 (run_RC_told  hc138) s_0 rfl (room_law hZ (Nat.le_of_ble_eq_true rfl) (Nat.le_of_ble_eq_true rfl)) hzz _ rfl (Nat.le_of_ble_eq_true rfl) dL_law_632 ?_
      show Go V Γ M_L_law Z 635 [(0, .ref b), (1, .ref (V.2.2.1 + 0)), (2, .ref (V.2.2.1 + 92)), (3, .int x3)] [.int r139] σ140
      refine g_aload_n (pc := 635) X 2 rfl dL_law_635 ?_
      refine g_aload_n (pc := 636) X 0 rfl dL_law_636 ?_
      refine g_iload_n (pc := 637) X 3 rfl dL_law_637 ?_
      refine g_iconst (v := 1) (pc := 638) X rfl dL_law_638 ?_
      refine g_iadd (pc := 639) X dL_law_639 ?_
      obtain ⟨c141, h⟩ := chk_e h
      refine g_sld (pc := 640) X hX hbl hbA c141 dL_law_640 ?_
      obtain ⟨r143, σ144, hc142, h⟩ := bd2_e h
      refine g_callV (pc := 641) X k_ml_L_70 (run_Mo_told  hc142) s_92 rfl (room_law hZ (Nat.le_of_ble_eq_true rfl) (Nat.le_of_ble_eq_true rfl)) hzz _ rfl (Nat.le_of_ble_eq_true rfl) dL_law_641 ?_
      show Go V Γ M_L_law Z 644 [(0, .ref b), (1, .ref (V.2.2.1 + 0)), (2, .ref (V.2.2.1 + 92)), (3, .int x3)] [.int r143, .int r139] σ144
      refine g_icmp_eq (pc := 644) (tgt := 1507) X dL_law_644 rfl (fun c146 => ?_) (fun c146 => ?_)
      · replace h := if_t c146 h
        obtain ⟨v145, e_v145, h⟩ := bnd_e h
        refine g_iinc (pc := 1507) (v := v145) X [(3, .int v145), (0, .ref b), (1, .ref (V.2.2.1 + 0)), (2, .ref (V.2.2.1 + 92))] 3 rfl (by rw [e_v145]; rfl) (Nat.le_of_ble_eq_true rfl) rfl dL_law_1507 ?_
        refine g_goto (pc := 1510) (tgt := 18) X dL_law_1510 rfl ?_
        refine g_sub [1, 2, 3, 0] rfl ?_
        cases h
        exact hb18 _ _ hA
      · replace h := if_f c146 h
        refine g_iconst (v := 0) (pc := 647) X rfl dL_law_647 ?_
        cases h
        exact absurd (hr _ hA) (by decide)
    replace h := if_f c147 h
    by_cases c160 : ((xs (tn x3)) &&& 63) = 12
    · replace h := if_t c160 h
      refine g_tabIn (pc := 33) (tgt := 649) X c160 dL_law_33 (by decide) (by decide) rfl rfl ?_
      refine g_aload_n (pc := 649) X 1 rfl dL_law_649 ?_
      refine g_aload_n (pc := 650) X 0 rfl dL_law_650 ?_
      refine g_iload_n (pc := 651) X 3 rfl dL_law_651 ?_
      refine g_iconst (v := 1) (pc := 652) X rfl dL_law_652 ?_
      refine g_iadd (pc := 653) X dL_law_653 ?_
      obtain ⟨c148, h⟩ := chk_e h
      refine g_sld (pc := 654) X hX hbl hbA c148 dL_law_654 ?_
      refine g_aload_n (pc := 655) X 0 rfl dL_law_655 ?_
      refine g_iload_n (pc := 656) X 3 rfl dL_law_656 ?_
      refine g_iconst (v := 2) (pc := 657) X rfl dL_law_657 ?_
      refine g_iadd (pc := 658) X dL_law_658 ?_
      obtain ⟨c149, h⟩ := chk_e h
      refine g_sld (pc := 659) X hX hbl hbA c149 dL_law_659 ?_
      obtain ⟨r151, σ152, hc150, h⟩ := bd2_e h
      refine g_callV (pc := 660) X k_ml_L_71 (run_RC_classOf  hc150) s_0 rfl (room_law hZ (Nat.le_of_ble_eq_true rfl) (Nat.le_of_ble_eq_true rfl)) hzz _ rfl (Nat.le_of_ble_eq_true rfl) dL_law_660 ?_
      show Go V Γ M_L_law Z 663 [(0, .ref b), (1, .ref (V.2.2.1 + 0)), (2, .ref (V.2.2.1 + 92)), (3, .int x3)] [.int r151] σ152
      refine g_aload_n (pc := 663) X 2 rfl dL_law_663 ?_
      refine g_aload_n (pc := 664) X 0 rfl dL_law_664 ?_
      refine g_iload_n (pc := 665) X 3 rfl dL_law_665 ?_
      refine g_iconst (v := 1) (pc := 666) X rfl dL_law_666 ?_
      refine g_iadd (pc := 667) X dL_law_667 ?_
      obtain ⟨c153, h⟩ := chk_e h
      refine g_sld (pc := 668) X hX hbl hbA c153 dL_law_668 ?_
      refine g_aload_n (pc := 669) X 0 rfl dL_law_669 ?_
      refine g_iload_n (pc := 670) X 3 rfl dL_law_670 ?_
      refine g_iconst (v := 2) (pc := 671) X rfl dL_law_671 ?_
      refine g_iadd (pc := 672) X dL_law_672 ?_
      obtain ⟨c154, h⟩ := chk_e h
      refine g_sld (pc := 673) X hX hbl hbA c154 dL_law_673 ?_
      obtain ⟨r156, σ157, hc155, h⟩ := bd2_e h
      refine g_callV (pc := 674) X k_ml_L_75 (run_Mo_classOf  hc155) s_92 rfl (room_law hZ (Nat.le_of_ble_eq_true rfl) (Nat.le_of_ble_eq_true rfl)) hzz _ rfl (Nat.le_of_ble_eq_true rfl) dL_law_674 ?_
      show Go V Γ M_L_law Z 677 [(0, .ref b), (1, .ref (V.2.2.1 + 0)), (2, .ref (V.2.2.1 + 92)), (3, .int x3)] [.int r156, .int r151] σ157
      refine g_icmp_eq (pc := 677) (tgt := 1507) X dL_law_677 rfl (fun c159 => ?_) (fun c159 => ?_)
      · replace h := if_t c159 h
        obtain ⟨v158, e_v158, h⟩ := bnd_e h
        refine g_iinc (pc := 1507) (v := v158) X [(3, .int v158), (0, .ref b), (1, .ref (V.2.2.1 + 0)), (2, .ref (V.2.2.1 + 92))] 3 rfl (by rw [e_v158]; rfl) (Nat.le_of_ble_eq_true rfl) rfl dL_law_1507 ?_
        refine g_goto (pc := 1510) (tgt := 18) X dL_law_1510 rfl ?_
        refine g_sub [1, 2, 3, 0] rfl ?_
        cases h
        exact hb18 _ _ hA
      · replace h := if_f c159 h
        refine g_iconst (v := 0) (pc := 680) X rfl dL_law_680 ?_
        cases h
        exact absurd (hr _ hA) (by decide)
    replace h := if_f c160 h
    by_cases c171 : ((xs (tn x3)) &&& 63) = 13
    · replace h := if_t c171 h
      refine g_tabIn (pc := 33) (tgt := 682) X c171 dL_law_33 (by decide) (by decide) rfl rfl ?_
      refine g_aload_n (pc := 682) X 1 rfl dL_law_682 ?_
      refine g_aload_n (pc := 683) X 0 rfl dL_law_683 ?_
      refine g_iload_n (pc := 684) X 3 rfl dL_law_684 ?_
      refine g_iconst (v := 1) (pc := 685) X rfl dL_law_685 ?_
      refine g_iadd (pc := 686) X dL_law_686 ?_
      obtain ⟨c161, h⟩ := chk_e h
      refine g_sld (pc := 687) X hX hbl hbA c161 dL_law_687 ?_
      obtain ⟨r163, σ164, hc162, h⟩ := bd2_e h
      refine g_callV (pc := 688) X k_ml_L_76 (run_RC_caught  hc162) s_0 rfl (room_law hZ (Nat.le_of_ble_eq_true rfl) (Nat.le_of_ble_eq_true rfl)) hzz _ rfl (Nat.le_of_ble_eq_true rfl) dL_law_688 ?_
      show Go V Γ M_L_law Z 691 [(0, .ref b), (1, .ref (V.2.2.1 + 0)), (2, .ref (V.2.2.1 + 92)), (3, .int x3)] [.int r163] σ164
      refine g_aload_n (pc := 691) X 2 rfl dL_law_691 ?_
      refine g_aload_n (pc := 692) X 0 rfl dL_law_692 ?_
      refine g_iload_n (pc := 693) X 3 rfl dL_law_693 ?_
      refine g_iconst (v := 1) (pc := 694) X rfl dL_law_694 ?_
      refine g_iadd (pc := 695) X dL_law_695 ?_
      obtain ⟨c165, h⟩ := chk_e h
      refine g_sld (pc := 696) X hX hbl hbA c165 dL_law_696 ?_
      obtain ⟨r167, σ168, hc166, h⟩ := bd2_e h
      refine g_callV (pc := 697) X k_ml_L_79 (run_Mo_caught  hc166) s_92 rfl (room_law hZ (Nat.le_of_ble_eq_true rfl) (Nat.le_of_ble_eq_true rfl)) hzz _ rfl (Nat.le_of_ble_eq_true rfl) dL_law_697 ?_
      show Go V Γ M_L_law Z 700 [(0, .ref b), (1, .ref (V.2.2.1 + 0)), (2, .ref (V.2.2.1 + 92)), (3, .int x3)] [.int r167, .int r163] σ168
      refine g_icmp_eq (pc := 700) (tgt := 1507) X dL_law_700 rfl (fun c170 => ?_) (fun c170 => ?_)
      · replace h := if_t c170 h
        obtain ⟨v169, e_v169, h⟩ := bnd_e h
        refine g_iinc (pc := 1507) (v := v169) X [(3, .int v169), (0, .ref b), (1, .ref (V.2.2.1 + 0)), (2, .ref (V.2.2.1 + 92))] 3 rfl (by rw [e_v169]; rfl) (Nat.le_of_ble_eq_true rfl) rfl dL_law_1507 ?_
        refine g_goto (pc := 1510) (tgt := 18) X dL_law_1510 rfl ?_
        refine g_sub [1, 2, 3, 0] rfl ?_
        cases h
        exact hb18 _ _ hA
      · replace h := if_f c170 h
        refine g_iconst (v := 0) (pc := 703) X rfl dL_law_703 ?_
        cases h
        exact absurd (hr _ hA) (by decide)
    replace h := if_f c171 h
    by_cases c182 : ((xs (tn x3)) &&& 63) = 14
    · replace h := if_t c182 h
      refine g_tabIn (pc := 33) (tgt := 705) X c182 dL_law_33 (by decide) (by decide) rfl rfl ?_
      refine g_aload_n (pc := 705) X 1 rfl dL_law_705 ?_
      refine g_aload_n (pc := 706) X 0 rfl dL_law_706 ?_
      refine g_iload_n (pc := 707) X 3 rfl dL_law_707 ?_
      refine g_iconst (v := 1) (pc := 708) X rfl dL_law_708 ?_
      refine g_iadd (pc := 709) X dL_law_709 ?_
      obtain ⟨c172, h⟩ := chk_e h
      refine g_sld (pc := 710) X hX hbl hbA c172 dL_law_710 ?_
      obtain ⟨r174, σ175, hc173, h⟩ := bd2_e h
      refine g_callV (pc := 711) X k_ml_L_80 (run_RC_tightest  hc173) s_0 rfl (room_law hZ (Nat.le_of_ble_eq_true rfl) (Nat.le_of_ble_eq_true rfl)) hzz _ rfl (Nat.le_of_ble_eq_true rfl) dL_law_711 ?_
      show Go V Γ M_L_law Z 714 [(0, .ref b), (1, .ref (V.2.2.1 + 0)), (2, .ref (V.2.2.1 + 92)), (3, .int x3)] [.int r174] σ175
      refine g_aload_n (pc := 714) X 2 rfl dL_law_714 ?_
      refine g_aload_n (pc := 715) X 0 rfl dL_law_715 ?_
      refine g_iload_n (pc := 716) X 3 rfl dL_law_716 ?_
      refine g_iconst (v := 1) (pc := 717) X rfl dL_law_717 ?_
      refine g_iadd (pc := 718) X dL_law_718 ?_
      obtain ⟨c176, h⟩ := chk_e h
      refine g_sld (pc := 719) X hX hbl hbA c176 dL_law_719 ?_
      obtain ⟨r178, σ179, hc177, h⟩ := bd2_e h
      refine g_callV (pc := 720) X k_ml_L_83 (run_Mo_tightest  hc177) s_92 rfl (room_law hZ (Nat.le_of_ble_eq_true rfl) (Nat.le_of_ble_eq_true rfl)) hzz _ rfl (Nat.le_of_ble_eq_true rfl) dL_law_720 ?_
      show Go V Γ M_L_law Z 723 [(0, .ref b), (1, .ref (V.2.2.1 + 0)), (2, .ref (V.2.2.1 + 92)), (3, .int x3)] [.int r178, .int r174] σ179
      refine g_icmp_eq (pc := 723) (tgt := 1507) X dL_law_723 rfl (fun c181 => ?_) (fun c181 => ?_)
      · replace h := if_t c181 h
        obtain ⟨v180, e_v180, h⟩ := bnd_e h
        refine g_iinc (pc := 1507) (v := v180) X [(3, .int v180), (0, .ref b), (1, .ref (V.2.2.1 + 0)), (2, .ref (V.2.2.1 + 92))] 3 rfl (by rw [e_v180]; rfl) (Nat.le_of_ble_eq_true rfl) rfl dL_law_1507 ?_
        refine g_goto (pc := 1510) (tgt := 18) X dL_law_1510 rfl ?_
        refine g_sub [1, 2, 3, 0] rfl ?_
        cases h
        exact hb18 _ _ hA
      · replace h := if_f c181 h
        refine g_iconst (v := 0) (pc := 726) X rfl dL_law_726 ?_
        cases h
        exact absurd (hr _ hA) (by decide)
    replace h := if_f c182 h
    by_cases c193 : ((xs (tn x3)) &&& 63) = 15
    · replace h := if_t c193 h
      refine g_tabIn (pc := 33) (tgt := 728) X c193 dL_law_33 (by decide) (by decide) rfl rfl ?_
      refine g_aload_n (pc := 728) X 1 rfl dL_law_728 ?_
      refine g_aload_n (pc := 729) X 0 rfl dL_law_729 ?_
      refine g_iload_n (pc := 730) X 3 rfl dL_law_730 ?_
      refine g_iconst (v := 1) (pc := 731) X rfl dL_law_731 ?_
      refine g_iadd (pc := 732) X dL_law_732 ?_
      obtain ⟨c183, h⟩ := chk_e h
      refine g_sld (pc := 733) X hX hbl hbA c183 dL_law_733 ?_
      obtain ⟨r185, σ186, hc184, h⟩ := bd2_e h
      refine g_callV (pc := 734) X k_ml_L_84 (run_RC_turn  hc184) s_0 rfl (room_law hZ (Nat.le_of_ble_eq_true rfl) (Nat.le_of_ble_eq_true rfl)) hzz _ rfl (Nat.le_of_ble_eq_true rfl) dL_law_734 ?_
      show Go V Γ M_L_law Z 737 [(0, .ref b), (1, .ref (V.2.2.1 + 0)), (2, .ref (V.2.2.1 + 92)), (3, .int x3)] [.int r185] σ186
      refine g_aload_n (pc := 737) X 2 rfl dL_law_737 ?_
      refine g_aload_n (pc := 738) X 0 rfl dL_law_738 ?_
      refine g_iload_n (pc := 739) X 3 rfl dL_law_739 ?_
      refine g_iconst (v := 1) (pc := 740) X rfl dL_law_740 ?_
      refine g_iadd (pc := 741) X dL_law_741 ?_
      obtain ⟨c187, h⟩ := chk_e h
      refine g_sld (pc := 742) X hX hbl hbA c187 dL_law_742 ?_
      obtain ⟨r189, σ190, hc188, h⟩ := bd2_e h
      refine g_callV (pc := 743) X k_ml_L_87 (run_Mo_turn  hc188) s_92 rfl (room_law hZ (Nat.le_of_ble_eq_true rfl) (Nat.le_of_ble_eq_true rfl)) hzz _ rfl (Nat.le_of_ble_eq_true rfl) dL_law_743 ?_
      show Go V Γ M_L_law Z 746 [(0, .ref b), (1, .ref (V.2.2.1 + 0)), (2, .ref (V.2.2.1 + 92)), (3, .int x3)] [.int r189, .int r185] σ190
      refine g_icmp_eq (pc := 746) (tgt := 1507) X dL_law_746 rfl (fun c192 => ?_) (fun c192 => ?_)
      · replace h := if_t c192 h
        obtain ⟨v191, e_v191, h⟩ := bnd_e h
        refine g_iinc (pc := 1507) (v := v191) X [(3, .int v191), (0, .ref b), (1, .ref (V.2.2.1 + 0)), (2, .ref (V.2.2.1 + 92))] 3 rfl (by rw [e_v191]; rfl) (Nat.le_of_ble_eq_true rfl) rfl dL_law_1507 ?_
        refine g_goto (pc := 1510) (tgt := 18) X dL_law_1510 rfl ?_
        refine g_sub [1, 2, 3, 0] rfl ?_
        cases h
        exact hb18 _ _ hA
      · replace h := if_f c192 h
        refine g_iconst (v := 0) (pc := 749) X rfl dL_law_749 ?_
        cases h
        exact absurd (hr _ hA) (by decide)
    replace h := if_f c193 h
    by_cases c206 : ((xs (tn x3)) &&& 63) = 16
    · replace h := if_t c206 h
      refine g_tabIn (pc := 33) (tgt := 751) X c206 dL_law_33 (by decide) (by decide) rfl rfl ?_
      refine g_aload_n (pc := 751) X 1 rfl dL_law_751 ?_
      refine g_aload_n (pc := 752) X 0 rfl dL_law_752 ?_
      refine g_iload_n (pc := 753) X 3 rfl dL_law_753 ?_
      refine g_iconst (v := 1) (pc := 754) X rfl dL_law_754 ?_
      refine g_iadd (pc := 755) X dL_law_755 ?_
      obtain ⟨c194, h⟩ := chk_e h
      refine g_sld (pc := 756) X hX hbl hbA c194 dL_law_756 ?_
      refine g_aload_n (pc := 757) X 0 rfl dL_law_757 ?_
      refine g_iload_n (pc := 758) X 3 rfl dL_law_758 ?_
      refine g_iconst (v := 2) (pc := 759) X rfl dL_law_759 ?_
      refine g_iadd (pc := 760) X dL_law_760 ?_
      obtain ⟨c195, h⟩ := chk_e h
      refine g_sld (pc := 761) X hX hbl hbA c195 dL_law_761 ?_
      obtain ⟨r197, σ198, hc196, h⟩ := bd2_e h
      refine g_callV (pc := 762) X k_ml_L_88 (run_RC_add  hc196) s_0 rfl (room_law hZ (Nat.le_of_ble_eq_true rfl) (Nat.le_of_ble_eq_true rfl)) hzz _ rfl (Nat.le_of_ble_eq_true rfl) dL_law_762 ?_
      show Go V Γ M_L_law Z 765 [(0, .ref b), (1, .ref (V.2.2.1 + 0)), (2, .ref (V.2.2.1 + 92)), (3, .int x3)] [.int r197] σ198
      refine g_aload_n (pc := 765) X 2 rfl dL_law_765 ?_
      refine g_aload_n (pc := 766) X 0 rfl dL_law_766 ?_
      refine g_iload_n (pc := 767) X 3 rfl dL_law_767 ?_
      refine g_iconst (v := 1) (pc := 768) X rfl dL_law_768 ?_
      refine g_iadd (pc := 769) X dL_law_769 ?_
      obtain ⟨c199, h⟩ := chk_e h
      refine g_sld (pc := 770) X hX hbl hbA c199 dL_law_770 ?_
      refine g_aload_n (pc := 771) X 0 rfl dL_law_771 ?_
      refine g_iload_n (pc := 772) X 3 rfl dL_law_772 ?_
      refine g_iconst (v := 2) (pc := 773) X rfl dL_law_773 ?_
      refine g_iadd (pc := 774) X dL_law_774 ?_
      obtain ⟨c200, h⟩ := chk_e h
      refine g_sld (pc := 775) X hX hbl hbA c200 dL_law_775 ?_
      obtain ⟨r202, σ203, hc201, h⟩ := bd2_e h
      refine g_callV (pc := 776) X k_ml_L_91 (run_Mo_add  hc201) s_92 rfl (room_law hZ (Nat.le_of_ble_eq_true rfl) (Nat.le_of_ble_eq_true rfl)) hzz _ rfl (Nat.le_of_ble_eq_true rfl) dL_law_776 ?_
      show Go V Γ M_L_law Z 779 [(0, .ref b), (1, .ref (V.2.2.1 + 0)), (2, .ref (V.2.2.1 + 92)), (3, .int x3)] [.int r202, .int r197] σ203
      refine g_icmp_eq (pc := 779) (tgt := 1507) X dL_law_779 rfl (fun c205 => ?_) (fun c205 => ?_)
      · replace h := if_t c205 h
        obtain ⟨v204, e_v204, h⟩ := bnd_e h
        refine g_iinc (pc := 1507) (v := v204) X [(3, .int v204), (0, .ref b), (1, .ref (V.2.2.1 + 0)), (2, .ref (V.2.2.1 + 92))] 3 rfl (by rw [e_v204]; rfl) (Nat.le_of_ble_eq_true rfl) rfl dL_law_1507 ?_
        refine g_goto (pc := 1510) (tgt := 18) X dL_law_1510 rfl ?_
        refine g_sub [1, 2, 3, 0] rfl ?_
        cases h
        exact hb18 _ _ hA
      · replace h := if_f c205 h
        refine g_iconst (v := 0) (pc := 782) X rfl dL_law_782 ?_
        cases h
        exact absurd (hr _ hA) (by decide)
    replace h := if_f c206 h
    by_cases c217 : ((xs (tn x3)) &&& 63) = 17
    · replace h := if_t c217 h
      refine g_tabIn (pc := 33) (tgt := 784) X c217 dL_law_33 (by decide) (by decide) rfl rfl ?_
      refine g_aload_n (pc := 784) X 1 rfl dL_law_784 ?_
      refine g_aload_n (pc := 785) X 0 rfl dL_law_785 ?_
      refine g_iload_n (pc := 786) X 3 rfl dL_law_786 ?_
      refine g_iconst (v := 1) (pc := 787) X rfl dL_law_787 ?_
      refine g_iadd (pc := 788) X dL_law_788 ?_
      obtain ⟨c207, h⟩ := chk_e h
      refine g_sld (pc := 789) X hX hbl hbA c207 dL_law_789 ?_
      obtain ⟨r209, σ210, hc208, h⟩ := bd2_e h
      refine g_callV (pc := 790) X k_ml_L_92 (run_RC_drop  hc208) s_0 rfl (room_law hZ (Nat.le_of_ble_eq_true rfl) (Nat.le_of_ble_eq_true rfl)) hzz _ rfl (Nat.le_of_ble_eq_true rfl) dL_law_790 ?_
      show Go V Γ M_L_law Z 793 [(0, .ref b), (1, .ref (V.2.2.1 + 0)), (2, .ref (V.2.2.1 + 92)), (3, .int x3)] [.int r209] σ210
      refine g_aload_n (pc := 793) X 2 rfl dL_law_793 ?_
      refine g_aload_n (pc := 794) X 0 rfl dL_law_794 ?_
      refine g_iload_n (pc := 795) X 3 rfl dL_law_795 ?_
      refine g_iconst (v := 1) (pc := 796) X rfl dL_law_796 ?_
      refine g_iadd (pc := 797) X dL_law_797 ?_
      obtain ⟨c211, h⟩ := chk_e h
      refine g_sld (pc := 798) X hX hbl hbA c211 dL_law_798 ?_
      obtain ⟨r213, σ214, hc212, h⟩ := bd2_e h
      refine g_callV (pc := 799) X k_ml_L_95 (run_Mo_drop  hc212) s_92 rfl (room_law hZ (Nat.le_of_ble_eq_true rfl) (Nat.le_of_ble_eq_true rfl)) hzz _ rfl (Nat.le_of_ble_eq_true rfl) dL_law_799 ?_
      show Go V Γ M_L_law Z 802 [(0, .ref b), (1, .ref (V.2.2.1 + 0)), (2, .ref (V.2.2.1 + 92)), (3, .int x3)] [.int r213, .int r209] σ214
      refine g_icmp_eq (pc := 802) (tgt := 1507) X dL_law_802 rfl (fun c216 => ?_) (fun c216 => ?_)
      · replace h := if_t c216 h
        obtain ⟨v215, e_v215, h⟩ := bnd_e h
        refine g_iinc (pc := 1507) (v := v215) X [(3, .int v215), (0, .ref b), (1, .ref (V.2.2.1 + 0)), (2, .ref (V.2.2.1 + 92))] 3 rfl (by rw [e_v215]; rfl) (Nat.le_of_ble_eq_true rfl) rfl dL_law_1507 ?_
        refine g_goto (pc := 1510) (tgt := 18) X dL_law_1510 rfl ?_
        refine g_sub [1, 2, 3, 0] rfl ?_
        cases h
        exact hb18 _ _ hA
      · replace h := if_f c216 h
        refine g_iconst (v := 0) (pc := 805) X rfl dL_law_805 ?_
        cases h
        exact absurd (hr _ hA) (by decide)
    replace h := if_f c217 h
    by_cases c230 : ((xs (tn x3)) &&& 63) = 18
    · replace h := if_t c230 h
      refine g_tabIn (pc := 33) (tgt := 807) X c230 dL_law_33 (by decide) (by decide) rfl rfl ?_
      refine g_aload_n (pc := 807) X 1 rfl dL_law_807 ?_
      refine g_aload_n (pc := 808) X 0 rfl dL_law_808 ?_
      refine g_iload_n (pc := 809) X 3 rfl dL_law_809 ?_
      refine g_iconst (v := 1) (pc := 810) X rfl dL_law_810 ?_
      refine g_iadd (pc := 811) X dL_law_811 ?_
      obtain ⟨c218, h⟩ := chk_e h
      refine g_sld (pc := 812) X hX hbl hbA c218 dL_law_812 ?_
      refine g_aload_n (pc := 813) X 0 rfl dL_law_813 ?_
      refine g_iload_n (pc := 814) X 3 rfl dL_law_814 ?_
      refine g_iconst (v := 2) (pc := 815) X rfl dL_law_815 ?_
      refine g_iadd (pc := 816) X dL_law_816 ?_
      obtain ⟨c219, h⟩ := chk_e h
      refine g_sld (pc := 817) X hX hbl hbA c219 dL_law_817 ?_
      obtain ⟨r221, σ222, hc220, h⟩ := bd2_e h
      refine g_callV (pc := 818) X k_ml_L_96 (run_RC_move  hc220) s_0 rfl (room_law hZ (Nat.le_of_ble_eq_true rfl) (Nat.le_of_ble_eq_true rfl)) hzz _ rfl (Nat.le_of_ble_eq_true rfl) dL_law_818 ?_
      show Go V Γ M_L_law Z 821 [(0, .ref b), (1, .ref (V.2.2.1 + 0)), (2, .ref (V.2.2.1 + 92)), (3, .int x3)] [.int r221] σ222
      refine g_aload_n (pc := 821) X 2 rfl dL_law_821 ?_
      refine g_aload_n (pc := 822) X 0 rfl dL_law_822 ?_
      refine g_iload_n (pc := 823) X 3 rfl dL_law_823 ?_
      refine g_iconst (v := 1) (pc := 824) X rfl dL_law_824 ?_
      refine g_iadd (pc := 825) X dL_law_825 ?_
      obtain ⟨c223, h⟩ := chk_e h
      refine g_sld (pc := 826) X hX hbl hbA c223 dL_law_826 ?_
      refine g_aload_n (pc := 827) X 0 rfl dL_law_827 ?_
      refine g_iload_n (pc := 828) X 3 rfl dL_law_828 ?_
      refine g_iconst (v := 2) (pc := 829) X rfl dL_law_829 ?_
      refine g_iadd (pc := 830) X dL_law_830 ?_
      obtain ⟨c224, h⟩ := chk_e h
      refine g_sld (pc := 831) X hX hbl hbA c224 dL_law_831 ?_
      obtain ⟨r226, σ227, hc225, h⟩ := bd2_e h
      refine g_callV (pc := 832) X k_ml_L_99 (run_Mo_move  hc225) s_92 rfl (room_law hZ (Nat.le_of_ble_eq_true rfl) (Nat.le_of_ble_eq_true rfl)) hzz _ rfl (Nat.le_of_ble_eq_true rfl) dL_law_832 ?_
      show Go V Γ M_L_law Z 835 [(0, .ref b), (1, .ref (V.2.2.1 + 0)), (2, .ref (V.2.2.1 + 92)), (3, .int x3)] [.int r226, .int r221] σ227
      refine g_icmp_eq (pc := 835) (tgt := 1507) X dL_law_835 rfl (fun c229 => ?_) (fun c229 => ?_)
      · replace h := if_t c229 h
        obtain ⟨v228, e_v228, h⟩ := bnd_e h
        refine g_iinc (pc := 1507) (v := v228) X [(3, .int v228), (0, .ref b), (1, .ref (V.2.2.1 + 0)), (2, .ref (V.2.2.1 + 92))] 3 rfl (by rw [e_v228]; rfl) (Nat.le_of_ble_eq_true rfl) rfl dL_law_1507 ?_
        refine g_goto (pc := 1510) (tgt := 18) X dL_law_1510 rfl ?_
        refine g_sub [1, 2, 3, 0] rfl ?_
        cases h
        exact hb18 _ _ hA
      · replace h := if_f c229 h
        refine g_iconst (v := 0) (pc := 838) X rfl dL_law_838 ?_
        cases h
        exact absurd (hr _ hA) (by decide)
    replace h := if_f c230 h
    by_cases c241 : ((xs (tn x3)) &&& 63) = 19
    · replace h := if_t c241 h
      refine g_tabIn (pc := 33) (tgt := 840) X c241 dL_law_33 (by decide) (by decide) rfl rfl ?_
      refine g_aload_n (pc := 840) X 1 rfl dL_law_840 ?_
      refine g_aload_n (pc := 841) X 0 rfl dL_law_841 ?_
      refine g_iload_n (pc := 842) X 3 rfl dL_law_842 ?_
      refine g_iconst (v := 1) (pc := 843) X rfl dL_law_843 ?_
      refine g_iadd (pc := 844) X dL_law_844 ?_
      obtain ⟨c231, h⟩ := chk_e h
      refine g_sld (pc := 845) X hX hbl hbA c231 dL_law_845 ?_
      obtain ⟨r233, σ234, hc232, h⟩ := bd2_e h
      refine g_callV (pc := 846) X k_ml_L_100 (run_RC_shift  hc232) s_0 rfl (room_law hZ (Nat.le_of_ble_eq_true rfl) (Nat.le_of_ble_eq_true rfl)) hzz _ rfl (Nat.le_of_ble_eq_true rfl) dL_law_846 ?_
      show Go V Γ M_L_law Z 849 [(0, .ref b), (1, .ref (V.2.2.1 + 0)), (2, .ref (V.2.2.1 + 92)), (3, .int x3)] [.int r233] σ234
      refine g_aload_n (pc := 849) X 2 rfl dL_law_849 ?_
      refine g_aload_n (pc := 850) X 0 rfl dL_law_850 ?_
      refine g_iload_n (pc := 851) X 3 rfl dL_law_851 ?_
      refine g_iconst (v := 1) (pc := 852) X rfl dL_law_852 ?_
      refine g_iadd (pc := 853) X dL_law_853 ?_
      obtain ⟨c235, h⟩ := chk_e h
      refine g_sld (pc := 854) X hX hbl hbA c235 dL_law_854 ?_
      obtain ⟨r237, σ238, hc236, h⟩ := bd2_e h
      refine g_callV (pc := 855) X k_ml_L_104 (run_Mo_shift  hc236) s_92 rfl (room_law hZ (Nat.le_of_ble_eq_true rfl) (Nat.le_of_ble_eq_true rfl)) hzz _ rfl (Nat.le_of_ble_eq_true rfl) dL_law_855 ?_
      show Go V Γ M_L_law Z 858 [(0, .ref b), (1, .ref (V.2.2.1 + 0)), (2, .ref (V.2.2.1 + 92)), (3, .int x3)] [.int r237, .int r233] σ238
      refine g_icmp_eq (pc := 858) (tgt := 1507) X dL_law_858 rfl (fun c240 => ?_) (fun c240 => ?_)
      · replace h := if_t c240 h
        obtain ⟨v239, e_v239, h⟩ := bnd_e h
        refine g_iinc (pc := 1507) (v := v239) X [(3, .int v239), (0, .ref b), (1, .ref (V.2.2.1 + 0)), (2, .ref (V.2.2.1 + 92))] 3 rfl (by rw [e_v239]; rfl) (Nat.le_of_ble_eq_true rfl) rfl dL_law_1507 ?_
        refine g_goto (pc := 1510) (tgt := 18) X dL_law_1510 rfl ?_
        refine g_sub [1, 2, 3, 0] rfl ?_
        cases h
        exact hb18 _ _ hA
      · replace h := if_f c240 h
        refine g_iconst (v := 0) (pc := 861) X rfl dL_law_861 ?_
        cases h
        exact absurd (hr _ hA) (by decide)
    replace h := if_f c241 h
    by_cases c252 : ((xs (tn x3)) &&& 63) = 20
    · replace h := if_t c252 h
      refine g_tabIn (pc := 33) (tgt := 863) X c252 dL_law_33 (by decide) (by decide) rfl rfl ?_
      refine g_aload_n (pc := 863) X 1 rfl dL_law_863 ?_
      refine g_aload_n (pc := 864) X 0 rfl dL_law_864 ?_
      refine g_iload_n (pc := 865) X 3 rfl dL_law_865 ?_
      refine g_iconst (v := 1) (pc := 866) X rfl dL_law_866 ?_
      refine g_iadd (pc := 867) X dL_law_867 ?_
      obtain ⟨c242, h⟩ := chk_e h
      refine g_sld (pc := 868) X hX hbl hbA c242 dL_law_868 ?_
      obtain ⟨r244, σ245, hc243, h⟩ := bd2_e h
      refine g_callV (pc := 869) X k_ml_L_105 (run_RC_spread  hc243) s_0 rfl (room_law hZ (Nat.le_of_ble_eq_true rfl) (Nat.le_of_ble_eq_true rfl)) hzz _ rfl (Nat.le_of_ble_eq_true rfl) dL_law_869 ?_
      show Go V Γ M_L_law Z 872 [(0, .ref b), (1, .ref (V.2.2.1 + 0)), (2, .ref (V.2.2.1 + 92)), (3, .int x3)] [.int r244] σ245
      refine g_aload_n (pc := 872) X 2 rfl dL_law_872 ?_
      refine g_aload_n (pc := 873) X 0 rfl dL_law_873 ?_
      refine g_iload_n (pc := 874) X 3 rfl dL_law_874 ?_
      refine g_iconst (v := 1) (pc := 875) X rfl dL_law_875 ?_
      refine g_iadd (pc := 876) X dL_law_876 ?_
      obtain ⟨c246, h⟩ := chk_e h
      refine g_sld (pc := 877) X hX hbl hbA c246 dL_law_877 ?_
      obtain ⟨r248, σ249, hc247, h⟩ := bd2_e h
      refine g_callV (pc := 878) X k_ml_L_108 (run_Mo_spread  hc247) s_92 rfl (room_law hZ (Nat.le_of_ble_eq_true rfl) (Nat.le_of_ble_eq_true rfl)) hzz _ rfl (Nat.le_of_ble_eq_true rfl) dL_law_878 ?_
      show Go V Γ M_L_law Z 881 [(0, .ref b), (1, .ref (V.2.2.1 + 0)), (2, .ref (V.2.2.1 + 92)), (3, .int x3)] [.int r248, .int r244] σ249
      refine g_icmp_eq (pc := 881) (tgt := 1507) X dL_law_881 rfl (fun c251 => ?_) (fun c251 => ?_)
      · replace h := if_t c251 h
        obtain ⟨v250, e_v250, h⟩ := bnd_e h
        refine g_iinc (pc := 1507) (v := v250) X [(3, .int v250), (0, .ref b), (1, .ref (V.2.2.1 + 0)), (2, .ref (V.2.2.1 + 92))] 3 rfl (by rw [e_v250]; rfl) (Nat.le_of_ble_eq_true rfl) rfl dL_law_1507 ?_
        refine g_goto (pc := 1510) (tgt := 18) X dL_law_1510 rfl ?_
        refine g_sub [1, 2, 3, 0] rfl ?_
        cases h
        exact hb18 _ _ hA
      · replace h := if_f c251 h
        refine g_iconst (v := 0) (pc := 884) X rfl dL_law_884 ?_
        cases h
        exact absurd (hr _ hA) (by decide)
    replace h := if_f c252 h
    by_cases c265 : ((xs (tn x3)) &&& 63) = 21
    · replace h := if_t c265 h
      refine g_tabIn (pc := 33) (tgt := 886) X c265 dL_law_33 (by decide) (by decide) rfl rfl ?_
      refine g_aload_n (pc := 886) X 1 rfl dL_law_886 ?_
      refine g_aload_n (pc := 887) X 0 rfl dL_law_887 ?_
      refine g_iload_n (pc := 888) X 3 rfl dL_law_888 ?_
      refine g_iconst (v := 1) (pc := 889) X rfl dL_law_889 ?_
      refine g_iadd (pc := 890) X dL_law_890 ?_
      obtain ⟨c253, h⟩ := chk_e h
      refine g_sld (pc := 891) X hX hbl hbA c253 dL_law_891 ?_
      refine g_aload_n (pc := 892) X 0 rfl dL_law_892 ?_
      refine g_iload_n (pc := 893) X 3 rfl dL_law_893 ?_
      refine g_iconst (v := 2) (pc := 894) X rfl dL_law_894 ?_
      refine g_iadd (pc := 895) X dL_law_895 ?_
      obtain ⟨c254, h⟩ := chk_e h
      refine g_sld (pc := 896) X hX hbl hbA c254 dL_law_896 ?_
      obtain ⟨r256, σ257, hc255, h⟩ := bd2_e h
      refine g_callV (pc := 897) X k_ml_L_109 (run_RC_split  hc255) s_0 rfl (room_law hZ (Nat.le_of_ble_eq_true rfl) (Nat.le_of_ble_eq_true rfl)) hzz _ rfl (Nat.le_of_ble_eq_true rfl) dL_law_897 ?_
      show Go V Γ M_L_law Z 900 [(0, .ref b), (1, .ref (V.2.2.1 + 0)), (2, .ref (V.2.2.1 + 92)), (3, .int x3)] [.int r256] σ257
      refine g_aload_n (pc := 900) X 2 rfl dL_law_900 ?_
      refine g_aload_n (pc := 901) X 0 rfl dL_law_901 ?_
      refine g_iload_n (pc := 902) X 3 rfl dL_law_902 ?_
      refine g_iconst (v := 1) (pc := 903) X rfl dL_law_903 ?_
      refine g_iadd (pc := 904) X dL_law_904 ?_
      obtain ⟨c258, h⟩ := chk_e h
      refine g_sld (pc := 905) X hX hbl hbA c258 dL_law_905 ?_
      refine g_aload_n (pc := 906) X 0 rfl dL_law_906 ?_
      refine g_iload_n (pc := 907) X 3 rfl dL_law_907 ?_
      refine g_iconst (v := 2) (pc := 908) X rfl dL_law_908 ?_
      refine g_iadd (pc := 909) X dL_law_909 ?_
      obtain ⟨c259, h⟩ := chk_e h
      refine g_sld (pc := 910) X hX hbl hbA c259 dL_law_910 ?_
      obtain ⟨r261, σ262, hc260, h⟩ := bd2_e h
      refine g_callV (pc := 911) X k_ml_L_112 (run_Mo_split  hc260) s_92 rfl (room_law hZ (Nat.le_of_ble_eq_true rfl) (Nat.le_of_ble_eq_true rfl)) hzz _ rfl (Nat.le_of_ble_eq_true rfl) dL_law_911 ?_
      show Go V Γ M_L_law Z 914 [(0, .ref b), (1, .ref (V.2.2.1 + 0)), (2, .ref (V.2.2.1 + 92)), (3, .int x3)] [.int r261, .int r256] σ262
      refine g_icmp_eq (pc := 914) (tgt := 1507) X dL_law_914 rfl (fun c264 => ?_) (fun c264 => ?_)
      · replace h := if_t c264 h
        obtain ⟨v263, e_v263, h⟩ := bnd_e h
        refine g_iinc (pc := 1507) (v := v263) X [(3, .int v263), (0, .ref b), (1, .ref (V.2.2.1 + 0)), (2, .ref (V.2.2.1 + 92))] 3 rfl (by rw [e_v263]; rfl) (Nat.le_of_ble_eq_true rfl) rfl dL_law_1507 ?_
        refine g_goto (pc := 1510) (tgt := 18) X dL_law_1510 rfl ?_
        refine g_sub [1, 2, 3, 0] rfl ?_
        cases h
        exact hb18 _ _ hA
      · replace h := if_f c264 h
        refine g_iconst (v := 0) (pc := 917) X rfl dL_law_917 ?_
        cases h
        exact absurd (hr _ hA) (by decide)
    replace h := if_f c265 h
    by_cases c278 : ((xs (tn x3)) &&& 63) = 22
    · replace h := if_t c278 h
      refine g_tabIn (pc := 33) (tgt := 919) X c278 dL_law_33 (by decide) (by decide) rfl rfl ?_
      refine g_aload_n (pc := 919) X 1 rfl dL_law_919 ?_
      refine g_aload_n (pc := 920) X 0 rfl dL_law_920 ?_
      refine g_iload_n (pc := 921) X 3 rfl dL_law_921 ?_
      refine g_iconst (v := 1) (pc := 922) X rfl dL_law_922 ?_
      refine g_iadd (pc := 923) X dL_law_923 ?_
      obtain ⟨c266, h⟩ := chk_e h
      refine g_sld (pc := 924) X hX hbl hbA c266 dL_law_924 ?_
      refine g_aload_n (pc := 925) X 0 rfl dL_law_925 ?_
      refine g_iload_n (pc := 926) X 3 rfl dL_law_926 ?_
      refine g_iconst (v := 2) (pc := 927) X rfl dL_law_927 ?_
      refine g_iadd (pc := 928) X dL_law_928 ?_
      obtain ⟨c267, h⟩ := chk_e h
      refine g_sld (pc := 929) X hX hbl hbA c267 dL_law_929 ?_
      obtain ⟨r269, σ270, hc268, h⟩ := bd2_e h
      refine g_callV (pc := 930) X k_ml_L_113 (run_RC_join  hc268) s_0 rfl (room_law hZ (Nat.le_of_ble_eq_true rfl) (Nat.le_of_ble_eq_true rfl)) hzz _ rfl (Nat.le_of_ble_eq_true rfl) dL_law_930 ?_
      show Go V Γ M_L_law Z 933 [(0, .ref b), (1, .ref (V.2.2.1 + 0)), (2, .ref (V.2.2.1 + 92)), (3, .int x3)] [.int r269] σ270
      refine g_aload_n (pc := 933) X 2 rfl dL_law_933 ?_
      refine g_aload_n (pc := 934) X 0 rfl dL_law_934 ?_
      refine g_iload_n (pc := 935) X 3 rfl dL_law_935 ?_
      refine g_iconst (v := 1) (pc := 936) X rfl dL_law_936 ?_
      refine g_iadd (pc := 937) X dL_law_937 ?_
      obtain ⟨c271, h⟩ := chk_e h
      refine g_sld (pc := 938) X hX hbl hbA c271 dL_law_938 ?_
      refine g_aload_n (pc := 939) X 0 rfl dL_law_939 ?_
      refine g_iload_n (pc := 940) X 3 rfl dL_law_940 ?_
      refine g_iconst (v := 2) (pc := 941) X rfl dL_law_941 ?_
      refine g_iadd (pc := 942) X dL_law_942 ?_
      obtain ⟨c272, h⟩ := chk_e h
      refine g_sld (pc := 943) X hX hbl hbA c272 dL_law_943 ?_
      obtain ⟨r274, σ275, hc273, h⟩ := bd2_e h
      refine g_callV (pc := 944) X k_ml_L_116 (run_Mo_join  hc273) s_92 rfl (room_law hZ (Nat.le_of_ble_eq_true rfl) (Nat.le_of_ble_eq_true rfl)) hzz _ rfl (Nat.le_of_ble_eq_true rfl) dL_law_944 ?_
      show Go V Γ M_L_law Z 947 [(0, .ref b), (1, .ref (V.2.2.1 + 0)), (2, .ref (V.2.2.1 + 92)), (3, .int x3)] [.int r274, .int r269] σ275
      refine g_icmp_eq (pc := 947) (tgt := 1507) X dL_law_947 rfl (fun c277 => ?_) (fun c277 => ?_)
      · replace h := if_t c277 h
        obtain ⟨v276, e_v276, h⟩ := bnd_e h
        refine g_iinc (pc := 1507) (v := v276) X [(3, .int v276), (0, .ref b), (1, .ref (V.2.2.1 + 0)), (2, .ref (V.2.2.1 + 92))] 3 rfl (by rw [e_v276]; rfl) (Nat.le_of_ble_eq_true rfl) rfl dL_law_1507 ?_
        refine g_goto (pc := 1510) (tgt := 18) X dL_law_1510 rfl ?_
        refine g_sub [1, 2, 3, 0] rfl ?_
        cases h
        exact hb18 _ _ hA
      · replace h := if_f c277 h
        refine g_iconst (v := 0) (pc := 950) X rfl dL_law_950 ?_
        cases h
        exact absurd (hr _ hA) (by decide)
    replace h := if_f c278 h
    by_cases c289 : ((xs (tn x3)) &&& 63) = 23
    · replace h := if_t c289 h
      refine g_tabIn (pc := 33) (tgt := 952) X c289 dL_law_33 (by decide) (by decide) rfl rfl ?_
      refine g_aload_n (pc := 952) X 1 rfl dL_law_952 ?_
      refine g_aload_n (pc := 953) X 0 rfl dL_law_953 ?_
      refine g_iload_n (pc := 954) X 3 rfl dL_law_954 ?_
      refine g_iconst (v := 1) (pc := 955) X rfl dL_law_955 ?_
      refine g_iadd (pc := 956) X dL_law_956 ?_
      obtain ⟨c279, h⟩ := chk_e h
      refine g_sld (pc := 957) X hX hbl hbA c279 dL_law_957 ?_
      obtain ⟨r281, σ282, hc280, h⟩ := bd2_e h
      refine g_callV (pc := 958) X k_ml_L_117 (run_RC_rule  hc280) s_0 rfl (room_law hZ (Nat.le_of_ble_eq_true rfl) (Nat.le_of_ble_eq_true rfl)) hzz _ rfl (Nat.le_of_ble_eq_true rfl) dL_law_958 ?_
      show Go V Γ M_L_law Z 961 [(0, .ref b), (1, .ref (V.2.2.1 + 0)), (2, .ref (V.2.2.1 + 92)), (3, .int x3)] [.int r281] σ282
      refine g_aload_n (pc := 961) X 2 rfl dL_law_961 ?_
      refine g_aload_n (pc := 962) X 0 rfl dL_law_962 ?_
      refine g_iload_n (pc := 963) X 3 rfl dL_law_963 ?_
      refine g_iconst (v := 1) (pc := 964) X rfl dL_law_964 ?_
      refine g_iadd (pc := 965) X dL_law_965 ?_
      obtain ⟨c283, h⟩ := chk_e h
      refine g_sld (pc := 966) X hX hbl hbA c283 dL_law_966 ?_
      obtain ⟨r285, σ286, hc284, h⟩ := bd2_e h
      refine g_callV (pc := 967) X k_ml_L_120 (run_Mo_rule  hc284) s_92 rfl (room_law hZ (Nat.le_of_ble_eq_true rfl) (Nat.le_of_ble_eq_true rfl)) hzz _ rfl (Nat.le_of_ble_eq_true rfl) dL_law_967 ?_
      show Go V Γ M_L_law Z 970 [(0, .ref b), (1, .ref (V.2.2.1 + 0)), (2, .ref (V.2.2.1 + 92)), (3, .int x3)] [.int r285, .int r281] σ286
      refine g_icmp_eq (pc := 970) (tgt := 1507) X dL_law_970 rfl (fun c288 => ?_) (fun c288 => ?_)
      · replace h := if_t c288 h
        obtain ⟨v287, e_v287, h⟩ := bnd_e h
        refine g_iinc (pc := 1507) (v := v287) X [(3, .int v287), (0, .ref b), (1, .ref (V.2.2.1 + 0)), (2, .ref (V.2.2.1 + 92))] 3 rfl (by rw [e_v287]; rfl) (Nat.le_of_ble_eq_true rfl) rfl dL_law_1507 ?_
        refine g_goto (pc := 1510) (tgt := 18) X dL_law_1510 rfl ?_
        refine g_sub [1, 2, 3, 0] rfl ?_
        cases h
        exact hb18 _ _ hA
      · replace h := if_f c288 h
        refine g_iconst (v := 0) (pc := 973) X rfl dL_law_973 ?_
        cases h
        exact absurd (hr _ hA) (by decide)
    replace h := if_f c289 h
    by_cases c300 : ((xs (tn x3)) &&& 63) = 24
    · replace h := if_t c300 h
      refine g_tabIn (pc := 33) (tgt := 975) X c300 dL_law_33 (by decide) (by decide) rfl rfl ?_
      refine g_aload_n (pc := 975) X 1 rfl dL_law_975 ?_
      refine g_aload_n (pc := 976) X 0 rfl dL_law_976 ?_
      refine g_iload_n (pc := 977) X 3 rfl dL_law_977 ?_
      refine g_iconst (v := 1) (pc := 978) X rfl dL_law_978 ?_
      refine g_iadd (pc := 979) X dL_law_979 ?_
      obtain ⟨c290, h⟩ := chk_e h
      refine g_sld (pc := 980) X hX hbl hbA c290 dL_law_980 ?_
      obtain ⟨r292, σ293, hc291, h⟩ := bd2_e h
      refine g_callV (pc := 981) X k_ml_L_121 (run_RC_gapAt  hc291) s_0 rfl (room_law hZ (Nat.le_of_ble_eq_true rfl) (Nat.le_of_ble_eq_true rfl)) hzz _ rfl (Nat.le_of_ble_eq_true rfl) dL_law_981 ?_
      show Go V Γ M_L_law Z 984 [(0, .ref b), (1, .ref (V.2.2.1 + 0)), (2, .ref (V.2.2.1 + 92)), (3, .int x3)] [.int r292] σ293
      refine g_aload_n (pc := 984) X 2 rfl dL_law_984 ?_
      refine g_aload_n (pc := 985) X 0 rfl dL_law_985 ?_
      refine g_iload_n (pc := 986) X 3 rfl dL_law_986 ?_
      refine g_iconst (v := 1) (pc := 987) X rfl dL_law_987 ?_
      refine g_iadd (pc := 988) X dL_law_988 ?_
      obtain ⟨c294, h⟩ := chk_e h
      refine g_sld (pc := 989) X hX hbl hbA c294 dL_law_989 ?_
      obtain ⟨r296, σ297, hc295, h⟩ := bd2_e h
      refine g_callV (pc := 990) X k_ml_L_124 (run_Mo_gapAt  hc295) s_92 rfl (room_law hZ (Nat.le_of_ble_eq_true rfl) (Nat.le_of_ble_eq_true rfl)) hzz _ rfl (Nat.le_of_ble_eq_true rfl) dL_law_990 ?_
      show Go V Γ M_L_law Z 993 [(0, .ref b), (1, .ref (V.2.2.1 + 0)), (2, .ref (V.2.2.1 + 92)), (3, .int x3)] [.int r296, .int r292] σ297
      refine g_icmp_eq (pc := 993) (tgt := 1507) X dL_law_993 rfl (fun c299 => ?_) (fun c299 => ?_)
      · replace h := if_t c299 h
        obtain ⟨v298, e_v298, h⟩ := bnd_e h
        refine g_iinc (pc := 1507) (v := v298) X [(3, .int v298), (0, .ref b), (1, .ref (V.2.2.1 + 0)), (2, .ref (V.2.2.1 + 92))] 3 rfl (by rw [e_v298]; rfl) (Nat.le_of_ble_eq_true rfl) rfl dL_law_1507 ?_
        refine g_goto (pc := 1510) (tgt := 18) X dL_law_1510 rfl ?_
        refine g_sub [1, 2, 3, 0] rfl ?_
        cases h
        exact hb18 _ _ hA
      · replace h := if_f c299 h
        refine g_iconst (v := 0) (pc := 996) X rfl dL_law_996 ?_
        cases h
        exact absurd (hr _ hA) (by decide)
    replace h := if_f c300 h
    by_cases c309 : ((xs (tn x3)) &&& 63) = 25
    · replace h := if_t c309 h
      refine g_tabIn (pc := 33) (tgt := 998) X c309 dL_law_33 (by decide) (by decide) rfl rfl ?_
      refine g_aload_n (pc := 998) X 1 rfl dL_law_998 ?_
      obtain ⟨r302, σ303, hc301, h⟩ := bd2_e h
      refine g_callV (pc := 999) X k_ml_L_125 (run_RC_gaps  hc301) s_0 rfl (room_law hZ (Nat.le_of_ble_eq_true rfl) (Nat.le_of_ble_eq_true rfl)) hzz _ rfl (Nat.le_of_ble_eq_true rfl) dL_law_999 ?_
      show Go V Γ M_L_law Z 1002 [(0, .ref b), (1, .ref (V.2.2.1 + 0)), (2, .ref (V.2.2.1 + 92)), (3, .int x3)] [.int r302] σ303
      refine g_aload_n (pc := 1002) X 2 rfl dL_law_1002 ?_
      obtain ⟨r305, σ306, hc304, h⟩ := bd2_e h
      refine g_callV (pc := 1003) X k_ml_L_129 (run_Mo_gaps  hc304) s_92 rfl (room_law hZ (Nat.le_of_ble_eq_true rfl) (Nat.le_of_ble_eq_true rfl)) hzz _ rfl (Nat.le_of_ble_eq_true rfl) dL_law_1003 ?_
      show Go V Γ M_L_law Z 1006 [(0, .ref b), (1, .ref (V.2.2.1 + 0)), (2, .ref (V.2.2.1 + 92)), (3, .int x3)] [.int r305, .int r302] σ306
      refine g_icmp_eq (pc := 1006) (tgt := 1507) X dL_law_1006 rfl (fun c308 => ?_) (fun c308 => ?_)
      · replace h := if_t c308 h
        obtain ⟨v307, e_v307, h⟩ := bnd_e h
        refine g_iinc (pc := 1507) (v := v307) X [(3, .int v307), (0, .ref b), (1, .ref (V.2.2.1 + 0)), (2, .ref (V.2.2.1 + 92))] 3 rfl (by rw [e_v307]; rfl) (Nat.le_of_ble_eq_true rfl) rfl dL_law_1507 ?_
        refine g_goto (pc := 1510) (tgt := 18) X dL_law_1510 rfl ?_
        refine g_sub [1, 2, 3, 0] rfl ?_
        cases h
        exact hb18 _ _ hA
      · replace h := if_f c308 h
        refine g_iconst (v := 0) (pc := 1009) X rfl dL_law_1009 ?_
        cases h
        exact absurd (hr _ hA) (by decide)
    replace h := if_f c309 h
    by_cases c318 : ((xs (tn x3)) &&& 63) = 26
    · replace h := if_t c318 h
      refine g_tabIn (pc := 33) (tgt := 1011) X c318 dL_law_33 (by decide) (by decide) rfl rfl ?_
      refine g_aload_n (pc := 1011) X 1 rfl dL_law_1011 ?_
      obtain ⟨r311, σ312, hc310, h⟩ := bd2_e h
      refine g_callV (pc := 1012) X k_ml_L_130 (run_RC_weight  hc310) s_0 rfl (room_law hZ (Nat.le_of_ble_eq_true rfl) (Nat.le_of_ble_eq_true rfl)) hzz _ rfl (Nat.le_of_ble_eq_true rfl) dL_law_1012 ?_
      show Go V Γ M_L_law Z 1015 [(0, .ref b), (1, .ref (V.2.2.1 + 0)), (2, .ref (V.2.2.1 + 92)), (3, .int x3)] [.int r311] σ312
      refine g_aload_n (pc := 1015) X 2 rfl dL_law_1015 ?_
      obtain ⟨r314, σ315, hc313, h⟩ := bd2_e h
      refine g_callV (pc := 1016) X k_ml_L_133 (run_Mo_weight  hc313) s_92 rfl (room_law hZ (Nat.le_of_ble_eq_true rfl) (Nat.le_of_ble_eq_true rfl)) hzz _ rfl (Nat.le_of_ble_eq_true rfl) dL_law_1016 ?_
      show Go V Γ M_L_law Z 1019 [(0, .ref b), (1, .ref (V.2.2.1 + 0)), (2, .ref (V.2.2.1 + 92)), (3, .int x3)] [.int r314, .int r311] σ315
      refine g_icmp_eq (pc := 1019) (tgt := 1507) X dL_law_1019 rfl (fun c317 => ?_) (fun c317 => ?_)
      · replace h := if_t c317 h
        obtain ⟨v316, e_v316, h⟩ := bnd_e h
        refine g_iinc (pc := 1507) (v := v316) X [(3, .int v316), (0, .ref b), (1, .ref (V.2.2.1 + 0)), (2, .ref (V.2.2.1 + 92))] 3 rfl (by rw [e_v316]; rfl) (Nat.le_of_ble_eq_true rfl) rfl dL_law_1507 ?_
        refine g_goto (pc := 1510) (tgt := 18) X dL_law_1510 rfl ?_
        refine g_sub [1, 2, 3, 0] rfl ?_
        cases h
        exact hb18 _ _ hA
      · replace h := if_f c317 h
        refine g_iconst (v := 0) (pc := 1022) X rfl dL_law_1022 ?_
        cases h
        exact absurd (hr _ hA) (by decide)
    replace h := if_f c318 h
    by_cases c329 : ((xs (tn x3)) &&& 63) = 27
    · replace h := if_t c329 h
      refine g_tabIn (pc := 33) (tgt := 1024) X c329 dL_law_33 (by decide) (by decide) rfl rfl ?_
      refine g_aload_n (pc := 1024) X 1 rfl dL_law_1024 ?_
      refine g_aload_n (pc := 1025) X 0 rfl dL_law_1025 ?_
      refine g_iload_n (pc := 1026) X 3 rfl dL_law_1026 ?_
      refine g_iconst (v := 1) (pc := 1027) X rfl dL_law_1027 ?_
      refine g_iadd (pc := 1028) X dL_law_1028 ?_
      obtain ⟨c319, h⟩ := chk_e h
      refine g_sld (pc := 1029) X hX hbl hbA c319 dL_law_1029 ?_
      obtain ⟨r321, σ322, hc320, h⟩ := bd2_e h
      refine g_callV (pc := 1030) X k_ml_L_134 (run_RC_alone  hc320) s_0 rfl (room_law hZ (Nat.le_of_ble_eq_true rfl) (Nat.le_of_ble_eq_true rfl)) hzz _ rfl (Nat.le_of_ble_eq_true rfl) dL_law_1030 ?_
      show Go V Γ M_L_law Z 1033 [(0, .ref b), (1, .ref (V.2.2.1 + 0)), (2, .ref (V.2.2.1 + 92)), (3, .int x3)] [.int r321] σ322
      refine g_aload_n (pc := 1033) X 2 rfl dL_law_1033 ?_
      refine g_aload_n (pc := 1034) X 0 rfl dL_law_1034 ?_
      refine g_iload_n (pc := 1035) X 3 rfl dL_law_1035 ?_
      refine g_iconst (v := 1) (pc := 1036) X rfl dL_law_1036 ?_
      refine g_iadd (pc := 1037) X dL_law_1037 ?_
      obtain ⟨c323, h⟩ := chk_e h
      refine g_sld (pc := 1038) X hX hbl hbA c323 dL_law_1038 ?_
      obtain ⟨r325, σ326, hc324, h⟩ := bd2_e h
      refine g_callV (pc := 1039) X k_ml_L_137 (run_Mo_alone  hc324) s_92 rfl (room_law hZ (Nat.le_of_ble_eq_true rfl) (Nat.le_of_ble_eq_true rfl)) hzz _ rfl (Nat.le_of_ble_eq_true rfl) dL_law_1039 ?_
      show Go V Γ M_L_law Z 1042 [(0, .ref b), (1, .ref (V.2.2.1 + 0)), (2, .ref (V.2.2.1 + 92)), (3, .int x3)] [.int r325, .int r321] σ326
      refine g_icmp_eq (pc := 1042) (tgt := 1507) X dL_law_1042 rfl (fun c328 => ?_) (fun c328 => ?_)
      · replace h := if_t c328 h
        obtain ⟨v327, e_v327, h⟩ := bnd_e h
        refine g_iinc (pc := 1507) (v := v327) X [(3, .int v327), (0, .ref b), (1, .ref (V.2.2.1 + 0)), (2, .ref (V.2.2.1 + 92))] 3 rfl (by rw [e_v327]; rfl) (Nat.le_of_ble_eq_true rfl) rfl dL_law_1507 ?_
        refine g_goto (pc := 1510) (tgt := 18) X dL_law_1510 rfl ?_
        refine g_sub [1, 2, 3, 0] rfl ?_
        cases h
        exact hb18 _ _ hA
      · replace h := if_f c328 h
        refine g_iconst (v := 0) (pc := 1045) X rfl dL_law_1045 ?_
        cases h
        exact absurd (hr _ hA) (by decide)
    replace h := if_f c329 h
    by_cases c338 : ((xs (tn x3)) &&& 63) = 28
    · replace h := if_t c338 h
      refine g_tabIn (pc := 33) (tgt := 1047) X c338 dL_law_33 (by decide) (by decide) rfl rfl ?_
      refine g_aload_n (pc := 1047) X 1 rfl dL_law_1047 ?_
      obtain ⟨r331, σ332, hc330, h⟩ := bd2_e h
      refine g_callV (pc := 1048) X k_ml_L_138 (run_RC_needless  hc330) s_0 rfl (room_law hZ (Nat.le_of_ble_eq_true rfl) (Nat.le_of_ble_eq_true rfl)) hzz _ rfl (Nat.le_of_ble_eq_true rfl) dL_law_1048 ?_
      show Go V Γ M_L_law Z 1051 [(0, .ref b), (1, .ref (V.2.2.1 + 0)), (2, .ref (V.2.2.1 + 92)), (3, .int x3)] [.int r331] σ332
      refine g_aload_n (pc := 1051) X 2 rfl dL_law_1051 ?_
      obtain ⟨r334, σ335, hc333, h⟩ := bd2_e h
      refine g_callV (pc := 1052) X k_ml_L_141 (run_Mo_needless  hc333) s_92 rfl (room_law hZ (Nat.le_of_ble_eq_true rfl) (Nat.le_of_ble_eq_true rfl)) hzz _ rfl (Nat.le_of_ble_eq_true rfl) dL_law_1052 ?_
      show Go V Γ M_L_law Z 1055 [(0, .ref b), (1, .ref (V.2.2.1 + 0)), (2, .ref (V.2.2.1 + 92)), (3, .int x3)] [.int r334, .int r331] σ335
      refine g_icmp_eq (pc := 1055) (tgt := 1507) X dL_law_1055 rfl (fun c337 => ?_) (fun c337 => ?_)
      · replace h := if_t c337 h
        obtain ⟨v336, e_v336, h⟩ := bnd_e h
        refine g_iinc (pc := 1507) (v := v336) X [(3, .int v336), (0, .ref b), (1, .ref (V.2.2.1 + 0)), (2, .ref (V.2.2.1 + 92))] 3 rfl (by rw [e_v336]; rfl) (Nat.le_of_ble_eq_true rfl) rfl dL_law_1507 ?_
        refine g_goto (pc := 1510) (tgt := 18) X dL_law_1510 rfl ?_
        refine g_sub [1, 2, 3, 0] rfl ?_
        cases h
        exact hb18 _ _ hA
      · replace h := if_f c337 h
        refine g_iconst (v := 0) (pc := 1058) X rfl dL_law_1058 ?_
        cases h
        exact absurd (hr _ hA) (by decide)
    replace h := if_f c338 h
    by_cases c347 : ((xs (tn x3)) &&& 63) = 29
    · replace h := if_t c347 h
      refine g_tabIn (pc := 33) (tgt := 1060) X c347 dL_law_33 (by decide) (by decide) rfl rfl ?_
      refine g_aload_n (pc := 1060) X 1 rfl dL_law_1060 ?_
      obtain ⟨r340, σ341, hc339, h⟩ := bd2_e h
      refine g_callV (pc := 1061) X k_ml_L_142 (run_RC_fewest  hc339) s_0 rfl (room_law hZ (Nat.le_of_ble_eq_true rfl) (Nat.le_of_ble_eq_true rfl)) hzz _ rfl (Nat.le_of_ble_eq_true rfl) dL_law_1061 ?_
      show Go V Γ M_L_law Z 1064 [(0, .ref b), (1, .ref (V.2.2.1 + 0)), (2, .ref (V.2.2.1 + 92)), (3, .int x3)] [.int r340] σ341
      refine g_aload_n (pc := 1064) X 2 rfl dL_law_1064 ?_
      obtain ⟨r343, σ344, hc342, h⟩ := bd2_e h
      refine g_callV (pc := 1065) X k_ml_L_145 (run_Mo_fewest  hc342) s_92 rfl (room_law hZ (Nat.le_of_ble_eq_true rfl) (Nat.le_of_ble_eq_true rfl)) hzz _ rfl (Nat.le_of_ble_eq_true rfl) dL_law_1065 ?_
      show Go V Γ M_L_law Z 1068 [(0, .ref b), (1, .ref (V.2.2.1 + 0)), (2, .ref (V.2.2.1 + 92)), (3, .int x3)] [.int r343, .int r340] σ344
      refine g_icmp_eq (pc := 1068) (tgt := 1507) X dL_law_1068 rfl (fun c346 => ?_) (fun c346 => ?_)
      · replace h := if_t c346 h
        obtain ⟨v345, e_v345, h⟩ := bnd_e h
        refine g_iinc (pc := 1507) (v := v345) X [(3, .int v345), (0, .ref b), (1, .ref (V.2.2.1 + 0)), (2, .ref (V.2.2.1 + 92))] 3 rfl (by rw [e_v345]; rfl) (Nat.le_of_ble_eq_true rfl) rfl dL_law_1507 ?_
        refine g_goto (pc := 1510) (tgt := 18) X dL_law_1510 rfl ?_
        refine g_sub [1, 2, 3, 0] rfl ?_
        cases h
        exact hb18 _ _ hA
      · replace h := if_f c346 h
        refine g_iconst (v := 0) (pc := 1071) X rfl dL_law_1071 ?_
        cases h
        exact absurd (hr _ hA) (by decide)
    replace h := if_f c347 h
    by_cases c356 : ((xs (tn x3)) &&& 63) = 30
    · replace h := if_t c356 h
      refine g_tabIn (pc := 33) (tgt := 1073) X c356 dL_law_33 (by decide) (by decide) rfl rfl ?_
      refine g_aload_n (pc := 1073) X 1 rfl dL_law_1073 ?_
      obtain ⟨r349, σ350, hc348, h⟩ := bd2_e h
      refine g_callV (pc := 1074) X k_ml_L_146 (run_RC_fewestSet  hc348) s_0 rfl (room_law hZ (Nat.le_of_ble_eq_true rfl) (Nat.le_of_ble_eq_true rfl)) hzz _ rfl (Nat.le_of_ble_eq_true rfl) dL_law_1074 ?_
      show Go V Γ M_L_law Z 1077 [(0, .ref b), (1, .ref (V.2.2.1 + 0)), (2, .ref (V.2.2.1 + 92)), (3, .int x3)] [.int r349] σ350
      refine g_aload_n (pc := 1077) X 2 rfl dL_law_1077 ?_
      obtain ⟨r352, σ353, hc351, h⟩ := bd2_e h
      refine g_callV (pc := 1078) X k_ml_L_149 (run_Mo_fewestSet  hc351) s_92 rfl (room_law hZ (Nat.le_of_ble_eq_true rfl) (Nat.le_of_ble_eq_true rfl)) hzz _ rfl (Nat.le_of_ble_eq_true rfl) dL_law_1078 ?_
      show Go V Γ M_L_law Z 1081 [(0, .ref b), (1, .ref (V.2.2.1 + 0)), (2, .ref (V.2.2.1 + 92)), (3, .int x3)] [.int r352, .int r349] σ353
      refine g_icmp_eq (pc := 1081) (tgt := 1507) X dL_law_1081 rfl (fun c355 => ?_) (fun c355 => ?_)
      · replace h := if_t c355 h
        obtain ⟨v354, e_v354, h⟩ := bnd_e h
        refine g_iinc (pc := 1507) (v := v354) X [(3, .int v354), (0, .ref b), (1, .ref (V.2.2.1 + 0)), (2, .ref (V.2.2.1 + 92))] 3 rfl (by rw [e_v354]; rfl) (Nat.le_of_ble_eq_true rfl) rfl dL_law_1507 ?_
        refine g_goto (pc := 1510) (tgt := 18) X dL_law_1510 rfl ?_
        refine g_sub [1, 2, 3, 0] rfl ?_
        cases h
        exact hb18 _ _ hA
      · replace h := if_f c355 h
        refine g_iconst (v := 0) (pc := 1084) X rfl dL_law_1084 ?_
        cases h
        exact absurd (hr _ hA) (by decide)
    replace h := if_f c356 h
    by_cases c369 : ((xs (tn x3)) &&& 63) = 31
    · replace h := if_t c369 h
      refine g_tabIn (pc := 33) (tgt := 1086) X c369 dL_law_33 (by decide) (by decide) rfl rfl ?_
      refine g_aload_n (pc := 1086) X 1 rfl dL_law_1086 ?_
      refine g_aload_n (pc := 1087) X 0 rfl dL_law_1087 ?_
      refine g_iload_n (pc := 1088) X 3 rfl dL_law_1088 ?_
      refine g_iconst (v := 1) (pc := 1089) X rfl dL_law_1089 ?_
      refine g_iadd (pc := 1090) X dL_law_1090 ?_
      obtain ⟨c357, h⟩ := chk_e h
      refine g_sld (pc := 1091) X hX hbl hbA c357 dL_law_1091 ?_
      refine g_aload_n (pc := 1092) X 0 rfl dL_law_1092 ?_
      refine g_iload_n (pc := 1093) X 3 rfl dL_law_1093 ?_
      refine g_iconst (v := 2) (pc := 1094) X rfl dL_law_1094 ?_
      refine g_iadd (pc := 1095) X dL_law_1095 ?_
      obtain ⟨c358, h⟩ := chk_e h
      refine g_sld (pc := 1096) X hX hbl hbA c358 dL_law_1096 ?_
      obtain ⟨r360, σ361, hc359, h⟩ := bd2_e h
      refine g_callV (pc := 1097) X k_ml_L_150 (run_RC_meet  hc359) s_0 rfl (room_law hZ (Nat.le_of_ble_eq_true rfl) (Nat.le_of_ble_eq_true rfl)) hzz _ rfl (Nat.le_of_ble_eq_true rfl) dL_law_1097 ?_
      show Go V Γ M_L_law Z 1100 [(0, .ref b), (1, .ref (V.2.2.1 + 0)), (2, .ref (V.2.2.1 + 92)), (3, .int x3)] [.int r360] σ361
      refine g_aload_n (pc := 1100) X 2 rfl dL_law_1100 ?_
      refine g_aload_n (pc := 1101) X 0 rfl dL_law_1101 ?_
      refine g_iload_n (pc := 1102) X 3 rfl dL_law_1102 ?_
      refine g_iconst (v := 1) (pc := 1103) X rfl dL_law_1103 ?_
      refine g_iadd (pc := 1104) X dL_law_1104 ?_
      obtain ⟨c362, h⟩ := chk_e h
      refine g_sld (pc := 1105) X hX hbl hbA c362 dL_law_1105 ?_
      refine g_aload_n (pc := 1106) X 0 rfl dL_law_1106 ?_
      refine g_iload_n (pc := 1107) X 3 rfl dL_law_1107 ?_
      refine g_iconst (v := 2) (pc := 1108) X rfl dL_law_1108 ?_
      refine g_iadd (pc := 1109) X dL_law_1109 ?_
      obtain ⟨c363, h⟩ := chk_e h
      refine g_sld (pc := 1110) X hX hbl hbA c363 dL_law_1110 ?_
      obtain ⟨r365, σ366, hc364, h⟩ := bd2_e h
      refine g_callV (pc := 1111) X k_ml_L_153 (run_Mo_meet  hc364) s_92 rfl (room_law hZ (Nat.le_of_ble_eq_true rfl) (Nat.le_of_ble_eq_true rfl)) hzz _ rfl (Nat.le_of_ble_eq_true rfl) dL_law_1111 ?_
      show Go V Γ M_L_law Z 1114 [(0, .ref b), (1, .ref (V.2.2.1 + 0)), (2, .ref (V.2.2.1 + 92)), (3, .int x3)] [.int r365, .int r360] σ366
      refine g_icmp_eq (pc := 1114) (tgt := 1507) X dL_law_1114 rfl (fun c368 => ?_) (fun c368 => ?_)
      · replace h := if_t c368 h
        obtain ⟨v367, e_v367, h⟩ := bnd_e h
        refine g_iinc (pc := 1507) (v := v367) X [(3, .int v367), (0, .ref b), (1, .ref (V.2.2.1 + 0)), (2, .ref (V.2.2.1 + 92))] 3 rfl (by rw [e_v367]; rfl) (Nat.le_of_ble_eq_true rfl) rfl dL_law_1507 ?_
        refine g_goto (pc := 1510) (tgt := 18) X dL_law_1510 rfl ?_
        refine g_sub [1, 2, 3, 0] rfl ?_
        cases h
        exact hb18 _ _ hA
      · replace h := if_f c368 h
        refine g_iconst (v := 0) (pc := 1117) X rfl dL_law_1117 ?_
        cases h
        exact absurd (hr _ hA) (by decide)
    replace h := if_f c369 h
    by_cases c378 : ((xs (tn x3)) &&& 63) = 32
    · replace h := if_t c378 h
      refine g_tabIn (pc := 33) (tgt := 1119) X c378 dL_law_33 (by decide) (by decide) rfl rfl ?_
      refine g_aload_n (pc := 1119) X 1 rfl dL_law_1119 ?_
      obtain ⟨r371, σ372, hc370, h⟩ := bd2_e h
      refine g_callV (pc := 1120) X k_ml_L_154 (run_RC_thick  hc370) s_0 rfl (room_law hZ (Nat.le_of_ble_eq_true rfl) (Nat.le_of_ble_eq_true rfl)) hzz _ rfl (Nat.le_of_ble_eq_true rfl) dL_law_1120 ?_
      show Go V Γ M_L_law Z 1123 [(0, .ref b), (1, .ref (V.2.2.1 + 0)), (2, .ref (V.2.2.1 + 92)), (3, .int x3)] [.int r371] σ372
      refine g_aload_n (pc := 1123) X 2 rfl dL_law_1123 ?_
      obtain ⟨r374, σ375, hc373, h⟩ := bd2_e h
      refine g_callV (pc := 1124) X k_ml_L_157 (run_Mo_thick  hc373) s_92 rfl (room_law hZ (Nat.le_of_ble_eq_true rfl) (Nat.le_of_ble_eq_true rfl)) hzz _ rfl (Nat.le_of_ble_eq_true rfl) dL_law_1124 ?_
      show Go V Γ M_L_law Z 1127 [(0, .ref b), (1, .ref (V.2.2.1 + 0)), (2, .ref (V.2.2.1 + 92)), (3, .int x3)] [.int r374, .int r371] σ375
      refine g_icmp_eq (pc := 1127) (tgt := 1507) X dL_law_1127 rfl (fun c377 => ?_) (fun c377 => ?_)
      · replace h := if_t c377 h
        obtain ⟨v376, e_v376, h⟩ := bnd_e h
        refine g_iinc (pc := 1507) (v := v376) X [(3, .int v376), (0, .ref b), (1, .ref (V.2.2.1 + 0)), (2, .ref (V.2.2.1 + 92))] 3 rfl (by rw [e_v376]; rfl) (Nat.le_of_ble_eq_true rfl) rfl dL_law_1507 ?_
        refine g_goto (pc := 1510) (tgt := 18) X dL_law_1510 rfl ?_
        refine g_sub [1, 2, 3, 0] rfl ?_
        cases h
        exact hb18 _ _ hA
      · replace h := if_f c377 h
        refine g_iconst (v := 0) (pc := 1130) X rfl dL_law_1130 ?_
        cases h
        exact absurd (hr _ hA) (by decide)
    replace h := if_f c378 h
    by_cases c387 : ((xs (tn x3)) &&& 63) = 33
    · replace h := if_t c387 h
      refine g_tabIn (pc := 33) (tgt := 1132) X c387 dL_law_33 (by decide) (by decide) rfl rfl ?_
      refine g_aload_n (pc := 1132) X 1 rfl dL_law_1132 ?_
      obtain ⟨r380, σ381, hc379, h⟩ := bd2_e h
      refine g_callV (pc := 1133) X k_ml_L_158 (run_RC_ask  hc379) s_0 rfl (room_law hZ (Nat.le_of_ble_eq_true rfl) (Nat.le_of_ble_eq_true rfl)) hzz _ rfl (Nat.le_of_ble_eq_true rfl) dL_law_1133 ?_
      show Go V Γ M_L_law Z 1136 [(0, .ref b), (1, .ref (V.2.2.1 + 0)), (2, .ref (V.2.2.1 + 92)), (3, .int x3)] [.int r380] σ381
      refine g_aload_n (pc := 1136) X 2 rfl dL_law_1136 ?_
      obtain ⟨r383, σ384, hc382, h⟩ := bd2_e h
      refine g_callV (pc := 1137) X k_ml_L_161 (run_Mo_ask  hc382) s_92 rfl (room_law hZ (Nat.le_of_ble_eq_true rfl) (Nat.le_of_ble_eq_true rfl)) hzz _ rfl (Nat.le_of_ble_eq_true rfl) dL_law_1137 ?_
      show Go V Γ M_L_law Z 1140 [(0, .ref b), (1, .ref (V.2.2.1 + 0)), (2, .ref (V.2.2.1 + 92)), (3, .int x3)] [.int r383, .int r380] σ384
      refine g_icmp_eq (pc := 1140) (tgt := 1507) X dL_law_1140 rfl (fun c386 => ?_) (fun c386 => ?_)
      · replace h := if_t c386 h
        obtain ⟨v385, e_v385, h⟩ := bnd_e h
        refine g_iinc (pc := 1507) (v := v385) X [(3, .int v385), (0, .ref b), (1, .ref (V.2.2.1 + 0)), (2, .ref (V.2.2.1 + 92))] 3 rfl (by rw [e_v385]; rfl) (Nat.le_of_ble_eq_true rfl) rfl dL_law_1507 ?_
        refine g_goto (pc := 1510) (tgt := 18) X dL_law_1510 rfl ?_
        refine g_sub [1, 2, 3, 0] rfl ?_
        cases h
        exact hb18 _ _ hA
      · replace h := if_f c386 h
        refine g_iconst (v := 0) (pc := 1143) X rfl dL_law_1143 ?_
        cases h
        exact absurd (hr _ hA) (by decide)
    replace h := if_f c387 h
    by_cases c396 : ((xs (tn x3)) &&& 63) = 34
    · replace h := if_t c396 h
      refine g_tabIn (pc := 33) (tgt := 1145) X c396 dL_law_33 (by decide) (by decide) rfl rfl ?_
      refine g_aload_n (pc := 1145) X 1 rfl dL_law_1145 ?_
      obtain ⟨r389, σ390, hc388, h⟩ := bd2_e h
      refine g_callV (pc := 1146) X k_ml_L_162 (run_RC_turnsBy  hc388) s_0 rfl (room_law hZ (Nat.le_of_ble_eq_true rfl) (Nat.le_of_ble_eq_true rfl)) hzz _ rfl (Nat.le_of_ble_eq_true rfl) dL_law_1146 ?_
      show Go V Γ M_L_law Z 1149 [(0, .ref b), (1, .ref (V.2.2.1 + 0)), (2, .ref (V.2.2.1 + 92)), (3, .int x3)] [.int r389] σ390
      refine g_aload_n (pc := 1149) X 2 rfl dL_law_1149 ?_
      obtain ⟨r392, σ393, hc391, h⟩ := bd2_e h
      refine g_callV (pc := 1150) X k_ml_L_165 (run_Mo_turnsBy  hc391) s_92 rfl (room_law hZ (Nat.le_of_ble_eq_true rfl) (Nat.le_of_ble_eq_true rfl)) hzz _ rfl (Nat.le_of_ble_eq_true rfl) dL_law_1150 ?_
      show Go V Γ M_L_law Z 1153 [(0, .ref b), (1, .ref (V.2.2.1 + 0)), (2, .ref (V.2.2.1 + 92)), (3, .int x3)] [.int r392, .int r389] σ393
      refine g_icmp_eq (pc := 1153) (tgt := 1507) X dL_law_1153 rfl (fun c395 => ?_) (fun c395 => ?_)
      · replace h := if_t c395 h
        obtain ⟨v394, e_v394, h⟩ := bnd_e h
        refine g_iinc (pc := 1507) (v := v394) X [(3, .int v394), (0, .ref b), (1, .ref (V.2.2.1 + 0)), (2, .ref (V.2.2.1 + 92))] 3 rfl (by rw [e_v394]; rfl) (Nat.le_of_ble_eq_true rfl) rfl dL_law_1507 ?_
        refine g_goto (pc := 1510) (tgt := 18) X dL_law_1510 rfl ?_
        refine g_sub [1, 2, 3, 0] rfl ?_
        cases h
        exact hb18 _ _ hA
      · replace h := if_f c395 h
        refine g_iconst (v := 0) (pc := 1156) X rfl dL_law_1156 ?_
        cases h
        exact absurd (hr _ hA) (by decide)
    replace h := if_f c396 h
    by_cases c407 : ((xs (tn x3)) &&& 63) = 35
    · replace h := if_t c407 h
      refine g_tabIn (pc := 33) (tgt := 1158) X c407 dL_law_33 (by decide) (by decide) rfl rfl ?_
      refine g_aload_n (pc := 1158) X 1 rfl dL_law_1158 ?_
      refine g_aload_n (pc := 1159) X 0 rfl dL_law_1159 ?_
      refine g_iload_n (pc := 1160) X 3 rfl dL_law_1160 ?_
      refine g_iconst (v := 1) (pc := 1161) X rfl dL_law_1161 ?_
      refine g_iadd (pc := 1162) X dL_law_1162 ?_
      obtain ⟨c397, h⟩ := chk_e h
      refine g_sld (pc := 1163) X hX hbl hbA c397 dL_law_1163 ?_
      obtain ⟨r399, σ400, hc398, h⟩ := bd2_e h
      refine g_callV (pc := 1164) X k_ml_L_166 (run_RC_tree  hc398) s_0 rfl (room_law hZ (Nat.le_of_ble_eq_true rfl) (Nat.le_of_ble_eq_true rfl)) hzz _ rfl (Nat.le_of_ble_eq_true rfl) dL_law_1164 ?_
      show Go V Γ M_L_law Z 1167 [(0, .ref b), (1, .ref (V.2.2.1 + 0)), (2, .ref (V.2.2.1 + 92)), (3, .int x3)] [.int r399] σ400
      refine g_aload_n (pc := 1167) X 2 rfl dL_law_1167 ?_
      refine g_aload_n (pc := 1168) X 0 rfl dL_law_1168 ?_
      refine g_iload_n (pc := 1169) X 3 rfl dL_law_1169 ?_
      refine g_iconst (v := 1) (pc := 1170) X rfl dL_law_1170 ?_
      refine g_iadd (pc := 1171) X dL_law_1171 ?_
      obtain ⟨c401, h⟩ := chk_e h
      refine g_sld (pc := 1172) X hX hbl hbA c401 dL_law_1172 ?_
      obtain ⟨r403, σ404, hc402, h⟩ := bd2_e h
      refine g_callV (pc := 1173) X k_ml_L_169 (run_Mo_tree  hc402) s_92 rfl (room_law hZ (Nat.le_of_ble_eq_true rfl) (Nat.le_of_ble_eq_true rfl)) hzz _ rfl (Nat.le_of_ble_eq_true rfl) dL_law_1173 ?_
      show Go V Γ M_L_law Z 1176 [(0, .ref b), (1, .ref (V.2.2.1 + 0)), (2, .ref (V.2.2.1 + 92)), (3, .int x3)] [.int r403, .int r399] σ404
      refine g_icmp_eq (pc := 1176) (tgt := 1507) X dL_law_1176 rfl (fun c406 => ?_) (fun c406 => ?_)
      · replace h := if_t c406 h
        obtain ⟨v405, e_v405, h⟩ := bnd_e h
        refine g_iinc (pc := 1507) (v := v405) X [(3, .int v405), (0, .ref b), (1, .ref (V.2.2.1 + 0)), (2, .ref (V.2.2.1 + 92))] 3 rfl (by rw [e_v405]; rfl) (Nat.le_of_ble_eq_true rfl) rfl dL_law_1507 ?_
        refine g_goto (pc := 1510) (tgt := 18) X dL_law_1510 rfl ?_
        refine g_sub [1, 2, 3, 0] rfl ?_
        cases h
        exact hb18 _ _ hA
      · replace h := if_f c406 h
        refine g_iconst (v := 0) (pc := 1179) X rfl dL_law_1179 ?_
        cases h
        exact absurd (hr _ hA) (by decide)
    replace h := if_f c407 h
    by_cases c418 : ((xs (tn x3)) &&& 63) = 36
    · replace h := if_t c418 h
      refine g_tabIn (pc := 33) (tgt := 1181) X c418 dL_law_33 (by decide) (by decide) rfl rfl ?_
      refine g_aload_n (pc := 1181) X 1 rfl dL_law_1181 ?_
      refine g_aload_n (pc := 1182) X 0 rfl dL_law_1182 ?_
      refine g_iload_n (pc := 1183) X 3 rfl dL_law_1183 ?_
      refine g_iconst (v := 1) (pc := 1184) X rfl dL_law_1184 ?_
      refine g_iadd (pc := 1185) X dL_law_1185 ?_
      obtain ⟨c408, h⟩ := chk_e h
      refine g_sld (pc := 1186) X hX hbl hbA c408 dL_law_1186 ?_
      obtain ⟨r410, σ411, hc409, h⟩ := bd2_e h
      refine g_callV (pc := 1187) X k_ml_L_170 (run_RC_leafOf  hc409) s_0 rfl (room_law hZ (Nat.le_of_ble_eq_true rfl) (Nat.le_of_ble_eq_true rfl)) hzz _ rfl (Nat.le_of_ble_eq_true rfl) dL_law_1187 ?_
      show Go V Γ M_L_law Z 1190 [(0, .ref b), (1, .ref (V.2.2.1 + 0)), (2, .ref (V.2.2.1 + 92)), (3, .int x3)] [.int r410] σ411
      refine g_aload_n (pc := 1190) X 2 rfl dL_law_1190 ?_
      refine g_aload_n (pc := 1191) X 0 rfl dL_law_1191 ?_
      refine g_iload_n (pc := 1192) X 3 rfl dL_law_1192 ?_
      refine g_iconst (v := 1) (pc := 1193) X rfl dL_law_1193 ?_
      refine g_iadd (pc := 1194) X dL_law_1194 ?_
      obtain ⟨c412, h⟩ := chk_e h
      refine g_sld (pc := 1195) X hX hbl hbA c412 dL_law_1195 ?_
      obtain ⟨r414, σ415, hc413, h⟩ := bd2_e h
      refine g_callV (pc := 1196) X k_ml_L_173 (run_Mo_leafOf  hc413) s_92 rfl (room_law hZ (Nat.le_of_ble_eq_true rfl) (Nat.le_of_ble_eq_true rfl)) hzz _ rfl (Nat.le_of_ble_eq_true rfl) dL_law_1196 ?_
      show Go V Γ M_L_law Z 1199 [(0, .ref b), (1, .ref (V.2.2.1 + 0)), (2, .ref (V.2.2.1 + 92)), (3, .int x3)] [.int r414, .int r410] σ415
      refine g_icmp_eq (pc := 1199) (tgt := 1507) X dL_law_1199 rfl (fun c417 => ?_) (fun c417 => ?_)
      · replace h := if_t c417 h
        obtain ⟨v416, e_v416, h⟩ := bnd_e h
        refine g_iinc (pc := 1507) (v := v416) X [(3, .int v416), (0, .ref b), (1, .ref (V.2.2.1 + 0)), (2, .ref (V.2.2.1 + 92))] 3 rfl (by rw [e_v416]; rfl) (Nat.le_of_ble_eq_true rfl) rfl dL_law_1507 ?_
        refine g_goto (pc := 1510) (tgt := 18) X dL_law_1510 rfl ?_
        refine g_sub [1, 2, 3, 0] rfl ?_
        cases h
        exact hb18 _ _ hA
      · replace h := if_f c417 h
        refine g_iconst (v := 0) (pc := 1202) X rfl dL_law_1202 ?_
        cases h
        exact absurd (hr _ hA) (by decide)
    replace h := if_f c418 h
    by_cases c433 : ((xs (tn x3)) &&& 63) = 37
    · replace h := if_t c433 h
      refine g_tabIn (pc := 33) (tgt := 1204) X c433 dL_law_33 (by decide) (by decide) rfl rfl ?_
      refine g_aload_n (pc := 1204) X 1 rfl dL_law_1204 ?_
      refine g_aload_n (pc := 1205) X 0 rfl dL_law_1205 ?_
      refine g_iload_n (pc := 1206) X 3 rfl dL_law_1206 ?_
      refine g_iconst (v := 1) (pc := 1207) X rfl dL_law_1207 ?_
      refine g_iadd (pc := 1208) X dL_law_1208 ?_
      obtain ⟨c419, h⟩ := chk_e h
      refine g_sld (pc := 1209) X hX hbl hbA c419 dL_law_1209 ?_
      refine g_aload_n (pc := 1210) X 0 rfl dL_law_1210 ?_
      refine g_iload_n (pc := 1211) X 3 rfl dL_law_1211 ?_
      refine g_iconst (v := 2) (pc := 1212) X rfl dL_law_1212 ?_
      refine g_iadd (pc := 1213) X dL_law_1213 ?_
      obtain ⟨c420, h⟩ := chk_e h
      refine g_sld (pc := 1214) X hX hbl hbA c420 dL_law_1214 ?_
      refine g_aload_n (pc := 1215) X 0 rfl dL_law_1215 ?_
      refine g_iload_n (pc := 1216) X 3 rfl dL_law_1216 ?_
      refine g_iconst (v := 3) (pc := 1217) X rfl dL_law_1217 ?_
      refine g_iadd (pc := 1218) X dL_law_1218 ?_
      obtain ⟨c421, h⟩ := chk_e h
      refine g_sld (pc := 1219) X hX hbl hbA c421 dL_law_1219 ?_
      obtain ⟨r423, σ424, hc422, h⟩ := bd2_e h
      refine g_callV (pc := 1220) X k_ml_L_174 (run_RC_choices  hc422) s_0 rfl (room_law hZ (Nat.le_of_ble_eq_true rfl) (Nat.le_of_ble_eq_true rfl)) hzz _ rfl (Nat.le_of_ble_eq_true rfl) dL_law_1220 ?_
      show Go V Γ M_L_law Z 1223 [(0, .ref b), (1, .ref (V.2.2.1 + 0)), (2, .ref (V.2.2.1 + 92)), (3, .int x3)] [.int r423] σ424
      refine g_aload_n (pc := 1223) X 2 rfl dL_law_1223 ?_
      refine g_aload_n (pc := 1224) X 0 rfl dL_law_1224 ?_
      refine g_iload_n (pc := 1225) X 3 rfl dL_law_1225 ?_
      refine g_iconst (v := 1) (pc := 1226) X rfl dL_law_1226 ?_
      refine g_iadd (pc := 1227) X dL_law_1227 ?_
      obtain ⟨c425, h⟩ := chk_e h
      refine g_sld (pc := 1228) X hX hbl hbA c425 dL_law_1228 ?_
      refine g_aload_n (pc := 1229) X 0 rfl dL_law_1229 ?_
      refine g_iload_n (pc := 1230) X 3 rfl dL_law_1230 ?_
      refine g_iconst (v := 2) (pc := 1231) X rfl dL_law_1231 ?_
      refine g_iadd (pc := 1232) X dL_law_1232 ?_
      obtain ⟨c426, h⟩ := chk_e h
      refine g_sld (pc := 1233) X hX hbl hbA c426 dL_law_1233 ?_
      refine g_aload_n (pc := 1234) X 0 rfl dL_law_1234 ?_
      refine g_iload_n (pc := 1235) X 3 rfl dL_law_1235 ?_
      refine g_iconst (v := 3) (pc := 1236) X rfl dL_law_1236 ?_
      refine g_iadd (pc := 1237) X dL_law_1237 ?_
      obtain ⟨c427, h⟩ := chk_e h
      refine g_sld (pc := 1238) X hX hbl hbA c427 dL_law_1238 ?_
      obtain ⟨r429, σ430, hc428, h⟩ := bd2_e h
      refine g_callV (pc := 1239) X k_ml_L_178 (run_Mo_choices  hc428) s_92 rfl (room_law hZ (Nat.le_of_ble_eq_true rfl) (Nat.le_of_ble_eq_true rfl)) hzz _ rfl (Nat.le_of_ble_eq_true rfl) dL_law_1239 ?_
      show Go V Γ M_L_law Z 1242 [(0, .ref b), (1, .ref (V.2.2.1 + 0)), (2, .ref (V.2.2.1 + 92)), (3, .int x3)] [.int r429, .int r423] σ430
      refine g_icmp_eq (pc := 1242) (tgt := 1507) X dL_law_1242 rfl (fun c432 => ?_) (fun c432 => ?_)
      · replace h := if_t c432 h
        obtain ⟨v431, e_v431, h⟩ := bnd_e h
        refine g_iinc (pc := 1507) (v := v431) X [(3, .int v431), (0, .ref b), (1, .ref (V.2.2.1 + 0)), (2, .ref (V.2.2.1 + 92))] 3 rfl (by rw [e_v431]; rfl) (Nat.le_of_ble_eq_true rfl) rfl dL_law_1507 ?_
        refine g_goto (pc := 1510) (tgt := 18) X dL_law_1510 rfl ?_
        refine g_sub [1, 2, 3, 0] rfl ?_
        cases h
        exact hb18 _ _ hA
      · replace h := if_f c432 h
        refine g_iconst (v := 0) (pc := 1245) X rfl dL_law_1245 ?_
        cases h
        exact absurd (hr _ hA) (by decide)
    replace h := if_f c433 h
    by_cases c450 : ((xs (tn x3)) &&& 63) = 38
    · replace h := if_t c450 h
      refine g_tabIn (pc := 33) (tgt := 1247) X c450 dL_law_33 (by decide) (by decide) rfl rfl ?_
      refine g_aload_n (pc := 1247) X 1 rfl dL_law_1247 ?_
      refine g_aload_n (pc := 1248) X 0 rfl dL_law_1248 ?_
      refine g_iload_n (pc := 1249) X 3 rfl dL_law_1249 ?_
      refine g_iconst (v := 1) (pc := 1250) X rfl dL_law_1250 ?_
      refine g_iadd (pc := 1251) X dL_law_1251 ?_
      obtain ⟨c434, h⟩ := chk_e h
      refine g_sld (pc := 1252) X hX hbl hbA c434 dL_law_1252 ?_
      refine g_aload_n (pc := 1253) X 0 rfl dL_law_1253 ?_
      refine g_iload_n (pc := 1254) X 3 rfl dL_law_1254 ?_
      refine g_iconst (v := 2) (pc := 1255) X rfl dL_law_1255 ?_
      refine g_iadd (pc := 1256) X dL_law_1256 ?_
      obtain ⟨c435, h⟩ := chk_e h
      refine g_sld (pc := 1257) X hX hbl hbA c435 dL_law_1257 ?_
      refine g_aload_n (pc := 1258) X 0 rfl dL_law_1258 ?_
      refine g_iload_n (pc := 1259) X 3 rfl dL_law_1259 ?_
      refine g_iconst (v := 3) (pc := 1260) X rfl dL_law_1260 ?_
      refine g_iadd (pc := 1261) X dL_law_1261 ?_
      obtain ⟨c436, h⟩ := chk_e h
      refine g_sld (pc := 1262) X hX hbl hbA c436 dL_law_1262 ?_
      refine g_aload_n (pc := 1263) X 0 rfl dL_law_1263 ?_
      refine g_iload_n (pc := 1264) X 3 rfl dL_law_1264 ?_
      refine g_iconst (v := 4) (pc := 1265) X rfl dL_law_1265 ?_
      refine g_iadd (pc := 1266) X dL_law_1266 ?_
      obtain ⟨c437, h⟩ := chk_e h
      refine g_sld (pc := 1267) X hX hbl hbA c437 dL_law_1267 ?_
      obtain ⟨r439, σ440, hc438, h⟩ := bd2_e h
      refine g_callV (pc := 1268) X k_ml_L_179 (run_RC_choiceAt  hc438) s_0 rfl (room_law hZ (Nat.le_of_ble_eq_true rfl) (Nat.le_of_ble_eq_true rfl)) hzz _ rfl (Nat.le_of_ble_eq_true rfl) dL_law_1268 ?_
      show Go V Γ M_L_law Z 1271 [(0, .ref b), (1, .ref (V.2.2.1 + 0)), (2, .ref (V.2.2.1 + 92)), (3, .int x3)] [.int r439] σ440
      refine g_aload_n (pc := 1271) X 2 rfl dL_law_1271 ?_
      refine g_aload_n (pc := 1272) X 0 rfl dL_law_1272 ?_
      refine g_iload_n (pc := 1273) X 3 rfl dL_law_1273 ?_
      refine g_iconst (v := 1) (pc := 1274) X rfl dL_law_1274 ?_
      refine g_iadd (pc := 1275) X dL_law_1275 ?_
      obtain ⟨c441, h⟩ := chk_e h
      refine g_sld (pc := 1276) X hX hbl hbA c441 dL_law_1276 ?_
      refine g_aload_n (pc := 1277) X 0 rfl dL_law_1277 ?_
      refine g_iload_n (pc := 1278) X 3 rfl dL_law_1278 ?_
      refine g_iconst (v := 2) (pc := 1279) X rfl dL_law_1279 ?_
      refine g_iadd (pc := 1280) X dL_law_1280 ?_
      obtain ⟨c442, h⟩ := chk_e h
      refine g_sld (pc := 1281) X hX hbl hbA c442 dL_law_1281 ?_
      refine g_aload_n (pc := 1282) X 0 rfl dL_law_1282 ?_
      refine g_iload_n (pc := 1283) X 3 rfl dL_law_1283 ?_
      refine g_iconst (v := 3) (pc := 1284) X rfl dL_law_1284 ?_
      refine g_iadd (pc := 1285) X dL_law_1285 ?_
      obtain ⟨c443, h⟩ := chk_e h
      refine g_sld (pc := 1286) X hX hbl hbA c443 dL_law_1286 ?_
      refine g_aload_n (pc := 1287) X 0 rfl dL_law_1287 ?_
      refine g_iload_n (pc := 1288) X 3 rfl dL_law_1288 ?_
      refine g_iconst (v := 4) (pc := 1289) X rfl dL_law_1289 ?_
      refine g_iadd (pc := 1290) X dL_law_1290 ?_
      obtain ⟨c444, h⟩ := chk_e h
      refine g_sld (pc := 1291) X hX hbl hbA c444 dL_law_1291 ?_
      obtain ⟨r446, σ447, hc445, h⟩ := bd2_e h
      refine g_callV (pc := 1292) X k_ml_L_183 (run_Mo_choiceAt  hc445) s_92 rfl (room_law hZ (Nat.le_of_ble_eq_true rfl) (Nat.le_of_ble_eq_true rfl)) hzz _ rfl (Nat.le_of_ble_eq_true rfl) dL_law_1292 ?_
      show Go V Γ M_L_law Z 1295 [(0, .ref b), (1, .ref (V.2.2.1 + 0)), (2, .ref (V.2.2.1 + 92)), (3, .int x3)] [.int r446, .int r439] σ447
      refine g_icmp_eq (pc := 1295) (tgt := 1507) X dL_law_1295 rfl (fun c449 => ?_) (fun c449 => ?_)
      · replace h := if_t c449 h
        obtain ⟨v448, e_v448, h⟩ := bnd_e h
        refine g_iinc (pc := 1507) (v := v448) X [(3, .int v448), (0, .ref b), (1, .ref (V.2.2.1 + 0)), (2, .ref (V.2.2.1 + 92))] 3 rfl (by rw [e_v448]; rfl) (Nat.le_of_ble_eq_true rfl) rfl dL_law_1507 ?_
        refine g_goto (pc := 1510) (tgt := 18) X dL_law_1510 rfl ?_
        refine g_sub [1, 2, 3, 0] rfl ?_
        cases h
        exact hb18 _ _ hA
      · replace h := if_f c449 h
        refine g_iconst (v := 0) (pc := 1298) X rfl dL_law_1298 ?_
        cases h
        exact absurd (hr _ hA) (by decide)
    replace h := if_f c450 h
    by_cases c461 : ((xs (tn x3)) &&& 63) = 39
    · replace h := if_t c461 h
      refine g_tabIn (pc := 33) (tgt := 1300) X c461 dL_law_33 (by decide) (by decide) rfl rfl ?_
      refine g_aload_n (pc := 1300) X 1 rfl dL_law_1300 ?_
      refine g_aload_n (pc := 1301) X 0 rfl dL_law_1301 ?_
      refine g_iload_n (pc := 1302) X 3 rfl dL_law_1302 ?_
      refine g_iconst (v := 1) (pc := 1303) X rfl dL_law_1303 ?_
      refine g_iadd (pc := 1304) X dL_law_1304 ?_
      obtain ⟨c451, h⟩ := chk_e h
      refine g_sld (pc := 1305) X hX hbl hbA c451 dL_law_1305 ?_
      obtain ⟨r453, σ454, hc452, h⟩ := bd2_e h
      refine g_callV (pc := 1306) X k_ml_L_184 (run_RC_game  hc452) s_0 rfl (room_law hZ (Nat.le_of_ble_eq_true rfl) (Nat.le_of_ble_eq_true rfl)) hzz _ rfl (Nat.le_of_ble_eq_true rfl) dL_law_1306 ?_
      show Go V Γ M_L_law Z 1309 [(0, .ref b), (1, .ref (V.2.2.1 + 0)), (2, .ref (V.2.2.1 + 92)), (3, .int x3)] [.int r453] σ454
      refine g_aload_n (pc := 1309) X 2 rfl dL_law_1309 ?_
      refine g_aload_n (pc := 1310) X 0 rfl dL_law_1310 ?_
      refine g_iload_n (pc := 1311) X 3 rfl dL_law_1311 ?_
      refine g_iconst (v := 1) (pc := 1312) X rfl dL_law_1312 ?_
      refine g_iadd (pc := 1313) X dL_law_1313 ?_
      obtain ⟨c455, h⟩ := chk_e h
      refine g_sld (pc := 1314) X hX hbl hbA c455 dL_law_1314 ?_
      obtain ⟨r457, σ458, hc456, h⟩ := bd2_e h
      refine g_callV (pc := 1315) X k_ml_L_187 (run_Mo_game  hc456) s_92 rfl (room_law hZ (Nat.le_of_ble_eq_true rfl) (Nat.le_of_ble_eq_true rfl)) hzz _ rfl (Nat.le_of_ble_eq_true rfl) dL_law_1315 ?_
      show Go V Γ M_L_law Z 1318 [(0, .ref b), (1, .ref (V.2.2.1 + 0)), (2, .ref (V.2.2.1 + 92)), (3, .int x3)] [.int r457, .int r453] σ458
      refine g_icmp_eq (pc := 1318) (tgt := 1507) X dL_law_1318 rfl (fun c460 => ?_) (fun c460 => ?_)
      · replace h := if_t c460 h
        obtain ⟨v459, e_v459, h⟩ := bnd_e h
        refine g_iinc (pc := 1507) (v := v459) X [(3, .int v459), (0, .ref b), (1, .ref (V.2.2.1 + 0)), (2, .ref (V.2.2.1 + 92))] 3 rfl (by rw [e_v459]; rfl) (Nat.le_of_ble_eq_true rfl) rfl dL_law_1507 ?_
        refine g_goto (pc := 1510) (tgt := 18) X dL_law_1510 rfl ?_
        refine g_sub [1, 2, 3, 0] rfl ?_
        cases h
        exact hb18 _ _ hA
      · replace h := if_f c460 h
        refine g_iconst (v := 0) (pc := 1321) X rfl dL_law_1321 ?_
        cases h
        exact absurd (hr _ hA) (by decide)
    replace h := if_f c461 h
    by_cases c472 : ((xs (tn x3)) &&& 63) = 40
    · replace h := if_t c472 h
      refine g_tabIn (pc := 33) (tgt := 1323) X c472 dL_law_33 (by decide) (by decide) rfl rfl ?_
      refine g_aload_n (pc := 1323) X 1 rfl dL_law_1323 ?_
      refine g_aload_n (pc := 1324) X 0 rfl dL_law_1324 ?_
      refine g_iload_n (pc := 1325) X 3 rfl dL_law_1325 ?_
      refine g_iconst (v := 1) (pc := 1326) X rfl dL_law_1326 ?_
      refine g_iadd (pc := 1327) X dL_law_1327 ?_
      obtain ⟨c462, h⟩ := chk_e h
      refine g_sld (pc := 1328) X hX hbl hbA c462 dL_law_1328 ?_
      obtain ⟨r464, σ465, hc463, h⟩ := bd2_e h
      refine g_callV (pc := 1329) X k_ml_L_188 (run_RC_moveOf  hc463) s_0 rfl (room_law hZ (Nat.le_of_ble_eq_true rfl) (Nat.le_of_ble_eq_true rfl)) hzz _ rfl (Nat.le_of_ble_eq_true rfl) dL_law_1329 ?_
      show Go V Γ M_L_law Z 1332 [(0, .ref b), (1, .ref (V.2.2.1 + 0)), (2, .ref (V.2.2.1 + 92)), (3, .int x3)] [.int r464] σ465
      refine g_aload_n (pc := 1332) X 2 rfl dL_law_1332 ?_
      refine g_aload_n (pc := 1333) X 0 rfl dL_law_1333 ?_
      refine g_iload_n (pc := 1334) X 3 rfl dL_law_1334 ?_
      refine g_iconst (v := 1) (pc := 1335) X rfl dL_law_1335 ?_
      refine g_iadd (pc := 1336) X dL_law_1336 ?_
      obtain ⟨c466, h⟩ := chk_e h
      refine g_sld (pc := 1337) X hX hbl hbA c466 dL_law_1337 ?_
      obtain ⟨r468, σ469, hc467, h⟩ := bd2_e h
      refine g_callV (pc := 1338) X k_ml_L_191 (run_Mo_moveOf  hc467) s_92 rfl (room_law hZ (Nat.le_of_ble_eq_true rfl) (Nat.le_of_ble_eq_true rfl)) hzz _ rfl (Nat.le_of_ble_eq_true rfl) dL_law_1338 ?_
      show Go V Γ M_L_law Z 1341 [(0, .ref b), (1, .ref (V.2.2.1 + 0)), (2, .ref (V.2.2.1 + 92)), (3, .int x3)] [.int r468, .int r464] σ469
      refine g_icmp_eq (pc := 1341) (tgt := 1507) X dL_law_1341 rfl (fun c471 => ?_) (fun c471 => ?_)
      · replace h := if_t c471 h
        obtain ⟨v470, e_v470, h⟩ := bnd_e h
        refine g_iinc (pc := 1507) (v := v470) X [(3, .int v470), (0, .ref b), (1, .ref (V.2.2.1 + 0)), (2, .ref (V.2.2.1 + 92))] 3 rfl (by rw [e_v470]; rfl) (Nat.le_of_ble_eq_true rfl) rfl dL_law_1507 ?_
        refine g_goto (pc := 1510) (tgt := 18) X dL_law_1510 rfl ?_
        refine g_sub [1, 2, 3, 0] rfl ?_
        cases h
        exact hb18 _ _ hA
      · replace h := if_f c471 h
        refine g_iconst (v := 0) (pc := 1344) X rfl dL_law_1344 ?_
        cases h
        exact absurd (hr _ hA) (by decide)
    replace h := if_f c472 h
    by_cases c485 : ((xs (tn x3)) &&& 63) = 41
    · replace h := if_t c485 h
      refine g_tabIn (pc := 33) (tgt := 1346) X c485 dL_law_33 (by decide) (by decide) rfl rfl ?_
      refine g_aload_n (pc := 1346) X 1 rfl dL_law_1346 ?_
      refine g_aload_n (pc := 1347) X 0 rfl dL_law_1347 ?_
      refine g_iload_n (pc := 1348) X 3 rfl dL_law_1348 ?_
      refine g_iconst (v := 1) (pc := 1349) X rfl dL_law_1349 ?_
      refine g_iadd (pc := 1350) X dL_law_1350 ?_
      obtain ⟨c473, h⟩ := chk_e h
      refine g_sld (pc := 1351) X hX hbl hbA c473 dL_law_1351 ?_
      refine g_aload_n (pc := 1352) X 0 rfl dL_law_1352 ?_
      refine g_iload_n (pc := 1353) X 3 rfl dL_law_1353 ?_
      refine g_iconst (v := 2) (pc := 1354) X rfl dL_law_1354 ?_
      refine g_iadd (pc := 1355) X dL_law_1355 ?_
      obtain ⟨c474, h⟩ := chk_e h
      refine g_sld (pc := 1356) X hX hbl hbA c474 dL_law_1356 ?_
      obtain ⟨r476, σ477, hc475, h⟩ := bd2_e h
      refine g_callV (pc := 1357) X k_ml_L_192 (run_RC_uncaught  hc475) s_0 rfl (room_law hZ (Nat.le_of_ble_eq_true rfl) (Nat.le_of_ble_eq_true rfl)) hzz _ rfl (Nat.le_of_ble_eq_true rfl) dL_law_1357 ?_
      show Go V Γ M_L_law Z 1360 [(0, .ref b), (1, .ref (V.2.2.1 + 0)), (2, .ref (V.2.2.1 + 92)), (3, .int x3)] [.int r476] σ477
      refine g_aload_n (pc := 1360) X 2 rfl dL_law_1360 ?_
      refine g_aload_n (pc := 1361) X 0 rfl dL_law_1361 ?_
      refine g_iload_n (pc := 1362) X 3 rfl dL_law_1362 ?_
      refine g_iconst (v := 1) (pc := 1363) X rfl dL_law_1363 ?_
      refine g_iadd (pc := 1364) X dL_law_1364 ?_
      obtain ⟨c478, h⟩ := chk_e h
      refine g_sld (pc := 1365) X hX hbl hbA c478 dL_law_1365 ?_
      refine g_aload_n (pc := 1366) X 0 rfl dL_law_1366 ?_
      refine g_iload_n (pc := 1367) X 3 rfl dL_law_1367 ?_
      refine g_iconst (v := 2) (pc := 1368) X rfl dL_law_1368 ?_
      refine g_iadd (pc := 1369) X dL_law_1369 ?_
      obtain ⟨c479, h⟩ := chk_e h
      refine g_sld (pc := 1370) X hX hbl hbA c479 dL_law_1370 ?_
      obtain ⟨r481, σ482, hc480, h⟩ := bd2_e h
      refine g_callV (pc := 1371) X k_ml_L_196 (run_Mo_uncaught  hc480) s_92 rfl (room_law hZ (Nat.le_of_ble_eq_true rfl) (Nat.le_of_ble_eq_true rfl)) hzz _ rfl (Nat.le_of_ble_eq_true rfl) dL_law_1371 ?_
      show Go V Γ M_L_law Z 1374 [(0, .ref b), (1, .ref (V.2.2.1 + 0)), (2, .ref (V.2.2.1 + 92)), (3, .int x3)] [.int r481, .int r476] σ482
      refine g_icmp_eq (pc := 1374) (tgt := 1507) X dL_law_1374 rfl (fun c484 => ?_) (fun c484 => ?_)
      · replace h := if_t c484 h
        obtain ⟨v483, e_v483, h⟩ := bnd_e h
        refine g_iinc (pc := 1507) (v := v483) X [(3, .int v483), (0, .ref b), (1, .ref (V.2.2.1 + 0)), (2, .ref (V.2.2.1 + 92))] 3 rfl (by rw [e_v483]; rfl) (Nat.le_of_ble_eq_true rfl) rfl dL_law_1507 ?_
        refine g_goto (pc := 1510) (tgt := 18) X dL_law_1510 rfl ?_
        refine g_sub [1, 2, 3, 0] rfl ?_
        cases h
        exact hb18 _ _ hA
      · replace h := if_f c484 h
        refine g_iconst (v := 0) (pc := 1377) X rfl dL_law_1377 ?_
        cases h
        exact absurd (hr _ hA) (by decide)
    replace h := if_f c485 h
    by_cases c496 : ((xs (tn x3)) &&& 63) = 42
    · replace h := if_t c496 h
      refine g_tabIn (pc := 33) (tgt := 1379) X c496 dL_law_33 (by decide) (by decide) rfl rfl ?_
      refine g_aload_n (pc := 1379) X 1 rfl dL_law_1379 ?_
      refine g_aload_n (pc := 1380) X 0 rfl dL_law_1380 ?_
      refine g_iload_n (pc := 1381) X 3 rfl dL_law_1381 ?_
      refine g_iconst (v := 1) (pc := 1382) X rfl dL_law_1382 ?_
      refine g_iadd (pc := 1383) X dL_law_1383 ?_
      obtain ⟨c486, h⟩ := chk_e h
      refine g_sld (pc := 1384) X hX hbl hbA c486 dL_law_1384 ?_
      obtain ⟨r488, σ489, hc487, h⟩ := bd2_e h
      refine g_callV (pc := 1385) X k_ml_L_197 (run_RC_copySystem  hc487) s_0 rfl (room_law hZ (Nat.le_of_ble_eq_true rfl) (Nat.le_of_ble_eq_true rfl)) hzz _ rfl (Nat.le_of_ble_eq_true rfl) dL_law_1385 ?_
      show Go V Γ M_L_law Z 1388 [(0, .ref b), (1, .ref (V.2.2.1 + 0)), (2, .ref (V.2.2.1 + 92)), (3, .int x3)] [.int r488] σ489
      refine g_aload_n (pc := 1388) X 2 rfl dL_law_1388 ?_
      refine g_aload_n (pc := 1389) X 0 rfl dL_law_1389 ?_
      refine g_iload_n (pc := 1390) X 3 rfl dL_law_1390 ?_
      refine g_iconst (v := 1) (pc := 1391) X rfl dL_law_1391 ?_
      refine g_iadd (pc := 1392) X dL_law_1392 ?_
      obtain ⟨c490, h⟩ := chk_e h
      refine g_sld (pc := 1393) X hX hbl hbA c490 dL_law_1393 ?_
      obtain ⟨r492, σ493, hc491, h⟩ := bd2_e h
      refine g_callV (pc := 1394) X k_ml_L_200 (run_Mo_copySystem  hc491) s_92 rfl (room_law hZ (Nat.le_of_ble_eq_true rfl) (Nat.le_of_ble_eq_true rfl)) hzz _ rfl (Nat.le_of_ble_eq_true rfl) dL_law_1394 ?_
      show Go V Γ M_L_law Z 1397 [(0, .ref b), (1, .ref (V.2.2.1 + 0)), (2, .ref (V.2.2.1 + 92)), (3, .int x3)] [.int r492, .int r488] σ493
      refine g_icmp_eq (pc := 1397) (tgt := 1507) X dL_law_1397 rfl (fun c495 => ?_) (fun c495 => ?_)
      · replace h := if_t c495 h
        obtain ⟨v494, e_v494, h⟩ := bnd_e h
        refine g_iinc (pc := 1507) (v := v494) X [(3, .int v494), (0, .ref b), (1, .ref (V.2.2.1 + 0)), (2, .ref (V.2.2.1 + 92))] 3 rfl (by rw [e_v494]; rfl) (Nat.le_of_ble_eq_true rfl) rfl dL_law_1507 ?_
        refine g_goto (pc := 1510) (tgt := 18) X dL_law_1510 rfl ?_
        refine g_sub [1, 2, 3, 0] rfl ?_
        cases h
        exact hb18 _ _ hA
      · replace h := if_f c495 h
        refine g_iconst (v := 0) (pc := 1400) X rfl dL_law_1400 ?_
        cases h
        exact absurd (hr _ hA) (by decide)
    replace h := if_f c496 h
    by_cases c507 : ((xs (tn x3)) &&& 63) = 43
    · replace h := if_t c507 h
      refine g_tabIn (pc := 33) (tgt := 1402) X c507 dL_law_33 (by decide) (by decide) rfl rfl ?_
      refine g_aload_n (pc := 1402) X 1 rfl dL_law_1402 ?_
      refine g_aload_n (pc := 1403) X 0 rfl dL_law_1403 ?_
      refine g_iload_n (pc := 1404) X 3 rfl dL_law_1404 ?_
      refine g_iconst (v := 1) (pc := 1405) X rfl dL_law_1405 ?_
      refine g_iadd (pc := 1406) X dL_law_1406 ?_
      obtain ⟨c497, h⟩ := chk_e h
      refine g_sld (pc := 1407) X hX hbl hbA c497 dL_law_1407 ?_
      obtain ⟨r499, σ500, hc498, h⟩ := bd2_e h
      refine g_callV (pc := 1408) X k_ml_L_201 (run_RC_live  hc498) s_0 rfl (room_law hZ (Nat.le_of_ble_eq_true rfl) (Nat.le_of_ble_eq_true rfl)) hzz _ rfl (Nat.le_of_ble_eq_true rfl) dL_law_1408 ?_
      show Go V Γ M_L_law Z 1411 [(0, .ref b), (1, .ref (V.2.2.1 + 0)), (2, .ref (V.2.2.1 + 92)), (3, .int x3)] [.int r499] σ500
      refine g_aload_n (pc := 1411) X 2 rfl dL_law_1411 ?_
      refine g_aload_n (pc := 1412) X 0 rfl dL_law_1412 ?_
      refine g_iload_n (pc := 1413) X 3 rfl dL_law_1413 ?_
      refine g_iconst (v := 1) (pc := 1414) X rfl dL_law_1414 ?_
      refine g_iadd (pc := 1415) X dL_law_1415 ?_
      obtain ⟨c501, h⟩ := chk_e h
      refine g_sld (pc := 1416) X hX hbl hbA c501 dL_law_1416 ?_
      obtain ⟨r503, σ504, hc502, h⟩ := bd2_e h
      refine g_callV (pc := 1417) X k_ml_L_204 (run_Mo_live  hc502) s_92 rfl (room_law hZ (Nat.le_of_ble_eq_true rfl) (Nat.le_of_ble_eq_true rfl)) hzz _ rfl (Nat.le_of_ble_eq_true rfl) dL_law_1417 ?_
      show Go V Γ M_L_law Z 1420 [(0, .ref b), (1, .ref (V.2.2.1 + 0)), (2, .ref (V.2.2.1 + 92)), (3, .int x3)] [.int r503, .int r499] σ504
      refine g_icmp_eq (pc := 1420) (tgt := 1507) X dL_law_1420 rfl (fun c506 => ?_) (fun c506 => ?_)
      · replace h := if_t c506 h
        obtain ⟨v505, e_v505, h⟩ := bnd_e h
        refine g_iinc (pc := 1507) (v := v505) X [(3, .int v505), (0, .ref b), (1, .ref (V.2.2.1 + 0)), (2, .ref (V.2.2.1 + 92))] 3 rfl (by rw [e_v505]; rfl) (Nat.le_of_ble_eq_true rfl) rfl dL_law_1507 ?_
        refine g_goto (pc := 1510) (tgt := 18) X dL_law_1510 rfl ?_
        refine g_sub [1, 2, 3, 0] rfl ?_
        cases h
        exact hb18 _ _ hA
      · replace h := if_f c506 h
        refine g_iconst (v := 0) (pc := 1423) X rfl dL_law_1423 ?_
        cases h
        exact absurd (hr _ hA) (by decide)
    replace h := if_f c507 h
    by_cases c518 : ((xs (tn x3)) &&& 63) = 44
    · replace h := if_t c518 h
      refine g_tabIn (pc := 33) (tgt := 1425) X c518 dL_law_33 (by decide) (by decide) rfl rfl ?_
      refine g_aload_n (pc := 1425) X 1 rfl dL_law_1425 ?_
      refine g_aload_n (pc := 1426) X 0 rfl dL_law_1426 ?_
      refine g_iload_n (pc := 1427) X 3 rfl dL_law_1427 ?_
      refine g_iconst (v := 1) (pc := 1428) X rfl dL_law_1428 ?_
      refine g_iadd (pc := 1429) X dL_law_1429 ?_
      obtain ⟨c508, h⟩ := chk_e h
      refine g_sld (pc := 1430) X hX hbl hbA c508 dL_law_1430 ?_
      obtain ⟨r510, σ511, hc509, h⟩ := bd2_e h
      refine g_callV (pc := 1431) X k_ml_L_205 (run_RC_lived  hc509) s_0 rfl (room_law hZ (Nat.le_of_ble_eq_true rfl) (Nat.le_of_ble_eq_true rfl)) hzz _ rfl (Nat.le_of_ble_eq_true rfl) dL_law_1431 ?_
      show Go V Γ M_L_law Z 1434 [(0, .ref b), (1, .ref (V.2.2.1 + 0)), (2, .ref (V.2.2.1 + 92)), (3, .int x3)] [.int r510] σ511
      refine g_aload_n (pc := 1434) X 2 rfl dL_law_1434 ?_
      refine g_aload_n (pc := 1435) X 0 rfl dL_law_1435 ?_
      refine g_iload_n (pc := 1436) X 3 rfl dL_law_1436 ?_
      refine g_iconst (v := 1) (pc := 1437) X rfl dL_law_1437 ?_
      refine g_iadd (pc := 1438) X dL_law_1438 ?_
      obtain ⟨c512, h⟩ := chk_e h
      refine g_sld (pc := 1439) X hX hbl hbA c512 dL_law_1439 ?_
      obtain ⟨r514, σ515, hc513, h⟩ := bd2_e h
      refine g_callV (pc := 1440) X k_ml_L_208 (run_Mo_lived  hc513) s_92 rfl (room_law hZ (Nat.le_of_ble_eq_true rfl) (Nat.le_of_ble_eq_true rfl)) hzz _ rfl (Nat.le_of_ble_eq_true rfl) dL_law_1440 ?_
      show Go V Γ M_L_law Z 1443 [(0, .ref b), (1, .ref (V.2.2.1 + 0)), (2, .ref (V.2.2.1 + 92)), (3, .int x3)] [.int r514, .int r510] σ515
      refine g_icmp_eq (pc := 1443) (tgt := 1507) X dL_law_1443 rfl (fun c517 => ?_) (fun c517 => ?_)
      · replace h := if_t c517 h
        obtain ⟨v516, e_v516, h⟩ := bnd_e h
        refine g_iinc (pc := 1507) (v := v516) X [(3, .int v516), (0, .ref b), (1, .ref (V.2.2.1 + 0)), (2, .ref (V.2.2.1 + 92))] 3 rfl (by rw [e_v516]; rfl) (Nat.le_of_ble_eq_true rfl) rfl dL_law_1507 ?_
        refine g_goto (pc := 1510) (tgt := 18) X dL_law_1510 rfl ?_
        refine g_sub [1, 2, 3, 0] rfl ?_
        cases h
        exact hb18 _ _ hA
      · replace h := if_f c517 h
        refine g_iconst (v := 0) (pc := 1446) X rfl dL_law_1446 ?_
        cases h
        exact absurd (hr _ hA) (by decide)
    replace h := if_f c518 h
    by_cases c531 : ((xs (tn x3)) &&& 63) = 45
    · replace h := if_t c531 h
      refine g_tabIn (pc := 33) (tgt := 1448) X c531 dL_law_33 (by decide) (by decide) rfl rfl ?_
      refine g_aload_n (pc := 1448) X 1 rfl dL_law_1448 ?_
      refine g_aload_n (pc := 1449) X 0 rfl dL_law_1449 ?_
      refine g_iload_n (pc := 1450) X 3 rfl dL_law_1450 ?_
      refine g_iconst (v := 1) (pc := 1451) X rfl dL_law_1451 ?_
      refine g_iadd (pc := 1452) X dL_law_1452 ?_
      obtain ⟨c519, h⟩ := chk_e h
      refine g_sld (pc := 1453) X hX hbl hbA c519 dL_law_1453 ?_
      refine g_aload_n (pc := 1454) X 0 rfl dL_law_1454 ?_
      refine g_iload_n (pc := 1455) X 3 rfl dL_law_1455 ?_
      refine g_iconst (v := 2) (pc := 1456) X rfl dL_law_1456 ?_
      refine g_iadd (pc := 1457) X dL_law_1457 ?_
      obtain ⟨c520, h⟩ := chk_e h
      refine g_sld (pc := 1458) X hX hbl hbA c520 dL_law_1458 ?_
      obtain ⟨r522, σ523, hc521, h⟩ := bd2_e h
      refine g_callV (pc := 1459) X k_ml_L_209 (run_RC_mean  hc521) s_0 rfl (room_law hZ (Nat.le_of_ble_eq_true rfl) (Nat.le_of_ble_eq_true rfl)) hzz _ rfl (Nat.le_of_ble_eq_true rfl) dL_law_1459 ?_
      show Go V Γ M_L_law Z 1462 [(0, .ref b), (1, .ref (V.2.2.1 + 0)), (2, .ref (V.2.2.1 + 92)), (3, .int x3)] [.int r522] σ523
      refine g_aload_n (pc := 1462) X 2 rfl dL_law_1462 ?_
      refine g_aload_n (pc := 1463) X 0 rfl dL_law_1463 ?_
      refine g_iload_n (pc := 1464) X 3 rfl dL_law_1464 ?_
      refine g_iconst (v := 1) (pc := 1465) X rfl dL_law_1465 ?_
      refine g_iadd (pc := 1466) X dL_law_1466 ?_
      obtain ⟨c524, h⟩ := chk_e h
      refine g_sld (pc := 1467) X hX hbl hbA c524 dL_law_1467 ?_
      refine g_aload_n (pc := 1468) X 0 rfl dL_law_1468 ?_
      refine g_iload_n (pc := 1469) X 3 rfl dL_law_1469 ?_
      refine g_iconst (v := 2) (pc := 1470) X rfl dL_law_1470 ?_
      refine g_iadd (pc := 1471) X dL_law_1471 ?_
      obtain ⟨c525, h⟩ := chk_e h
      refine g_sld (pc := 1472) X hX hbl hbA c525 dL_law_1472 ?_
      obtain ⟨r527, σ528, hc526, h⟩ := bd2_e h
      refine g_callV (pc := 1473) X k_ml_L_212 (run_Mo_mean  hc526) s_92 rfl (room_law hZ (Nat.le_of_ble_eq_true rfl) (Nat.le_of_ble_eq_true rfl)) hzz _ rfl (Nat.le_of_ble_eq_true rfl) dL_law_1473 ?_
      show Go V Γ M_L_law Z 1476 [(0, .ref b), (1, .ref (V.2.2.1 + 0)), (2, .ref (V.2.2.1 + 92)), (3, .int x3)] [.int r527, .int r522] σ528
      refine g_icmp_eq (pc := 1476) (tgt := 1507) X dL_law_1476 rfl (fun c530 => ?_) (fun c530 => ?_)
      · replace h := if_t c530 h
        obtain ⟨v529, e_v529, h⟩ := bnd_e h
        refine g_iinc (pc := 1507) (v := v529) X [(3, .int v529), (0, .ref b), (1, .ref (V.2.2.1 + 0)), (2, .ref (V.2.2.1 + 92))] 3 rfl (by rw [e_v529]; rfl) (Nat.le_of_ble_eq_true rfl) rfl dL_law_1507 ?_
        refine g_goto (pc := 1510) (tgt := 18) X dL_law_1510 rfl ?_
        refine g_sub [1, 2, 3, 0] rfl ?_
        cases h
        exact hb18 _ _ hA
      · replace h := if_f c530 h
        refine g_iconst (v := 0) (pc := 1479) X rfl dL_law_1479 ?_
        cases h
        exact absurd (hr _ hA) (by decide)
    replace h := if_f c531 h
    by_cases c540 : ((xs (tn x3)) &&& 63) = 46
    · replace h := if_t c540 h
      refine g_tabIn (pc := 33) (tgt := 1481) X c540 dL_law_33 (by decide) (by decide) rfl rfl ?_
      refine g_aload_n (pc := 1481) X 1 rfl dL_law_1481 ?_
      obtain ⟨r533, σ534, hc532, h⟩ := bd2_e h
      refine g_callV (pc := 1482) X k_ml_L_213 (run_RC_mark  hc532) s_0 rfl (room_law hZ (Nat.le_of_ble_eq_true rfl) (Nat.le_of_ble_eq_true rfl)) hzz _ rfl (Nat.le_of_ble_eq_true rfl) dL_law_1482 ?_
      show Go V Γ M_L_law Z 1485 [(0, .ref b), (1, .ref (V.2.2.1 + 0)), (2, .ref (V.2.2.1 + 92)), (3, .int x3)] [.int r533] σ534
      refine g_aload_n (pc := 1485) X 2 rfl dL_law_1485 ?_
      obtain ⟨r536, σ537, hc535, h⟩ := bd2_e h
      refine g_callV (pc := 1486) X k_ml_L_216 (run_Mo_mark  hc535) s_92 rfl (room_law hZ (Nat.le_of_ble_eq_true rfl) (Nat.le_of_ble_eq_true rfl)) hzz _ rfl (Nat.le_of_ble_eq_true rfl) dL_law_1486 ?_
      show Go V Γ M_L_law Z 1489 [(0, .ref b), (1, .ref (V.2.2.1 + 0)), (2, .ref (V.2.2.1 + 92)), (3, .int x3)] [.int r536, .int r533] σ537
      refine g_icmp_eq (pc := 1489) (tgt := 1507) X dL_law_1489 rfl (fun c539 => ?_) (fun c539 => ?_)
      · replace h := if_t c539 h
        obtain ⟨v538, e_v538, h⟩ := bnd_e h
        refine g_iinc (pc := 1507) (v := v538) X [(3, .int v538), (0, .ref b), (1, .ref (V.2.2.1 + 0)), (2, .ref (V.2.2.1 + 92))] 3 rfl (by rw [e_v538]; rfl) (Nat.le_of_ble_eq_true rfl) rfl dL_law_1507 ?_
        refine g_goto (pc := 1510) (tgt := 18) X dL_law_1510 rfl ?_
        refine g_sub [1, 2, 3, 0] rfl ?_
        cases h
        exact hb18 _ _ hA
      · replace h := if_f c539 h
        refine g_iconst (v := 0) (pc := 1492) X rfl dL_law_1492 ?_
        cases h
        exact absurd (hr _ hA) (by decide)
    replace h := if_f c540 h
    by_cases c549 : ((xs (tn x3)) &&& 63) = 47
    · replace h := if_t c549 h
      refine g_tabIn (pc := 33) (tgt := 1494) X c549 dL_law_33 (by decide) (by decide) rfl rfl ?_
      refine g_aload_n (pc := 1494) X 1 rfl dL_law_1494 ?_
      obtain ⟨r542, σ543, hc541, h⟩ := bd2_e h
      refine g_callV (pc := 1495) X k_ml_L_217 (run_RC_undo  hc541) s_0 rfl (room_law hZ (Nat.le_of_ble_eq_true rfl) (Nat.le_of_ble_eq_true rfl)) hzz _ rfl (Nat.le_of_ble_eq_true rfl) dL_law_1495 ?_
      show Go V Γ M_L_law Z 1498 [(0, .ref b), (1, .ref (V.2.2.1 + 0)), (2, .ref (V.2.2.1 + 92)), (3, .int x3)] [.int r542] σ543
      refine g_aload_n (pc := 1498) X 2 rfl dL_law_1498 ?_
      obtain ⟨r545, σ546, hc544, h⟩ := bd2_e h
      refine g_callV (pc := 1499) X k_ml_L_220 (run_Mo_undo  hc544) s_92 rfl (room_law hZ (Nat.le_of_ble_eq_true rfl) (Nat.le_of_ble_eq_true rfl)) hzz _ rfl (Nat.le_of_ble_eq_true rfl) dL_law_1499 ?_
      show Go V Γ M_L_law Z 1502 [(0, .ref b), (1, .ref (V.2.2.1 + 0)), (2, .ref (V.2.2.1 + 92)), (3, .int x3)] [.int r545, .int r542] σ546
      refine g_icmp_eq (pc := 1502) (tgt := 1507) X dL_law_1502 rfl (fun c548 => ?_) (fun c548 => ?_)
      · replace h := if_t c548 h
        obtain ⟨v547, e_v547, h⟩ := bnd_e h
        refine g_iinc (pc := 1507) (v := v547) X [(3, .int v547), (0, .ref b), (1, .ref (V.2.2.1 + 0)), (2, .ref (V.2.2.1 + 92))] 3 rfl (by rw [e_v547]; rfl) (Nat.le_of_ble_eq_true rfl) rfl dL_law_1507 ?_
        refine g_goto (pc := 1510) (tgt := 18) X dL_law_1510 rfl ?_
        refine g_sub [1, 2, 3, 0] rfl ?_
        cases h
        exact hb18 _ _ hA
      · replace h := if_f c548 h
        refine g_iconst (v := 0) (pc := 1505) X rfl dL_law_1505 ?_
        cases h
        exact absurd (hr _ hA) (by decide)
    replace h := if_f c549 h
    refine g_tabOut (pc := 33) (tgt := 1507) X dL_law_33 (by have qc8 := lv_neT (k := 0) (a := 0) c8 rfl; have qc15 := lv_neT (k := 1) (a := 1) c15 rfl; have qc22 := lv_neT (k := 2) (a := 2) c22 rfl; have qc37 := lv_neT (k := 3) (a := 3) c37 rfl; have qc54 := lv_neT (k := 4) (a := 4) c54 rfl; have qc67 := lv_neT (k := 5) (a := 5) c67 rfl; have qc86 := lv_neT (k := 6) (a := 6) c86 rfl; have qc105 := lv_neT (k := 7) (a := 7) c105 rfl; have qc116 := lv_neT (k := 8) (a := 8) c116 rfl; have qc127 := lv_neT (k := 9) (a := 9) c127 rfl; have qc136 := lv_neT (k := 10) (a := 10) c136 rfl; have qc147 := lv_neT (k := 11) (a := 11) c147 rfl; have qc160 := lv_neT (k := 12) (a := 12) c160 rfl; have qc171 := lv_neT (k := 13) (a := 13) c171 rfl; have qc182 := lv_neT (k := 14) (a := 14) c182 rfl; have qc193 := lv_neT (k := 15) (a := 15) c193 rfl; have qc206 := lv_neT (k := 16) (a := 16) c206 rfl; have qc217 := lv_neT (k := 17) (a := 17) c217 rfl; have qc230 := lv_neT (k := 18) (a := 18) c230 rfl; have qc241 := lv_neT (k := 19) (a := 19) c241 rfl; have qc252 := lv_neT (k := 20) (a := 20) c252 rfl; have qc265 := lv_neT (k := 21) (a := 21) c265 rfl; have qc278 := lv_neT (k := 22) (a := 22) c278 rfl; have qc289 := lv_neT (k := 23) (a := 23) c289 rfl; have qc300 := lv_neT (k := 24) (a := 24) c300 rfl; have qc309 := lv_neT (k := 25) (a := 25) c309 rfl; have qc318 := lv_neT (k := 26) (a := 26) c318 rfl; have qc329 := lv_neT (k := 27) (a := 27) c329 rfl; have qc338 := lv_neT (k := 28) (a := 28) c338 rfl; have qc347 := lv_neT (k := 29) (a := 29) c347 rfl; have qc356 := lv_neT (k := 30) (a := 30) c356 rfl; have qc369 := lv_neT (k := 31) (a := 31) c369 rfl; have qc378 := lv_neT (k := 32) (a := 32) c378 rfl; have qc387 := lv_neT (k := 33) (a := 33) c387 rfl; have qc396 := lv_neT (k := 34) (a := 34) c396 rfl; have qc407 := lv_neT (k := 35) (a := 35) c407 rfl; have qc418 := lv_neT (k := 36) (a := 36) c418 rfl; have qc433 := lv_neT (k := 37) (a := 37) c433 rfl; have qc450 := lv_neT (k := 38) (a := 38) c450 rfl; have qc461 := lv_neT (k := 39) (a := 39) c461 rfl; have qc472 := lv_neT (k := 40) (a := 40) c472 rfl; have qc485 := lv_neT (k := 41) (a := 41) c485 rfl; have qc496 := lv_neT (k := 42) (a := 42) c496 rfl; have qc507 := lv_neT (k := 43) (a := 43) c507 rfl; have qc518 := lv_neT (k := 44) (a := 44) c518 rfl; have qc531 := lv_neT (k := 45) (a := 45) c531 rfl; have qc540 := lv_neT (k := 46) (a := 46) c540 rfl; have qc549 := lv_neT (k := 47) (a := 47) c549 rfl; omega) rfl ?_
    obtain ⟨v550, e_v550, h⟩ := bnd_e h
    refine g_iinc (pc := 1507) (v := v550) X [(3, .int v550), (0, .ref b), (1, .ref (V.2.2.1 + 0)), (2, .ref (V.2.2.1 + 92))] 3 rfl (by rw [e_v550]; rfl) (Nat.le_of_ble_eq_true rfl) rfl dL_law_1507 ?_
    refine g_goto (pc := 1510) (tgt := 18) X dL_law_1510 rfl ?_
    refine g_sub [1, 2, 3, 0] rfl ?_
    cases h
    exact hb18 _ _ hA
set_option maxRecDepth 100000 in
theorem tl_LW_law_L18 {V : Ev} {Γ : Cn} {Z : Zt} {b Ln : Nat} {xs : Nat → Int32} {x3 : Int32} {σ9 : St} (X : Cx V Γ M_L_law) (hX : va_X b Ln xs Γ.2.2.2.1 Γ.2.2.2.1.heap) (hbl : b < Γ.2.2.2.1.heap.size) (hbA : ¬ AA V b) (hZ : Z.1 = room_1) (hzz : Z.2.1 ≤ Z.1.cells ∧ Z.2.2.1 ≤ Z.1.slots) (hret : ∀ lv σ, Go V Γ M_L_law Z 1514 lv [.int 1] σ)  {e : Int32} {A : Int32 → Prop} (hr : ∀ (r : Int32), A r → r = 1) {n : Nat} (h : iter (fun s : (Int32 × St) => LW_law_L18 Ln xs s.2 s.1) n (x3, σ9) = some e) (hA : A e) : Go V Γ M_L_law Z 18 [(0, .ref b), (1, .ref (V.2.2.1 + 0)), (2, .ref (V.2.2.1 + 92)), (3, .int x3)] [] σ9 := by
  refine iter_go (G := (fun s : (Int32 × St) => Go V Γ M_L_law Z 18 [(0, .ref b), (1, .ref (V.2.2.1 + 0)), (2, .ref (V.2.2.1 + 92)), (3, .int s.1)] [] s.2)) (fun s o ho hS => ?_) n (x3, σ9) h
  exact tb_LW_law_L18 X hX hbl hbA hZ hzz hret  (fun z0 he => hr z0 (by rw [he]; exact hA)) (fun _ _ h9 => h9) ho hS
