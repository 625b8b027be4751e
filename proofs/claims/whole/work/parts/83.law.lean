/-! the law: rows -/
theorem dL_law_0 : decode code 0 = .ok (.new 7, 3) := by decide +kernel
theorem dL_law_3 : decode code 3 = .ok (.dup, 1) := by decide +kernel
theorem dL_law_4 : decode code 4 = .ok (.invokespecial 9, 3) := by decide +kernel
theorem dL_law_7 : decode code 7 = .ok (.astore_n 1, 1) := by decide +kernel
theorem dL_law_8 : decode code 8 = .ok (.new 10, 3) := by decide +kernel
theorem dL_law_11 : decode code 11 = .ok (.dup, 1) := by decide +kernel
theorem dL_law_12 : decode code 12 = .ok (.invokespecial 12, 3) := by decide +kernel
theorem dL_law_15 : decode code 15 = .ok (.astore_n 2, 1) := by decide +kernel
theorem dL_law_16 : decode code 16 = .ok (.iconst 0, 1) := by decide +kernel
theorem dL_law_17 : decode code 17 = .ok (.istore_n 3, 1) := by decide +kernel
theorem dL_law_18 : decode code 18 = .ok (.iload_n 3, 1) := by decide +kernel
theorem dL_law_19 : decode code 19 = .ok (.aload_n 0, 1) := by decide +kernel
theorem dL_law_20 : decode code 20 = .ok (.arraylength, 1) := by decide +kernel
theorem dL_law_21 : decode code 21 = .ok (.bipush 6, 2) := by decide +kernel
theorem dL_law_23 : decode code 23 = .ok (.isub, 1) := by decide +kernel
theorem dL_law_24 : decode code 24 = .ok (.if_icmp .gt 1768, 3) := by decide +kernel
theorem dL_law_27 : decode code 27 = .ok (.aload_n 0, 1) := by decide +kernel
theorem dL_law_28 : decode code 28 = .ok (.iload_n 3, 1) := by decide +kernel
theorem dL_law_29 : decode code 29 = .ok (.iaload, 1) := by decide +kernel
theorem dL_law_30 : decode code 30 = .ok (.bipush 63, 2) := by decide +kernel
theorem dL_law_32 : decode code 32 = .ok (.iand, 1) := by decide +kernel
theorem dL_law_33 : decode code 33 = .ok (.tableswitch 1753 0 55 #[239, 252, 266, 280, 323, 396, 430, 493, 556, 579, 602, 625, 648, 681, 714, 737, 760, 793, 826, 869, 902, 915, 948, 971, 1004, 1053, 1076, 1109, 1132, 1155, 1178, 1201, 1224, 1247, 1270, 1283, 1296, 1335, 1348, 1361, 1374, 1407, 1430, 1443, 1466, 1479, 1502, 1535, 1568, 1591, 1604, 1628, 1651, 1674, 1727, 1740], 239) := by decide +kernel
theorem dL_law_272 : decode code 272 = .ok (.aload_n 1, 1) := by decide +kernel
theorem dL_law_273 : decode code 273 = .ok (.invokevirtual 13, 3) := by decide +kernel
theorem dL_law_276 : decode code 276 = .ok (.aload_n 2, 1) := by decide +kernel
theorem dL_law_277 : decode code 277 = .ok (.invokevirtual 17, 3) := by decide +kernel
theorem dL_law_280 : decode code 280 = .ok (.if_icmp .eq 1506, 3) := by decide +kernel
theorem dL_law_283 : decode code 283 = .ok (.iconst 0, 1) := by decide +kernel
theorem dL_law_284 : decode code 284 = .ok (.ireturn, 1) := by decide +kernel
theorem dL_law_285 : decode code 285 = .ok (.aload_n 1, 1) := by decide +kernel
theorem dL_law_286 : decode code 286 = .ok (.invokevirtual 18, 3) := by decide +kernel
theorem dL_law_289 : decode code 289 = .ok (.aload_n 2, 1) := by decide +kernel
theorem dL_law_290 : decode code 290 = .ok (.invokevirtual 22, 3) := by decide +kernel
theorem dL_law_293 : decode code 293 = .ok (.lcmp, 1) := by decide +kernel
theorem dL_law_294 : decode code 294 = .ok (.ifCond .eq 1492, 3) := by decide +kernel
theorem dL_law_297 : decode code 297 = .ok (.iconst 0, 1) := by decide +kernel
theorem dL_law_298 : decode code 298 = .ok (.ireturn, 1) := by decide +kernel
theorem dL_law_299 : decode code 299 = .ok (.aload_n 1, 1) := by decide +kernel
theorem dL_law_300 : decode code 300 = .ok (.invokevirtual 23, 3) := by decide +kernel
theorem dL_law_303 : decode code 303 = .ok (.aload_n 2, 1) := by decide +kernel
theorem dL_law_304 : decode code 304 = .ok (.invokevirtual 26, 3) := by decide +kernel
theorem dL_law_307 : decode code 307 = .ok (.lcmp, 1) := by decide +kernel
theorem dL_law_308 : decode code 308 = .ok (.ifCond .eq 1478, 3) := by decide +kernel
theorem dL_law_311 : decode code 311 = .ok (.iconst 0, 1) := by decide +kernel
theorem dL_law_312 : decode code 312 = .ok (.ireturn, 1) := by decide +kernel
theorem dL_law_313 : decode code 313 = .ok (.aload_n 1, 1) := by decide +kernel
theorem dL_law_314 : decode code 314 = .ok (.aload_n 0, 1) := by decide +kernel
theorem dL_law_315 : decode code 315 = .ok (.iload_n 3, 1) := by decide +kernel
theorem dL_law_316 : decode code 316 = .ok (.iconst 1, 1) := by decide +kernel
theorem dL_law_317 : decode code 317 = .ok (.iadd, 1) := by decide +kernel
theorem dL_law_318 : decode code 318 = .ok (.iaload, 1) := by decide +kernel
theorem dL_law_319 : decode code 319 = .ok (.aload_n 0, 1) := by decide +kernel
theorem dL_law_320 : decode code 320 = .ok (.iload_n 3, 1) := by decide +kernel
theorem dL_law_321 : decode code 321 = .ok (.iconst 2, 1) := by decide +kernel
theorem dL_law_322 : decode code 322 = .ok (.iadd, 1) := by decide +kernel
theorem dL_law_323 : decode code 323 = .ok (.iaload, 1) := by decide +kernel
theorem dL_law_324 : decode code 324 = .ok (.aload_n 0, 1) := by decide +kernel
theorem dL_law_325 : decode code 325 = .ok (.iload_n 3, 1) := by decide +kernel
theorem dL_law_326 : decode code 326 = .ok (.iconst 3, 1) := by decide +kernel
theorem dL_law_327 : decode code 327 = .ok (.iadd, 1) := by decide +kernel
theorem dL_law_328 : decode code 328 = .ok (.iaload, 1) := by decide +kernel
theorem dL_law_329 : decode code 329 = .ok (.invokevirtual 27, 3) := by decide +kernel
theorem dL_law_332 : decode code 332 = .ok (.aload_n 2, 1) := by decide +kernel
theorem dL_law_333 : decode code 333 = .ok (.aload_n 0, 1) := by decide +kernel
theorem dL_law_334 : decode code 334 = .ok (.iload_n 3, 1) := by decide +kernel
theorem dL_law_335 : decode code 335 = .ok (.iconst 1, 1) := by decide +kernel
theorem dL_law_336 : decode code 336 = .ok (.iadd, 1) := by decide +kernel
theorem dL_law_337 : decode code 337 = .ok (.iaload, 1) := by decide +kernel
theorem dL_law_338 : decode code 338 = .ok (.aload_n 0, 1) := by decide +kernel
theorem dL_law_339 : decode code 339 = .ok (.iload_n 3, 1) := by decide +kernel
theorem dL_law_340 : decode code 340 = .ok (.iconst 2, 1) := by decide +kernel
theorem dL_law_341 : decode code 341 = .ok (.iadd, 1) := by decide +kernel
theorem dL_law_342 : decode code 342 = .ok (.iaload, 1) := by decide +kernel
theorem dL_law_343 : decode code 343 = .ok (.aload_n 0, 1) := by decide +kernel
theorem dL_law_344 : decode code 344 = .ok (.iload_n 3, 1) := by decide +kernel
theorem dL_law_345 : decode code 345 = .ok (.iconst 3, 1) := by decide +kernel
theorem dL_law_346 : decode code 346 = .ok (.iadd, 1) := by decide +kernel
theorem dL_law_347 : decode code 347 = .ok (.iaload, 1) := by decide +kernel
theorem dL_law_348 : decode code 348 = .ok (.invokevirtual 31, 3) := by decide +kernel
theorem dL_law_351 : decode code 351 = .ok (.if_icmp .eq 1435, 3) := by decide +kernel
theorem dL_law_354 : decode code 354 = .ok (.iconst 0, 1) := by decide +kernel
theorem dL_law_355 : decode code 355 = .ok (.ireturn, 1) := by decide +kernel
theorem dL_law_356 : decode code 356 = .ok (.aload_n 1, 1) := by decide +kernel
theorem dL_law_357 : decode code 357 = .ok (.aload_n 0, 1) := by decide +kernel
theorem dL_law_358 : decode code 358 = .ok (.iload_n 3, 1) := by decide +kernel
theorem dL_law_359 : decode code 359 = .ok (.iconst 1, 1) := by decide +kernel
theorem dL_law_360 : decode code 360 = .ok (.iadd, 1) := by decide +kernel
theorem dL_law_361 : decode code 361 = .ok (.iaload, 1) := by decide +kernel
theorem dL_law_362 : decode code 362 = .ok (.aload_n 0, 1) := by decide +kernel
theorem dL_law_363 : decode code 363 = .ok (.iload_n 3, 1) := by decide +kernel
theorem dL_law_364 : decode code 364 = .ok (.iconst 2, 1) := by decide +kernel
theorem dL_law_365 : decode code 365 = .ok (.iadd, 1) := by decide +kernel
theorem dL_law_366 : decode code 366 = .ok (.iaload, 1) := by decide +kernel
theorem dL_law_367 : decode code 367 = .ok (.aload_n 0, 1) := by decide +kernel
theorem dL_law_368 : decode code 368 = .ok (.iload_n 3, 1) := by decide +kernel
theorem dL_law_369 : decode code 369 = .ok (.iconst 3, 1) := by decide +kernel
theorem dL_law_370 : decode code 370 = .ok (.iadd, 1) := by decide +kernel
theorem dL_law_371 : decode code 371 = .ok (.iaload, 1) := by decide +kernel
theorem dL_law_372 : decode code 372 = .ok (.i2l, 1) := by decide +kernel
theorem dL_law_373 : decode code 373 = .ok (.bipush 32, 2) := by decide +kernel
theorem dL_law_375 : decode code 375 = .ok (.lshl, 1) := by decide +kernel
theorem dL_law_376 : decode code 376 = .ok (.aload_n 0, 1) := by decide +kernel
theorem dL_law_377 : decode code 377 = .ok (.iload_n 3, 1) := by decide +kernel
theorem dL_law_378 : decode code 378 = .ok (.iconst 4, 1) := by decide +kernel
theorem dL_law_379 : decode code 379 = .ok (.iadd, 1) := by decide +kernel
theorem dL_law_380 : decode code 380 = .ok (.iaload, 1) := by decide +kernel
theorem dL_law_381 : decode code 381 = .ok (.i2l, 1) := by decide +kernel
theorem dL_law_382 : decode code 382 = .ok (.ldc2_w 32, 3) := by decide +kernel
theorem dL_law_385 : decode code 385 = .ok (.land, 1) := by decide +kernel
theorem dL_law_386 : decode code 386 = .ok (.lor, 1) := by decide +kernel
theorem dL_law_387 : decode code 387 = .ok (.invokevirtual 34, 3) := by decide +kernel
theorem dL_law_390 : decode code 390 = .ok (.aload_n 2, 1) := by decide +kernel
theorem dL_law_391 : decode code 391 = .ok (.aload_n 0, 1) := by decide +kernel
theorem dL_law_392 : decode code 392 = .ok (.iload_n 3, 1) := by decide +kernel
theorem dL_law_393 : decode code 393 = .ok (.iconst 1, 1) := by decide +kernel
theorem dL_law_394 : decode code 394 = .ok (.iadd, 1) := by decide +kernel
theorem dL_law_395 : decode code 395 = .ok (.iaload, 1) := by decide +kernel
theorem dL_law_396 : decode code 396 = .ok (.aload_n 0, 1) := by decide +kernel
theorem dL_law_397 : decode code 397 = .ok (.iload_n 3, 1) := by decide +kernel
theorem dL_law_398 : decode code 398 = .ok (.iconst 2, 1) := by decide +kernel
theorem dL_law_399 : decode code 399 = .ok (.iadd, 1) := by decide +kernel
theorem dL_law_400 : decode code 400 = .ok (.iaload, 1) := by decide +kernel
theorem dL_law_401 : decode code 401 = .ok (.aload_n 0, 1) := by decide +kernel
theorem dL_law_402 : decode code 402 = .ok (.iload_n 3, 1) := by decide +kernel
theorem dL_law_403 : decode code 403 = .ok (.iconst 3, 1) := by decide +kernel
theorem dL_law_404 : decode code 404 = .ok (.iadd, 1) := by decide +kernel
theorem dL_law_405 : decode code 405 = .ok (.iaload, 1) := by decide +kernel
theorem dL_law_406 : decode code 406 = .ok (.i2l, 1) := by decide +kernel
theorem dL_law_407 : decode code 407 = .ok (.bipush 32, 2) := by decide +kernel
theorem dL_law_409 : decode code 409 = .ok (.lshl, 1) := by decide +kernel
theorem dL_law_410 : decode code 410 = .ok (.aload_n 0, 1) := by decide +kernel
theorem dL_law_411 : decode code 411 = .ok (.iload_n 3, 1) := by decide +kernel
theorem dL_law_412 : decode code 412 = .ok (.iconst 4, 1) := by decide +kernel
theorem dL_law_413 : decode code 413 = .ok (.iadd, 1) := by decide +kernel
theorem dL_law_414 : decode code 414 = .ok (.iaload, 1) := by decide +kernel
theorem dL_law_415 : decode code 415 = .ok (.i2l, 1) := by decide +kernel
theorem dL_law_416 : decode code 416 = .ok (.ldc2_w 32, 3) := by decide +kernel
theorem dL_law_419 : decode code 419 = .ok (.land, 1) := by decide +kernel
theorem dL_law_420 : decode code 420 = .ok (.lor, 1) := by decide +kernel
theorem dL_law_421 : decode code 421 = .ok (.invokevirtual 38, 3) := by decide +kernel
theorem dL_law_424 : decode code 424 = .ok (.if_icmp .eq 1362, 3) := by decide +kernel
theorem dL_law_427 : decode code 427 = .ok (.iconst 0, 1) := by decide +kernel
theorem dL_law_428 : decode code 428 = .ok (.ireturn, 1) := by decide +kernel
theorem dL_law_429 : decode code 429 = .ok (.aload_n 1, 1) := by decide +kernel
theorem dL_law_430 : decode code 430 = .ok (.aload_n 0, 1) := by decide +kernel
theorem dL_law_431 : decode code 431 = .ok (.iload_n 3, 1) := by decide +kernel
theorem dL_law_432 : decode code 432 = .ok (.iconst 1, 1) := by decide +kernel
theorem dL_law_433 : decode code 433 = .ok (.iadd, 1) := by decide +kernel
theorem dL_law_434 : decode code 434 = .ok (.iaload, 1) := by decide +kernel
theorem dL_law_435 : decode code 435 = .ok (.aload_n 0, 1) := by decide +kernel
theorem dL_law_436 : decode code 436 = .ok (.iload_n 3, 1) := by decide +kernel
theorem dL_law_437 : decode code 437 = .ok (.iconst 2, 1) := by decide +kernel
theorem dL_law_438 : decode code 438 = .ok (.iadd, 1) := by decide +kernel
theorem dL_law_439 : decode code 439 = .ok (.iaload, 1) := by decide +kernel
theorem dL_law_440 : decode code 440 = .ok (.invokevirtual 39, 3) := by decide +kernel
theorem dL_law_443 : decode code 443 = .ok (.aload_n 2, 1) := by decide +kernel
theorem dL_law_444 : decode code 444 = .ok (.aload_n 0, 1) := by decide +kernel
theorem dL_law_445 : decode code 445 = .ok (.iload_n 3, 1) := by decide +kernel
theorem dL_law_446 : decode code 446 = .ok (.iconst 1, 1) := by decide +kernel
theorem dL_law_447 : decode code 447 = .ok (.iadd, 1) := by decide +kernel
theorem dL_law_448 : decode code 448 = .ok (.iaload, 1) := by decide +kernel
theorem dL_law_449 : decode code 449 = .ok (.aload_n 0, 1) := by decide +kernel
theorem dL_law_450 : decode code 450 = .ok (.iload_n 3, 1) := by decide +kernel
theorem dL_law_451 : decode code 451 = .ok (.iconst 2, 1) := by decide +kernel
theorem dL_law_452 : decode code 452 = .ok (.iadd, 1) := by decide +kernel
theorem dL_law_453 : decode code 453 = .ok (.iaload, 1) := by decide +kernel
theorem dL_law_454 : decode code 454 = .ok (.invokevirtual 43, 3) := by decide +kernel
theorem dL_law_457 : decode code 457 = .ok (.lcmp, 1) := by decide +kernel
theorem dL_law_458 : decode code 458 = .ok (.ifCond .eq 1328, 3) := by decide +kernel
theorem dL_law_461 : decode code 461 = .ok (.iconst 0, 1) := by decide +kernel
theorem dL_law_462 : decode code 462 = .ok (.ireturn, 1) := by decide +kernel
theorem dL_law_463 : decode code 463 = .ok (.aload_n 1, 1) := by decide +kernel
theorem dL_law_464 : decode code 464 = .ok (.aload_n 0, 1) := by decide +kernel
theorem dL_law_465 : decode code 465 = .ok (.iload_n 3, 1) := by decide +kernel
theorem dL_law_466 : decode code 466 = .ok (.iconst 1, 1) := by decide +kernel
theorem dL_law_467 : decode code 467 = .ok (.iadd, 1) := by decide +kernel
theorem dL_law_468 : decode code 468 = .ok (.iaload, 1) := by decide +kernel
theorem dL_law_469 : decode code 469 = .ok (.aload_n 0, 1) := by decide +kernel
theorem dL_law_470 : decode code 470 = .ok (.iload_n 3, 1) := by decide +kernel
theorem dL_law_471 : decode code 471 = .ok (.iconst 2, 1) := by decide +kernel
theorem dL_law_472 : decode code 472 = .ok (.iadd, 1) := by decide +kernel
theorem dL_law_473 : decode code 473 = .ok (.iaload, 1) := by decide +kernel
theorem dL_law_474 : decode code 474 = .ok (.aload_n 0, 1) := by decide +kernel
theorem dL_law_475 : decode code 475 = .ok (.iload_n 3, 1) := by decide +kernel
theorem dL_law_476 : decode code 476 = .ok (.iconst 3, 1) := by decide +kernel
theorem dL_law_477 : decode code 477 = .ok (.iadd, 1) := by decide +kernel
theorem dL_law_478 : decode code 478 = .ok (.iaload, 1) := by decide +kernel
theorem dL_law_479 : decode code 479 = .ok (.aload_n 0, 1) := by decide +kernel
theorem dL_law_480 : decode code 480 = .ok (.iload_n 3, 1) := by decide +kernel
theorem dL_law_481 : decode code 481 = .ok (.iconst 4, 1) := by decide +kernel
theorem dL_law_482 : decode code 482 = .ok (.iadd, 1) := by decide +kernel
theorem dL_law_483 : decode code 483 = .ok (.iaload, 1) := by decide +kernel
theorem dL_law_484 : decode code 484 = .ok (.aload_n 0, 1) := by decide +kernel
theorem dL_law_485 : decode code 485 = .ok (.iload_n 3, 1) := by decide +kernel
theorem dL_law_486 : decode code 486 = .ok (.iconst 5, 1) := by decide +kernel
theorem dL_law_487 : decode code 487 = .ok (.iadd, 1) := by decide +kernel
theorem dL_law_488 : decode code 488 = .ok (.iaload, 1) := by decide +kernel
theorem dL_law_489 : decode code 489 = .ok (.invokevirtual 44, 3) := by decide +kernel
theorem dL_law_492 : decode code 492 = .ok (.aload_n 2, 1) := by decide +kernel
theorem dL_law_493 : decode code 493 = .ok (.aload_n 0, 1) := by decide +kernel
theorem dL_law_494 : decode code 494 = .ok (.iload_n 3, 1) := by decide +kernel
theorem dL_law_495 : decode code 495 = .ok (.iconst 1, 1) := by decide +kernel
theorem dL_law_496 : decode code 496 = .ok (.iadd, 1) := by decide +kernel
theorem dL_law_497 : decode code 497 = .ok (.iaload, 1) := by decide +kernel
theorem dL_law_498 : decode code 498 = .ok (.aload_n 0, 1) := by decide +kernel
theorem dL_law_499 : decode code 499 = .ok (.iload_n 3, 1) := by decide +kernel
theorem dL_law_500 : decode code 500 = .ok (.iconst 2, 1) := by decide +kernel
theorem dL_law_501 : decode code 501 = .ok (.iadd, 1) := by decide +kernel
theorem dL_law_502 : decode code 502 = .ok (.iaload, 1) := by decide +kernel
theorem dL_law_503 : decode code 503 = .ok (.aload_n 0, 1) := by decide +kernel
theorem dL_law_504 : decode code 504 = .ok (.iload_n 3, 1) := by decide +kernel
theorem dL_law_505 : decode code 505 = .ok (.iconst 3, 1) := by decide +kernel
theorem dL_law_506 : decode code 506 = .ok (.iadd, 1) := by decide +kernel
theorem dL_law_507 : decode code 507 = .ok (.iaload, 1) := by decide +kernel
theorem dL_law_508 : decode code 508 = .ok (.aload_n 0, 1) := by decide +kernel
theorem dL_law_509 : decode code 509 = .ok (.iload_n 3, 1) := by decide +kernel
theorem dL_law_510 : decode code 510 = .ok (.iconst 4, 1) := by decide +kernel
theorem dL_law_511 : decode code 511 = .ok (.iadd, 1) := by decide +kernel
theorem dL_law_512 : decode code 512 = .ok (.iaload, 1) := by decide +kernel
theorem dL_law_513 : decode code 513 = .ok (.aload_n 0, 1) := by decide +kernel
theorem dL_law_514 : decode code 514 = .ok (.iload_n 3, 1) := by decide +kernel
theorem dL_law_515 : decode code 515 = .ok (.iconst 5, 1) := by decide +kernel
theorem dL_law_516 : decode code 516 = .ok (.iadd, 1) := by decide +kernel
theorem dL_law_517 : decode code 517 = .ok (.iaload, 1) := by decide +kernel
theorem dL_law_518 : decode code 518 = .ok (.invokevirtual 48, 3) := by decide +kernel
theorem dL_law_521 : decode code 521 = .ok (.if_icmp .eq 1265, 3) := by decide +kernel
theorem dL_law_524 : decode code 524 = .ok (.iconst 0, 1) := by decide +kernel
theorem dL_law_525 : decode code 525 = .ok (.ireturn, 1) := by decide +kernel
theorem dL_law_526 : decode code 526 = .ok (.aload_n 1, 1) := by decide +kernel
theorem dL_law_527 : decode code 527 = .ok (.aload_n 0, 1) := by decide +kernel
theorem dL_law_528 : decode code 528 = .ok (.iload_n 3, 1) := by decide +kernel
theorem dL_law_529 : decode code 529 = .ok (.iconst 1, 1) := by decide +kernel
theorem dL_law_530 : decode code 530 = .ok (.iadd, 1) := by decide +kernel
theorem dL_law_531 : decode code 531 = .ok (.iaload, 1) := by decide +kernel
theorem dL_law_532 : decode code 532 = .ok (.aload_n 0, 1) := by decide +kernel
theorem dL_law_533 : decode code 533 = .ok (.iload_n 3, 1) := by decide +kernel
theorem dL_law_534 : decode code 534 = .ok (.iconst 2, 1) := by decide +kernel
theorem dL_law_535 : decode code 535 = .ok (.iadd, 1) := by decide +kernel
theorem dL_law_536 : decode code 536 = .ok (.iaload, 1) := by decide +kernel
theorem dL_law_537 : decode code 537 = .ok (.aload_n 0, 1) := by decide +kernel
theorem dL_law_538 : decode code 538 = .ok (.iload_n 3, 1) := by decide +kernel
theorem dL_law_539 : decode code 539 = .ok (.iconst 3, 1) := by decide +kernel
theorem dL_law_540 : decode code 540 = .ok (.iadd, 1) := by decide +kernel
theorem dL_law_541 : decode code 541 = .ok (.iaload, 1) := by decide +kernel
theorem dL_law_542 : decode code 542 = .ok (.aload_n 0, 1) := by decide +kernel
theorem dL_law_543 : decode code 543 = .ok (.iload_n 3, 1) := by decide +kernel
theorem dL_law_544 : decode code 544 = .ok (.iconst 4, 1) := by decide +kernel
theorem dL_law_545 : decode code 545 = .ok (.iadd, 1) := by decide +kernel
theorem dL_law_546 : decode code 546 = .ok (.iaload, 1) := by decide +kernel
theorem dL_law_547 : decode code 547 = .ok (.aload_n 0, 1) := by decide +kernel
theorem dL_law_548 : decode code 548 = .ok (.iload_n 3, 1) := by decide +kernel
theorem dL_law_549 : decode code 549 = .ok (.iconst 5, 1) := by decide +kernel
theorem dL_law_550 : decode code 550 = .ok (.iadd, 1) := by decide +kernel
theorem dL_law_551 : decode code 551 = .ok (.iaload, 1) := by decide +kernel
theorem dL_law_552 : decode code 552 = .ok (.invokevirtual 49, 3) := by decide +kernel
theorem dL_law_555 : decode code 555 = .ok (.aload_n 2, 1) := by decide +kernel
theorem dL_law_556 : decode code 556 = .ok (.aload_n 0, 1) := by decide +kernel
theorem dL_law_557 : decode code 557 = .ok (.iload_n 3, 1) := by decide +kernel
theorem dL_law_558 : decode code 558 = .ok (.iconst 1, 1) := by decide +kernel
theorem dL_law_559 : decode code 559 = .ok (.iadd, 1) := by decide +kernel
theorem dL_law_560 : decode code 560 = .ok (.iaload, 1) := by decide +kernel
theorem dL_law_561 : decode code 561 = .ok (.aload_n 0, 1) := by decide +kernel
theorem dL_law_562 : decode code 562 = .ok (.iload_n 3, 1) := by decide +kernel
theorem dL_law_563 : decode code 563 = .ok (.iconst 2, 1) := by decide +kernel
theorem dL_law_564 : decode code 564 = .ok (.iadd, 1) := by decide +kernel
theorem dL_law_565 : decode code 565 = .ok (.iaload, 1) := by decide +kernel
theorem dL_law_566 : decode code 566 = .ok (.aload_n 0, 1) := by decide +kernel
theorem dL_law_567 : decode code 567 = .ok (.iload_n 3, 1) := by decide +kernel
theorem dL_law_568 : decode code 568 = .ok (.iconst 3, 1) := by decide +kernel
theorem dL_law_569 : decode code 569 = .ok (.iadd, 1) := by decide +kernel
theorem dL_law_570 : decode code 570 = .ok (.iaload, 1) := by decide +kernel
theorem dL_law_571 : decode code 571 = .ok (.aload_n 0, 1) := by decide +kernel
theorem dL_law_572 : decode code 572 = .ok (.iload_n 3, 1) := by decide +kernel
theorem dL_law_573 : decode code 573 = .ok (.iconst 4, 1) := by decide +kernel
theorem dL_law_574 : decode code 574 = .ok (.iadd, 1) := by decide +kernel
theorem dL_law_575 : decode code 575 = .ok (.iaload, 1) := by decide +kernel
theorem dL_law_576 : decode code 576 = .ok (.aload_n 0, 1) := by decide +kernel
theorem dL_law_577 : decode code 577 = .ok (.iload_n 3, 1) := by decide +kernel
theorem dL_law_578 : decode code 578 = .ok (.iconst 5, 1) := by decide +kernel
theorem dL_law_579 : decode code 579 = .ok (.iadd, 1) := by decide +kernel
theorem dL_law_580 : decode code 580 = .ok (.iaload, 1) := by decide +kernel
theorem dL_law_581 : decode code 581 = .ok (.invokevirtual 53, 3) := by decide +kernel
theorem dL_law_584 : decode code 584 = .ok (.if_icmp .eq 1202, 3) := by decide +kernel
theorem dL_law_587 : decode code 587 = .ok (.iconst 0, 1) := by decide +kernel
theorem dL_law_588 : decode code 588 = .ok (.ireturn, 1) := by decide +kernel
theorem dL_law_589 : decode code 589 = .ok (.aload_n 1, 1) := by decide +kernel
theorem dL_law_590 : decode code 590 = .ok (.aload_n 0, 1) := by decide +kernel
theorem dL_law_591 : decode code 591 = .ok (.iload_n 3, 1) := by decide +kernel
theorem dL_law_592 : decode code 592 = .ok (.iconst 1, 1) := by decide +kernel
theorem dL_law_593 : decode code 593 = .ok (.iadd, 1) := by decide +kernel
theorem dL_law_594 : decode code 594 = .ok (.iaload, 1) := by decide +kernel
theorem dL_law_595 : decode code 595 = .ok (.invokevirtual 54, 3) := by decide +kernel
theorem dL_law_598 : decode code 598 = .ok (.aload_n 2, 1) := by decide +kernel
theorem dL_law_599 : decode code 599 = .ok (.aload_n 0, 1) := by decide +kernel
theorem dL_law_600 : decode code 600 = .ok (.iload_n 3, 1) := by decide +kernel
theorem dL_law_601 : decode code 601 = .ok (.iconst 1, 1) := by decide +kernel
theorem dL_law_602 : decode code 602 = .ok (.iadd, 1) := by decide +kernel
theorem dL_law_603 : decode code 603 = .ok (.iaload, 1) := by decide +kernel
theorem dL_law_604 : decode code 604 = .ok (.invokevirtual 58, 3) := by decide +kernel
theorem dL_law_607 : decode code 607 = .ok (.if_icmp .eq 1179, 3) := by decide +kernel
theorem dL_law_610 : decode code 610 = .ok (.iconst 0, 1) := by decide +kernel
theorem dL_law_611 : decode code 611 = .ok (.ireturn, 1) := by decide +kernel
theorem dL_law_612 : decode code 612 = .ok (.aload_n 1, 1) := by decide +kernel
theorem dL_law_613 : decode code 613 = .ok (.aload_n 0, 1) := by decide +kernel
theorem dL_law_614 : decode code 614 = .ok (.iload_n 3, 1) := by decide +kernel
theorem dL_law_615 : decode code 615 = .ok (.iconst 1, 1) := by decide +kernel
theorem dL_law_616 : decode code 616 = .ok (.iadd, 1) := by decide +kernel
theorem dL_law_617 : decode code 617 = .ok (.iaload, 1) := by decide +kernel
theorem dL_law_618 : decode code 618 = .ok (.invokevirtual 59, 3) := by decide +kernel
theorem dL_law_621 : decode code 621 = .ok (.aload_n 2, 1) := by decide +kernel
theorem dL_law_622 : decode code 622 = .ok (.aload_n 0, 1) := by decide +kernel
theorem dL_law_623 : decode code 623 = .ok (.iload_n 3, 1) := by decide +kernel
theorem dL_law_624 : decode code 624 = .ok (.iconst 1, 1) := by decide +kernel
theorem dL_law_625 : decode code 625 = .ok (.iadd, 1) := by decide +kernel
theorem dL_law_626 : decode code 626 = .ok (.iaload, 1) := by decide +kernel
theorem dL_law_627 : decode code 627 = .ok (.invokevirtual 62, 3) := by decide +kernel
theorem dL_law_630 : decode code 630 = .ok (.if_icmp .eq 1156, 3) := by decide +kernel
theorem dL_law_633 : decode code 633 = .ok (.iconst 0, 1) := by decide +kernel
theorem dL_law_634 : decode code 634 = .ok (.ireturn, 1) := by decide +kernel
theorem dL_law_635 : decode code 635 = .ok (.aload_n 1, 1) := by decide +kernel
theorem dL_law_636 : decode code 636 = .ok (.aload_n 0, 1) := by decide +kernel
theorem dL_law_637 : decode code 637 = .ok (.iload_n 3, 1) := by decide +kernel
theorem dL_law_638 : decode code 638 = .ok (.iconst 1, 1) := by decide +kernel
theorem dL_law_639 : decode code 639 = .ok (.iadd, 1) := by decide +kernel
theorem dL_law_640 : decode code 640 = .ok (.iaload, 1) := by decide +kernel
theorem dL_law_641 : decode code 641 = .ok (.invokevirtual 63, 3) := by decide +kernel
theorem dL_law_644 : decode code 644 = .ok (.aload_n 2, 1) := by decide +kernel
theorem dL_law_645 : decode code 645 = .ok (.aload_n 0, 1) := by decide +kernel
theorem dL_law_646 : decode code 646 = .ok (.iload_n 3, 1) := by decide +kernel
theorem dL_law_647 : decode code 647 = .ok (.iconst 1, 1) := by decide +kernel
theorem dL_law_648 : decode code 648 = .ok (.iadd, 1) := by decide +kernel
theorem dL_law_649 : decode code 649 = .ok (.iaload, 1) := by decide +kernel
theorem dL_law_650 : decode code 650 = .ok (.invokevirtual 66, 3) := by decide +kernel
theorem dL_law_653 : decode code 653 = .ok (.if_icmp .eq 1133, 3) := by decide +kernel
theorem dL_law_656 : decode code 656 = .ok (.iconst 0, 1) := by decide +kernel
theorem dL_law_657 : decode code 657 = .ok (.ireturn, 1) := by decide +kernel
theorem dL_law_658 : decode code 658 = .ok (.aload_n 1, 1) := by decide +kernel
theorem dL_law_659 : decode code 659 = .ok (.aload_n 0, 1) := by decide +kernel
theorem dL_law_660 : decode code 660 = .ok (.iload_n 3, 1) := by decide +kernel
theorem dL_law_661 : decode code 661 = .ok (.iconst 1, 1) := by decide +kernel
theorem dL_law_662 : decode code 662 = .ok (.iadd, 1) := by decide +kernel
theorem dL_law_663 : decode code 663 = .ok (.iaload, 1) := by decide +kernel
theorem dL_law_664 : decode code 664 = .ok (.invokevirtual 67, 3) := by decide +kernel
theorem dL_law_667 : decode code 667 = .ok (.aload_n 2, 1) := by decide +kernel
theorem dL_law_668 : decode code 668 = .ok (.aload_n 0, 1) := by decide +kernel
theorem dL_law_669 : decode code 669 = .ok (.iload_n 3, 1) := by decide +kernel
theorem dL_law_670 : decode code 670 = .ok (.iconst 1, 1) := by decide +kernel
theorem dL_law_671 : decode code 671 = .ok (.iadd, 1) := by decide +kernel
theorem dL_law_672 : decode code 672 = .ok (.iaload, 1) := by decide +kernel
theorem dL_law_673 : decode code 673 = .ok (.invokevirtual 70, 3) := by decide +kernel
theorem dL_law_676 : decode code 676 = .ok (.if_icmp .eq 1110, 3) := by decide +kernel
theorem dL_law_679 : decode code 679 = .ok (.iconst 0, 1) := by decide +kernel
theorem dL_law_680 : decode code 680 = .ok (.ireturn, 1) := by decide +kernel
theorem dL_law_681 : decode code 681 = .ok (.aload_n 1, 1) := by decide +kernel
theorem dL_law_682 : decode code 682 = .ok (.aload_n 0, 1) := by decide +kernel
theorem dL_law_683 : decode code 683 = .ok (.iload_n 3, 1) := by decide +kernel
theorem dL_law_684 : decode code 684 = .ok (.iconst 1, 1) := by decide +kernel
theorem dL_law_685 : decode code 685 = .ok (.iadd, 1) := by decide +kernel
theorem dL_law_686 : decode code 686 = .ok (.iaload, 1) := by decide +kernel
theorem dL_law_687 : decode code 687 = .ok (.aload_n 0, 1) := by decide +kernel
theorem dL_law_688 : decode code 688 = .ok (.iload_n 3, 1) := by decide +kernel
theorem dL_law_689 : decode code 689 = .ok (.iconst 2, 1) := by decide +kernel
theorem dL_law_690 : decode code 690 = .ok (.iadd, 1) := by decide +kernel
theorem dL_law_691 : decode code 691 = .ok (.iaload, 1) := by decide +kernel
theorem dL_law_692 : decode code 692 = .ok (.invokevirtual 71, 3) := by decide +kernel
theorem dL_law_695 : decode code 695 = .ok (.aload_n 2, 1) := by decide +kernel
theorem dL_law_696 : decode code 696 = .ok (.aload_n 0, 1) := by decide +kernel
theorem dL_law_697 : decode code 697 = .ok (.iload_n 3, 1) := by decide +kernel
theorem dL_law_698 : decode code 698 = .ok (.iconst 1, 1) := by decide +kernel
theorem dL_law_699 : decode code 699 = .ok (.iadd, 1) := by decide +kernel
theorem dL_law_700 : decode code 700 = .ok (.iaload, 1) := by decide +kernel
theorem dL_law_701 : decode code 701 = .ok (.aload_n 0, 1) := by decide +kernel
theorem dL_law_702 : decode code 702 = .ok (.iload_n 3, 1) := by decide +kernel
theorem dL_law_703 : decode code 703 = .ok (.iconst 2, 1) := by decide +kernel
theorem dL_law_704 : decode code 704 = .ok (.iadd, 1) := by decide +kernel
theorem dL_law_705 : decode code 705 = .ok (.iaload, 1) := by decide +kernel
theorem dL_law_706 : decode code 706 = .ok (.invokevirtual 75, 3) := by decide +kernel
theorem dL_law_709 : decode code 709 = .ok (.if_icmp .eq 1077, 3) := by decide +kernel
theorem dL_law_712 : decode code 712 = .ok (.iconst 0, 1) := by decide +kernel
theorem dL_law_713 : decode code 713 = .ok (.ireturn, 1) := by decide +kernel
theorem dL_law_714 : decode code 714 = .ok (.aload_n 1, 1) := by decide +kernel
theorem dL_law_715 : decode code 715 = .ok (.aload_n 0, 1) := by decide +kernel
theorem dL_law_716 : decode code 716 = .ok (.iload_n 3, 1) := by decide +kernel
theorem dL_law_717 : decode code 717 = .ok (.iconst 1, 1) := by decide +kernel
theorem dL_law_718 : decode code 718 = .ok (.iadd, 1) := by decide +kernel
theorem dL_law_719 : decode code 719 = .ok (.iaload, 1) := by decide +kernel
theorem dL_law_720 : decode code 720 = .ok (.aload_n 0, 1) := by decide +kernel
theorem dL_law_721 : decode code 721 = .ok (.iload_n 3, 1) := by decide +kernel
theorem dL_law_722 : decode code 722 = .ok (.iconst 2, 1) := by decide +kernel
theorem dL_law_723 : decode code 723 = .ok (.iadd, 1) := by decide +kernel
theorem dL_law_724 : decode code 724 = .ok (.iaload, 1) := by decide +kernel
theorem dL_law_725 : decode code 725 = .ok (.invokevirtual 76, 3) := by decide +kernel
theorem dL_law_728 : decode code 728 = .ok (.aload_n 2, 1) := by decide +kernel
theorem dL_law_729 : decode code 729 = .ok (.aload_n 0, 1) := by decide +kernel
theorem dL_law_730 : decode code 730 = .ok (.iload_n 3, 1) := by decide +kernel
theorem dL_law_731 : decode code 731 = .ok (.iconst 1, 1) := by decide +kernel
theorem dL_law_732 : decode code 732 = .ok (.iadd, 1) := by decide +kernel
theorem dL_law_733 : decode code 733 = .ok (.iaload, 1) := by decide +kernel
theorem dL_law_734 : decode code 734 = .ok (.aload_n 0, 1) := by decide +kernel
theorem dL_law_735 : decode code 735 = .ok (.iload_n 3, 1) := by decide +kernel
theorem dL_law_736 : decode code 736 = .ok (.iconst 2, 1) := by decide +kernel
theorem dL_law_737 : decode code 737 = .ok (.iadd, 1) := by decide +kernel
theorem dL_law_738 : decode code 738 = .ok (.iaload, 1) := by decide +kernel
theorem dL_law_739 : decode code 739 = .ok (.invokevirtual 79, 3) := by decide +kernel
theorem dL_law_742 : decode code 742 = .ok (.if_icmp .eq 1044, 3) := by decide +kernel
theorem dL_law_745 : decode code 745 = .ok (.iconst 0, 1) := by decide +kernel
theorem dL_law_746 : decode code 746 = .ok (.ireturn, 1) := by decide +kernel
theorem dL_law_747 : decode code 747 = .ok (.aload_n 1, 1) := by decide +kernel
theorem dL_law_748 : decode code 748 = .ok (.aload_n 0, 1) := by decide +kernel
theorem dL_law_749 : decode code 749 = .ok (.iload_n 3, 1) := by decide +kernel
theorem dL_law_750 : decode code 750 = .ok (.iconst 1, 1) := by decide +kernel
theorem dL_law_751 : decode code 751 = .ok (.iadd, 1) := by decide +kernel
theorem dL_law_752 : decode code 752 = .ok (.iaload, 1) := by decide +kernel
theorem dL_law_753 : decode code 753 = .ok (.invokevirtual 80, 3) := by decide +kernel
theorem dL_law_756 : decode code 756 = .ok (.aload_n 2, 1) := by decide +kernel
theorem dL_law_757 : decode code 757 = .ok (.aload_n 0, 1) := by decide +kernel
theorem dL_law_758 : decode code 758 = .ok (.iload_n 3, 1) := by decide +kernel
theorem dL_law_759 : decode code 759 = .ok (.iconst 1, 1) := by decide +kernel
theorem dL_law_760 : decode code 760 = .ok (.iadd, 1) := by decide +kernel
theorem dL_law_761 : decode code 761 = .ok (.iaload, 1) := by decide +kernel
theorem dL_law_762 : decode code 762 = .ok (.invokevirtual 83, 3) := by decide +kernel
theorem dL_law_765 : decode code 765 = .ok (.if_icmp .eq 1021, 3) := by decide +kernel
theorem dL_law_768 : decode code 768 = .ok (.iconst 0, 1) := by decide +kernel
theorem dL_law_769 : decode code 769 = .ok (.ireturn, 1) := by decide +kernel
theorem dL_law_770 : decode code 770 = .ok (.aload_n 1, 1) := by decide +kernel
theorem dL_law_771 : decode code 771 = .ok (.aload_n 0, 1) := by decide +kernel
theorem dL_law_772 : decode code 772 = .ok (.iload_n 3, 1) := by decide +kernel
theorem dL_law_773 : decode code 773 = .ok (.iconst 1, 1) := by decide +kernel
theorem dL_law_774 : decode code 774 = .ok (.iadd, 1) := by decide +kernel
theorem dL_law_775 : decode code 775 = .ok (.iaload, 1) := by decide +kernel
theorem dL_law_776 : decode code 776 = .ok (.invokevirtual 84, 3) := by decide +kernel
theorem dL_law_779 : decode code 779 = .ok (.aload_n 2, 1) := by decide +kernel
theorem dL_law_780 : decode code 780 = .ok (.aload_n 0, 1) := by decide +kernel
theorem dL_law_781 : decode code 781 = .ok (.iload_n 3, 1) := by decide +kernel
theorem dL_law_782 : decode code 782 = .ok (.iconst 1, 1) := by decide +kernel
theorem dL_law_783 : decode code 783 = .ok (.iadd, 1) := by decide +kernel
theorem dL_law_784 : decode code 784 = .ok (.iaload, 1) := by decide +kernel
theorem dL_law_785 : decode code 785 = .ok (.invokevirtual 87, 3) := by decide +kernel
theorem dL_law_788 : decode code 788 = .ok (.if_icmp .eq 998, 3) := by decide +kernel
theorem dL_law_791 : decode code 791 = .ok (.iconst 0, 1) := by decide +kernel
theorem dL_law_792 : decode code 792 = .ok (.ireturn, 1) := by decide +kernel
theorem dL_law_793 : decode code 793 = .ok (.aload_n 1, 1) := by decide +kernel
theorem dL_law_794 : decode code 794 = .ok (.aload_n 0, 1) := by decide +kernel
theorem dL_law_795 : decode code 795 = .ok (.iload_n 3, 1) := by decide +kernel
theorem dL_law_796 : decode code 796 = .ok (.iconst 1, 1) := by decide +kernel
theorem dL_law_797 : decode code 797 = .ok (.iadd, 1) := by decide +kernel
theorem dL_law_798 : decode code 798 = .ok (.iaload, 1) := by decide +kernel
theorem dL_law_799 : decode code 799 = .ok (.aload_n 0, 1) := by decide +kernel
theorem dL_law_800 : decode code 800 = .ok (.iload_n 3, 1) := by decide +kernel
theorem dL_law_801 : decode code 801 = .ok (.iconst 2, 1) := by decide +kernel
theorem dL_law_802 : decode code 802 = .ok (.iadd, 1) := by decide +kernel
theorem dL_law_803 : decode code 803 = .ok (.iaload, 1) := by decide +kernel
theorem dL_law_804 : decode code 804 = .ok (.invokevirtual 88, 3) := by decide +kernel
theorem dL_law_807 : decode code 807 = .ok (.aload_n 2, 1) := by decide +kernel
theorem dL_law_808 : decode code 808 = .ok (.aload_n 0, 1) := by decide +kernel
theorem dL_law_809 : decode code 809 = .ok (.iload_n 3, 1) := by decide +kernel
theorem dL_law_810 : decode code 810 = .ok (.iconst 1, 1) := by decide +kernel
theorem dL_law_811 : decode code 811 = .ok (.iadd, 1) := by decide +kernel
theorem dL_law_812 : decode code 812 = .ok (.iaload, 1) := by decide +kernel
theorem dL_law_813 : decode code 813 = .ok (.aload_n 0, 1) := by decide +kernel
theorem dL_law_814 : decode code 814 = .ok (.iload_n 3, 1) := by decide +kernel
theorem dL_law_815 : decode code 815 = .ok (.iconst 2, 1) := by decide +kernel
theorem dL_law_816 : decode code 816 = .ok (.iadd, 1) := by decide +kernel
theorem dL_law_817 : decode code 817 = .ok (.iaload, 1) := by decide +kernel
theorem dL_law_818 : decode code 818 = .ok (.invokevirtual 91, 3) := by decide +kernel
theorem dL_law_821 : decode code 821 = .ok (.if_icmp .eq 965, 3) := by decide +kernel
theorem dL_law_824 : decode code 824 = .ok (.iconst 0, 1) := by decide +kernel
theorem dL_law_825 : decode code 825 = .ok (.ireturn, 1) := by decide +kernel
theorem dL_law_826 : decode code 826 = .ok (.aload_n 1, 1) := by decide +kernel
theorem dL_law_827 : decode code 827 = .ok (.aload_n 0, 1) := by decide +kernel
theorem dL_law_828 : decode code 828 = .ok (.iload_n 3, 1) := by decide +kernel
theorem dL_law_829 : decode code 829 = .ok (.iconst 1, 1) := by decide +kernel
theorem dL_law_830 : decode code 830 = .ok (.iadd, 1) := by decide +kernel
theorem dL_law_831 : decode code 831 = .ok (.iaload, 1) := by decide +kernel
theorem dL_law_832 : decode code 832 = .ok (.aload_n 0, 1) := by decide +kernel
theorem dL_law_833 : decode code 833 = .ok (.iload_n 3, 1) := by decide +kernel
theorem dL_law_834 : decode code 834 = .ok (.iconst 2, 1) := by decide +kernel
theorem dL_law_835 : decode code 835 = .ok (.iadd, 1) := by decide +kernel
theorem dL_law_836 : decode code 836 = .ok (.iaload, 1) := by decide +kernel
theorem dL_law_837 : decode code 837 = .ok (.invokevirtual 92, 3) := by decide +kernel
theorem dL_law_840 : decode code 840 = .ok (.aload_n 2, 1) := by decide +kernel
theorem dL_law_841 : decode code 841 = .ok (.aload_n 0, 1) := by decide +kernel
theorem dL_law_842 : decode code 842 = .ok (.iload_n 3, 1) := by decide +kernel
theorem dL_law_843 : decode code 843 = .ok (.iconst 1, 1) := by decide +kernel
theorem dL_law_844 : decode code 844 = .ok (.iadd, 1) := by decide +kernel
theorem dL_law_845 : decode code 845 = .ok (.iaload, 1) := by decide +kernel
theorem dL_law_846 : decode code 846 = .ok (.aload_n 0, 1) := by decide +kernel
theorem dL_law_847 : decode code 847 = .ok (.iload_n 3, 1) := by decide +kernel
theorem dL_law_848 : decode code 848 = .ok (.iconst 2, 1) := by decide +kernel
theorem dL_law_849 : decode code 849 = .ok (.iadd, 1) := by decide +kernel
theorem dL_law_850 : decode code 850 = .ok (.iaload, 1) := by decide +kernel
theorem dL_law_851 : decode code 851 = .ok (.invokevirtual 96, 3) := by decide +kernel
theorem dL_law_854 : decode code 854 = .ok (.if_icmp .eq 932, 3) := by decide +kernel
theorem dL_law_857 : decode code 857 = .ok (.iconst 0, 1) := by decide +kernel
theorem dL_law_858 : decode code 858 = .ok (.ireturn, 1) := by decide +kernel
theorem dL_law_859 : decode code 859 = .ok (.aload_n 1, 1) := by decide +kernel
theorem dL_law_860 : decode code 860 = .ok (.aload_n 0, 1) := by decide +kernel
theorem dL_law_861 : decode code 861 = .ok (.iload_n 3, 1) := by decide +kernel
theorem dL_law_862 : decode code 862 = .ok (.iconst 1, 1) := by decide +kernel
theorem dL_law_863 : decode code 863 = .ok (.iadd, 1) := by decide +kernel
theorem dL_law_864 : decode code 864 = .ok (.iaload, 1) := by decide +kernel
theorem dL_law_865 : decode code 865 = .ok (.aload_n 0, 1) := by decide +kernel
theorem dL_law_866 : decode code 866 = .ok (.iload_n 3, 1) := by decide +kernel
theorem dL_law_867 : decode code 867 = .ok (.iconst 2, 1) := by decide +kernel
theorem dL_law_868 : decode code 868 = .ok (.iadd, 1) := by decide +kernel
theorem dL_law_869 : decode code 869 = .ok (.iaload, 1) := by decide +kernel
theorem dL_law_870 : decode code 870 = .ok (.aload_n 0, 1) := by decide +kernel
theorem dL_law_871 : decode code 871 = .ok (.iload_n 3, 1) := by decide +kernel
theorem dL_law_872 : decode code 872 = .ok (.iconst 3, 1) := by decide +kernel
theorem dL_law_873 : decode code 873 = .ok (.iadd, 1) := by decide +kernel
theorem dL_law_874 : decode code 874 = .ok (.iaload, 1) := by decide +kernel
theorem dL_law_875 : decode code 875 = .ok (.invokevirtual 97, 3) := by decide +kernel
theorem dL_law_878 : decode code 878 = .ok (.aload_n 2, 1) := by decide +kernel
theorem dL_law_879 : decode code 879 = .ok (.aload_n 0, 1) := by decide +kernel
theorem dL_law_880 : decode code 880 = .ok (.iload_n 3, 1) := by decide +kernel
theorem dL_law_881 : decode code 881 = .ok (.iconst 1, 1) := by decide +kernel
theorem dL_law_882 : decode code 882 = .ok (.iadd, 1) := by decide +kernel
theorem dL_law_883 : decode code 883 = .ok (.iaload, 1) := by decide +kernel
theorem dL_law_884 : decode code 884 = .ok (.aload_n 0, 1) := by decide +kernel
theorem dL_law_885 : decode code 885 = .ok (.iload_n 3, 1) := by decide +kernel
theorem dL_law_886 : decode code 886 = .ok (.iconst 2, 1) := by decide +kernel
theorem dL_law_887 : decode code 887 = .ok (.iadd, 1) := by decide +kernel
theorem dL_law_888 : decode code 888 = .ok (.iaload, 1) := by decide +kernel
theorem dL_law_889 : decode code 889 = .ok (.aload_n 0, 1) := by decide +kernel
theorem dL_law_890 : decode code 890 = .ok (.iload_n 3, 1) := by decide +kernel
theorem dL_law_891 : decode code 891 = .ok (.iconst 3, 1) := by decide +kernel
theorem dL_law_892 : decode code 892 = .ok (.iadd, 1) := by decide +kernel
theorem dL_law_893 : decode code 893 = .ok (.iaload, 1) := by decide +kernel
theorem dL_law_894 : decode code 894 = .ok (.invokevirtual 101, 3) := by decide +kernel
theorem dL_law_897 : decode code 897 = .ok (.if_icmp .eq 889, 3) := by decide +kernel
theorem dL_law_900 : decode code 900 = .ok (.iconst 0, 1) := by decide +kernel
theorem dL_law_901 : decode code 901 = .ok (.ireturn, 1) := by decide +kernel
theorem dL_law_902 : decode code 902 = .ok (.aload_n 1, 1) := by decide +kernel
theorem dL_law_903 : decode code 903 = .ok (.aload_n 0, 1) := by decide +kernel
theorem dL_law_904 : decode code 904 = .ok (.iload_n 3, 1) := by decide +kernel
theorem dL_law_905 : decode code 905 = .ok (.iconst 1, 1) := by decide +kernel
theorem dL_law_906 : decode code 906 = .ok (.iadd, 1) := by decide +kernel
theorem dL_law_907 : decode code 907 = .ok (.iaload, 1) := by decide +kernel
theorem dL_law_908 : decode code 908 = .ok (.aload_n 0, 1) := by decide +kernel
theorem dL_law_909 : decode code 909 = .ok (.iload_n 3, 1) := by decide +kernel
theorem dL_law_910 : decode code 910 = .ok (.iconst 2, 1) := by decide +kernel
theorem dL_law_911 : decode code 911 = .ok (.iadd, 1) := by decide +kernel
theorem dL_law_912 : decode code 912 = .ok (.iaload, 1) := by decide +kernel
theorem dL_law_913 : decode code 913 = .ok (.invokevirtual 102, 3) := by decide +kernel
theorem dL_law_916 : decode code 916 = .ok (.aload_n 2, 1) := by decide +kernel
theorem dL_law_917 : decode code 917 = .ok (.aload_n 0, 1) := by decide +kernel
theorem dL_law_918 : decode code 918 = .ok (.iload_n 3, 1) := by decide +kernel
theorem dL_law_919 : decode code 919 = .ok (.iconst 1, 1) := by decide +kernel
theorem dL_law_920 : decode code 920 = .ok (.iadd, 1) := by decide +kernel
theorem dL_law_921 : decode code 921 = .ok (.iaload, 1) := by decide +kernel
theorem dL_law_922 : decode code 922 = .ok (.aload_n 0, 1) := by decide +kernel
theorem dL_law_923 : decode code 923 = .ok (.iload_n 3, 1) := by decide +kernel
theorem dL_law_924 : decode code 924 = .ok (.iconst 2, 1) := by decide +kernel
theorem dL_law_925 : decode code 925 = .ok (.iadd, 1) := by decide +kernel
theorem dL_law_926 : decode code 926 = .ok (.iaload, 1) := by decide +kernel
theorem dL_law_927 : decode code 927 = .ok (.invokevirtual 105, 3) := by decide +kernel
theorem dL_law_930 : decode code 930 = .ok (.if_icmp .eq 856, 3) := by decide +kernel
theorem dL_law_933 : decode code 933 = .ok (.iconst 0, 1) := by decide +kernel
theorem dL_law_934 : decode code 934 = .ok (.ireturn, 1) := by decide +kernel
theorem dL_law_935 : decode code 935 = .ok (.aload_n 1, 1) := by decide +kernel
theorem dL_law_936 : decode code 936 = .ok (.invokevirtual 106, 3) := by decide +kernel
theorem dL_law_939 : decode code 939 = .ok (.aload_n 2, 1) := by decide +kernel
theorem dL_law_940 : decode code 940 = .ok (.invokevirtual 109, 3) := by decide +kernel
theorem dL_law_943 : decode code 943 = .ok (.if_icmp .eq 843, 3) := by decide +kernel
theorem dL_law_946 : decode code 946 = .ok (.iconst 0, 1) := by decide +kernel
theorem dL_law_947 : decode code 947 = .ok (.ireturn, 1) := by decide +kernel
theorem dL_law_948 : decode code 948 = .ok (.aload_n 1, 1) := by decide +kernel
theorem dL_law_949 : decode code 949 = .ok (.aload_n 0, 1) := by decide +kernel
theorem dL_law_950 : decode code 950 = .ok (.iload_n 3, 1) := by decide +kernel
theorem dL_law_951 : decode code 951 = .ok (.iconst 1, 1) := by decide +kernel
theorem dL_law_952 : decode code 952 = .ok (.iadd, 1) := by decide +kernel
theorem dL_law_953 : decode code 953 = .ok (.iaload, 1) := by decide +kernel
theorem dL_law_954 : decode code 954 = .ok (.aload_n 0, 1) := by decide +kernel
theorem dL_law_955 : decode code 955 = .ok (.iload_n 3, 1) := by decide +kernel
theorem dL_law_956 : decode code 956 = .ok (.iconst 2, 1) := by decide +kernel
theorem dL_law_957 : decode code 957 = .ok (.iadd, 1) := by decide +kernel
theorem dL_law_958 : decode code 958 = .ok (.iaload, 1) := by decide +kernel
theorem dL_law_959 : decode code 959 = .ok (.invokevirtual 110, 3) := by decide +kernel
theorem dL_law_962 : decode code 962 = .ok (.aload_n 2, 1) := by decide +kernel
theorem dL_law_963 : decode code 963 = .ok (.aload_n 0, 1) := by decide +kernel
theorem dL_law_964 : decode code 964 = .ok (.iload_n 3, 1) := by decide +kernel
theorem dL_law_965 : decode code 965 = .ok (.iconst 1, 1) := by decide +kernel
theorem dL_law_966 : decode code 966 = .ok (.iadd, 1) := by decide +kernel
theorem dL_law_967 : decode code 967 = .ok (.iaload, 1) := by decide +kernel
theorem dL_law_968 : decode code 968 = .ok (.aload_n 0, 1) := by decide +kernel
theorem dL_law_969 : decode code 969 = .ok (.iload_n 3, 1) := by decide +kernel
theorem dL_law_970 : decode code 970 = .ok (.iconst 2, 1) := by decide +kernel
theorem dL_law_971 : decode code 971 = .ok (.iadd, 1) := by decide +kernel
theorem dL_law_972 : decode code 972 = .ok (.iaload, 1) := by decide +kernel
theorem dL_law_973 : decode code 973 = .ok (.invokevirtual 113, 3) := by decide +kernel
theorem dL_law_976 : decode code 976 = .ok (.if_icmp .eq 810, 3) := by decide +kernel
theorem dL_law_979 : decode code 979 = .ok (.iconst 0, 1) := by decide +kernel
theorem dL_law_980 : decode code 980 = .ok (.ireturn, 1) := by decide +kernel
theorem dL_law_981 : decode code 981 = .ok (.aload_n 1, 1) := by decide +kernel
theorem dL_law_982 : decode code 982 = .ok (.aload_n 0, 1) := by decide +kernel
theorem dL_law_983 : decode code 983 = .ok (.iload_n 3, 1) := by decide +kernel
theorem dL_law_984 : decode code 984 = .ok (.iconst 1, 1) := by decide +kernel
theorem dL_law_985 : decode code 985 = .ok (.iadd, 1) := by decide +kernel
theorem dL_law_986 : decode code 986 = .ok (.iaload, 1) := by decide +kernel
theorem dL_law_987 : decode code 987 = .ok (.invokevirtual 114, 3) := by decide +kernel
theorem dL_law_990 : decode code 990 = .ok (.aload_n 2, 1) := by decide +kernel
theorem dL_law_991 : decode code 991 = .ok (.aload_n 0, 1) := by decide +kernel
theorem dL_law_992 : decode code 992 = .ok (.iload_n 3, 1) := by decide +kernel
theorem dL_law_993 : decode code 993 = .ok (.iconst 1, 1) := by decide +kernel
theorem dL_law_994 : decode code 994 = .ok (.iadd, 1) := by decide +kernel
theorem dL_law_995 : decode code 995 = .ok (.iaload, 1) := by decide +kernel
theorem dL_law_996 : decode code 996 = .ok (.invokevirtual 117, 3) := by decide +kernel
theorem dL_law_999 : decode code 999 = .ok (.if_icmp .eq 787, 3) := by decide +kernel
theorem dL_law_1002 : decode code 1002 = .ok (.iconst 0, 1) := by decide +kernel
theorem dL_law_1003 : decode code 1003 = .ok (.ireturn, 1) := by decide +kernel
theorem dL_law_1004 : decode code 1004 = .ok (.aload_n 1, 1) := by decide +kernel
theorem dL_law_1005 : decode code 1005 = .ok (.aload_n 0, 1) := by decide +kernel
theorem dL_law_1006 : decode code 1006 = .ok (.iload_n 3, 1) := by decide +kernel
theorem dL_law_1007 : decode code 1007 = .ok (.iconst 1, 1) := by decide +kernel
theorem dL_law_1008 : decode code 1008 = .ok (.iadd, 1) := by decide +kernel
theorem dL_law_1009 : decode code 1009 = .ok (.iaload, 1) := by decide +kernel
theorem dL_law_1010 : decode code 1010 = .ok (.aload_n 0, 1) := by decide +kernel
theorem dL_law_1011 : decode code 1011 = .ok (.iload_n 3, 1) := by decide +kernel
theorem dL_law_1012 : decode code 1012 = .ok (.iconst 2, 1) := by decide +kernel
theorem dL_law_1013 : decode code 1013 = .ok (.iadd, 1) := by decide +kernel
theorem dL_law_1014 : decode code 1014 = .ok (.iaload, 1) := by decide +kernel
theorem dL_law_1015 : decode code 1015 = .ok (.invokevirtual 118, 3) := by decide +kernel
theorem dL_law_1018 : decode code 1018 = .ok (.aload_n 2, 1) := by decide +kernel
theorem dL_law_1019 : decode code 1019 = .ok (.aload_n 0, 1) := by decide +kernel
theorem dL_law_1020 : decode code 1020 = .ok (.iload_n 3, 1) := by decide +kernel
theorem dL_law_1021 : decode code 1021 = .ok (.iconst 1, 1) := by decide +kernel
theorem dL_law_1022 : decode code 1022 = .ok (.iadd, 1) := by decide +kernel
theorem dL_law_1023 : decode code 1023 = .ok (.iaload, 1) := by decide +kernel
theorem dL_law_1024 : decode code 1024 = .ok (.aload_n 0, 1) := by decide +kernel
theorem dL_law_1025 : decode code 1025 = .ok (.iload_n 3, 1) := by decide +kernel
theorem dL_law_1026 : decode code 1026 = .ok (.iconst 2, 1) := by decide +kernel
theorem dL_law_1027 : decode code 1027 = .ok (.iadd, 1) := by decide +kernel
theorem dL_law_1028 : decode code 1028 = .ok (.iaload, 1) := by decide +kernel
theorem dL_law_1029 : decode code 1029 = .ok (.invokevirtual 121, 3) := by decide +kernel
theorem dL_law_1032 : decode code 1032 = .ok (.if_icmp .eq 754, 3) := by decide +kernel
theorem dL_law_1035 : decode code 1035 = .ok (.iconst 0, 1) := by decide +kernel
theorem dL_law_1036 : decode code 1036 = .ok (.ireturn, 1) := by decide +kernel
theorem dL_law_1037 : decode code 1037 = .ok (.aload_n 1, 1) := by decide +kernel
theorem dL_law_1038 : decode code 1038 = .ok (.aload_n 0, 1) := by decide +kernel
theorem dL_law_1039 : decode code 1039 = .ok (.iload_n 3, 1) := by decide +kernel
theorem dL_law_1040 : decode code 1040 = .ok (.iconst 1, 1) := by decide +kernel
theorem dL_law_1041 : decode code 1041 = .ok (.iadd, 1) := by decide +kernel
theorem dL_law_1042 : decode code 1042 = .ok (.iaload, 1) := by decide +kernel
theorem dL_law_1043 : decode code 1043 = .ok (.aload_n 0, 1) := by decide +kernel
theorem dL_law_1044 : decode code 1044 = .ok (.iload_n 3, 1) := by decide +kernel
theorem dL_law_1045 : decode code 1045 = .ok (.iconst 2, 1) := by decide +kernel
theorem dL_law_1046 : decode code 1046 = .ok (.iadd, 1) := by decide +kernel
theorem dL_law_1047 : decode code 1047 = .ok (.iaload, 1) := by decide +kernel
theorem dL_law_1048 : decode code 1048 = .ok (.ifCond .eq 7, 3) := by decide +kernel
theorem dL_law_1051 : decode code 1051 = .ok (.iconst 1, 1) := by decide +kernel
theorem dL_law_1052 : decode code 1052 = .ok (.goto 4, 3) := by decide +kernel
theorem dL_law_1055 : decode code 1055 = .ok (.iconst 0, 1) := by decide +kernel
theorem dL_law_1056 : decode code 1056 = .ok (.invokevirtual 122, 3) := by decide +kernel
theorem dL_law_1059 : decode code 1059 = .ok (.aload_n 2, 1) := by decide +kernel
theorem dL_law_1060 : decode code 1060 = .ok (.aload_n 0, 1) := by decide +kernel
theorem dL_law_1061 : decode code 1061 = .ok (.iload_n 3, 1) := by decide +kernel
theorem dL_law_1062 : decode code 1062 = .ok (.iconst 1, 1) := by decide +kernel
theorem dL_law_1063 : decode code 1063 = .ok (.iadd, 1) := by decide +kernel
theorem dL_law_1064 : decode code 1064 = .ok (.iaload, 1) := by decide +kernel
theorem dL_law_1065 : decode code 1065 = .ok (.aload_n 0, 1) := by decide +kernel
theorem dL_law_1066 : decode code 1066 = .ok (.iload_n 3, 1) := by decide +kernel
theorem dL_law_1067 : decode code 1067 = .ok (.iconst 2, 1) := by decide +kernel
theorem dL_law_1068 : decode code 1068 = .ok (.iadd, 1) := by decide +kernel
theorem dL_law_1069 : decode code 1069 = .ok (.iaload, 1) := by decide +kernel
theorem dL_law_1070 : decode code 1070 = .ok (.ifCond .eq 7, 3) := by decide +kernel
theorem dL_law_1073 : decode code 1073 = .ok (.iconst 1, 1) := by decide +kernel
theorem dL_law_1074 : decode code 1074 = .ok (.goto 4, 3) := by decide +kernel
theorem dL_law_1077 : decode code 1077 = .ok (.iconst 0, 1) := by decide +kernel
theorem dL_law_1078 : decode code 1078 = .ok (.invokevirtual 126, 3) := by decide +kernel
theorem dL_law_1081 : decode code 1081 = .ok (.if_icmp .eq 705, 3) := by decide +kernel
theorem dL_law_1084 : decode code 1084 = .ok (.iconst 0, 1) := by decide +kernel
theorem dL_law_1085 : decode code 1085 = .ok (.ireturn, 1) := by decide +kernel
theorem dL_law_1086 : decode code 1086 = .ok (.aload_n 1, 1) := by decide +kernel
theorem dL_law_1087 : decode code 1087 = .ok (.aload_n 0, 1) := by decide +kernel
theorem dL_law_1088 : decode code 1088 = .ok (.iload_n 3, 1) := by decide +kernel
theorem dL_law_1089 : decode code 1089 = .ok (.iconst 1, 1) := by decide +kernel
theorem dL_law_1090 : decode code 1090 = .ok (.iadd, 1) := by decide +kernel
theorem dL_law_1091 : decode code 1091 = .ok (.iaload, 1) := by decide +kernel
theorem dL_law_1092 : decode code 1092 = .ok (.invokevirtual 127, 3) := by decide +kernel
theorem dL_law_1095 : decode code 1095 = .ok (.aload_n 2, 1) := by decide +kernel
theorem dL_law_1096 : decode code 1096 = .ok (.aload_n 0, 1) := by decide +kernel
theorem dL_law_1097 : decode code 1097 = .ok (.iload_n 3, 1) := by decide +kernel
theorem dL_law_1098 : decode code 1098 = .ok (.iconst 1, 1) := by decide +kernel
theorem dL_law_1099 : decode code 1099 = .ok (.iadd, 1) := by decide +kernel
theorem dL_law_1100 : decode code 1100 = .ok (.iaload, 1) := by decide +kernel
theorem dL_law_1101 : decode code 1101 = .ok (.invokevirtual 131, 3) := by decide +kernel
theorem dL_law_1104 : decode code 1104 = .ok (.if_icmp .eq 682, 3) := by decide +kernel
theorem dL_law_1107 : decode code 1107 = .ok (.iconst 0, 1) := by decide +kernel
theorem dL_law_1108 : decode code 1108 = .ok (.ireturn, 1) := by decide +kernel
theorem dL_law_1109 : decode code 1109 = .ok (.aload_n 1, 1) := by decide +kernel
theorem dL_law_1110 : decode code 1110 = .ok (.aload_n 0, 1) := by decide +kernel
theorem dL_law_1111 : decode code 1111 = .ok (.iload_n 3, 1) := by decide +kernel
theorem dL_law_1112 : decode code 1112 = .ok (.iconst 1, 1) := by decide +kernel
theorem dL_law_1113 : decode code 1113 = .ok (.iadd, 1) := by decide +kernel
theorem dL_law_1114 : decode code 1114 = .ok (.iaload, 1) := by decide +kernel
theorem dL_law_1115 : decode code 1115 = .ok (.aload_n 0, 1) := by decide +kernel
theorem dL_law_1116 : decode code 1116 = .ok (.iload_n 3, 1) := by decide +kernel
theorem dL_law_1117 : decode code 1117 = .ok (.iconst 2, 1) := by decide +kernel
theorem dL_law_1118 : decode code 1118 = .ok (.iadd, 1) := by decide +kernel
theorem dL_law_1119 : decode code 1119 = .ok (.iaload, 1) := by decide +kernel
theorem dL_law_1120 : decode code 1120 = .ok (.invokevirtual 132, 3) := by decide +kernel
theorem dL_law_1123 : decode code 1123 = .ok (.aload_n 2, 1) := by decide +kernel
theorem dL_law_1124 : decode code 1124 = .ok (.aload_n 0, 1) := by decide +kernel
theorem dL_law_1125 : decode code 1125 = .ok (.iload_n 3, 1) := by decide +kernel
theorem dL_law_1126 : decode code 1126 = .ok (.iconst 1, 1) := by decide +kernel
theorem dL_law_1127 : decode code 1127 = .ok (.iadd, 1) := by decide +kernel
theorem dL_law_1128 : decode code 1128 = .ok (.iaload, 1) := by decide +kernel
theorem dL_law_1129 : decode code 1129 = .ok (.aload_n 0, 1) := by decide +kernel
theorem dL_law_1130 : decode code 1130 = .ok (.iload_n 3, 1) := by decide +kernel
theorem dL_law_1131 : decode code 1131 = .ok (.iconst 2, 1) := by decide +kernel
theorem dL_law_1132 : decode code 1132 = .ok (.iadd, 1) := by decide +kernel
theorem dL_law_1133 : decode code 1133 = .ok (.iaload, 1) := by decide +kernel
theorem dL_law_1134 : decode code 1134 = .ok (.invokevirtual 135, 3) := by decide +kernel
theorem dL_law_1137 : decode code 1137 = .ok (.if_icmp .eq 649, 3) := by decide +kernel
theorem dL_law_1140 : decode code 1140 = .ok (.iconst 0, 1) := by decide +kernel
theorem dL_law_1141 : decode code 1141 = .ok (.ireturn, 1) := by decide +kernel
theorem dL_law_1142 : decode code 1142 = .ok (.aload_n 1, 1) := by decide +kernel
theorem dL_law_1143 : decode code 1143 = .ok (.aload_n 0, 1) := by decide +kernel
theorem dL_law_1144 : decode code 1144 = .ok (.iload_n 3, 1) := by decide +kernel
theorem dL_law_1145 : decode code 1145 = .ok (.iconst 1, 1) := by decide +kernel
theorem dL_law_1146 : decode code 1146 = .ok (.iadd, 1) := by decide +kernel
theorem dL_law_1147 : decode code 1147 = .ok (.iaload, 1) := by decide +kernel
theorem dL_law_1148 : decode code 1148 = .ok (.invokevirtual 136, 3) := by decide +kernel
theorem dL_law_1151 : decode code 1151 = .ok (.aload_n 2, 1) := by decide +kernel
theorem dL_law_1152 : decode code 1152 = .ok (.aload_n 0, 1) := by decide +kernel
theorem dL_law_1153 : decode code 1153 = .ok (.iload_n 3, 1) := by decide +kernel
theorem dL_law_1154 : decode code 1154 = .ok (.iconst 1, 1) := by decide +kernel
theorem dL_law_1155 : decode code 1155 = .ok (.iadd, 1) := by decide +kernel
theorem dL_law_1156 : decode code 1156 = .ok (.iaload, 1) := by decide +kernel
theorem dL_law_1157 : decode code 1157 = .ok (.invokevirtual 139, 3) := by decide +kernel
theorem dL_law_1160 : decode code 1160 = .ok (.if_icmp .eq 626, 3) := by decide +kernel
theorem dL_law_1163 : decode code 1163 = .ok (.iconst 0, 1) := by decide +kernel
theorem dL_law_1164 : decode code 1164 = .ok (.ireturn, 1) := by decide +kernel
theorem dL_law_1165 : decode code 1165 = .ok (.aload_n 1, 1) := by decide +kernel
theorem dL_law_1166 : decode code 1166 = .ok (.aload_n 0, 1) := by decide +kernel
theorem dL_law_1167 : decode code 1167 = .ok (.iload_n 3, 1) := by decide +kernel
theorem dL_law_1168 : decode code 1168 = .ok (.iconst 1, 1) := by decide +kernel
theorem dL_law_1169 : decode code 1169 = .ok (.iadd, 1) := by decide +kernel
theorem dL_law_1170 : decode code 1170 = .ok (.iaload, 1) := by decide +kernel
theorem dL_law_1171 : decode code 1171 = .ok (.invokevirtual 140, 3) := by decide +kernel
theorem dL_law_1174 : decode code 1174 = .ok (.aload_n 2, 1) := by decide +kernel
theorem dL_law_1175 : decode code 1175 = .ok (.aload_n 0, 1) := by decide +kernel
theorem dL_law_1176 : decode code 1176 = .ok (.iload_n 3, 1) := by decide +kernel
theorem dL_law_1177 : decode code 1177 = .ok (.iconst 1, 1) := by decide +kernel
theorem dL_law_1178 : decode code 1178 = .ok (.iadd, 1) := by decide +kernel
theorem dL_law_1179 : decode code 1179 = .ok (.iaload, 1) := by decide +kernel
theorem dL_law_1180 : decode code 1180 = .ok (.invokevirtual 143, 3) := by decide +kernel
theorem dL_law_1183 : decode code 1183 = .ok (.if_icmp .eq 603, 3) := by decide +kernel
theorem dL_law_1186 : decode code 1186 = .ok (.iconst 0, 1) := by decide +kernel
theorem dL_law_1187 : decode code 1187 = .ok (.ireturn, 1) := by decide +kernel
theorem dL_law_1188 : decode code 1188 = .ok (.aload_n 1, 1) := by decide +kernel
theorem dL_law_1189 : decode code 1189 = .ok (.aload_n 0, 1) := by decide +kernel
theorem dL_law_1190 : decode code 1190 = .ok (.iload_n 3, 1) := by decide +kernel
theorem dL_law_1191 : decode code 1191 = .ok (.iconst 1, 1) := by decide +kernel
theorem dL_law_1192 : decode code 1192 = .ok (.iadd, 1) := by decide +kernel
theorem dL_law_1193 : decode code 1193 = .ok (.iaload, 1) := by decide +kernel
theorem dL_law_1194 : decode code 1194 = .ok (.invokevirtual 144, 3) := by decide +kernel
theorem dL_law_1197 : decode code 1197 = .ok (.aload_n 2, 1) := by decide +kernel
theorem dL_law_1198 : decode code 1198 = .ok (.aload_n 0, 1) := by decide +kernel
theorem dL_law_1199 : decode code 1199 = .ok (.iload_n 3, 1) := by decide +kernel
theorem dL_law_1200 : decode code 1200 = .ok (.iconst 1, 1) := by decide +kernel
theorem dL_law_1201 : decode code 1201 = .ok (.iadd, 1) := by decide +kernel
theorem dL_law_1202 : decode code 1202 = .ok (.iaload, 1) := by decide +kernel
theorem dL_law_1203 : decode code 1203 = .ok (.invokevirtual 147, 3) := by decide +kernel
theorem dL_law_1206 : decode code 1206 = .ok (.if_icmp .eq 580, 3) := by decide +kernel
theorem dL_law_1209 : decode code 1209 = .ok (.iconst 0, 1) := by decide +kernel
theorem dL_law_1210 : decode code 1210 = .ok (.ireturn, 1) := by decide +kernel
theorem dL_law_1211 : decode code 1211 = .ok (.aload_n 1, 1) := by decide +kernel
theorem dL_law_1212 : decode code 1212 = .ok (.aload_n 0, 1) := by decide +kernel
theorem dL_law_1213 : decode code 1213 = .ok (.iload_n 3, 1) := by decide +kernel
theorem dL_law_1214 : decode code 1214 = .ok (.iconst 1, 1) := by decide +kernel
theorem dL_law_1215 : decode code 1215 = .ok (.iadd, 1) := by decide +kernel
theorem dL_law_1216 : decode code 1216 = .ok (.iaload, 1) := by decide +kernel
theorem dL_law_1217 : decode code 1217 = .ok (.invokevirtual 148, 3) := by decide +kernel
theorem dL_law_1220 : decode code 1220 = .ok (.aload_n 2, 1) := by decide +kernel
theorem dL_law_1221 : decode code 1221 = .ok (.aload_n 0, 1) := by decide +kernel
theorem dL_law_1222 : decode code 1222 = .ok (.iload_n 3, 1) := by decide +kernel
theorem dL_law_1223 : decode code 1223 = .ok (.iconst 1, 1) := by decide +kernel
theorem dL_law_1224 : decode code 1224 = .ok (.iadd, 1) := by decide +kernel
theorem dL_law_1225 : decode code 1225 = .ok (.iaload, 1) := by decide +kernel
theorem dL_law_1226 : decode code 1226 = .ok (.invokevirtual 151, 3) := by decide +kernel
theorem dL_law_1229 : decode code 1229 = .ok (.if_icmp .eq 557, 3) := by decide +kernel
theorem dL_law_1232 : decode code 1232 = .ok (.iconst 0, 1) := by decide +kernel
theorem dL_law_1233 : decode code 1233 = .ok (.ireturn, 1) := by decide +kernel
theorem dL_law_1234 : decode code 1234 = .ok (.aload_n 1, 1) := by decide +kernel
theorem dL_law_1235 : decode code 1235 = .ok (.aload_n 0, 1) := by decide +kernel
theorem dL_law_1236 : decode code 1236 = .ok (.iload_n 3, 1) := by decide +kernel
theorem dL_law_1237 : decode code 1237 = .ok (.iconst 1, 1) := by decide +kernel
theorem dL_law_1238 : decode code 1238 = .ok (.iadd, 1) := by decide +kernel
theorem dL_law_1239 : decode code 1239 = .ok (.iaload, 1) := by decide +kernel
theorem dL_law_1240 : decode code 1240 = .ok (.invokevirtual 152, 3) := by decide +kernel
theorem dL_law_1243 : decode code 1243 = .ok (.aload_n 2, 1) := by decide +kernel
theorem dL_law_1244 : decode code 1244 = .ok (.aload_n 0, 1) := by decide +kernel
theorem dL_law_1245 : decode code 1245 = .ok (.iload_n 3, 1) := by decide +kernel
theorem dL_law_1246 : decode code 1246 = .ok (.iconst 1, 1) := by decide +kernel
theorem dL_law_1247 : decode code 1247 = .ok (.iadd, 1) := by decide +kernel
theorem dL_law_1248 : decode code 1248 = .ok (.iaload, 1) := by decide +kernel
theorem dL_law_1249 : decode code 1249 = .ok (.invokevirtual 155, 3) := by decide +kernel
theorem dL_law_1252 : decode code 1252 = .ok (.if_icmp .eq 534, 3) := by decide +kernel
theorem dL_law_1255 : decode code 1255 = .ok (.iconst 0, 1) := by decide +kernel
theorem dL_law_1256 : decode code 1256 = .ok (.ireturn, 1) := by decide +kernel
theorem dL_law_1257 : decode code 1257 = .ok (.aload_n 1, 1) := by decide +kernel
theorem dL_law_1258 : decode code 1258 = .ok (.aload_n 0, 1) := by decide +kernel
theorem dL_law_1259 : decode code 1259 = .ok (.iload_n 3, 1) := by decide +kernel
theorem dL_law_1260 : decode code 1260 = .ok (.iconst 1, 1) := by decide +kernel
theorem dL_law_1261 : decode code 1261 = .ok (.iadd, 1) := by decide +kernel
theorem dL_law_1262 : decode code 1262 = .ok (.iaload, 1) := by decide +kernel
theorem dL_law_1263 : decode code 1263 = .ok (.invokevirtual 156, 3) := by decide +kernel
theorem dL_law_1266 : decode code 1266 = .ok (.aload_n 2, 1) := by decide +kernel
theorem dL_law_1267 : decode code 1267 = .ok (.aload_n 0, 1) := by decide +kernel
theorem dL_law_1268 : decode code 1268 = .ok (.iload_n 3, 1) := by decide +kernel
theorem dL_law_1269 : decode code 1269 = .ok (.iconst 1, 1) := by decide +kernel
theorem dL_law_1270 : decode code 1270 = .ok (.iadd, 1) := by decide +kernel
theorem dL_law_1271 : decode code 1271 = .ok (.iaload, 1) := by decide +kernel
theorem dL_law_1272 : decode code 1272 = .ok (.invokevirtual 159, 3) := by decide +kernel
theorem dL_law_1275 : decode code 1275 = .ok (.if_icmp .eq 511, 3) := by decide +kernel
theorem dL_law_1278 : decode code 1278 = .ok (.iconst 0, 1) := by decide +kernel
theorem dL_law_1279 : decode code 1279 = .ok (.ireturn, 1) := by decide +kernel
theorem dL_law_1280 : decode code 1280 = .ok (.aload_n 1, 1) := by decide +kernel
theorem dL_law_1281 : decode code 1281 = .ok (.aload_n 0, 1) := by decide +kernel
theorem dL_law_1282 : decode code 1282 = .ok (.iload_n 3, 1) := by decide +kernel
theorem dL_law_1283 : decode code 1283 = .ok (.iconst 1, 1) := by decide +kernel
theorem dL_law_1284 : decode code 1284 = .ok (.iadd, 1) := by decide +kernel
theorem dL_law_1285 : decode code 1285 = .ok (.iaload, 1) := by decide +kernel
theorem dL_law_1286 : decode code 1286 = .ok (.invokevirtual 160, 3) := by decide +kernel
theorem dL_law_1289 : decode code 1289 = .ok (.aload_n 2, 1) := by decide +kernel
theorem dL_law_1290 : decode code 1290 = .ok (.aload_n 0, 1) := by decide +kernel
theorem dL_law_1291 : decode code 1291 = .ok (.iload_n 3, 1) := by decide +kernel
theorem dL_law_1292 : decode code 1292 = .ok (.iconst 1, 1) := by decide +kernel
theorem dL_law_1293 : decode code 1293 = .ok (.iadd, 1) := by decide +kernel
theorem dL_law_1294 : decode code 1294 = .ok (.iaload, 1) := by decide +kernel
theorem dL_law_1295 : decode code 1295 = .ok (.invokevirtual 163, 3) := by decide +kernel
theorem dL_law_1298 : decode code 1298 = .ok (.if_icmp .eq 488, 3) := by decide +kernel
theorem dL_law_1301 : decode code 1301 = .ok (.iconst 0, 1) := by decide +kernel
theorem dL_law_1302 : decode code 1302 = .ok (.ireturn, 1) := by decide +kernel
theorem dL_law_1303 : decode code 1303 = .ok (.aload_n 1, 1) := by decide +kernel
theorem dL_law_1304 : decode code 1304 = .ok (.invokevirtual 164, 3) := by decide +kernel
theorem dL_law_1307 : decode code 1307 = .ok (.aload_n 2, 1) := by decide +kernel
theorem dL_law_1308 : decode code 1308 = .ok (.invokevirtual 167, 3) := by decide +kernel
theorem dL_law_1311 : decode code 1311 = .ok (.if_icmp .eq 475, 3) := by decide +kernel
theorem dL_law_1314 : decode code 1314 = .ok (.iconst 0, 1) := by decide +kernel
theorem dL_law_1315 : decode code 1315 = .ok (.ireturn, 1) := by decide +kernel
theorem dL_law_1316 : decode code 1316 = .ok (.aload_n 1, 1) := by decide +kernel
theorem dL_law_1317 : decode code 1317 = .ok (.invokevirtual 168, 3) := by decide +kernel
theorem dL_law_1320 : decode code 1320 = .ok (.aload_n 2, 1) := by decide +kernel
theorem dL_law_1321 : decode code 1321 = .ok (.invokevirtual 171, 3) := by decide +kernel
theorem dL_law_1324 : decode code 1324 = .ok (.if_icmp .eq 462, 3) := by decide +kernel
theorem dL_law_1327 : decode code 1327 = .ok (.iconst 0, 1) := by decide +kernel
theorem dL_law_1328 : decode code 1328 = .ok (.ireturn, 1) := by decide +kernel
theorem dL_law_1329 : decode code 1329 = .ok (.aload_n 1, 1) := by decide +kernel
theorem dL_law_1330 : decode code 1330 = .ok (.aload_n 0, 1) := by decide +kernel
theorem dL_law_1331 : decode code 1331 = .ok (.iload_n 3, 1) := by decide +kernel
theorem dL_law_1332 : decode code 1332 = .ok (.iconst 1, 1) := by decide +kernel
theorem dL_law_1333 : decode code 1333 = .ok (.iadd, 1) := by decide +kernel
theorem dL_law_1334 : decode code 1334 = .ok (.iaload, 1) := by decide +kernel
theorem dL_law_1335 : decode code 1335 = .ok (.ifCond .eq 7, 3) := by decide +kernel
theorem dL_law_1338 : decode code 1338 = .ok (.iconst 1, 1) := by decide +kernel
theorem dL_law_1339 : decode code 1339 = .ok (.goto 4, 3) := by decide +kernel
theorem dL_law_1342 : decode code 1342 = .ok (.iconst 0, 1) := by decide +kernel
theorem dL_law_1343 : decode code 1343 = .ok (.invokevirtual 172, 3) := by decide +kernel
theorem dL_law_1346 : decode code 1346 = .ok (.aload_n 2, 1) := by decide +kernel
theorem dL_law_1347 : decode code 1347 = .ok (.aload_n 0, 1) := by decide +kernel
theorem dL_law_1348 : decode code 1348 = .ok (.iload_n 3, 1) := by decide +kernel
theorem dL_law_1349 : decode code 1349 = .ok (.iconst 1, 1) := by decide +kernel
theorem dL_law_1350 : decode code 1350 = .ok (.iadd, 1) := by decide +kernel
theorem dL_law_1351 : decode code 1351 = .ok (.iaload, 1) := by decide +kernel
theorem dL_law_1352 : decode code 1352 = .ok (.ifCond .eq 7, 3) := by decide +kernel
theorem dL_law_1355 : decode code 1355 = .ok (.iconst 1, 1) := by decide +kernel
theorem dL_law_1356 : decode code 1356 = .ok (.goto 4, 3) := by decide +kernel
theorem dL_law_1359 : decode code 1359 = .ok (.iconst 0, 1) := by decide +kernel
theorem dL_law_1360 : decode code 1360 = .ok (.invokevirtual 176, 3) := by decide +kernel
theorem dL_law_1363 : decode code 1363 = .ok (.if_icmp .eq 423, 3) := by decide +kernel
theorem dL_law_1366 : decode code 1366 = .ok (.iconst 0, 1) := by decide +kernel
theorem dL_law_1367 : decode code 1367 = .ok (.ireturn, 1) := by decide +kernel
theorem dL_law_1368 : decode code 1368 = .ok (.aload_n 1, 1) := by decide +kernel
theorem dL_law_1369 : decode code 1369 = .ok (.invokevirtual 177, 3) := by decide +kernel
theorem dL_law_1372 : decode code 1372 = .ok (.aload_n 2, 1) := by decide +kernel
theorem dL_law_1373 : decode code 1373 = .ok (.invokevirtual 180, 3) := by decide +kernel
theorem dL_law_1376 : decode code 1376 = .ok (.if_icmp .eq 410, 3) := by decide +kernel
theorem dL_law_1379 : decode code 1379 = .ok (.iconst 0, 1) := by decide +kernel
theorem dL_law_1380 : decode code 1380 = .ok (.ireturn, 1) := by decide +kernel
theorem dL_law_1381 : decode code 1381 = .ok (.aload_n 1, 1) := by decide +kernel
theorem dL_law_1382 : decode code 1382 = .ok (.invokevirtual 181, 3) := by decide +kernel
theorem dL_law_1385 : decode code 1385 = .ok (.aload_n 2, 1) := by decide +kernel
theorem dL_law_1386 : decode code 1386 = .ok (.invokevirtual 185, 3) := by decide +kernel
theorem dL_law_1389 : decode code 1389 = .ok (.if_icmp .eq 397, 3) := by decide +kernel
theorem dL_law_1392 : decode code 1392 = .ok (.iconst 0, 1) := by decide +kernel
theorem dL_law_1393 : decode code 1393 = .ok (.ireturn, 1) := by decide +kernel
theorem dL_law_1394 : decode code 1394 = .ok (.aload_n 1, 1) := by decide +kernel
theorem dL_law_1395 : decode code 1395 = .ok (.invokevirtual 186, 3) := by decide +kernel
theorem dL_law_1398 : decode code 1398 = .ok (.aload_n 2, 1) := by decide +kernel
theorem dL_law_1399 : decode code 1399 = .ok (.invokevirtual 189, 3) := by decide +kernel
theorem dL_law_1402 : decode code 1402 = .ok (.if_icmp .eq 384, 3) := by decide +kernel
theorem dL_law_1405 : decode code 1405 = .ok (.iconst 0, 1) := by decide +kernel
theorem dL_law_1406 : decode code 1406 = .ok (.ireturn, 1) := by decide +kernel
theorem dL_law_1407 : decode code 1407 = .ok (.aload_n 1, 1) := by decide +kernel
theorem dL_law_1408 : decode code 1408 = .ok (.aload_n 0, 1) := by decide +kernel
theorem dL_law_1409 : decode code 1409 = .ok (.iload_n 3, 1) := by decide +kernel
theorem dL_law_1410 : decode code 1410 = .ok (.iconst 1, 1) := by decide +kernel
theorem dL_law_1411 : decode code 1411 = .ok (.iadd, 1) := by decide +kernel
theorem dL_law_1412 : decode code 1412 = .ok (.iaload, 1) := by decide +kernel
theorem dL_law_1413 : decode code 1413 = .ok (.aload_n 0, 1) := by decide +kernel
theorem dL_law_1414 : decode code 1414 = .ok (.iload_n 3, 1) := by decide +kernel
theorem dL_law_1415 : decode code 1415 = .ok (.iconst 2, 1) := by decide +kernel
theorem dL_law_1416 : decode code 1416 = .ok (.iadd, 1) := by decide +kernel
theorem dL_law_1417 : decode code 1417 = .ok (.iaload, 1) := by decide +kernel
theorem dL_law_1418 : decode code 1418 = .ok (.invokevirtual 190, 3) := by decide +kernel
theorem dL_law_1421 : decode code 1421 = .ok (.aload_n 2, 1) := by decide +kernel
theorem dL_law_1422 : decode code 1422 = .ok (.aload_n 0, 1) := by decide +kernel
theorem dL_law_1423 : decode code 1423 = .ok (.iload_n 3, 1) := by decide +kernel
theorem dL_law_1424 : decode code 1424 = .ok (.iconst 1, 1) := by decide +kernel
theorem dL_law_1425 : decode code 1425 = .ok (.iadd, 1) := by decide +kernel
theorem dL_law_1426 : decode code 1426 = .ok (.iaload, 1) := by decide +kernel
theorem dL_law_1427 : decode code 1427 = .ok (.aload_n 0, 1) := by decide +kernel
theorem dL_law_1428 : decode code 1428 = .ok (.iload_n 3, 1) := by decide +kernel
theorem dL_law_1429 : decode code 1429 = .ok (.iconst 2, 1) := by decide +kernel
theorem dL_law_1430 : decode code 1430 = .ok (.iadd, 1) := by decide +kernel
theorem dL_law_1431 : decode code 1431 = .ok (.iaload, 1) := by decide +kernel
theorem dL_law_1432 : decode code 1432 = .ok (.invokevirtual 193, 3) := by decide +kernel
theorem dL_law_1435 : decode code 1435 = .ok (.if_icmp .eq 351, 3) := by decide +kernel
theorem dL_law_1438 : decode code 1438 = .ok (.iconst 0, 1) := by decide +kernel
theorem dL_law_1439 : decode code 1439 = .ok (.ireturn, 1) := by decide +kernel
theorem dL_law_1440 : decode code 1440 = .ok (.aload_n 1, 1) := by decide +kernel
theorem dL_law_1441 : decode code 1441 = .ok (.aload_n 0, 1) := by decide +kernel
theorem dL_law_1442 : decode code 1442 = .ok (.iload_n 3, 1) := by decide +kernel
theorem dL_law_1443 : decode code 1443 = .ok (.iconst 1, 1) := by decide +kernel
theorem dL_law_1444 : decode code 1444 = .ok (.iadd, 1) := by decide +kernel
theorem dL_law_1445 : decode code 1445 = .ok (.iaload, 1) := by decide +kernel
theorem dL_law_1446 : decode code 1446 = .ok (.invokevirtual 194, 3) := by decide +kernel
theorem dL_law_1449 : decode code 1449 = .ok (.aload_n 2, 1) := by decide +kernel
theorem dL_law_1450 : decode code 1450 = .ok (.aload_n 0, 1) := by decide +kernel
theorem dL_law_1451 : decode code 1451 = .ok (.iload_n 3, 1) := by decide +kernel
theorem dL_law_1452 : decode code 1452 = .ok (.iconst 1, 1) := by decide +kernel
theorem dL_law_1453 : decode code 1453 = .ok (.iadd, 1) := by decide +kernel
theorem dL_law_1454 : decode code 1454 = .ok (.iaload, 1) := by decide +kernel
theorem dL_law_1455 : decode code 1455 = .ok (.invokevirtual 197, 3) := by decide +kernel
theorem dL_law_1458 : decode code 1458 = .ok (.if_icmp .eq 328, 3) := by decide +kernel
theorem dL_law_1461 : decode code 1461 = .ok (.iconst 0, 1) := by decide +kernel
theorem dL_law_1462 : decode code 1462 = .ok (.ireturn, 1) := by decide +kernel
theorem dL_law_1463 : decode code 1463 = .ok (.aload_n 1, 1) := by decide +kernel
theorem dL_law_1464 : decode code 1464 = .ok (.invokevirtual 198, 3) := by decide +kernel
theorem dL_law_1467 : decode code 1467 = .ok (.aload_n 2, 1) := by decide +kernel
theorem dL_law_1468 : decode code 1468 = .ok (.invokevirtual 201, 3) := by decide +kernel
theorem dL_law_1471 : decode code 1471 = .ok (.if_icmp .eq 315, 3) := by decide +kernel
theorem dL_law_1474 : decode code 1474 = .ok (.iconst 0, 1) := by decide +kernel
theorem dL_law_1475 : decode code 1475 = .ok (.ireturn, 1) := by decide +kernel
theorem dL_law_1476 : decode code 1476 = .ok (.aload_n 1, 1) := by decide +kernel
theorem dL_law_1477 : decode code 1477 = .ok (.aload_n 0, 1) := by decide +kernel
theorem dL_law_1478 : decode code 1478 = .ok (.iload_n 3, 1) := by decide +kernel
theorem dL_law_1479 : decode code 1479 = .ok (.iconst 1, 1) := by decide +kernel
theorem dL_law_1480 : decode code 1480 = .ok (.iadd, 1) := by decide +kernel
theorem dL_law_1481 : decode code 1481 = .ok (.iaload, 1) := by decide +kernel
theorem dL_law_1482 : decode code 1482 = .ok (.invokevirtual 202, 3) := by decide +kernel
theorem dL_law_1485 : decode code 1485 = .ok (.aload_n 2, 1) := by decide +kernel
theorem dL_law_1486 : decode code 1486 = .ok (.aload_n 0, 1) := by decide +kernel
theorem dL_law_1487 : decode code 1487 = .ok (.iload_n 3, 1) := by decide +kernel
theorem dL_law_1488 : decode code 1488 = .ok (.iconst 1, 1) := by decide +kernel
theorem dL_law_1489 : decode code 1489 = .ok (.iadd, 1) := by decide +kernel
theorem dL_law_1490 : decode code 1490 = .ok (.iaload, 1) := by decide +kernel
theorem dL_law_1491 : decode code 1491 = .ok (.invokevirtual 205, 3) := by decide +kernel
theorem dL_law_1494 : decode code 1494 = .ok (.if_icmp .eq 292, 3) := by decide +kernel
theorem dL_law_1497 : decode code 1497 = .ok (.iconst 0, 1) := by decide +kernel
theorem dL_law_1498 : decode code 1498 = .ok (.ireturn, 1) := by decide +kernel
theorem dL_law_1499 : decode code 1499 = .ok (.aload_n 1, 1) := by decide +kernel
theorem dL_law_1500 : decode code 1500 = .ok (.invokevirtual 206, 3) := by decide +kernel
theorem dL_law_1503 : decode code 1503 = .ok (.aload_n 2, 1) := by decide +kernel
theorem dL_law_1504 : decode code 1504 = .ok (.invokevirtual 209, 3) := by decide +kernel
theorem dL_law_1507 : decode code 1507 = .ok (.if_icmp .eq 279, 3) := by decide +kernel
theorem dL_law_1510 : decode code 1510 = .ok (.iconst 0, 1) := by decide +kernel
theorem dL_law_1511 : decode code 1511 = .ok (.ireturn, 1) := by decide +kernel
theorem dL_law_1512 : decode code 1512 = .ok (.aload_n 1, 1) := by decide +kernel
theorem dL_law_1513 : decode code 1513 = .ok (.aload_n 0, 1) := by decide +kernel
theorem dL_law_1514 : decode code 1514 = .ok (.iload_n 3, 1) := by decide +kernel
theorem dL_law_1515 : decode code 1515 = .ok (.iconst 1, 1) := by decide +kernel
theorem dL_law_1516 : decode code 1516 = .ok (.iadd, 1) := by decide +kernel
theorem dL_law_1517 : decode code 1517 = .ok (.iaload, 1) := by decide +kernel
theorem dL_law_1518 : decode code 1518 = .ok (.invokevirtual 210, 3) := by decide +kernel
theorem dL_law_1521 : decode code 1521 = .ok (.aload_n 2, 1) := by decide +kernel
theorem dL_law_1522 : decode code 1522 = .ok (.aload_n 0, 1) := by decide +kernel
theorem dL_law_1523 : decode code 1523 = .ok (.iload_n 3, 1) := by decide +kernel
theorem dL_law_1524 : decode code 1524 = .ok (.iconst 1, 1) := by decide +kernel
theorem dL_law_1525 : decode code 1525 = .ok (.iadd, 1) := by decide +kernel
theorem dL_law_1526 : decode code 1526 = .ok (.iaload, 1) := by decide +kernel
theorem dL_law_1527 : decode code 1527 = .ok (.invokevirtual 213, 3) := by decide +kernel
theorem dL_law_1530 : decode code 1530 = .ok (.if_icmp .eq 256, 3) := by decide +kernel
theorem dL_law_1533 : decode code 1533 = .ok (.iconst 0, 1) := by decide +kernel
theorem dL_law_1534 : decode code 1534 = .ok (.ireturn, 1) := by decide +kernel
theorem dL_law_1535 : decode code 1535 = .ok (.aload_n 1, 1) := by decide +kernel
theorem dL_law_1536 : decode code 1536 = .ok (.aload_n 0, 1) := by decide +kernel
theorem dL_law_1537 : decode code 1537 = .ok (.iload_n 3, 1) := by decide +kernel
theorem dL_law_1538 : decode code 1538 = .ok (.iconst 1, 1) := by decide +kernel
theorem dL_law_1539 : decode code 1539 = .ok (.iadd, 1) := by decide +kernel
theorem dL_law_1540 : decode code 1540 = .ok (.iaload, 1) := by decide +kernel
theorem dL_law_1541 : decode code 1541 = .ok (.aload_n 0, 1) := by decide +kernel
theorem dL_law_1542 : decode code 1542 = .ok (.iload_n 3, 1) := by decide +kernel
theorem dL_law_1543 : decode code 1543 = .ok (.iconst 2, 1) := by decide +kernel
theorem dL_law_1544 : decode code 1544 = .ok (.iadd, 1) := by decide +kernel
theorem dL_law_1545 : decode code 1545 = .ok (.iaload, 1) := by decide +kernel
theorem dL_law_1546 : decode code 1546 = .ok (.invokevirtual 214, 3) := by decide +kernel
theorem dL_law_1549 : decode code 1549 = .ok (.aload_n 2, 1) := by decide +kernel
theorem dL_law_1550 : decode code 1550 = .ok (.aload_n 0, 1) := by decide +kernel
theorem dL_law_1551 : decode code 1551 = .ok (.iload_n 3, 1) := by decide +kernel
theorem dL_law_1552 : decode code 1552 = .ok (.iconst 1, 1) := by decide +kernel
theorem dL_law_1553 : decode code 1553 = .ok (.iadd, 1) := by decide +kernel
theorem dL_law_1554 : decode code 1554 = .ok (.iaload, 1) := by decide +kernel
theorem dL_law_1555 : decode code 1555 = .ok (.aload_n 0, 1) := by decide +kernel
theorem dL_law_1556 : decode code 1556 = .ok (.iload_n 3, 1) := by decide +kernel
theorem dL_law_1557 : decode code 1557 = .ok (.iconst 2, 1) := by decide +kernel
theorem dL_law_1558 : decode code 1558 = .ok (.iadd, 1) := by decide +kernel
theorem dL_law_1559 : decode code 1559 = .ok (.iaload, 1) := by decide +kernel
theorem dL_law_1560 : decode code 1560 = .ok (.invokevirtual 217, 3) := by decide +kernel
theorem dL_law_1563 : decode code 1563 = .ok (.if_icmp .eq 223, 3) := by decide +kernel
theorem dL_law_1566 : decode code 1566 = .ok (.iconst 0, 1) := by decide +kernel
theorem dL_law_1567 : decode code 1567 = .ok (.ireturn, 1) := by decide +kernel
theorem dL_law_1568 : decode code 1568 = .ok (.aload_n 1, 1) := by decide +kernel
theorem dL_law_1569 : decode code 1569 = .ok (.aload_n 0, 1) := by decide +kernel
theorem dL_law_1570 : decode code 1570 = .ok (.iload_n 3, 1) := by decide +kernel
theorem dL_law_1571 : decode code 1571 = .ok (.iconst 1, 1) := by decide +kernel
theorem dL_law_1572 : decode code 1572 = .ok (.iadd, 1) := by decide +kernel
theorem dL_law_1573 : decode code 1573 = .ok (.iaload, 1) := by decide +kernel
theorem dL_law_1574 : decode code 1574 = .ok (.aload_n 0, 1) := by decide +kernel
theorem dL_law_1575 : decode code 1575 = .ok (.iload_n 3, 1) := by decide +kernel
theorem dL_law_1576 : decode code 1576 = .ok (.iconst 2, 1) := by decide +kernel
theorem dL_law_1577 : decode code 1577 = .ok (.iadd, 1) := by decide +kernel
theorem dL_law_1578 : decode code 1578 = .ok (.iaload, 1) := by decide +kernel
theorem dL_law_1579 : decode code 1579 = .ok (.invokevirtual 218, 3) := by decide +kernel
theorem dL_law_1582 : decode code 1582 = .ok (.aload_n 2, 1) := by decide +kernel
theorem dL_law_1583 : decode code 1583 = .ok (.aload_n 0, 1) := by decide +kernel
theorem dL_law_1584 : decode code 1584 = .ok (.iload_n 3, 1) := by decide +kernel
theorem dL_law_1585 : decode code 1585 = .ok (.iconst 1, 1) := by decide +kernel
theorem dL_law_1586 : decode code 1586 = .ok (.iadd, 1) := by decide +kernel
theorem dL_law_1587 : decode code 1587 = .ok (.iaload, 1) := by decide +kernel
theorem dL_law_1588 : decode code 1588 = .ok (.aload_n 0, 1) := by decide +kernel
theorem dL_law_1589 : decode code 1589 = .ok (.iload_n 3, 1) := by decide +kernel
theorem dL_law_1590 : decode code 1590 = .ok (.iconst 2, 1) := by decide +kernel
theorem dL_law_1591 : decode code 1591 = .ok (.iadd, 1) := by decide +kernel
theorem dL_law_1592 : decode code 1592 = .ok (.iaload, 1) := by decide +kernel
theorem dL_law_1593 : decode code 1593 = .ok (.invokevirtual 221, 3) := by decide +kernel
theorem dL_law_1596 : decode code 1596 = .ok (.if_icmp .eq 190, 3) := by decide +kernel
theorem dL_law_1599 : decode code 1599 = .ok (.iconst 0, 1) := by decide +kernel
theorem dL_law_1600 : decode code 1600 = .ok (.ireturn, 1) := by decide +kernel
theorem dL_law_1601 : decode code 1601 = .ok (.aload_n 1, 1) := by decide +kernel
theorem dL_law_1602 : decode code 1602 = .ok (.aload_n 0, 1) := by decide +kernel
theorem dL_law_1603 : decode code 1603 = .ok (.iload_n 3, 1) := by decide +kernel
theorem dL_law_1604 : decode code 1604 = .ok (.iconst 1, 1) := by decide +kernel
theorem dL_law_1605 : decode code 1605 = .ok (.iadd, 1) := by decide +kernel
theorem dL_law_1606 : decode code 1606 = .ok (.iaload, 1) := by decide +kernel
theorem dL_law_1607 : decode code 1607 = .ok (.invokevirtual 222, 3) := by decide +kernel
theorem dL_law_1610 : decode code 1610 = .ok (.aload_n 2, 1) := by decide +kernel
theorem dL_law_1611 : decode code 1611 = .ok (.aload_n 0, 1) := by decide +kernel
theorem dL_law_1612 : decode code 1612 = .ok (.iload_n 3, 1) := by decide +kernel
theorem dL_law_1613 : decode code 1613 = .ok (.iconst 1, 1) := by decide +kernel
theorem dL_law_1614 : decode code 1614 = .ok (.iadd, 1) := by decide +kernel
theorem dL_law_1615 : decode code 1615 = .ok (.iaload, 1) := by decide +kernel
theorem dL_law_1616 : decode code 1616 = .ok (.invokevirtual 225, 3) := by decide +kernel
theorem dL_law_1619 : decode code 1619 = .ok (.if_icmp .eq 167, 3) := by decide +kernel
theorem dL_law_1622 : decode code 1622 = .ok (.iconst 0, 1) := by decide +kernel
theorem dL_law_1623 : decode code 1623 = .ok (.ireturn, 1) := by decide +kernel
theorem dL_law_1624 : decode code 1624 = .ok (.aload_n 1, 1) := by decide +kernel
theorem dL_law_1625 : decode code 1625 = .ok (.invokevirtual 226, 3) := by decide +kernel
theorem dL_law_1628 : decode code 1628 = .ok (.aload_n 2, 1) := by decide +kernel
theorem dL_law_1629 : decode code 1629 = .ok (.invokevirtual 229, 3) := by decide +kernel
theorem dL_law_1632 : decode code 1632 = .ok (.if_icmp .eq 154, 3) := by decide +kernel
theorem dL_law_1635 : decode code 1635 = .ok (.iconst 0, 1) := by decide +kernel
theorem dL_law_1636 : decode code 1636 = .ok (.ireturn, 1) := by decide +kernel
theorem dL_law_1637 : decode code 1637 = .ok (.aload_n 1, 1) := by decide +kernel
theorem dL_law_1638 : decode code 1638 = .ok (.aload_n 0, 1) := by decide +kernel
theorem dL_law_1639 : decode code 1639 = .ok (.iload_n 3, 1) := by decide +kernel
theorem dL_law_1640 : decode code 1640 = .ok (.iconst 1, 1) := by decide +kernel
theorem dL_law_1641 : decode code 1641 = .ok (.iadd, 1) := by decide +kernel
theorem dL_law_1642 : decode code 1642 = .ok (.iaload, 1) := by decide +kernel
theorem dL_law_1643 : decode code 1643 = .ok (.invokevirtual 230, 3) := by decide +kernel
theorem dL_law_1646 : decode code 1646 = .ok (.aload_n 2, 1) := by decide +kernel
theorem dL_law_1647 : decode code 1647 = .ok (.aload_n 0, 1) := by decide +kernel
theorem dL_law_1648 : decode code 1648 = .ok (.iload_n 3, 1) := by decide +kernel
theorem dL_law_1649 : decode code 1649 = .ok (.iconst 1, 1) := by decide +kernel
theorem dL_law_1650 : decode code 1650 = .ok (.iadd, 1) := by decide +kernel
theorem dL_law_1651 : decode code 1651 = .ok (.iaload, 1) := by decide +kernel
theorem dL_law_1652 : decode code 1652 = .ok (.invokevirtual 234, 3) := by decide +kernel
theorem dL_law_1655 : decode code 1655 = .ok (.lcmp, 1) := by decide +kernel
theorem dL_law_1656 : decode code 1656 = .ok (.ifCond .eq 130, 3) := by decide +kernel
theorem dL_law_1659 : decode code 1659 = .ok (.iconst 0, 1) := by decide +kernel
theorem dL_law_1660 : decode code 1660 = .ok (.ireturn, 1) := by decide +kernel
theorem dL_law_1661 : decode code 1661 = .ok (.aload_n 1, 1) := by decide +kernel
theorem dL_law_1662 : decode code 1662 = .ok (.aload_n 0, 1) := by decide +kernel
theorem dL_law_1663 : decode code 1663 = .ok (.iload_n 3, 1) := by decide +kernel
theorem dL_law_1664 : decode code 1664 = .ok (.iconst 1, 1) := by decide +kernel
theorem dL_law_1665 : decode code 1665 = .ok (.iadd, 1) := by decide +kernel
theorem dL_law_1666 : decode code 1666 = .ok (.iaload, 1) := by decide +kernel
theorem dL_law_1667 : decode code 1667 = .ok (.invokevirtual 235, 3) := by decide +kernel
theorem dL_law_1670 : decode code 1670 = .ok (.aload_n 2, 1) := by decide +kernel
theorem dL_law_1671 : decode code 1671 = .ok (.aload_n 0, 1) := by decide +kernel
theorem dL_law_1672 : decode code 1672 = .ok (.iload_n 3, 1) := by decide +kernel
theorem dL_law_1673 : decode code 1673 = .ok (.iconst 1, 1) := by decide +kernel
theorem dL_law_1674 : decode code 1674 = .ok (.iadd, 1) := by decide +kernel
theorem dL_law_1675 : decode code 1675 = .ok (.iaload, 1) := by decide +kernel
theorem dL_law_1676 : decode code 1676 = .ok (.invokevirtual 238, 3) := by decide +kernel
theorem dL_law_1679 : decode code 1679 = .ok (.if_icmp .eq 107, 3) := by decide +kernel
theorem dL_law_1682 : decode code 1682 = .ok (.iconst 0, 1) := by decide +kernel
theorem dL_law_1683 : decode code 1683 = .ok (.ireturn, 1) := by decide +kernel
theorem dL_law_1684 : decode code 1684 = .ok (.aload_n 1, 1) := by decide +kernel
theorem dL_law_1685 : decode code 1685 = .ok (.aload_n 0, 1) := by decide +kernel
theorem dL_law_1686 : decode code 1686 = .ok (.iload_n 3, 1) := by decide +kernel
theorem dL_law_1687 : decode code 1687 = .ok (.iconst 1, 1) := by decide +kernel
theorem dL_law_1688 : decode code 1688 = .ok (.iadd, 1) := by decide +kernel
theorem dL_law_1689 : decode code 1689 = .ok (.iaload, 1) := by decide +kernel
theorem dL_law_1690 : decode code 1690 = .ok (.invokevirtual 239, 3) := by decide +kernel
theorem dL_law_1693 : decode code 1693 = .ok (.aload_n 2, 1) := by decide +kernel
theorem dL_law_1694 : decode code 1694 = .ok (.aload_n 0, 1) := by decide +kernel
theorem dL_law_1695 : decode code 1695 = .ok (.iload_n 3, 1) := by decide +kernel
theorem dL_law_1696 : decode code 1696 = .ok (.iconst 1, 1) := by decide +kernel
theorem dL_law_1697 : decode code 1697 = .ok (.iadd, 1) := by decide +kernel
theorem dL_law_1698 : decode code 1698 = .ok (.iaload, 1) := by decide +kernel
theorem dL_law_1699 : decode code 1699 = .ok (.invokevirtual 242, 3) := by decide +kernel
theorem dL_law_1702 : decode code 1702 = .ok (.if_icmp .eq 84, 3) := by decide +kernel
theorem dL_law_1705 : decode code 1705 = .ok (.iconst 0, 1) := by decide +kernel
theorem dL_law_1706 : decode code 1706 = .ok (.ireturn, 1) := by decide +kernel
theorem dL_law_1707 : decode code 1707 = .ok (.aload_n 1, 1) := by decide +kernel
theorem dL_law_1708 : decode code 1708 = .ok (.aload_n 0, 1) := by decide +kernel
theorem dL_law_1709 : decode code 1709 = .ok (.iload_n 3, 1) := by decide +kernel
theorem dL_law_1710 : decode code 1710 = .ok (.iconst 1, 1) := by decide +kernel
theorem dL_law_1711 : decode code 1711 = .ok (.iadd, 1) := by decide +kernel
theorem dL_law_1712 : decode code 1712 = .ok (.iaload, 1) := by decide +kernel
theorem dL_law_1713 : decode code 1713 = .ok (.aload_n 0, 1) := by decide +kernel
theorem dL_law_1714 : decode code 1714 = .ok (.iload_n 3, 1) := by decide +kernel
theorem dL_law_1715 : decode code 1715 = .ok (.iconst 2, 1) := by decide +kernel
theorem dL_law_1716 : decode code 1716 = .ok (.iadd, 1) := by decide +kernel
theorem dL_law_1717 : decode code 1717 = .ok (.iaload, 1) := by decide +kernel
theorem dL_law_1718 : decode code 1718 = .ok (.aload_n 0, 1) := by decide +kernel
theorem dL_law_1719 : decode code 1719 = .ok (.iload_n 3, 1) := by decide +kernel
theorem dL_law_1720 : decode code 1720 = .ok (.iconst 3, 1) := by decide +kernel
theorem dL_law_1721 : decode code 1721 = .ok (.iadd, 1) := by decide +kernel
theorem dL_law_1722 : decode code 1722 = .ok (.iaload, 1) := by decide +kernel
theorem dL_law_1723 : decode code 1723 = .ok (.aload_n 0, 1) := by decide +kernel
theorem dL_law_1724 : decode code 1724 = .ok (.iload_n 3, 1) := by decide +kernel
theorem dL_law_1725 : decode code 1725 = .ok (.iconst 4, 1) := by decide +kernel
theorem dL_law_1726 : decode code 1726 = .ok (.iadd, 1) := by decide +kernel
theorem dL_law_1727 : decode code 1727 = .ok (.iaload, 1) := by decide +kernel
theorem dL_law_1728 : decode code 1728 = .ok (.invokevirtual 243, 3) := by decide +kernel
theorem dL_law_1731 : decode code 1731 = .ok (.aload_n 2, 1) := by decide +kernel
theorem dL_law_1732 : decode code 1732 = .ok (.aload_n 0, 1) := by decide +kernel
theorem dL_law_1733 : decode code 1733 = .ok (.iload_n 3, 1) := by decide +kernel
theorem dL_law_1734 : decode code 1734 = .ok (.iconst 1, 1) := by decide +kernel
theorem dL_law_1735 : decode code 1735 = .ok (.iadd, 1) := by decide +kernel
theorem dL_law_1736 : decode code 1736 = .ok (.iaload, 1) := by decide +kernel
theorem dL_law_1737 : decode code 1737 = .ok (.aload_n 0, 1) := by decide +kernel
theorem dL_law_1738 : decode code 1738 = .ok (.iload_n 3, 1) := by decide +kernel
theorem dL_law_1739 : decode code 1739 = .ok (.iconst 2, 1) := by decide +kernel
theorem dL_law_1740 : decode code 1740 = .ok (.iadd, 1) := by decide +kernel
theorem dL_law_1741 : decode code 1741 = .ok (.iaload, 1) := by decide +kernel
theorem dL_law_1742 : decode code 1742 = .ok (.aload_n 0, 1) := by decide +kernel
theorem dL_law_1743 : decode code 1743 = .ok (.iload_n 3, 1) := by decide +kernel
theorem dL_law_1744 : decode code 1744 = .ok (.iconst 3, 1) := by decide +kernel
theorem dL_law_1745 : decode code 1745 = .ok (.iadd, 1) := by decide +kernel
theorem dL_law_1746 : decode code 1746 = .ok (.iaload, 1) := by decide +kernel
theorem dL_law_1747 : decode code 1747 = .ok (.aload_n 0, 1) := by decide +kernel
theorem dL_law_1748 : decode code 1748 = .ok (.iload_n 3, 1) := by decide +kernel
theorem dL_law_1749 : decode code 1749 = .ok (.iconst 4, 1) := by decide +kernel
theorem dL_law_1750 : decode code 1750 = .ok (.iadd, 1) := by decide +kernel
theorem dL_law_1751 : decode code 1751 = .ok (.iaload, 1) := by decide +kernel
theorem dL_law_1752 : decode code 1752 = .ok (.invokevirtual 247, 3) := by decide +kernel
theorem dL_law_1755 : decode code 1755 = .ok (.if_icmp .eq 31, 3) := by decide +kernel
theorem dL_law_1758 : decode code 1758 = .ok (.iconst 0, 1) := by decide +kernel
theorem dL_law_1759 : decode code 1759 = .ok (.ireturn, 1) := by decide +kernel
theorem dL_law_1760 : decode code 1760 = .ok (.aload_n 1, 1) := by decide +kernel
theorem dL_law_1761 : decode code 1761 = .ok (.invokevirtual 248, 3) := by decide +kernel
theorem dL_law_1764 : decode code 1764 = .ok (.aload_n 2, 1) := by decide +kernel
theorem dL_law_1765 : decode code 1765 = .ok (.invokevirtual 251, 3) := by decide +kernel
theorem dL_law_1768 : decode code 1768 = .ok (.if_icmp .eq 18, 3) := by decide +kernel
theorem dL_law_1771 : decode code 1771 = .ok (.iconst 0, 1) := by decide +kernel
theorem dL_law_1772 : decode code 1772 = .ok (.ireturn, 1) := by decide +kernel
theorem dL_law_1773 : decode code 1773 = .ok (.aload_n 1, 1) := by decide +kernel
theorem dL_law_1774 : decode code 1774 = .ok (.invokevirtual 252, 3) := by decide +kernel
theorem dL_law_1777 : decode code 1777 = .ok (.aload_n 2, 1) := by decide +kernel
theorem dL_law_1778 : decode code 1778 = .ok (.invokevirtual 255, 3) := by decide +kernel
theorem dL_law_1781 : decode code 1781 = .ok (.if_icmp .eq 5, 3) := by decide +kernel
theorem dL_law_1784 : decode code 1784 = .ok (.iconst 0, 1) := by decide +kernel
theorem dL_law_1785 : decode code 1785 = .ok (.ireturn, 1) := by decide +kernel
theorem dL_law_1786 : decode code 1786 = .ok (.iinc 3 6, 3) := by decide +kernel
theorem dL_law_1789 : decode code 1789 = .ok (.goto (-1771), 3) := by decide +kernel
theorem dL_law_1792 : decode code 1792 = .ok (.iconst 1, 1) := by decide +kernel
theorem dL_law_1793 : decode code 1793 = .ok (.ireturn, 1) := by decide +kernel
set_option maxRecDepth 100000 in
set_option maxHeartbeats 4000000 in
theorem f_L_law_L18_ok {E : EnvT} {C : Cx} {Mi : Mem} {xs : Int → Int} {L : Int} (hC : CxOK E C code 4 RL 20 600000 7302250) (hq : LawQ E C) (hX : LawX E C xs L) {v1 v5 : Int} : ∀ (n : Nat) (p9 : Int) (M10 : Mem) (cl sl : Nat), cl + 42 * n ≤ 600000 → sl + 758 * n ≤ 7302250 → Bk E C 4 Mi (1 : Int) 18 [(0, 2, (-3)), (1, 29, v1), (2, 30, v5), (3, 0, p9)] [] M10 (cl) (sl) (f_L_law_L18 xs L v1 v5 n p9 M10) := by
  intro n
  induction n with
  | zero =>
    intro p9 M10 cl sl hcl hsl
    exact r_none
  | succ n ih =>
    intro p9 M10 cl sl hcl hsl
    rw [f_L_law_L18]
    refine r_iload_n 18 hC 3 rfl rfl dL_law_18 ?_
    refine r_aload_n 19 hC 0 rfl (Or.inr rfl) rfl dL_law_19 ?_
    refine r_xlen 20 hC hX dL_law_20 ?_
    refine r_bipush 21 hC kb_6 dL_law_21 ?_
    refine r_isub 23 hC dL_law_23 ?_
    refine r_icmp_gt 24 hC (tgt := 1792) (by decide) dL_law_24 ?_ ?_
    · refine r_iconst 1792 hC (r32c rfl) dL_law_1792 ?_
      exact r_lawret 1793 hC hq (by omega) (by omega) dL_law_1793
    · refine r_aload_n 27 hC 0 rfl (Or.inr rfl) rfl dL_law_27 ?_
      refine r_iload_n 28 hC 3 rfl rfl dL_law_28 ?_
      refine r_xld 29 hC hX dL_law_29 (fun v11 => ?_)
      refine r_bipush 30 hC kb_63 dL_law_30 ?_
      refine r_iand 32 hC dL_law_32 ?_
      refine r_jn (P := fun j1786 => ∀ (M12 : Mem), Bk E C 4 Mi (1 : Int) 1786 [(0, 2, (-3)), (1, 29, v1), (2, 30, v5), (3, 0, p9)] [] M12 (cl + 42) (sl + 758) (j1786 M12)) ?_ (fun j1786 hj1786 => ?_)
      · intro M12
        refine r_iinc 1786 hC 3 rfl (by decide) dL_law_1786 (r_eqls (ls' := [(3, 0, w32 (p9 + 6)), (0, 2, (-3)), (1, 29, v1), (2, 30, v5)]) rfl ?_)
        refine r_goto 1789 hC (tgt := 18) (by decide) dL_law_1789 ?_
        exact r_widen (by omega) (by omega) (r_sub [1, 2, 3, 0] rfl (ih (w32 (p9 + 6)) M12 (cl + 42) (sl + 758) (by omega) (by omega)))
      refine r_sw_case 33 (tgt := 272) (off := 239) hC dL_law_33 ⟨by decide, by decide, r32c rfl⟩ (by decide) (by decide) ?_ (fun hs0 => ?_)
      · refine r_aload_n 272 hC 1 rfl (Or.inl (by decide)) rfl dL_law_272 ?_
        refine r_nn (fun hn13 => ?_)
        refine r_callVP 273 hC [] [] rfl vl_L_13 rfl hn13 (by decide) (Nat.le_of_ble_eq_true rfl) (by omega) (by omega) dL_law_273 (t_X11_status v1 M10 hn13) (fun v14 => ?_)
        refine r_aload_n 276 hC 2 rfl (Or.inl (by decide)) rfl dL_law_276 ?_
        refine r_nn (fun hn15 => ?_)
        refine r_callVP 277 hC [] [(0, v14)] rfl vl_L_17 rfl hn15 (by decide) (Nat.le_of_ble_eq_true rfl) (by omega) (by omega) dL_law_277 (t_X12_status v5 M10 hn15) (fun v16 => ?_)
        refine r_icmp_eq 280 hC (tgt := 1786) (by decide) dL_law_280 ?_ ?_
        · exact r_widen (by omega) (by omega) (hj1786 M10)
        · refine r_iconst 283 hC (r32c rfl) dL_law_283 ?_
          exact r_lawret 284 hC hq (by omega) (by omega) dL_law_284
      refine r_sw_case 33 (tgt := 285) (off := 252) hC dL_law_33 ⟨by decide, by decide, r32c rfl⟩ (by decide) (by decide) ?_ (fun hs1 => ?_)
      · refine r_aload_n 285 hC 1 rfl (Or.inl (by decide)) rfl dL_law_285 ?_
        refine r_nn (fun hn17 => ?_)
        refine r_callVP 286 hC [] [] rfl vl_L_18 rfl hn17 (by decide) (Nat.le_of_ble_eq_true rfl) (by omega) (by omega) dL_law_286 (t_X11_top v1 M10 hn17) (fun v18 => ?_)
        refine r_aload_n 289 hC 2 rfl (Or.inl (by decide)) rfl dL_law_289 ?_
        refine r_nn (fun hn19 => ?_)
        refine r_callVP 290 hC [] [(1, v18)] rfl vl_L_22 rfl hn19 (by decide) (Nat.le_of_ble_eq_true rfl) (by omega) (by omega) dL_law_290 (t_X12_top v5 M10 hn19) (fun v20 => ?_)
        refine r_lcmp_eq 293 hC (tgt := 1786) (by decide) dL_law_293 dL_law_294 ?_ ?_
        · exact r_widen (by omega) (by omega) (hj1786 M10)
        · refine r_iconst 297 hC (r32c rfl) dL_law_297 ?_
          exact r_lawret 298 hC hq (by omega) (by omega) dL_law_298
      refine r_sw_case 33 (tgt := 299) (off := 266) hC dL_law_33 ⟨by decide, by decide, r32c rfl⟩ (by decide) (by decide) ?_ (fun hs2 => ?_)
      · refine r_aload_n 299 hC 1 rfl (Or.inl (by decide)) rfl dL_law_299 ?_
        refine r_nn (fun hn21 => ?_)
        refine r_callVP 300 hC [] [] rfl vl_L_23 rfl hn21 (by decide) (Nat.le_of_ble_eq_true rfl) (by omega) (by omega) dL_law_300 (t_X11_bottom v1 M10 hn21) (fun v22 => ?_)
        refine r_aload_n 303 hC 2 rfl (Or.inl (by decide)) rfl dL_law_303 ?_
        refine r_nn (fun hn23 => ?_)
        refine r_callVP 304 hC [] [(1, v22)] rfl vl_L_26 rfl hn23 (by decide) (Nat.le_of_ble_eq_true rfl) (by omega) (by omega) dL_law_304 (t_X12_bottom v5 M10 hn23) (fun v24 => ?_)
        refine r_lcmp_eq 307 hC (tgt := 1786) (by decide) dL_law_307 dL_law_308 ?_ ?_
        · exact r_widen (by omega) (by omega) (hj1786 M10)
        · refine r_iconst 311 hC (r32c rfl) dL_law_311 ?_
          exact r_lawret 312 hC hq (by omega) (by omega) dL_law_312
      refine r_sw_case 33 (tgt := 313) (off := 280) hC dL_law_33 ⟨by decide, by decide, r32c rfl⟩ (by decide) (by decide) ?_ (fun hs3 => ?_)
      · refine r_aload_n 313 hC 1 rfl (Or.inl (by decide)) rfl dL_law_313 ?_
        refine r_aload_n 314 hC 0 rfl (Or.inr rfl) rfl dL_law_314 ?_
        refine r_iload_n 315 hC 3 rfl rfl dL_law_315 ?_
        refine r_iconst 316 hC (r32c rfl) dL_law_316 ?_
        refine r_iadd 317 hC dL_law_317 ?_
        refine r_xld 318 hC hX dL_law_318 (fun v25 => ?_)
        refine r_aload_n 319 hC 0 rfl (Or.inr rfl) rfl dL_law_319 ?_
        refine r_iload_n 320 hC 3 rfl rfl dL_law_320 ?_
        refine r_iconst 321 hC (r32c rfl) dL_law_321 ?_
        refine r_iadd 322 hC dL_law_322 ?_
        refine r_xld 323 hC hX dL_law_323 (fun v26 => ?_)
        refine r_aload_n 324 hC 0 rfl (Or.inr rfl) rfl dL_law_324 ?_
        refine r_iload_n 325 hC 3 rfl rfl dL_law_325 ?_
        refine r_iconst 326 hC (r32c rfl) dL_law_326 ?_
        refine r_iadd 327 hC dL_law_327 ?_
        refine r_xld 328 hC hX dL_law_328 (fun v27 => ?_)
        refine r_nn (fun hn28 => ?_)
        refine r_callVI 329 hC [(0, v25), (0, v26), (0, v27)] [] rfl vl_L_27 rfl hn28 (by decide) (Nat.le_of_ble_eq_true rfl) (by omega) (by omega) dL_law_329 (t_X11_tray v1 v25 v26 v27 M10 hn28) (fun v29 M30 => ?_)
        refine r_aload_n 332 hC 2 rfl (Or.inl (by decide)) rfl dL_law_332 ?_
        refine r_aload_n 333 hC 0 rfl (Or.inr rfl) rfl dL_law_333 ?_
        refine r_iload_n 334 hC 3 rfl rfl dL_law_334 ?_
        refine r_iconst 335 hC (r32c rfl) dL_law_335 ?_
        refine r_iadd 336 hC dL_law_336 ?_
        refine r_xld 337 hC hX dL_law_337 (fun v31 => ?_)
        refine r_aload_n 338 hC 0 rfl (Or.inr rfl) rfl dL_law_338 ?_
        refine r_iload_n 339 hC 3 rfl rfl dL_law_339 ?_
        refine r_iconst 340 hC (r32c rfl) dL_law_340 ?_
        refine r_iadd 341 hC dL_law_341 ?_
        refine r_xld 342 hC hX dL_law_342 (fun v32 => ?_)
        refine r_aload_n 343 hC 0 rfl (Or.inr rfl) rfl dL_law_343 ?_
        refine r_iload_n 344 hC 3 rfl rfl dL_law_344 ?_
        refine r_iconst 345 hC (r32c rfl) dL_law_345 ?_
        refine r_iadd 346 hC dL_law_346 ?_
        refine r_xld 347 hC hX dL_law_347 (fun v33 => ?_)
        refine r_nn (fun hn34 => ?_)
        refine r_callVI 348 hC [(0, v31), (0, v32), (0, v33)] [(0, v29)] rfl vl_L_31 rfl hn34 (by decide) (Nat.le_of_ble_eq_true rfl) (by omega) (by omega) dL_law_348 (t_X12_tray v5 v31 v32 v33 M30 hn34) (fun v35 M36 => ?_)
        refine r_icmp_eq 351 hC (tgt := 1786) (by decide) dL_law_351 ?_ ?_
        · exact r_widen (by omega) (by omega) (hj1786 M36)
        · refine r_iconst 354 hC (r32c rfl) dL_law_354 ?_
          exact r_lawret 355 hC hq (by omega) (by omega) dL_law_355
      refine r_sw_case 33 (tgt := 356) (off := 323) hC dL_law_33 ⟨by decide, by decide, r32c rfl⟩ (by decide) (by decide) ?_ (fun hs4 => ?_)
      · refine r_aload_n 356 hC 1 rfl (Or.inl (by decide)) rfl dL_law_356 ?_
        refine r_aload_n 357 hC 0 rfl (Or.inr rfl) rfl dL_law_357 ?_
        refine r_iload_n 358 hC 3 rfl rfl dL_law_358 ?_
        refine r_iconst 359 hC (r32c rfl) dL_law_359 ?_
        refine r_iadd 360 hC dL_law_360 ?_
        refine r_xld 361 hC hX dL_law_361 (fun v37 => ?_)
        refine r_aload_n 362 hC 0 rfl (Or.inr rfl) rfl dL_law_362 ?_
        refine r_iload_n 363 hC 3 rfl rfl dL_law_363 ?_
        refine r_iconst 364 hC (r32c rfl) dL_law_364 ?_
        refine r_iadd 365 hC dL_law_365 ?_
        refine r_xld 366 hC hX dL_law_366 (fun v38 => ?_)
        refine r_aload_n 367 hC 0 rfl (Or.inr rfl) rfl dL_law_367 ?_
        refine r_iload_n 368 hC 3 rfl rfl dL_law_368 ?_
        refine r_iconst 369 hC (r32c rfl) dL_law_369 ?_
        refine r_iadd 370 hC dL_law_370 ?_
        refine r_xld 371 hC hX dL_law_371 (fun v39 => ?_)
        refine r_i2l 372 hC dL_law_372 ?_
        refine r_bipush 373 hC kb_32 dL_law_373 ?_
        refine r_lshl 375 hC dL_law_375 ?_
        refine r_aload_n 376 hC 0 rfl (Or.inr rfl) rfl dL_law_376 ?_
        refine r_iload_n 377 hC 3 rfl rfl dL_law_377 ?_
        refine r_iconst 378 hC (r32c rfl) dL_law_378 ?_
        refine r_iadd 379 hC dL_law_379 ?_
        refine r_xld 380 hC hX dL_law_380 (fun v40 => ?_)
        refine r_i2l 381 hC dL_law_381 ?_
        refine r_ldc2 382 hC (x := 4294967295) kl_L_32 ⟨by decide +kernel, r64c rfl⟩ dL_law_382 ?_
        refine r_land 385 hC dL_law_385 ?_
        refine r_lor 386 hC dL_law_386 ?_
        refine r_nn (fun hn41 => ?_)
        refine r_callVI 387 hC [(0, v37), (0, v38), (1, lorv (lshlv v39 32) (landv v40 4294967295))] [] rfl vl_L_34 rfl hn41 (by decide) (Nat.le_of_ble_eq_true rfl) (by omega) (by omega) dL_law_387 (t_X11_write v1 v37 v38 (lorv (lshlv v39 32) (landv v40 4294967295)) M10 hn41) (fun v42 M43 => ?_)
        refine r_aload_n 390 hC 2 rfl (Or.inl (by decide)) rfl dL_law_390 ?_
        refine r_aload_n 391 hC 0 rfl (Or.inr rfl) rfl dL_law_391 ?_
        refine r_iload_n 392 hC 3 rfl rfl dL_law_392 ?_
        refine r_iconst 393 hC (r32c rfl) dL_law_393 ?_
        refine r_iadd 394 hC dL_law_394 ?_
        refine r_xld 395 hC hX dL_law_395 (fun v44 => ?_)
        refine r_aload_n 396 hC 0 rfl (Or.inr rfl) rfl dL_law_396 ?_
        refine r_iload_n 397 hC 3 rfl rfl dL_law_397 ?_
        refine r_iconst 398 hC (r32c rfl) dL_law_398 ?_
        refine r_iadd 399 hC dL_law_399 ?_
        refine r_xld 400 hC hX dL_law_400 (fun v45 => ?_)
        refine r_aload_n 401 hC 0 rfl (Or.inr rfl) rfl dL_law_401 ?_
        refine r_iload_n 402 hC 3 rfl rfl dL_law_402 ?_
        refine r_iconst 403 hC (r32c rfl) dL_law_403 ?_
        refine r_iadd 404 hC dL_law_404 ?_
        refine r_xld 405 hC hX dL_law_405 (fun v46 => ?_)
        refine r_i2l 406 hC dL_law_406 ?_
        refine r_bipush 407 hC kb_32 dL_law_407 ?_
        refine r_lshl 409 hC dL_law_409 ?_
        refine r_aload_n 410 hC 0 rfl (Or.inr rfl) rfl dL_law_410 ?_
        refine r_iload_n 411 hC 3 rfl rfl dL_law_411 ?_
        refine r_iconst 412 hC (r32c rfl) dL_law_412 ?_
        refine r_iadd 413 hC dL_law_413 ?_
        refine r_xld 414 hC hX dL_law_414 (fun v47 => ?_)
        refine r_i2l 415 hC dL_law_415 ?_
        refine r_ldc2 416 hC (x := 4294967295) kl_L_32 ⟨by decide +kernel, r64c rfl⟩ dL_law_416 ?_
        refine r_land 419 hC dL_law_419 ?_
        refine r_lor 420 hC dL_law_420 ?_
        refine r_nn (fun hn48 => ?_)
        refine r_callVI 421 hC [(0, v44), (0, v45), (1, lorv (lshlv v46 32) (landv v47 4294967295))] [(0, v42)] rfl vl_L_38 rfl hn48 (by decide) (Nat.le_of_ble_eq_true rfl) (by omega) (by omega) dL_law_421 (t_X12_write v5 v44 v45 (lorv (lshlv v46 32) (landv v47 4294967295)) M43 hn48) (fun v49 M50 => ?_)
        refine r_icmp_eq 424 hC (tgt := 1786) (by decide) dL_law_424 ?_ ?_
        · exact r_widen (by omega) (by omega) (hj1786 M50)
        · refine r_iconst 427 hC (r32c rfl) dL_law_427 ?_
          exact r_lawret 428 hC hq (by omega) (by omega) dL_law_428
      refine r_sw_case 33 (tgt := 429) (off := 396) hC dL_law_33 ⟨by decide, by decide, r32c rfl⟩ (by decide) (by decide) ?_ (fun hs5 => ?_)
      · refine r_aload_n 429 hC 1 rfl (Or.inl (by decide)) rfl dL_law_429 ?_
        refine r_aload_n 430 hC 0 rfl (Or.inr rfl) rfl dL_law_430 ?_
        refine r_iload_n 431 hC 3 rfl rfl dL_law_431 ?_
        refine r_iconst 432 hC (r32c rfl) dL_law_432 ?_
        refine r_iadd 433 hC dL_law_433 ?_
        refine r_xld 434 hC hX dL_law_434 (fun v51 => ?_)
        refine r_aload_n 435 hC 0 rfl (Or.inr rfl) rfl dL_law_435 ?_
        refine r_iload_n 436 hC 3 rfl rfl dL_law_436 ?_
        refine r_iconst 437 hC (r32c rfl) dL_law_437 ?_
        refine r_iadd 438 hC dL_law_438 ?_
        refine r_xld 439 hC hX dL_law_439 (fun v52 => ?_)
        refine r_nn (fun hn53 => ?_)
        refine r_callVI 440 hC [(0, v51), (0, v52)] [] rfl vl_L_39 rfl hn53 (by decide) (Nat.le_of_ble_eq_true rfl) (by omega) (by omega) dL_law_440 (t_X11_read v1 v51 v52 M10 hn53) (fun v54 M55 => ?_)
        refine r_aload_n 443 hC 2 rfl (Or.inl (by decide)) rfl dL_law_443 ?_
        refine r_aload_n 444 hC 0 rfl (Or.inr rfl) rfl dL_law_444 ?_
        refine r_iload_n 445 hC 3 rfl rfl dL_law_445 ?_
        refine r_iconst 446 hC (r32c rfl) dL_law_446 ?_
        refine r_iadd 447 hC dL_law_447 ?_
        refine r_xld 448 hC hX dL_law_448 (fun v56 => ?_)
        refine r_aload_n 449 hC 0 rfl (Or.inr rfl) rfl dL_law_449 ?_
        refine r_iload_n 450 hC 3 rfl rfl dL_law_450 ?_
        refine r_iconst 451 hC (r32c rfl) dL_law_451 ?_
        refine r_iadd 452 hC dL_law_452 ?_
        refine r_xld 453 hC hX dL_law_453 (fun v57 => ?_)
        refine r_nn (fun hn58 => ?_)
        refine r_callVI 454 hC [(0, v56), (0, v57)] [(1, v54)] rfl vl_L_43 rfl hn58 (by decide) (Nat.le_of_ble_eq_true rfl) (by omega) (by omega) dL_law_454 (t_X12_read v5 v56 v57 M55 hn58) (fun v59 M60 => ?_)
        refine r_lcmp_eq 457 hC (tgt := 1786) (by decide) dL_law_457 dL_law_458 ?_ ?_
        · exact r_widen (by omega) (by omega) (hj1786 M60)
        · refine r_iconst 461 hC (r32c rfl) dL_law_461 ?_
          exact r_lawret 462 hC hq (by omega) (by omega) dL_law_462
      refine r_sw_case 33 (tgt := 463) (off := 430) hC dL_law_33 ⟨by decide, by decide, r32c rfl⟩ (by decide) (by decide) ?_ (fun hs6 => ?_)
      · refine r_aload_n 463 hC 1 rfl (Or.inl (by decide)) rfl dL_law_463 ?_
        refine r_aload_n 464 hC 0 rfl (Or.inr rfl) rfl dL_law_464 ?_
        refine r_iload_n 465 hC 3 rfl rfl dL_law_465 ?_
        refine r_iconst 466 hC (r32c rfl) dL_law_466 ?_
        refine r_iadd 467 hC dL_law_467 ?_
        refine r_xld 468 hC hX dL_law_468 (fun v61 => ?_)
        refine r_aload_n 469 hC 0 rfl (Or.inr rfl) rfl dL_law_469 ?_
        refine r_iload_n 470 hC 3 rfl rfl dL_law_470 ?_
        refine r_iconst 471 hC (r32c rfl) dL_law_471 ?_
        refine r_iadd 472 hC dL_law_472 ?_
        refine r_xld 473 hC hX dL_law_473 (fun v62 => ?_)
        refine r_aload_n 474 hC 0 rfl (Or.inr rfl) rfl dL_law_474 ?_
        refine r_iload_n 475 hC 3 rfl rfl dL_law_475 ?_
        refine r_iconst 476 hC (r32c rfl) dL_law_476 ?_
        refine r_iadd 477 hC dL_law_477 ?_
        refine r_xld 478 hC hX dL_law_478 (fun v63 => ?_)
        refine r_aload_n 479 hC 0 rfl (Or.inr rfl) rfl dL_law_479 ?_
        refine r_iload_n 480 hC 3 rfl rfl dL_law_480 ?_
        refine r_iconst 481 hC (r32c rfl) dL_law_481 ?_
        refine r_iadd 482 hC dL_law_482 ?_
        refine r_xld 483 hC hX dL_law_483 (fun v64 => ?_)
        refine r_aload_n 484 hC 0 rfl (Or.inr rfl) rfl dL_law_484 ?_
        refine r_iload_n 485 hC 3 rfl rfl dL_law_485 ?_
        refine r_iconst 486 hC (r32c rfl) dL_law_486 ?_
        refine r_iadd 487 hC dL_law_487 ?_
        refine r_xld 488 hC hX dL_law_488 (fun v65 => ?_)
        refine r_nn (fun hn66 => ?_)
        refine r_callVI 489 hC [(0, v61), (0, v62), (0, v63), (0, v64), (0, v65)] [] rfl vl_L_44 rfl hn66 (by decide) (Nat.le_of_ble_eq_true rfl) (by omega) (by omega) dL_law_489 (t_X11_pour v1 v61 v62 v63 v64 v65 M10 hn66) (fun v67 M68 => ?_)
        refine r_aload_n 492 hC 2 rfl (Or.inl (by decide)) rfl dL_law_492 ?_
        refine r_aload_n 493 hC 0 rfl (Or.inr rfl) rfl dL_law_493 ?_
        refine r_iload_n 494 hC 3 rfl rfl dL_law_494 ?_
        refine r_iconst 495 hC (r32c rfl) dL_law_495 ?_
        refine r_iadd 496 hC dL_law_496 ?_
        refine r_xld 497 hC hX dL_law_497 (fun v69 => ?_)
        refine r_aload_n 498 hC 0 rfl (Or.inr rfl) rfl dL_law_498 ?_
        refine r_iload_n 499 hC 3 rfl rfl dL_law_499 ?_
        refine r_iconst 500 hC (r32c rfl) dL_law_500 ?_
        refine r_iadd 501 hC dL_law_501 ?_
        refine r_xld 502 hC hX dL_law_502 (fun v70 => ?_)
        refine r_aload_n 503 hC 0 rfl (Or.inr rfl) rfl dL_law_503 ?_
        refine r_iload_n 504 hC 3 rfl rfl dL_law_504 ?_
        refine r_iconst 505 hC (r32c rfl) dL_law_505 ?_
        refine r_iadd 506 hC dL_law_506 ?_
        refine r_xld 507 hC hX dL_law_507 (fun v71 => ?_)
        refine r_aload_n 508 hC 0 rfl (Or.inr rfl) rfl dL_law_508 ?_
        refine r_iload_n 509 hC 3 rfl rfl dL_law_509 ?_
        refine r_iconst 510 hC (r32c rfl) dL_law_510 ?_
        refine r_iadd 511 hC dL_law_511 ?_
        refine r_xld 512 hC hX dL_law_512 (fun v72 => ?_)
        refine r_aload_n 513 hC 0 rfl (Or.inr rfl) rfl dL_law_513 ?_
        refine r_iload_n 514 hC 3 rfl rfl dL_law_514 ?_
        refine r_iconst 515 hC (r32c rfl) dL_law_515 ?_
        refine r_iadd 516 hC dL_law_516 ?_
        refine r_xld 517 hC hX dL_law_517 (fun v73 => ?_)
        refine r_nn (fun hn74 => ?_)
        refine r_callVI 518 hC [(0, v69), (0, v70), (0, v71), (0, v72), (0, v73)] [(0, v67)] rfl vl_L_48 rfl hn74 (by decide) (Nat.le_of_ble_eq_true rfl) (by omega) (by omega) dL_law_518 (t_X12_pour v5 v69 v70 v71 v72 v73 M68 hn74) (fun v75 M76 => ?_)
        refine r_icmp_eq 521 hC (tgt := 1786) (by decide) dL_law_521 ?_ ?_
        · exact r_widen (by omega) (by omega) (hj1786 M76)
        · refine r_iconst 524 hC (r32c rfl) dL_law_524 ?_
          exact r_lawret 525 hC hq (by omega) (by omega) dL_law_525
      refine r_sw_case 33 (tgt := 526) (off := 493) hC dL_law_33 ⟨by decide, by decide, r32c rfl⟩ (by decide) (by decide) ?_ (fun hs7 => ?_)
      · refine r_aload_n 526 hC 1 rfl (Or.inl (by decide)) rfl dL_law_526 ?_
        refine r_aload_n 527 hC 0 rfl (Or.inr rfl) rfl dL_law_527 ?_
        refine r_iload_n 528 hC 3 rfl rfl dL_law_528 ?_
        refine r_iconst 529 hC (r32c rfl) dL_law_529 ?_
        refine r_iadd 530 hC dL_law_530 ?_
        refine r_xld 531 hC hX dL_law_531 (fun v77 => ?_)
        refine r_aload_n 532 hC 0 rfl (Or.inr rfl) rfl dL_law_532 ?_
        refine r_iload_n 533 hC 3 rfl rfl dL_law_533 ?_
        refine r_iconst 534 hC (r32c rfl) dL_law_534 ?_
        refine r_iadd 535 hC dL_law_535 ?_
        refine r_xld 536 hC hX dL_law_536 (fun v78 => ?_)
        refine r_aload_n 537 hC 0 rfl (Or.inr rfl) rfl dL_law_537 ?_
        refine r_iload_n 538 hC 3 rfl rfl dL_law_538 ?_
        refine r_iconst 539 hC (r32c rfl) dL_law_539 ?_
        refine r_iadd 540 hC dL_law_540 ?_
        refine r_xld 541 hC hX dL_law_541 (fun v79 => ?_)
        refine r_aload_n 542 hC 0 rfl (Or.inr rfl) rfl dL_law_542 ?_
        refine r_iload_n 543 hC 3 rfl rfl dL_law_543 ?_
        refine r_iconst 544 hC (r32c rfl) dL_law_544 ?_
        refine r_iadd 545 hC dL_law_545 ?_
        refine r_xld 546 hC hX dL_law_546 (fun v80 => ?_)
        refine r_aload_n 547 hC 0 rfl (Or.inr rfl) rfl dL_law_547 ?_
        refine r_iload_n 548 hC 3 rfl rfl dL_law_548 ?_
        refine r_iconst 549 hC (r32c rfl) dL_law_549 ?_
        refine r_iadd 550 hC dL_law_550 ?_
        refine r_xld 551 hC hX dL_law_551 (fun v81 => ?_)
        refine r_nn (fun hn82 => ?_)
        refine r_callVI 552 hC [(0, v77), (0, v78), (0, v79), (0, v80), (0, v81)] [] rfl vl_L_49 rfl hn82 (by decide) (Nat.le_of_ble_eq_true rfl) (by omega) (by omega) dL_law_552 (t_X11_feed v1 v77 v78 v79 v80 v81 M10 hn82) (fun v83 M84 => ?_)
        refine r_aload_n 555 hC 2 rfl (Or.inl (by decide)) rfl dL_law_555 ?_
        refine r_aload_n 556 hC 0 rfl (Or.inr rfl) rfl dL_law_556 ?_
        refine r_iload_n 557 hC 3 rfl rfl dL_law_557 ?_
        refine r_iconst 558 hC (r32c rfl) dL_law_558 ?_
        refine r_iadd 559 hC dL_law_559 ?_
        refine r_xld 560 hC hX dL_law_560 (fun v85 => ?_)
        refine r_aload_n 561 hC 0 rfl (Or.inr rfl) rfl dL_law_561 ?_
        refine r_iload_n 562 hC 3 rfl rfl dL_law_562 ?_
        refine r_iconst 563 hC (r32c rfl) dL_law_563 ?_
        refine r_iadd 564 hC dL_law_564 ?_
        refine r_xld 565 hC hX dL_law_565 (fun v86 => ?_)
        refine r_aload_n 566 hC 0 rfl (Or.inr rfl) rfl dL_law_566 ?_
        refine r_iload_n 567 hC 3 rfl rfl dL_law_567 ?_
        refine r_iconst 568 hC (r32c rfl) dL_law_568 ?_
        refine r_iadd 569 hC dL_law_569 ?_
        refine r_xld 570 hC hX dL_law_570 (fun v87 => ?_)
        refine r_aload_n 571 hC 0 rfl (Or.inr rfl) rfl dL_law_571 ?_
        refine r_iload_n 572 hC 3 rfl rfl dL_law_572 ?_
        refine r_iconst 573 hC (r32c rfl) dL_law_573 ?_
        refine r_iadd 574 hC dL_law_574 ?_
        refine r_xld 575 hC hX dL_law_575 (fun v88 => ?_)
        refine r_aload_n 576 hC 0 rfl (Or.inr rfl) rfl dL_law_576 ?_
        refine r_iload_n 577 hC 3 rfl rfl dL_law_577 ?_
        refine r_iconst 578 hC (r32c rfl) dL_law_578 ?_
        refine r_iadd 579 hC dL_law_579 ?_
        refine r_xld 580 hC hX dL_law_580 (fun v89 => ?_)
        refine r_nn (fun hn90 => ?_)
        refine r_callVI 581 hC [(0, v85), (0, v86), (0, v87), (0, v88), (0, v89)] [(0, v83)] rfl vl_L_53 rfl hn90 (by decide) (Nat.le_of_ble_eq_true rfl) (by omega) (by omega) dL_law_581 (t_X12_feed v5 v85 v86 v87 v88 v89 M84 hn90) (fun v91 M92 => ?_)
        refine r_icmp_eq 584 hC (tgt := 1786) (by decide) dL_law_584 ?_ ?_
        · exact r_widen (by omega) (by omega) (hj1786 M92)
        · refine r_iconst 587 hC (r32c rfl) dL_law_587 ?_
          exact r_lawret 588 hC hq (by omega) (by omega) dL_law_588
      refine r_sw_case 33 (tgt := 589) (off := 556) hC dL_law_33 ⟨by decide, by decide, r32c rfl⟩ (by decide) (by decide) ?_ (fun hs8 => ?_)
      · refine r_aload_n 589 hC 1 rfl (Or.inl (by decide)) rfl dL_law_589 ?_
        refine r_aload_n 590 hC 0 rfl (Or.inr rfl) rfl dL_law_590 ?_
        refine r_iload_n 591 hC 3 rfl rfl dL_law_591 ?_
        refine r_iconst 592 hC (r32c rfl) dL_law_592 ?_
        refine r_iadd 593 hC dL_law_593 ?_
        refine r_xld 594 hC hX dL_law_594 (fun v93 => ?_)
        refine r_nn (fun hn94 => ?_)
        refine r_callVI 595 hC [(0, v93)] [] rfl vl_L_54 rfl hn94 (by decide) (Nat.le_of_ble_eq_true rfl) (by omega) (by omega) dL_law_595 (t_X11_valley v1 v93 M10 hn94) (fun v95 M96 => ?_)
        refine r_aload_n 598 hC 2 rfl (Or.inl (by decide)) rfl dL_law_598 ?_
        refine r_aload_n 599 hC 0 rfl (Or.inr rfl) rfl dL_law_599 ?_
        refine r_iload_n 600 hC 3 rfl rfl dL_law_600 ?_
        refine r_iconst 601 hC (r32c rfl) dL_law_601 ?_
        refine r_iadd 602 hC dL_law_602 ?_
        refine r_xld 603 hC hX dL_law_603 (fun v97 => ?_)
        refine r_nn (fun hn98 => ?_)
        refine r_callVI 604 hC [(0, v97)] [(0, v95)] rfl vl_L_58 rfl hn98 (by decide) (Nat.le_of_ble_eq_true rfl) (by omega) (by omega) dL_law_604 (t_X12_valley v5 v97 M96 hn98) (fun v99 M100 => ?_)
        refine r_icmp_eq 607 hC (tgt := 1786) (by decide) dL_law_607 ?_ ?_
        · exact r_widen (by omega) (by omega) (hj1786 M100)
        · refine r_iconst 610 hC (r32c rfl) dL_law_610 ?_
          exact r_lawret 611 hC hq (by omega) (by omega) dL_law_611
      refine r_sw_case 33 (tgt := 612) (off := 579) hC dL_law_33 ⟨by decide, by decide, r32c rfl⟩ (by decide) (by decide) ?_ (fun hs9 => ?_)
      · refine r_aload_n 612 hC 1 rfl (Or.inl (by decide)) rfl dL_law_612 ?_
        refine r_aload_n 613 hC 0 rfl (Or.inr rfl) rfl dL_law_613 ?_
        refine r_iload_n 614 hC 3 rfl rfl dL_law_614 ?_
        refine r_iconst 615 hC (r32c rfl) dL_law_615 ?_
        refine r_iadd 616 hC dL_law_616 ?_
        refine r_xld 617 hC hX dL_law_617 (fun v101 => ?_)
        refine r_nn (fun hn102 => ?_)
        refine r_callVI 618 hC [(0, v101)] [] rfl vl_L_59 rfl hn102 (by decide) (Nat.le_of_ble_eq_true rfl) (by omega) (by omega) dL_law_618 (t_X11_days v1 v101 M10 hn102) (fun v103 M104 => ?_)
        refine r_aload_n 621 hC 2 rfl (Or.inl (by decide)) rfl dL_law_621 ?_
        refine r_aload_n 622 hC 0 rfl (Or.inr rfl) rfl dL_law_622 ?_
        refine r_iload_n 623 hC 3 rfl rfl dL_law_623 ?_
        refine r_iconst 624 hC (r32c rfl) dL_law_624 ?_
        refine r_iadd 625 hC dL_law_625 ?_
        refine r_xld 626 hC hX dL_law_626 (fun v105 => ?_)
        refine r_nn (fun hn106 => ?_)
        refine r_callVI 627 hC [(0, v105)] [(0, v103)] rfl vl_L_62 rfl hn106 (by decide) (Nat.le_of_ble_eq_true rfl) (by omega) (by omega) dL_law_627 (t_X12_days v5 v105 M104 hn106) (fun v107 M108 => ?_)
        refine r_icmp_eq 630 hC (tgt := 1786) (by decide) dL_law_630 ?_ ?_
        · exact r_widen (by omega) (by omega) (hj1786 M108)
        · refine r_iconst 633 hC (r32c rfl) dL_law_633 ?_
          exact r_lawret 634 hC hq (by omega) (by omega) dL_law_634
      refine r_sw_case 33 (tgt := 635) (off := 602) hC dL_law_33 ⟨by decide, by decide, r32c rfl⟩ (by decide) (by decide) ?_ (fun hs10 => ?_)
      · refine r_aload_n 635 hC 1 rfl (Or.inl (by decide)) rfl dL_law_635 ?_
        refine r_aload_n 636 hC 0 rfl (Or.inr rfl) rfl dL_law_636 ?_
        refine r_iload_n 637 hC 3 rfl rfl dL_law_637 ?_
        refine r_iconst 638 hC (r32c rfl) dL_law_638 ?_
        refine r_iadd 639 hC dL_law_639 ?_
        refine r_xld 640 hC hX dL_law_640 (fun v109 => ?_)
        refine r_nn (fun hn110 => ?_)
        refine r_callVP 641 hC [(0, v109)] [] rfl vl_L_63 rfl hn110 (by decide) (Nat.le_of_ble_eq_true rfl) (by omega) (by omega) dL_law_641 (t_X11_fault v1 v109 M10 hn110) (fun v111 => ?_)
        refine r_aload_n 644 hC 2 rfl (Or.inl (by decide)) rfl dL_law_644 ?_
        refine r_aload_n 645 hC 0 rfl (Or.inr rfl) rfl dL_law_645 ?_
        refine r_iload_n 646 hC 3 rfl rfl dL_law_646 ?_
        refine r_iconst 647 hC (r32c rfl) dL_law_647 ?_
        refine r_iadd 648 hC dL_law_648 ?_
        refine r_xld 649 hC hX dL_law_649 (fun v112 => ?_)
        refine r_nn (fun hn113 => ?_)
        refine r_callVP 650 hC [(0, v112)] [(0, v111)] rfl vl_L_66 rfl hn113 (by decide) (Nat.le_of_ble_eq_true rfl) (by omega) (by omega) dL_law_650 (t_X12_fault v5 v112 M10 hn113) (fun v114 => ?_)
        refine r_icmp_eq 653 hC (tgt := 1786) (by decide) dL_law_653 ?_ ?_
        · exact r_widen (by omega) (by omega) (hj1786 M10)
        · refine r_iconst 656 hC (r32c rfl) dL_law_656 ?_
          exact r_lawret 657 hC hq (by omega) (by omega) dL_law_657
      refine r_sw_case 33 (tgt := 658) (off := 625) hC dL_law_33 ⟨by decide, by decide, r32c rfl⟩ (by decide) (by decide) ?_ (fun hs11 => ?_)
      · refine r_aload_n 658 hC 1 rfl (Or.inl (by decide)) rfl dL_law_658 ?_
        refine r_aload_n 659 hC 0 rfl (Or.inr rfl) rfl dL_law_659 ?_
        refine r_iload_n 660 hC 3 rfl rfl dL_law_660 ?_
        refine r_iconst 661 hC (r32c rfl) dL_law_661 ?_
        refine r_iadd 662 hC dL_law_662 ?_
        refine r_xld 663 hC hX dL_law_663 (fun v115 => ?_)
        refine r_nn (fun hn116 => ?_)
        refine r_callVI 664 hC [(0, v115)] [] rfl vl_L_67 rfl hn116 (by decide) (Nat.le_of_ble_eq_true rfl) (by omega) (by omega) dL_law_664 (t_X11_told v1 v115 M10 hn116) (fun v117 M118 => ?_)
        refine r_aload_n 667 hC 2 rfl (Or.inl (by decide)) rfl dL_law_667 ?_
        refine r_aload_n 668 hC 0 rfl (Or.inr rfl) rfl dL_law_668 ?_
        refine r_iload_n 669 hC 3 rfl rfl dL_law_669 ?_
        refine r_iconst 670 hC (r32c rfl) dL_law_670 ?_
        refine r_iadd 671 hC dL_law_671 ?_
        refine r_xld 672 hC hX dL_law_672 (fun v119 => ?_)
        refine r_nn (fun hn120 => ?_)
        refine r_callVI 673 hC [(0, v119)] [(0, v117)] rfl vl_L_70 rfl hn120 (by decide) (Nat.le_of_ble_eq_true rfl) (by omega) (by omega) dL_law_673 (t_X12_told v5 v119 M118 hn120) (fun v121 M122 => ?_)
        refine r_icmp_eq 676 hC (tgt := 1786) (by decide) dL_law_676 ?_ ?_
        · exact r_widen (by omega) (by omega) (hj1786 M122)
        · refine r_iconst 679 hC (r32c rfl) dL_law_679 ?_
          exact r_lawret 680 hC hq (by omega) (by omega) dL_law_680
      refine r_sw_case 33 (tgt := 681) (off := 648) hC dL_law_33 ⟨by decide, by decide, r32c rfl⟩ (by decide) (by decide) ?_ (fun hs12 => ?_)
      · refine r_aload_n 681 hC 1 rfl (Or.inl (by decide)) rfl dL_law_681 ?_
        refine r_aload_n 682 hC 0 rfl (Or.inr rfl) rfl dL_law_682 ?_
        refine r_iload_n 683 hC 3 rfl rfl dL_law_683 ?_
        refine r_iconst 684 hC (r32c rfl) dL_law_684 ?_
        refine r_iadd 685 hC dL_law_685 ?_
        refine r_xld 686 hC hX dL_law_686 (fun v123 => ?_)
        refine r_aload_n 687 hC 0 rfl (Or.inr rfl) rfl dL_law_687 ?_
        refine r_iload_n 688 hC 3 rfl rfl dL_law_688 ?_
        refine r_iconst 689 hC (r32c rfl) dL_law_689 ?_
        refine r_iadd 690 hC dL_law_690 ?_
        refine r_xld 691 hC hX dL_law_691 (fun v124 => ?_)
        refine r_nn (fun hn125 => ?_)
        refine r_callVI 692 hC [(0, v123), (0, v124)] [] rfl vl_L_71 rfl hn125 (by decide) (Nat.le_of_ble_eq_true rfl) (by omega) (by omega) dL_law_692 (t_X11_reach v1 v123 v124 M10 hn125) (fun v126 M127 => ?_)
        refine r_aload_n 695 hC 2 rfl (Or.inl (by decide)) rfl dL_law_695 ?_
        refine r_aload_n 696 hC 0 rfl (Or.inr rfl) rfl dL_law_696 ?_
        refine r_iload_n 697 hC 3 rfl rfl dL_law_697 ?_
        refine r_iconst 698 hC (r32c rfl) dL_law_698 ?_
        refine r_iadd 699 hC dL_law_699 ?_
        refine r_xld 700 hC hX dL_law_700 (fun v128 => ?_)
        refine r_aload_n 701 hC 0 rfl (Or.inr rfl) rfl dL_law_701 ?_
        refine r_iload_n 702 hC 3 rfl rfl dL_law_702 ?_
        refine r_iconst 703 hC (r32c rfl) dL_law_703 ?_
        refine r_iadd 704 hC dL_law_704 ?_
        refine r_xld 705 hC hX dL_law_705 (fun v129 => ?_)
        refine r_nn (fun hn130 => ?_)
        refine r_callVI 706 hC [(0, v128), (0, v129)] [(0, v126)] rfl vl_L_75 rfl hn130 (by decide) (Nat.le_of_ble_eq_true rfl) (by omega) (by omega) dL_law_706 (t_X12_reach v5 v128 v129 M127 hn130) (fun v131 M132 => ?_)
        refine r_icmp_eq 709 hC (tgt := 1786) (by decide) dL_law_709 ?_ ?_
        · exact r_widen (by omega) (by omega) (hj1786 M132)
        · refine r_iconst 712 hC (r32c rfl) dL_law_712 ?_
          exact r_lawret 713 hC hq (by omega) (by omega) dL_law_713
      refine r_sw_case 33 (tgt := 714) (off := 681) hC dL_law_33 ⟨by decide, by decide, r32c rfl⟩ (by decide) (by decide) ?_ (fun hs13 => ?_)
      · refine r_aload_n 714 hC 1 rfl (Or.inl (by decide)) rfl dL_law_714 ?_
        refine r_aload_n 715 hC 0 rfl (Or.inr rfl) rfl dL_law_715 ?_
        refine r_iload_n 716 hC 3 rfl rfl dL_law_716 ?_
        refine r_iconst 717 hC (r32c rfl) dL_law_717 ?_
        refine r_iadd 718 hC dL_law_718 ?_
        refine r_xld 719 hC hX dL_law_719 (fun v133 => ?_)
        refine r_aload_n 720 hC 0 rfl (Or.inr rfl) rfl dL_law_720 ?_
        refine r_iload_n 721 hC 3 rfl rfl dL_law_721 ?_
        refine r_iconst 722 hC (r32c rfl) dL_law_722 ?_
        refine r_iadd 723 hC dL_law_723 ?_
        refine r_xld 724 hC hX dL_law_724 (fun v134 => ?_)
        refine r_nn (fun hn135 => ?_)
        refine r_callVI 725 hC [(0, v133), (0, v134)] [] rfl vl_L_76 rfl hn135 (by decide) (Nat.le_of_ble_eq_true rfl) (by omega) (by omega) dL_law_725 (t_X11_field v1 v133 v134 M10 hn135) (fun v136 M137 => ?_)
        refine r_aload_n 728 hC 2 rfl (Or.inl (by decide)) rfl dL_law_728 ?_
        refine r_aload_n 729 hC 0 rfl (Or.inr rfl) rfl dL_law_729 ?_
        refine r_iload_n 730 hC 3 rfl rfl dL_law_730 ?_
        refine r_iconst 731 hC (r32c rfl) dL_law_731 ?_
        refine r_iadd 732 hC dL_law_732 ?_
        refine r_xld 733 hC hX dL_law_733 (fun v138 => ?_)
        refine r_aload_n 734 hC 0 rfl (Or.inr rfl) rfl dL_law_734 ?_
        refine r_iload_n 735 hC 3 rfl rfl dL_law_735 ?_
        refine r_iconst 736 hC (r32c rfl) dL_law_736 ?_
        refine r_iadd 737 hC dL_law_737 ?_
        refine r_xld 738 hC hX dL_law_738 (fun v139 => ?_)
        refine r_nn (fun hn140 => ?_)
        refine r_callVI 739 hC [(0, v138), (0, v139)] [(0, v136)] rfl vl_L_79 rfl hn140 (by decide) (Nat.le_of_ble_eq_true rfl) (by omega) (by omega) dL_law_739 (t_X12_field v5 v138 v139 M137 hn140) (fun v141 M142 => ?_)
        refine r_icmp_eq 742 hC (tgt := 1786) (by decide) dL_law_742 ?_ ?_
        · exact r_widen (by omega) (by omega) (hj1786 M142)
        · refine r_iconst 745 hC (r32c rfl) dL_law_745 ?_
          exact r_lawret 746 hC hq (by omega) (by omega) dL_law_746
      refine r_sw_case 33 (tgt := 747) (off := 714) hC dL_law_33 ⟨by decide, by decide, r32c rfl⟩ (by decide) (by decide) ?_ (fun hs14 => ?_)
      · refine r_aload_n 747 hC 1 rfl (Or.inl (by decide)) rfl dL_law_747 ?_
        refine r_aload_n 748 hC 0 rfl (Or.inr rfl) rfl dL_law_748 ?_
        refine r_iload_n 749 hC 3 rfl rfl dL_law_749 ?_
        refine r_iconst 750 hC (r32c rfl) dL_law_750 ?_
        refine r_iadd 751 hC dL_law_751 ?_
        refine r_xld 752 hC hX dL_law_752 (fun v143 => ?_)
        refine r_nn (fun hn144 => ?_)
        refine r_callVI 753 hC [(0, v143)] [] rfl vl_L_80 rfl hn144 (by decide) (Nat.le_of_ble_eq_true rfl) (by omega) (by omega) dL_law_753 (t_X11_below v1 v143 M10 hn144) (fun v145 M146 => ?_)
        refine r_aload_n 756 hC 2 rfl (Or.inl (by decide)) rfl dL_law_756 ?_
        refine r_aload_n 757 hC 0 rfl (Or.inr rfl) rfl dL_law_757 ?_
        refine r_iload_n 758 hC 3 rfl rfl dL_law_758 ?_
        refine r_iconst 759 hC (r32c rfl) dL_law_759 ?_
        refine r_iadd 760 hC dL_law_760 ?_
        refine r_xld 761 hC hX dL_law_761 (fun v147 => ?_)
        refine r_nn (fun hn148 => ?_)
        refine r_callVI 762 hC [(0, v147)] [(0, v145)] rfl vl_L_83 rfl hn148 (by decide) (Nat.le_of_ble_eq_true rfl) (by omega) (by omega) dL_law_762 (t_X12_below v5 v147 M146 hn148) (fun v149 M150 => ?_)
        refine r_icmp_eq 765 hC (tgt := 1786) (by decide) dL_law_765 ?_ ?_
        · exact r_widen (by omega) (by omega) (hj1786 M150)
        · refine r_iconst 768 hC (r32c rfl) dL_law_768 ?_
          exact r_lawret 769 hC hq (by omega) (by omega) dL_law_769
      refine r_sw_case 33 (tgt := 770) (off := 737) hC dL_law_33 ⟨by decide, by decide, r32c rfl⟩ (by decide) (by decide) ?_ (fun hs15 => ?_)
      · refine r_aload_n 770 hC 1 rfl (Or.inl (by decide)) rfl dL_law_770 ?_
        refine r_aload_n 771 hC 0 rfl (Or.inr rfl) rfl dL_law_771 ?_
        refine r_iload_n 772 hC 3 rfl rfl dL_law_772 ?_
        refine r_iconst 773 hC (r32c rfl) dL_law_773 ?_
        refine r_iadd 774 hC dL_law_774 ?_
        refine r_xld 775 hC hX dL_law_775 (fun v151 => ?_)
        refine r_nn (fun hn152 => ?_)
        refine r_callVI 776 hC [(0, v151)] [] rfl vl_L_84 rfl hn152 (by decide) (Nat.le_of_ble_eq_true rfl) (by omega) (by omega) dL_law_776 (t_X11_order v1 v151 M10 hn152) (fun v153 M154 => ?_)
        refine r_aload_n 779 hC 2 rfl (Or.inl (by decide)) rfl dL_law_779 ?_
        refine r_aload_n 780 hC 0 rfl (Or.inr rfl) rfl dL_law_780 ?_
        refine r_iload_n 781 hC 3 rfl rfl dL_law_781 ?_
        refine r_iconst 782 hC (r32c rfl) dL_law_782 ?_
        refine r_iadd 783 hC dL_law_783 ?_
        refine r_xld 784 hC hX dL_law_784 (fun v155 => ?_)
        refine r_nn (fun hn156 => ?_)
        refine r_callVI 785 hC [(0, v155)] [(0, v153)] rfl vl_L_87 rfl hn156 (by decide) (Nat.le_of_ble_eq_true rfl) (by omega) (by omega) dL_law_785 (t_X12_order v5 v155 M154 hn156) (fun v157 M158 => ?_)
        refine r_icmp_eq 788 hC (tgt := 1786) (by decide) dL_law_788 ?_ ?_
        · exact r_widen (by omega) (by omega) (hj1786 M158)
        · refine r_iconst 791 hC (r32c rfl) dL_law_791 ?_
          exact r_lawret 792 hC hq (by omega) (by omega) dL_law_792
      refine r_sw_case 33 (tgt := 793) (off := 760) hC dL_law_33 ⟨by decide, by decide, r32c rfl⟩ (by decide) (by decide) ?_ (fun hs16 => ?_)
      · refine r_aload_n 793 hC 1 rfl (Or.inl (by decide)) rfl dL_law_793 ?_
        refine r_aload_n 794 hC 0 rfl (Or.inr rfl) rfl dL_law_794 ?_
        refine r_iload_n 795 hC 3 rfl rfl dL_law_795 ?_
        refine r_iconst 796 hC (r32c rfl) dL_law_796 ?_
        refine r_iadd 797 hC dL_law_797 ?_
        refine r_xld 798 hC hX dL_law_798 (fun v159 => ?_)
        refine r_aload_n 799 hC 0 rfl (Or.inr rfl) rfl dL_law_799 ?_
        refine r_iload_n 800 hC 3 rfl rfl dL_law_800 ?_
        refine r_iconst 801 hC (r32c rfl) dL_law_801 ?_
        refine r_iadd 802 hC dL_law_802 ?_
        refine r_xld 803 hC hX dL_law_803 (fun v160 => ?_)
        refine r_nn (fun hn161 => ?_)
        refine r_callVI 804 hC [(0, v159), (0, v160)] [] rfl vl_L_88 rfl hn161 (by decide) (Nat.le_of_ble_eq_true rfl) (by omega) (by omega) dL_law_804 (t_X11_turn v1 v159 v160 M10 hn161) (fun v162 M163 => ?_)
        refine r_aload_n 807 hC 2 rfl (Or.inl (by decide)) rfl dL_law_807 ?_
        refine r_aload_n 808 hC 0 rfl (Or.inr rfl) rfl dL_law_808 ?_
        refine r_iload_n 809 hC 3 rfl rfl dL_law_809 ?_
        refine r_iconst 810 hC (r32c rfl) dL_law_810 ?_
        refine r_iadd 811 hC dL_law_811 ?_
        refine r_xld 812 hC hX dL_law_812 (fun v164 => ?_)
        refine r_aload_n 813 hC 0 rfl (Or.inr rfl) rfl dL_law_813 ?_
        refine r_iload_n 814 hC 3 rfl rfl dL_law_814 ?_
        refine r_iconst 815 hC (r32c rfl) dL_law_815 ?_
        refine r_iadd 816 hC dL_law_816 ?_
        refine r_xld 817 hC hX dL_law_817 (fun v165 => ?_)
        refine r_nn (fun hn166 => ?_)
        refine r_callVI 818 hC [(0, v164), (0, v165)] [(0, v162)] rfl vl_L_91 rfl hn166 (by decide) (Nat.le_of_ble_eq_true rfl) (by omega) (by omega) dL_law_818 (t_X12_turn v5 v164 v165 M163 hn166) (fun v167 M168 => ?_)
        refine r_icmp_eq 821 hC (tgt := 1786) (by decide) dL_law_821 ?_ ?_
        · exact r_widen (by omega) (by omega) (hj1786 M168)
        · refine r_iconst 824 hC (r32c rfl) dL_law_824 ?_
          exact r_lawret 825 hC hq (by omega) (by omega) dL_law_825
      refine r_sw_case 33 (tgt := 826) (off := 793) hC dL_law_33 ⟨by decide, by decide, r32c rfl⟩ (by decide) (by decide) ?_ (fun hs17 => ?_)
      · refine r_aload_n 826 hC 1 rfl (Or.inl (by decide)) rfl dL_law_826 ?_
        refine r_aload_n 827 hC 0 rfl (Or.inr rfl) rfl dL_law_827 ?_
        refine r_iload_n 828 hC 3 rfl rfl dL_law_828 ?_
        refine r_iconst 829 hC (r32c rfl) dL_law_829 ?_
        refine r_iadd 830 hC dL_law_830 ?_
        refine r_xld 831 hC hX dL_law_831 (fun v169 => ?_)
        refine r_aload_n 832 hC 0 rfl (Or.inr rfl) rfl dL_law_832 ?_
        refine r_iload_n 833 hC 3 rfl rfl dL_law_833 ?_
        refine r_iconst 834 hC (r32c rfl) dL_law_834 ?_
        refine r_iadd 835 hC dL_law_835 ?_
        refine r_xld 836 hC hX dL_law_836 (fun v170 => ?_)
        refine r_nn (fun hn171 => ?_)
        refine r_callVI 837 hC [(0, v169), (0, v170)] [] rfl vl_L_92 rfl hn171 (by decide) (Nat.le_of_ble_eq_true rfl) (by omega) (by omega) dL_law_837 (t_X11_swap v1 v169 v170 M10 hn171) (fun v172 M173 => ?_)
        refine r_aload_n 840 hC 2 rfl (Or.inl (by decide)) rfl dL_law_840 ?_
        refine r_aload_n 841 hC 0 rfl (Or.inr rfl) rfl dL_law_841 ?_
        refine r_iload_n 842 hC 3 rfl rfl dL_law_842 ?_
        refine r_iconst 843 hC (r32c rfl) dL_law_843 ?_
        refine r_iadd 844 hC dL_law_844 ?_
        refine r_xld 845 hC hX dL_law_845 (fun v174 => ?_)
        refine r_aload_n 846 hC 0 rfl (Or.inr rfl) rfl dL_law_846 ?_
        refine r_iload_n 847 hC 3 rfl rfl dL_law_847 ?_
        refine r_iconst 848 hC (r32c rfl) dL_law_848 ?_
        refine r_iadd 849 hC dL_law_849 ?_
        refine r_xld 850 hC hX dL_law_850 (fun v175 => ?_)
        refine r_nn (fun hn176 => ?_)
        refine r_callVI 851 hC [(0, v174), (0, v175)] [(0, v172)] rfl vl_L_96 rfl hn176 (by decide) (Nat.le_of_ble_eq_true rfl) (by omega) (by omega) dL_law_851 (t_X12_swap v5 v174 v175 M173 hn176) (fun v177 M178 => ?_)
        refine r_icmp_eq 854 hC (tgt := 1786) (by decide) dL_law_854 ?_ ?_
        · exact r_widen (by omega) (by omega) (hj1786 M178)
        · refine r_iconst 857 hC (r32c rfl) dL_law_857 ?_
          exact r_lawret 858 hC hq (by omega) (by omega) dL_law_858
      refine r_sw_case 33 (tgt := 859) (off := 826) hC dL_law_33 ⟨by decide, by decide, r32c rfl⟩ (by decide) (by decide) ?_ (fun hs18 => ?_)
      · refine r_aload_n 859 hC 1 rfl (Or.inl (by decide)) rfl dL_law_859 ?_
        refine r_aload_n 860 hC 0 rfl (Or.inr rfl) rfl dL_law_860 ?_
        refine r_iload_n 861 hC 3 rfl rfl dL_law_861 ?_
        refine r_iconst 862 hC (r32c rfl) dL_law_862 ?_
        refine r_iadd 863 hC dL_law_863 ?_
        refine r_xld 864 hC hX dL_law_864 (fun v179 => ?_)
        refine r_aload_n 865 hC 0 rfl (Or.inr rfl) rfl dL_law_865 ?_
        refine r_iload_n 866 hC 3 rfl rfl dL_law_866 ?_
        refine r_iconst 867 hC (r32c rfl) dL_law_867 ?_
        refine r_iadd 868 hC dL_law_868 ?_
        refine r_xld 869 hC hX dL_law_869 (fun v180 => ?_)
        refine r_aload_n 870 hC 0 rfl (Or.inr rfl) rfl dL_law_870 ?_
        refine r_iload_n 871 hC 3 rfl rfl dL_law_871 ?_
        refine r_iconst 872 hC (r32c rfl) dL_law_872 ?_
        refine r_iadd 873 hC dL_law_873 ?_
        refine r_xld 874 hC hX dL_law_874 (fun v181 => ?_)
        refine r_nn (fun hn182 => ?_)
        refine r_callVI 875 hC [(0, v179), (0, v180), (0, v181)] [] rfl vl_L_97 rfl hn182 (by decide) (Nat.le_of_ble_eq_true rfl) (by omega) (by omega) dL_law_875 (t_X11_lend v1 v179 v180 v181 M10 hn182) (fun v183 M184 => ?_)
        refine r_aload_n 878 hC 2 rfl (Or.inl (by decide)) rfl dL_law_878 ?_
        refine r_aload_n 879 hC 0 rfl (Or.inr rfl) rfl dL_law_879 ?_
        refine r_iload_n 880 hC 3 rfl rfl dL_law_880 ?_
        refine r_iconst 881 hC (r32c rfl) dL_law_881 ?_
        refine r_iadd 882 hC dL_law_882 ?_
        refine r_xld 883 hC hX dL_law_883 (fun v185 => ?_)
        refine r_aload_n 884 hC 0 rfl (Or.inr rfl) rfl dL_law_884 ?_
        refine r_iload_n 885 hC 3 rfl rfl dL_law_885 ?_
        refine r_iconst 886 hC (r32c rfl) dL_law_886 ?_
        refine r_iadd 887 hC dL_law_887 ?_
        refine r_xld 888 hC hX dL_law_888 (fun v186 => ?_)
        refine r_aload_n 889 hC 0 rfl (Or.inr rfl) rfl dL_law_889 ?_
        refine r_iload_n 890 hC 3 rfl rfl dL_law_890 ?_
        refine r_iconst 891 hC (r32c rfl) dL_law_891 ?_
        refine r_iadd 892 hC dL_law_892 ?_
        refine r_xld 893 hC hX dL_law_893 (fun v187 => ?_)
        refine r_nn (fun hn188 => ?_)
        refine r_callVI 894 hC [(0, v185), (0, v186), (0, v187)] [(0, v183)] rfl vl_L_101 rfl hn188 (by decide) (Nat.le_of_ble_eq_true rfl) (by omega) (by omega) dL_law_894 (t_X12_lend v5 v185 v186 v187 M184 hn188) (fun v189 M190 => ?_)
        refine r_icmp_eq 897 hC (tgt := 1786) (by decide) dL_law_897 ?_ ?_
        · exact r_widen (by omega) (by omega) (hj1786 M190)
        · refine r_iconst 900 hC (r32c rfl) dL_law_900 ?_
          exact r_lawret 901 hC hq (by omega) (by omega) dL_law_901
      refine r_sw_case 33 (tgt := 902) (off := 869) hC dL_law_33 ⟨by decide, by decide, r32c rfl⟩ (by decide) (by decide) ?_ (fun hs19 => ?_)
      · refine r_aload_n 902 hC 1 rfl (Or.inl (by decide)) rfl dL_law_902 ?_
        refine r_aload_n 903 hC 0 rfl (Or.inr rfl) rfl dL_law_903 ?_
        refine r_iload_n 904 hC 3 rfl rfl dL_law_904 ?_
        refine r_iconst 905 hC (r32c rfl) dL_law_905 ?_
        refine r_iadd 906 hC dL_law_906 ?_
        refine r_xld 907 hC hX dL_law_907 (fun v191 => ?_)
        refine r_aload_n 908 hC 0 rfl (Or.inr rfl) rfl dL_law_908 ?_
        refine r_iload_n 909 hC 3 rfl rfl dL_law_909 ?_
        refine r_iconst 910 hC (r32c rfl) dL_law_910 ?_
        refine r_iadd 911 hC dL_law_911 ?_
        refine r_xld 912 hC hX dL_law_912 (fun v192 => ?_)
        refine r_nn (fun hn193 => ?_)
        refine r_callVI 913 hC [(0, v191), (0, v192)] [] rfl vl_L_102 rfl hn193 (by decide) (Nat.le_of_ble_eq_true rfl) (by omega) (by omega) dL_law_913 (t_X11_owed v1 v191 v192 M10 hn193) (fun v194 M195 => ?_)
        refine r_aload_n 916 hC 2 rfl (Or.inl (by decide)) rfl dL_law_916 ?_
        refine r_aload_n 917 hC 0 rfl (Or.inr rfl) rfl dL_law_917 ?_
        refine r_iload_n 918 hC 3 rfl rfl dL_law_918 ?_
        refine r_iconst 919 hC (r32c rfl) dL_law_919 ?_
        refine r_iadd 920 hC dL_law_920 ?_
        refine r_xld 921 hC hX dL_law_921 (fun v196 => ?_)
        refine r_aload_n 922 hC 0 rfl (Or.inr rfl) rfl dL_law_922 ?_
        refine r_iload_n 923 hC 3 rfl rfl dL_law_923 ?_
        refine r_iconst 924 hC (r32c rfl) dL_law_924 ?_
        refine r_iadd 925 hC dL_law_925 ?_
        refine r_xld 926 hC hX dL_law_926 (fun v197 => ?_)
        refine r_nn (fun hn198 => ?_)
        refine r_callVI 927 hC [(0, v196), (0, v197)] [(0, v194)] rfl vl_L_105 rfl hn198 (by decide) (Nat.le_of_ble_eq_true rfl) (by omega) (by omega) dL_law_927 (t_X12_owed v5 v196 v197 M195 hn198) (fun v199 M200 => ?_)
        refine r_icmp_eq 930 hC (tgt := 1786) (by decide) dL_law_930 ?_ ?_
        · exact r_widen (by omega) (by omega) (hj1786 M200)
        · refine r_iconst 933 hC (r32c rfl) dL_law_933 ?_
          exact r_lawret 934 hC hq (by omega) (by omega) dL_law_934
      refine r_sw_case 33 (tgt := 935) (off := 902) hC dL_law_33 ⟨by decide, by decide, r32c rfl⟩ (by decide) (by decide) ?_ (fun hs20 => ?_)
      · refine r_aload_n 935 hC 1 rfl (Or.inl (by decide)) rfl dL_law_935 ?_
        refine r_nn (fun hn201 => ?_)
        refine r_callVI 936 hC [] [] rfl vl_L_106 rfl hn201 (by decide) (Nat.le_of_ble_eq_true rfl) (by omega) (by omega) dL_law_936 (t_X11_slots v1 M10 hn201) (fun v202 M203 => ?_)
        refine r_aload_n 939 hC 2 rfl (Or.inl (by decide)) rfl dL_law_939 ?_
        refine r_nn (fun hn204 => ?_)
        refine r_callVI 940 hC [] [(0, v202)] rfl vl_L_109 rfl hn204 (by decide) (Nat.le_of_ble_eq_true rfl) (by omega) (by omega) dL_law_940 (t_X12_slots v5 M203 hn204) (fun v205 M206 => ?_)
        refine r_icmp_eq 943 hC (tgt := 1786) (by decide) dL_law_943 ?_ ?_
        · exact r_widen (by omega) (by omega) (hj1786 M206)
        · refine r_iconst 946 hC (r32c rfl) dL_law_946 ?_
          exact r_lawret 947 hC hq (by omega) (by omega) dL_law_947
      refine r_sw_case 33 (tgt := 948) (off := 915) hC dL_law_33 ⟨by decide, by decide, r32c rfl⟩ (by decide) (by decide) ?_ (fun hs21 => ?_)
      · refine r_aload_n 948 hC 1 rfl (Or.inl (by decide)) rfl dL_law_948 ?_
        refine r_aload_n 949 hC 0 rfl (Or.inr rfl) rfl dL_law_949 ?_
        refine r_iload_n 950 hC 3 rfl rfl dL_law_950 ?_
        refine r_iconst 951 hC (r32c rfl) dL_law_951 ?_
        refine r_iadd 952 hC dL_law_952 ?_
        refine r_xld 953 hC hX dL_law_953 (fun v207 => ?_)
        refine r_aload_n 954 hC 0 rfl (Or.inr rfl) rfl dL_law_954 ?_
        refine r_iload_n 955 hC 3 rfl rfl dL_law_955 ?_
        refine r_iconst 956 hC (r32c rfl) dL_law_956 ?_
        refine r_iadd 957 hC dL_law_957 ?_
        refine r_xld 958 hC hX dL_law_958 (fun v208 => ?_)
        refine r_nn (fun hn209 => ?_)
        refine r_callVI 959 hC [(0, v207), (0, v208)] [] rfl vl_L_110 rfl hn209 (by decide) (Nat.le_of_ble_eq_true rfl) (by omega) (by omega) dL_law_959 (t_X11_slot v1 v207 v208 M10 hn209) (fun v210 M211 => ?_)
        refine r_aload_n 962 hC 2 rfl (Or.inl (by decide)) rfl dL_law_962 ?_
        refine r_aload_n 963 hC 0 rfl (Or.inr rfl) rfl dL_law_963 ?_
        refine r_iload_n 964 hC 3 rfl rfl dL_law_964 ?_
        refine r_iconst 965 hC (r32c rfl) dL_law_965 ?_
        refine r_iadd 966 hC dL_law_966 ?_
        refine r_xld 967 hC hX dL_law_967 (fun v212 => ?_)
        refine r_aload_n 968 hC 0 rfl (Or.inr rfl) rfl dL_law_968 ?_
        refine r_iload_n 969 hC 3 rfl rfl dL_law_969 ?_
        refine r_iconst 970 hC (r32c rfl) dL_law_970 ?_
        refine r_iadd 971 hC dL_law_971 ?_
        refine r_xld 972 hC hX dL_law_972 (fun v213 => ?_)
        refine r_nn (fun hn214 => ?_)
        refine r_callVI 973 hC [(0, v212), (0, v213)] [(0, v210)] rfl vl_L_113 rfl hn214 (by decide) (Nat.le_of_ble_eq_true rfl) (by omega) (by omega) dL_law_973 (t_X12_slot v5 v212 v213 M211 hn214) (fun v215 M216 => ?_)
        refine r_icmp_eq 976 hC (tgt := 1786) (by decide) dL_law_976 ?_ ?_
        · exact r_widen (by omega) (by omega) (hj1786 M216)
        · refine r_iconst 979 hC (r32c rfl) dL_law_979 ?_
          exact r_lawret 980 hC hq (by omega) (by omega) dL_law_980
      refine r_sw_case 33 (tgt := 981) (off := 948) hC dL_law_33 ⟨by decide, by decide, r32c rfl⟩ (by decide) (by decide) ?_ (fun hs22 => ?_)
      · refine r_aload_n 981 hC 1 rfl (Or.inl (by decide)) rfl dL_law_981 ?_
        refine r_aload_n 982 hC 0 rfl (Or.inr rfl) rfl dL_law_982 ?_
        refine r_iload_n 983 hC 3 rfl rfl dL_law_983 ?_
        refine r_iconst 984 hC (r32c rfl) dL_law_984 ?_
        refine r_iadd 985 hC dL_law_985 ?_
        refine r_xld 986 hC hX dL_law_986 (fun v217 => ?_)
        refine r_nn (fun hn218 => ?_)
        refine r_callVI 987 hC [(0, v217)] [] rfl vl_L_114 rfl hn218 (by decide) (Nat.le_of_ble_eq_true rfl) (by omega) (by omega) dL_law_987 (t_X11_whose v1 v217 M10 hn218) (fun v219 M220 => ?_)
        refine r_aload_n 990 hC 2 rfl (Or.inl (by decide)) rfl dL_law_990 ?_
        refine r_aload_n 991 hC 0 rfl (Or.inr rfl) rfl dL_law_991 ?_
        refine r_iload_n 992 hC 3 rfl rfl dL_law_992 ?_
        refine r_iconst 993 hC (r32c rfl) dL_law_993 ?_
        refine r_iadd 994 hC dL_law_994 ?_
        refine r_xld 995 hC hX dL_law_995 (fun v221 => ?_)
        refine r_nn (fun hn222 => ?_)
        refine r_callVI 996 hC [(0, v221)] [(0, v219)] rfl vl_L_117 rfl hn222 (by decide) (Nat.le_of_ble_eq_true rfl) (by omega) (by omega) dL_law_996 (t_X12_whose v5 v221 M220 hn222) (fun v223 M224 => ?_)
        refine r_icmp_eq 999 hC (tgt := 1786) (by decide) dL_law_999 ?_ ?_
        · exact r_widen (by omega) (by omega) (hj1786 M224)
        · refine r_iconst 1002 hC (r32c rfl) dL_law_1002 ?_
          exact r_lawret 1003 hC hq (by omega) (by omega) dL_law_1003
      refine r_sw_case 33 (tgt := 1004) (off := 971) hC dL_law_33 ⟨by decide, by decide, r32c rfl⟩ (by decide) (by decide) ?_ (fun hs23 => ?_)
      · refine r_aload_n 1004 hC 1 rfl (Or.inl (by decide)) rfl dL_law_1004 ?_
        refine r_aload_n 1005 hC 0 rfl (Or.inr rfl) rfl dL_law_1005 ?_
        refine r_iload_n 1006 hC 3 rfl rfl dL_law_1006 ?_
        refine r_iconst 1007 hC (r32c rfl) dL_law_1007 ?_
        refine r_iadd 1008 hC dL_law_1008 ?_
        refine r_xld 1009 hC hX dL_law_1009 (fun v225 => ?_)
        refine r_aload_n 1010 hC 0 rfl (Or.inr rfl) rfl dL_law_1010 ?_
        refine r_iload_n 1011 hC 3 rfl rfl dL_law_1011 ?_
        refine r_iconst 1012 hC (r32c rfl) dL_law_1012 ?_
        refine r_iadd 1013 hC dL_law_1013 ?_
        refine r_xld 1014 hC hX dL_law_1014 (fun v226 => ?_)
        refine r_nn (fun hn227 => ?_)
        refine r_callVI 1015 hC [(0, v225), (0, v226)] [] rfl vl_L_118 rfl hn227 (by decide) (Nat.le_of_ble_eq_true rfl) (by omega) (by omega) dL_law_1015 (t_X11_minutes v1 v225 v226 M10 hn227) (fun v228 M229 => ?_)
        refine r_aload_n 1018 hC 2 rfl (Or.inl (by decide)) rfl dL_law_1018 ?_
        refine r_aload_n 1019 hC 0 rfl (Or.inr rfl) rfl dL_law_1019 ?_
        refine r_iload_n 1020 hC 3 rfl rfl dL_law_1020 ?_
        refine r_iconst 1021 hC (r32c rfl) dL_law_1021 ?_
        refine r_iadd 1022 hC dL_law_1022 ?_
        refine r_xld 1023 hC hX dL_law_1023 (fun v230 => ?_)
        refine r_aload_n 1024 hC 0 rfl (Or.inr rfl) rfl dL_law_1024 ?_
        refine r_iload_n 1025 hC 3 rfl rfl dL_law_1025 ?_
        refine r_iconst 1026 hC (r32c rfl) dL_law_1026 ?_
        refine r_iadd 1027 hC dL_law_1027 ?_
        refine r_xld 1028 hC hX dL_law_1028 (fun v231 => ?_)
        refine r_nn (fun hn232 => ?_)
        refine r_callVI 1029 hC [(0, v230), (0, v231)] [(0, v228)] rfl vl_L_121 rfl hn232 (by decide) (Nat.le_of_ble_eq_true rfl) (by omega) (by omega) dL_law_1029 (t_X12_minutes v5 v230 v231 M229 hn232) (fun v233 M234 => ?_)
        refine r_icmp_eq 1032 hC (tgt := 1786) (by decide) dL_law_1032 ?_ ?_
        · exact r_widen (by omega) (by omega) (hj1786 M234)
        · refine r_iconst 1035 hC (r32c rfl) dL_law_1035 ?_
          exact r_lawret 1036 hC hq (by omega) (by omega) dL_law_1036
      refine r_sw_case 33 (tgt := 1037) (off := 1004) hC dL_law_33 ⟨by decide, by decide, r32c rfl⟩ (by decide) (by decide) ?_ (fun hs24 => ?_)
      · refine r_aload_n 1037 hC 1 rfl (Or.inl (by decide)) rfl dL_law_1037 ?_
        refine r_aload_n 1038 hC 0 rfl (Or.inr rfl) rfl dL_law_1038 ?_
        refine r_iload_n 1039 hC 3 rfl rfl dL_law_1039 ?_
        refine r_iconst 1040 hC (r32c rfl) dL_law_1040 ?_
        refine r_iadd 1041 hC dL_law_1041 ?_
        refine r_xld 1042 hC hX dL_law_1042 (fun v235 => ?_)
        refine r_aload_n 1043 hC 0 rfl (Or.inr rfl) rfl dL_law_1043 ?_
        refine r_iload_n 1044 hC 3 rfl rfl dL_law_1044 ?_
        refine r_iconst 1045 hC (r32c rfl) dL_law_1045 ?_
        refine r_iadd 1046 hC dL_law_1046 ?_
        refine r_xld 1047 hC hX dL_law_1047 (fun v236 => ?_)
        refine r_jn (P := fun j1056 => ∀ (q237 : Int), Bk E C 4 Mi (1 : Int) 1056 [(0, 2, (-3)), (1, 29, v1), (2, 30, v5), (3, 0, p9)] [(0, q237), (0, v235), (29, v1)] M10 (cl + 42) (sl + 758) (j1056 q237)) ?_ (fun j1056 hj1056 => ?_)
        · intro q237
          refine r_nn (fun hn238 => ?_)
          refine r_callVI 1056 hC [(0, v235), (0, q237)] [] rfl vl_L_122 rfl hn238 (by decide) (Nat.le_of_ble_eq_true rfl) (by omega) (by omega) dL_law_1056 (t_X11_close v1 v235 q237 M10 hn238) (fun v239 M240 => ?_)
          refine r_aload_n 1059 hC 2 rfl (Or.inl (by decide)) rfl dL_law_1059 ?_
          refine r_aload_n 1060 hC 0 rfl (Or.inr rfl) rfl dL_law_1060 ?_
          refine r_iload_n 1061 hC 3 rfl rfl dL_law_1061 ?_
          refine r_iconst 1062 hC (r32c rfl) dL_law_1062 ?_
          refine r_iadd 1063 hC dL_law_1063 ?_
          refine r_xld 1064 hC hX dL_law_1064 (fun v241 => ?_)
          refine r_aload_n 1065 hC 0 rfl (Or.inr rfl) rfl dL_law_1065 ?_
          refine r_iload_n 1066 hC 3 rfl rfl dL_law_1066 ?_
          refine r_iconst 1067 hC (r32c rfl) dL_law_1067 ?_
          refine r_iadd 1068 hC dL_law_1068 ?_
          refine r_xld 1069 hC hX dL_law_1069 (fun v242 => ?_)
          refine r_jn (P := fun j1078 => ∀ (q243 : Int), Bk E C 4 Mi (1 : Int) 1078 [(0, 2, (-3)), (1, 29, v1), (2, 30, v5), (3, 0, p9)] [(0, q243), (0, v241), (30, v5), (0, v239)] M240 (cl + 42) (sl + 758) (j1078 q243)) ?_ (fun j1078 hj1078 => ?_)
          · intro q243
            refine r_nn (fun hn244 => ?_)
            refine r_callVI 1078 hC [(0, v241), (0, q243)] [(0, v239)] rfl vl_L_126 rfl hn244 (by decide) (Nat.le_of_ble_eq_true rfl) (by omega) (by omega) dL_law_1078 (t_X12_close v5 v241 q243 M240 hn244) (fun v245 M246 => ?_)
            refine r_icmp_eq 1081 hC (tgt := 1786) (by decide) dL_law_1081 ?_ ?_
            · exact r_widen (by omega) (by omega) (hj1786 M246)
            · refine r_iconst 1084 hC (r32c rfl) dL_law_1084 ?_
              exact r_lawret 1085 hC hq (by omega) (by omega) dL_law_1085
          refine r_if_eq 1070 hC (tgt := 1077) (by decide) dL_law_1070 ?_ ?_
          · refine r_iconst 1077 hC (r32c rfl) dL_law_1077 ?_
            exact r_widen (by omega) (by omega) (hj1078 0)
          · refine r_iconst 1073 hC (r32c rfl) dL_law_1073 ?_
            refine r_goto 1074 hC (tgt := 1078) (by decide) dL_law_1074 ?_
            exact r_widen (by omega) (by omega) (hj1078 1)
        refine r_if_eq 1048 hC (tgt := 1055) (by decide) dL_law_1048 ?_ ?_
        · refine r_iconst 1055 hC (r32c rfl) dL_law_1055 ?_
          exact r_widen (by omega) (by omega) (hj1056 0)
        · refine r_iconst 1051 hC (r32c rfl) dL_law_1051 ?_
          refine r_goto 1052 hC (tgt := 1056) (by decide) dL_law_1052 ?_
          exact r_widen (by omega) (by omega) (hj1056 1)
      refine r_sw_case 33 (tgt := 1086) (off := 1053) hC dL_law_33 ⟨by decide, by decide, r32c rfl⟩ (by decide) (by decide) ?_ (fun hs25 => ?_)
      · refine r_aload_n 1086 hC 1 rfl (Or.inl (by decide)) rfl dL_law_1086 ?_
        refine r_aload_n 1087 hC 0 rfl (Or.inr rfl) rfl dL_law_1087 ?_
        refine r_iload_n 1088 hC 3 rfl rfl dL_law_1088 ?_
        refine r_iconst 1089 hC (r32c rfl) dL_law_1089 ?_
        refine r_iadd 1090 hC dL_law_1090 ?_
        refine r_xld 1091 hC hX dL_law_1091 (fun v247 => ?_)
        refine r_nn (fun hn248 => ?_)
        refine r_callVI 1092 hC [(0, v247)] [] rfl vl_L_127 rfl hn248 (by decide) (Nat.le_of_ble_eq_true rfl) (by omega) (by omega) dL_law_1092 (t_X11_head v1 v247 M10 hn248) (fun v249 M250 => ?_)
        refine r_aload_n 1095 hC 2 rfl (Or.inl (by decide)) rfl dL_law_1095 ?_
        refine r_aload_n 1096 hC 0 rfl (Or.inr rfl) rfl dL_law_1096 ?_
        refine r_iload_n 1097 hC 3 rfl rfl dL_law_1097 ?_
        refine r_iconst 1098 hC (r32c rfl) dL_law_1098 ?_
        refine r_iadd 1099 hC dL_law_1099 ?_
        refine r_xld 1100 hC hX dL_law_1100 (fun v251 => ?_)
        refine r_nn (fun hn252 => ?_)
        refine r_callVI 1101 hC [(0, v251)] [(0, v249)] rfl vl_L_131 rfl hn252 (by decide) (Nat.le_of_ble_eq_true rfl) (by omega) (by omega) dL_law_1101 (t_X12_head v5 v251 M250 hn252) (fun v253 M254 => ?_)
        refine r_icmp_eq 1104 hC (tgt := 1786) (by decide) dL_law_1104 ?_ ?_
        · exact r_widen (by omega) (by omega) (hj1786 M254)
        · refine r_iconst 1107 hC (r32c rfl) dL_law_1107 ?_
          exact r_lawret 1108 hC hq (by omega) (by omega) dL_law_1108
      refine r_sw_case 33 (tgt := 1109) (off := 1076) hC dL_law_33 ⟨by decide, by decide, r32c rfl⟩ (by decide) (by decide) ?_ (fun hs26 => ?_)
      · refine r_aload_n 1109 hC 1 rfl (Or.inl (by decide)) rfl dL_law_1109 ?_
        refine r_aload_n 1110 hC 0 rfl (Or.inr rfl) rfl dL_law_1110 ?_
        refine r_iload_n 1111 hC 3 rfl rfl dL_law_1111 ?_
        refine r_iconst 1112 hC (r32c rfl) dL_law_1112 ?_
        refine r_iadd 1113 hC dL_law_1113 ?_
        refine r_xld 1114 hC hX dL_law_1114 (fun v255 => ?_)
        refine r_aload_n 1115 hC 0 rfl (Or.inr rfl) rfl dL_law_1115 ?_
        refine r_iload_n 1116 hC 3 rfl rfl dL_law_1116 ?_
        refine r_iconst 1117 hC (r32c rfl) dL_law_1117 ?_
        refine r_iadd 1118 hC dL_law_1118 ?_
        refine r_xld 1119 hC hX dL_law_1119 (fun v256 => ?_)
        refine r_nn (fun hn257 => ?_)
        refine r_callVI 1120 hC [(0, v255), (0, v256)] [] rfl vl_L_132 rfl hn257 (by decide) (Nat.le_of_ble_eq_true rfl) (by omega) (by omega) dL_law_1120 (t_X11_lets v1 v255 v256 M10 hn257) (fun v258 M259 => ?_)
        refine r_aload_n 1123 hC 2 rfl (Or.inl (by decide)) rfl dL_law_1123 ?_
        refine r_aload_n 1124 hC 0 rfl (Or.inr rfl) rfl dL_law_1124 ?_
        refine r_iload_n 1125 hC 3 rfl rfl dL_law_1125 ?_
        refine r_iconst 1126 hC (r32c rfl) dL_law_1126 ?_
        refine r_iadd 1127 hC dL_law_1127 ?_
        refine r_xld 1128 hC hX dL_law_1128 (fun v260 => ?_)
        refine r_aload_n 1129 hC 0 rfl (Or.inr rfl) rfl dL_law_1129 ?_
        refine r_iload_n 1130 hC 3 rfl rfl dL_law_1130 ?_
        refine r_iconst 1131 hC (r32c rfl) dL_law_1131 ?_
        refine r_iadd 1132 hC dL_law_1132 ?_
        refine r_xld 1133 hC hX dL_law_1133 (fun v261 => ?_)
        refine r_nn (fun hn262 => ?_)
        refine r_callVI 1134 hC [(0, v260), (0, v261)] [(0, v258)] rfl vl_L_135 rfl hn262 (by decide) (Nat.le_of_ble_eq_true rfl) (by omega) (by omega) dL_law_1134 (t_X12_lets v5 v260 v261 M259 hn262) (fun v263 M264 => ?_)
        refine r_icmp_eq 1137 hC (tgt := 1786) (by decide) dL_law_1137 ?_ ?_
        · exact r_widen (by omega) (by omega) (hj1786 M264)
        · refine r_iconst 1140 hC (r32c rfl) dL_law_1140 ?_
          exact r_lawret 1141 hC hq (by omega) (by omega) dL_law_1141
      refine r_sw_case 33 (tgt := 1142) (off := 1109) hC dL_law_33 ⟨by decide, by decide, r32c rfl⟩ (by decide) (by decide) ?_ (fun hs27 => ?_)
      · refine r_aload_n 1142 hC 1 rfl (Or.inl (by decide)) rfl dL_law_1142 ?_
        refine r_aload_n 1143 hC 0 rfl (Or.inr rfl) rfl dL_law_1143 ?_
        refine r_iload_n 1144 hC 3 rfl rfl dL_law_1144 ?_
        refine r_iconst 1145 hC (r32c rfl) dL_law_1145 ?_
        refine r_iadd 1146 hC dL_law_1146 ?_
        refine r_xld 1147 hC hX dL_law_1147 (fun v265 => ?_)
        refine r_nn (fun hn266 => ?_)
        refine r_callVI 1148 hC [(0, v265)] [] rfl vl_L_136 rfl hn266 (by decide) (Nat.le_of_ble_eq_true rfl) (by omega) (by omega) dL_law_1148 (t_X11_rate v1 v265 M10 hn266) (fun v267 M268 => ?_)
        refine r_aload_n 1151 hC 2 rfl (Or.inl (by decide)) rfl dL_law_1151 ?_
        refine r_aload_n 1152 hC 0 rfl (Or.inr rfl) rfl dL_law_1152 ?_
        refine r_iload_n 1153 hC 3 rfl rfl dL_law_1153 ?_
        refine r_iconst 1154 hC (r32c rfl) dL_law_1154 ?_
        refine r_iadd 1155 hC dL_law_1155 ?_
        refine r_xld 1156 hC hX dL_law_1156 (fun v269 => ?_)
        refine r_nn (fun hn270 => ?_)
        refine r_callVI 1157 hC [(0, v269)] [(0, v267)] rfl vl_L_139 rfl hn270 (by decide) (Nat.le_of_ble_eq_true rfl) (by omega) (by omega) dL_law_1157 (t_X12_rate v5 v269 M268 hn270) (fun v271 M272 => ?_)
        refine r_icmp_eq 1160 hC (tgt := 1786) (by decide) dL_law_1160 ?_ ?_
        · exact r_widen (by omega) (by omega) (hj1786 M272)
        · refine r_iconst 1163 hC (r32c rfl) dL_law_1163 ?_
          exact r_lawret 1164 hC hq (by omega) (by omega) dL_law_1164
      refine r_sw_case 33 (tgt := 1165) (off := 1132) hC dL_law_33 ⟨by decide, by decide, r32c rfl⟩ (by decide) (by decide) ?_ (fun hs28 => ?_)
      · refine r_aload_n 1165 hC 1 rfl (Or.inl (by decide)) rfl dL_law_1165 ?_
        refine r_aload_n 1166 hC 0 rfl (Or.inr rfl) rfl dL_law_1166 ?_
        refine r_iload_n 1167 hC 3 rfl rfl dL_law_1167 ?_
        refine r_iconst 1168 hC (r32c rfl) dL_law_1168 ?_
        refine r_iadd 1169 hC dL_law_1169 ?_
        refine r_xld 1170 hC hX dL_law_1170 (fun v273 => ?_)
        refine r_nn (fun hn274 => ?_)
        refine r_callVI 1171 hC [(0, v273)] [] rfl vl_L_140 rfl hn274 (by decide) (Nat.le_of_ble_eq_true rfl) (by omega) (by omega) dL_law_1171 (t_X11_water v1 v273 M10 hn274) (fun v275 M276 => ?_)
        refine r_aload_n 1174 hC 2 rfl (Or.inl (by decide)) rfl dL_law_1174 ?_
        refine r_aload_n 1175 hC 0 rfl (Or.inr rfl) rfl dL_law_1175 ?_
        refine r_iload_n 1176 hC 3 rfl rfl dL_law_1176 ?_
        refine r_iconst 1177 hC (r32c rfl) dL_law_1177 ?_
        refine r_iadd 1178 hC dL_law_1178 ?_
        refine r_xld 1179 hC hX dL_law_1179 (fun v277 => ?_)
        refine r_nn (fun hn278 => ?_)
        refine r_callVI 1180 hC [(0, v277)] [(0, v275)] rfl vl_L_143 rfl hn278 (by decide) (Nat.le_of_ble_eq_true rfl) (by omega) (by omega) dL_law_1180 (t_X12_water v5 v277 M276 hn278) (fun v279 M280 => ?_)
        refine r_icmp_eq 1183 hC (tgt := 1786) (by decide) dL_law_1183 ?_ ?_
        · exact r_widen (by omega) (by omega) (hj1786 M280)
        · refine r_iconst 1186 hC (r32c rfl) dL_law_1186 ?_
          exact r_lawret 1187 hC hq (by omega) (by omega) dL_law_1187
      refine r_sw_case 33 (tgt := 1188) (off := 1155) hC dL_law_33 ⟨by decide, by decide, r32c rfl⟩ (by decide) (by decide) ?_ (fun hs29 => ?_)
      · refine r_aload_n 1188 hC 1 rfl (Or.inl (by decide)) rfl dL_law_1188 ?_
        refine r_aload_n 1189 hC 0 rfl (Or.inr rfl) rfl dL_law_1189 ?_
        refine r_iload_n 1190 hC 3 rfl rfl dL_law_1190 ?_
        refine r_iconst 1191 hC (r32c rfl) dL_law_1191 ?_
        refine r_iadd 1192 hC dL_law_1192 ?_
        refine r_xld 1193 hC hX dL_law_1193 (fun v281 => ?_)
        refine r_nn (fun hn282 => ?_)
        refine r_callVI 1194 hC [(0, v281)] [] rfl vl_L_144 rfl hn282 (by decide) (Nat.le_of_ble_eq_true rfl) (by omega) (by omega) dL_law_1194 (t_X11_lost v1 v281 M10 hn282) (fun v283 M284 => ?_)
        refine r_aload_n 1197 hC 2 rfl (Or.inl (by decide)) rfl dL_law_1197 ?_
        refine r_aload_n 1198 hC 0 rfl (Or.inr rfl) rfl dL_law_1198 ?_
        refine r_iload_n 1199 hC 3 rfl rfl dL_law_1199 ?_
        refine r_iconst 1200 hC (r32c rfl) dL_law_1200 ?_
        refine r_iadd 1201 hC dL_law_1201 ?_
        refine r_xld 1202 hC hX dL_law_1202 (fun v285 => ?_)
        refine r_nn (fun hn286 => ?_)
        refine r_callVI 1203 hC [(0, v285)] [(0, v283)] rfl vl_L_147 rfl hn286 (by decide) (Nat.le_of_ble_eq_true rfl) (by omega) (by omega) dL_law_1203 (t_X12_lost v5 v285 M284 hn286) (fun v287 M288 => ?_)
        refine r_icmp_eq 1206 hC (tgt := 1786) (by decide) dL_law_1206 ?_ ?_
        · exact r_widen (by omega) (by omega) (hj1786 M288)
        · refine r_iconst 1209 hC (r32c rfl) dL_law_1209 ?_
          exact r_lawret 1210 hC hq (by omega) (by omega) dL_law_1210
      refine r_sw_case 33 (tgt := 1211) (off := 1178) hC dL_law_33 ⟨by decide, by decide, r32c rfl⟩ (by decide) (by decide) ?_ (fun hs30 => ?_)
      · refine r_aload_n 1211 hC 1 rfl (Or.inl (by decide)) rfl dL_law_1211 ?_
        refine r_aload_n 1212 hC 0 rfl (Or.inr rfl) rfl dL_law_1212 ?_
        refine r_iload_n 1213 hC 3 rfl rfl dL_law_1213 ?_
        refine r_iconst 1214 hC (r32c rfl) dL_law_1214 ?_
        refine r_iadd 1215 hC dL_law_1215 ?_
        refine r_xld 1216 hC hX dL_law_1216 (fun v289 => ?_)
        refine r_nn (fun hn290 => ?_)
        refine r_callVI 1217 hC [(0, v289)] [] rfl vl_L_148 rfl hn290 (by decide) (Nat.le_of_ble_eq_true rfl) (by omega) (by omega) dL_law_1217 (t_X11_runsOut v1 v289 M10 hn290) (fun v291 M292 => ?_)
        refine r_aload_n 1220 hC 2 rfl (Or.inl (by decide)) rfl dL_law_1220 ?_
        refine r_aload_n 1221 hC 0 rfl (Or.inr rfl) rfl dL_law_1221 ?_
        refine r_iload_n 1222 hC 3 rfl rfl dL_law_1222 ?_
        refine r_iconst 1223 hC (r32c rfl) dL_law_1223 ?_
        refine r_iadd 1224 hC dL_law_1224 ?_
        refine r_xld 1225 hC hX dL_law_1225 (fun v293 => ?_)
        refine r_nn (fun hn294 => ?_)
        refine r_callVI 1226 hC [(0, v293)] [(0, v291)] rfl vl_L_151 rfl hn294 (by decide) (Nat.le_of_ble_eq_true rfl) (by omega) (by omega) dL_law_1226 (t_X12_runsOut v5 v293 M292 hn294) (fun v295 M296 => ?_)
        refine r_icmp_eq 1229 hC (tgt := 1786) (by decide) dL_law_1229 ?_ ?_
        · exact r_widen (by omega) (by omega) (hj1786 M296)
        · refine r_iconst 1232 hC (r32c rfl) dL_law_1232 ?_
          exact r_lawret 1233 hC hq (by omega) (by omega) dL_law_1233
      refine r_sw_case 33 (tgt := 1234) (off := 1201) hC dL_law_33 ⟨by decide, by decide, r32c rfl⟩ (by decide) (by decide) ?_ (fun hs31 => ?_)
      · refine r_aload_n 1234 hC 1 rfl (Or.inl (by decide)) rfl dL_law_1234 ?_
        refine r_aload_n 1235 hC 0 rfl (Or.inr rfl) rfl dL_law_1235 ?_
        refine r_iload_n 1236 hC 3 rfl rfl dL_law_1236 ?_
        refine r_iconst 1237 hC (r32c rfl) dL_law_1237 ?_
        refine r_iadd 1238 hC dL_law_1238 ?_
        refine r_xld 1239 hC hX dL_law_1239 (fun v297 => ?_)
        refine r_nn (fun hn298 => ?_)
        refine r_callVI 1240 hC [(0, v297)] [] rfl vl_L_152 rfl hn298 (by decide) (Nat.le_of_ble_eq_true rfl) (by omega) (by omega) dL_law_1240 (t_X11_waterOf v1 v297 M10 hn298) (fun v299 M300 => ?_)
        refine r_aload_n 1243 hC 2 rfl (Or.inl (by decide)) rfl dL_law_1243 ?_
        refine r_aload_n 1244 hC 0 rfl (Or.inr rfl) rfl dL_law_1244 ?_
        refine r_iload_n 1245 hC 3 rfl rfl dL_law_1245 ?_
        refine r_iconst 1246 hC (r32c rfl) dL_law_1246 ?_
        refine r_iadd 1247 hC dL_law_1247 ?_
        refine r_xld 1248 hC hX dL_law_1248 (fun v301 => ?_)
        refine r_nn (fun hn302 => ?_)
        refine r_callVI 1249 hC [(0, v301)] [(0, v299)] rfl vl_L_155 rfl hn302 (by decide) (Nat.le_of_ble_eq_true rfl) (by omega) (by omega) dL_law_1249 (t_X12_waterOf v5 v301 M300 hn302) (fun v303 M304 => ?_)
        refine r_icmp_eq 1252 hC (tgt := 1786) (by decide) dL_law_1252 ?_ ?_
        · exact r_widen (by omega) (by omega) (hj1786 M304)
        · refine r_iconst 1255 hC (r32c rfl) dL_law_1255 ?_
          exact r_lawret 1256 hC hq (by omega) (by omega) dL_law_1256
      refine r_sw_case 33 (tgt := 1257) (off := 1224) hC dL_law_33 ⟨by decide, by decide, r32c rfl⟩ (by decide) (by decide) ?_ (fun hs32 => ?_)
      · refine r_aload_n 1257 hC 1 rfl (Or.inl (by decide)) rfl dL_law_1257 ?_
        refine r_aload_n 1258 hC 0 rfl (Or.inr rfl) rfl dL_law_1258 ?_
        refine r_iload_n 1259 hC 3 rfl rfl dL_law_1259 ?_
        refine r_iconst 1260 hC (r32c rfl) dL_law_1260 ?_
        refine r_iadd 1261 hC dL_law_1261 ?_
        refine r_xld 1262 hC hX dL_law_1262 (fun v305 => ?_)
        refine r_nn (fun hn306 => ?_)
        refine r_callVI 1263 hC [(0, v305)] [] rfl vl_L_156 rfl hn306 (by decide) (Nat.le_of_ble_eq_true rfl) (by omega) (by omega) dL_law_1263 (t_X11_lacking v1 v305 M10 hn306) (fun v307 M308 => ?_)
        refine r_aload_n 1266 hC 2 rfl (Or.inl (by decide)) rfl dL_law_1266 ?_
        refine r_aload_n 1267 hC 0 rfl (Or.inr rfl) rfl dL_law_1267 ?_
        refine r_iload_n 1268 hC 3 rfl rfl dL_law_1268 ?_
        refine r_iconst 1269 hC (r32c rfl) dL_law_1269 ?_
        refine r_iadd 1270 hC dL_law_1270 ?_
        refine r_xld 1271 hC hX dL_law_1271 (fun v309 => ?_)
        refine r_nn (fun hn310 => ?_)
        refine r_callVI 1272 hC [(0, v309)] [(0, v307)] rfl vl_L_159 rfl hn310 (by decide) (Nat.le_of_ble_eq_true rfl) (by omega) (by omega) dL_law_1272 (t_X12_lacking v5 v309 M308 hn310) (fun v311 M312 => ?_)
        refine r_icmp_eq 1275 hC (tgt := 1786) (by decide) dL_law_1275 ?_ ?_
        · exact r_widen (by omega) (by omega) (hj1786 M312)
        · refine r_iconst 1278 hC (r32c rfl) dL_law_1278 ?_
          exact r_lawret 1279 hC hq (by omega) (by omega) dL_law_1279
      refine r_sw_case 33 (tgt := 1280) (off := 1247) hC dL_law_33 ⟨by decide, by decide, r32c rfl⟩ (by decide) (by decide) ?_ (fun hs33 => ?_)
      · refine r_aload_n 1280 hC 1 rfl (Or.inl (by decide)) rfl dL_law_1280 ?_
        refine r_aload_n 1281 hC 0 rfl (Or.inr rfl) rfl dL_law_1281 ?_
        refine r_iload_n 1282 hC 3 rfl rfl dL_law_1282 ?_
        refine r_iconst 1283 hC (r32c rfl) dL_law_1283 ?_
        refine r_iadd 1284 hC dL_law_1284 ?_
        refine r_xld 1285 hC hX dL_law_1285 (fun v313 => ?_)
        refine r_nn (fun hn314 => ?_)
        refine r_callVI 1286 hC [(0, v313)] [] rfl vl_L_160 rfl hn314 (by decide) (Nat.le_of_ble_eq_true rfl) (by omega) (by omega) dL_law_1286 (t_X11_spare v1 v313 M10 hn314) (fun v315 M316 => ?_)
        refine r_aload_n 1289 hC 2 rfl (Or.inl (by decide)) rfl dL_law_1289 ?_
        refine r_aload_n 1290 hC 0 rfl (Or.inr rfl) rfl dL_law_1290 ?_
        refine r_iload_n 1291 hC 3 rfl rfl dL_law_1291 ?_
        refine r_iconst 1292 hC (r32c rfl) dL_law_1292 ?_
        refine r_iadd 1293 hC dL_law_1293 ?_
        refine r_xld 1294 hC hX dL_law_1294 (fun v317 => ?_)
        refine r_nn (fun hn318 => ?_)
        refine r_callVI 1295 hC [(0, v317)] [(0, v315)] rfl vl_L_163 rfl hn318 (by decide) (Nat.le_of_ble_eq_true rfl) (by omega) (by omega) dL_law_1295 (t_X12_spare v5 v317 M316 hn318) (fun v319 M320 => ?_)
        refine r_icmp_eq 1298 hC (tgt := 1786) (by decide) dL_law_1298 ?_ ?_
        · exact r_widen (by omega) (by omega) (hj1786 M320)
        · refine r_iconst 1301 hC (r32c rfl) dL_law_1301 ?_
          exact r_lawret 1302 hC hq (by omega) (by omega) dL_law_1302
      refine r_sw_case 33 (tgt := 1303) (off := 1270) hC dL_law_33 ⟨by decide, by decide, r32c rfl⟩ (by decide) (by decide) ?_ (fun hs34 => ?_)
      · refine r_aload_n 1303 hC 1 rfl (Or.inl (by decide)) rfl dL_law_1303 ?_
        refine r_nn (fun hn321 => ?_)
        refine r_callVI 1304 hC [] [] rfl vl_L_164 rfl hn321 (by decide) (Nat.le_of_ble_eq_true rfl) (by omega) (by omega) dL_law_1304 (t_X11_fewest v1 M10 hn321) (fun v322 M323 => ?_)
        refine r_aload_n 1307 hC 2 rfl (Or.inl (by decide)) rfl dL_law_1307 ?_
        refine r_nn (fun hn324 => ?_)
        refine r_callVI 1308 hC [] [(0, v322)] rfl vl_L_167 rfl hn324 (by decide) (Nat.le_of_ble_eq_true rfl) (by omega) (by omega) dL_law_1308 (t_X12_fewest v5 M323 hn324) (fun v325 M326 => ?_)
        refine r_icmp_eq 1311 hC (tgt := 1786) (by decide) dL_law_1311 ?_ ?_
        · exact r_widen (by omega) (by omega) (hj1786 M326)
        · refine r_iconst 1314 hC (r32c rfl) dL_law_1314 ?_
          exact r_lawret 1315 hC hq (by omega) (by omega) dL_law_1315
      refine r_sw_case 33 (tgt := 1316) (off := 1283) hC dL_law_33 ⟨by decide, by decide, r32c rfl⟩ (by decide) (by decide) ?_ (fun hs35 => ?_)
      · refine r_aload_n 1316 hC 1 rfl (Or.inl (by decide)) rfl dL_law_1316 ?_
        refine r_nn (fun hn327 => ?_)
        refine r_callVI 1317 hC [] [] rfl vl_L_168 rfl hn327 (by decide) (Nat.le_of_ble_eq_true rfl) (by omega) (by omega) dL_law_1317 (t_X11_neediest v1 M10 hn327) (fun v328 M329 => ?_)
        refine r_aload_n 1320 hC 2 rfl (Or.inl (by decide)) rfl dL_law_1320 ?_
        refine r_nn (fun hn330 => ?_)
        refine r_callVI 1321 hC [] [(0, v328)] rfl vl_L_171 rfl hn330 (by decide) (Nat.le_of_ble_eq_true rfl) (by omega) (by omega) dL_law_1321 (t_X12_neediest v5 M329 hn330) (fun v331 M332 => ?_)
        refine r_icmp_eq 1324 hC (tgt := 1786) (by decide) dL_law_1324 ?_ ?_
        · exact r_widen (by omega) (by omega) (hj1786 M332)
        · refine r_iconst 1327 hC (r32c rfl) dL_law_1327 ?_
          exact r_lawret 1328 hC hq (by omega) (by omega) dL_law_1328
      refine r_sw_case 33 (tgt := 1329) (off := 1296) hC dL_law_33 ⟨by decide, by decide, r32c rfl⟩ (by decide) (by decide) ?_ (fun hs36 => ?_)
      · refine r_aload_n 1329 hC 1 rfl (Or.inl (by decide)) rfl dL_law_1329 ?_
        refine r_aload_n 1330 hC 0 rfl (Or.inr rfl) rfl dL_law_1330 ?_
        refine r_iload_n 1331 hC 3 rfl rfl dL_law_1331 ?_
        refine r_iconst 1332 hC (r32c rfl) dL_law_1332 ?_
        refine r_iadd 1333 hC dL_law_1333 ?_
        refine r_xld 1334 hC hX dL_law_1334 (fun v333 => ?_)
        refine r_jn (P := fun j1343 => ∀ (q334 : Int), Bk E C 4 Mi (1 : Int) 1343 [(0, 2, (-3)), (1, 29, v1), (2, 30, v5), (3, 0, p9)] [(0, q334), (29, v1)] M10 (cl + 42) (sl + 758) (j1343 q334)) ?_ (fun j1343 hj1343 => ?_)
        · intro q334
          refine r_nn (fun hn335 => ?_)
          refine r_callVI 1343 hC [(0, q334)] [] rfl vl_L_172 rfl hn335 (by decide) (Nat.le_of_ble_eq_true rfl) (by omega) (by omega) dL_law_1343 (t_X11_richest v1 q334 M10 hn335) (fun v336 M337 => ?_)
          refine r_aload_n 1346 hC 2 rfl (Or.inl (by decide)) rfl dL_law_1346 ?_
          refine r_aload_n 1347 hC 0 rfl (Or.inr rfl) rfl dL_law_1347 ?_
          refine r_iload_n 1348 hC 3 rfl rfl dL_law_1348 ?_
          refine r_iconst 1349 hC (r32c rfl) dL_law_1349 ?_
          refine r_iadd 1350 hC dL_law_1350 ?_
          refine r_xld 1351 hC hX dL_law_1351 (fun v338 => ?_)
          refine r_jn (P := fun j1360 => ∀ (q339 : Int), Bk E C 4 Mi (1 : Int) 1360 [(0, 2, (-3)), (1, 29, v1), (2, 30, v5), (3, 0, p9)] [(0, q339), (30, v5), (0, v336)] M337 (cl + 42) (sl + 758) (j1360 q339)) ?_ (fun j1360 hj1360 => ?_)
          · intro q339
            refine r_nn (fun hn340 => ?_)
            refine r_callVI 1360 hC [(0, q339)] [(0, v336)] rfl vl_L_176 rfl hn340 (by decide) (Nat.le_of_ble_eq_true rfl) (by omega) (by omega) dL_law_1360 (t_X12_richest v5 q339 M337 hn340) (fun v341 M342 => ?_)
            refine r_icmp_eq 1363 hC (tgt := 1786) (by decide) dL_law_1363 ?_ ?_
            · exact r_widen (by omega) (by omega) (hj1786 M342)
            · refine r_iconst 1366 hC (r32c rfl) dL_law_1366 ?_
              exact r_lawret 1367 hC hq (by omega) (by omega) dL_law_1367
          refine r_if_eq 1352 hC (tgt := 1359) (by decide) dL_law_1352 ?_ ?_
          · refine r_iconst 1359 hC (r32c rfl) dL_law_1359 ?_
            exact r_widen (by omega) (by omega) (hj1360 0)
          · refine r_iconst 1355 hC (r32c rfl) dL_law_1355 ?_
            refine r_goto 1356 hC (tgt := 1360) (by decide) dL_law_1356 ?_
            exact r_widen (by omega) (by omega) (hj1360 1)
        refine r_if_eq 1335 hC (tgt := 1342) (by decide) dL_law_1335 ?_ ?_
        · refine r_iconst 1342 hC (r32c rfl) dL_law_1342 ?_
          exact r_widen (by omega) (by omega) (hj1343 0)
        · refine r_iconst 1338 hC (r32c rfl) dL_law_1338 ?_
          refine r_goto 1339 hC (tgt := 1343) (by decide) dL_law_1339 ?_
          exact r_widen (by omega) (by omega) (hj1343 1)
      refine r_sw_case 33 (tgt := 1368) (off := 1335) hC dL_law_33 ⟨by decide, by decide, r32c rfl⟩ (by decide) (by decide) ?_ (fun hs37 => ?_)
      · refine r_aload_n 1368 hC 1 rfl (Or.inl (by decide)) rfl dL_law_1368 ?_
        refine r_nn (fun hn343 => ?_)
        refine r_callVI 1369 hC [] [] rfl vl_L_177 rfl hn343 (by decide) (Nat.le_of_ble_eq_true rfl) (by omega) (by omega) dL_law_1369 (t_X11_mending v1 M10 hn343) (fun v344 M345 => ?_)
        refine r_aload_n 1372 hC 2 rfl (Or.inl (by decide)) rfl dL_law_1372 ?_
        refine r_nn (fun hn346 => ?_)
        refine r_callVI 1373 hC [] [(0, v344)] rfl vl_L_180 rfl hn346 (by decide) (Nat.le_of_ble_eq_true rfl) (by omega) (by omega) dL_law_1373 (t_X12_mending v5 M345 hn346) (fun v347 M348 => ?_)
        refine r_icmp_eq 1376 hC (tgt := 1786) (by decide) dL_law_1376 ?_ ?_
        · exact r_widen (by omega) (by omega) (hj1786 M348)
        · refine r_iconst 1379 hC (r32c rfl) dL_law_1379 ?_
          exact r_lawret 1380 hC hq (by omega) (by omega) dL_law_1380
      refine r_sw_case 33 (tgt := 1381) (off := 1348) hC dL_law_33 ⟨by decide, by decide, r32c rfl⟩ (by decide) (by decide) ?_ (fun hs38 => ?_)
      · refine r_aload_n 1381 hC 1 rfl (Or.inl (by decide)) rfl dL_law_1381 ?_
        refine r_nn (fun hn349 => ?_)
        refine r_callVI 1382 hC [] [] rfl vl_L_181 rfl hn349 (by decide) (Nat.le_of_ble_eq_true rfl) (by omega) (by omega) dL_law_1382 (t_X11_off v1 M10 hn349) (fun v350 M351 => ?_)
        refine r_aload_n 1385 hC 2 rfl (Or.inl (by decide)) rfl dL_law_1385 ?_
        refine r_nn (fun hn352 => ?_)
        refine r_callVI 1386 hC [] [(0, v350)] rfl vl_L_185 rfl hn352 (by decide) (Nat.le_of_ble_eq_true rfl) (by omega) (by omega) dL_law_1386 (t_X12_off v5 M351 hn352) (fun v353 M354 => ?_)
        refine r_icmp_eq 1389 hC (tgt := 1786) (by decide) dL_law_1389 ?_ ?_
        · exact r_widen (by omega) (by omega) (hj1786 M354)
        · refine r_iconst 1392 hC (r32c rfl) dL_law_1392 ?_
          exact r_lawret 1393 hC hq (by omega) (by omega) dL_law_1393
      refine r_sw_case 33 (tgt := 1394) (off := 1361) hC dL_law_33 ⟨by decide, by decide, r32c rfl⟩ (by decide) (by decide) ?_ (fun hs39 => ?_)
      · refine r_aload_n 1394 hC 1 rfl (Or.inl (by decide)) rfl dL_law_1394 ?_
        refine r_nn (fun hn355 => ?_)
        refine r_callVI 1395 hC [] [] rfl vl_L_186 rfl hn355 (by decide) (Nat.le_of_ble_eq_true rfl) (by omega) (by omega) dL_law_1395 (t_X11_driest v1 M10 hn355) (fun v356 M357 => ?_)
        refine r_aload_n 1398 hC 2 rfl (Or.inl (by decide)) rfl dL_law_1398 ?_
        refine r_nn (fun hn358 => ?_)
        refine r_callVI 1399 hC [] [(0, v356)] rfl vl_L_189 rfl hn358 (by decide) (Nat.le_of_ble_eq_true rfl) (by omega) (by omega) dL_law_1399 (t_X12_driest v5 M357 hn358) (fun v359 M360 => ?_)
        refine r_icmp_eq 1402 hC (tgt := 1786) (by decide) dL_law_1402 ?_ ?_
        · exact r_widen (by omega) (by omega) (hj1786 M360)
        · refine r_iconst 1405 hC (r32c rfl) dL_law_1405 ?_
          exact r_lawret 1406 hC hq (by omega) (by omega) dL_law_1406
      refine r_sw_case 33 (tgt := 1407) (off := 1374) hC dL_law_33 ⟨by decide, by decide, r32c rfl⟩ (by decide) (by decide) ?_ (fun hs40 => ?_)
      · refine r_aload_n 1407 hC 1 rfl (Or.inl (by decide)) rfl dL_law_1407 ?_
        refine r_aload_n 1408 hC 0 rfl (Or.inr rfl) rfl dL_law_1408 ?_
        refine r_iload_n 1409 hC 3 rfl rfl dL_law_1409 ?_
        refine r_iconst 1410 hC (r32c rfl) dL_law_1410 ?_
        refine r_iadd 1411 hC dL_law_1411 ?_
        refine r_xld 1412 hC hX dL_law_1412 (fun v361 => ?_)
        refine r_aload_n 1413 hC 0 rfl (Or.inr rfl) rfl dL_law_1413 ?_
        refine r_iload_n 1414 hC 3 rfl rfl dL_law_1414 ?_
        refine r_iconst 1415 hC (r32c rfl) dL_law_1415 ?_
        refine r_iadd 1416 hC dL_law_1416 ?_
        refine r_xld 1417 hC hX dL_law_1417 (fun v362 => ?_)
        refine r_nn (fun hn363 => ?_)
        refine r_callVI 1418 hC [(0, v361), (0, v362)] [] rfl vl_L_190 rfl hn363 (by decide) (Nat.le_of_ble_eq_true rfl) (by omega) (by omega) dL_law_1418 (t_X11_waits v1 v361 v362 M10 hn363) (fun v364 M365 => ?_)
        refine r_aload_n 1421 hC 2 rfl (Or.inl (by decide)) rfl dL_law_1421 ?_
        refine r_aload_n 1422 hC 0 rfl (Or.inr rfl) rfl dL_law_1422 ?_
        refine r_iload_n 1423 hC 3 rfl rfl dL_law_1423 ?_
        refine r_iconst 1424 hC (r32c rfl) dL_law_1424 ?_
        refine r_iadd 1425 hC dL_law_1425 ?_
        refine r_xld 1426 hC hX dL_law_1426 (fun v366 => ?_)
        refine r_aload_n 1427 hC 0 rfl (Or.inr rfl) rfl dL_law_1427 ?_
        refine r_iload_n 1428 hC 3 rfl rfl dL_law_1428 ?_
        refine r_iconst 1429 hC (r32c rfl) dL_law_1429 ?_
        refine r_iadd 1430 hC dL_law_1430 ?_
        refine r_xld 1431 hC hX dL_law_1431 (fun v367 => ?_)
        refine r_nn (fun hn368 => ?_)
        refine r_callVI 1432 hC [(0, v366), (0, v367)] [(0, v364)] rfl vl_L_193 rfl hn368 (by decide) (Nat.le_of_ble_eq_true rfl) (by omega) (by omega) dL_law_1432 (t_X12_waits v5 v366 v367 M365 hn368) (fun v369 M370 => ?_)
        refine r_icmp_eq 1435 hC (tgt := 1786) (by decide) dL_law_1435 ?_ ?_
        · exact r_widen (by omega) (by omega) (hj1786 M370)
        · refine r_iconst 1438 hC (r32c rfl) dL_law_1438 ?_
          exact r_lawret 1439 hC hq (by omega) (by omega) dL_law_1439
      refine r_sw_case 33 (tgt := 1440) (off := 1407) hC dL_law_33 ⟨by decide, by decide, r32c rfl⟩ (by decide) (by decide) ?_ (fun hs41 => ?_)
      · refine r_aload_n 1440 hC 1 rfl (Or.inl (by decide)) rfl dL_law_1440 ?_
        refine r_aload_n 1441 hC 0 rfl (Or.inr rfl) rfl dL_law_1441 ?_
        refine r_iload_n 1442 hC 3 rfl rfl dL_law_1442 ?_
        refine r_iconst 1443 hC (r32c rfl) dL_law_1443 ?_
        refine r_iadd 1444 hC dL_law_1444 ?_
        refine r_xld 1445 hC hX dL_law_1445 (fun v371 => ?_)
        refine r_nn (fun hn372 => ?_)
        refine r_callVI 1446 hC [(0, v371)] [] rfl vl_L_194 rfl hn372 (by decide) (Nat.le_of_ble_eq_true rfl) (by omega) (by omega) dL_law_1446 (t_X11_headFor v1 v371 M10 hn372) (fun v373 M374 => ?_)
        refine r_aload_n 1449 hC 2 rfl (Or.inl (by decide)) rfl dL_law_1449 ?_
        refine r_aload_n 1450 hC 0 rfl (Or.inr rfl) rfl dL_law_1450 ?_
        refine r_iload_n 1451 hC 3 rfl rfl dL_law_1451 ?_
        refine r_iconst 1452 hC (r32c rfl) dL_law_1452 ?_
        refine r_iadd 1453 hC dL_law_1453 ?_
        refine r_xld 1454 hC hX dL_law_1454 (fun v375 => ?_)
        refine r_nn (fun hn376 => ?_)
        refine r_callVI 1455 hC [(0, v375)] [(0, v373)] rfl vl_L_197 rfl hn376 (by decide) (Nat.le_of_ble_eq_true rfl) (by omega) (by omega) dL_law_1455 (t_X12_headFor v5 v375 M374 hn376) (fun v377 M378 => ?_)
        refine r_icmp_eq 1458 hC (tgt := 1786) (by decide) dL_law_1458 ?_ ?_
        · exact r_widen (by omega) (by omega) (hj1786 M378)
        · refine r_iconst 1461 hC (r32c rfl) dL_law_1461 ?_
          exact r_lawret 1462 hC hq (by omega) (by omega) dL_law_1462
      refine r_sw_case 33 (tgt := 1463) (off := 1430) hC dL_law_33 ⟨by decide, by decide, r32c rfl⟩ (by decide) (by decide) ?_ (fun hs42 => ?_)
      · refine r_aload_n 1463 hC 1 rfl (Or.inl (by decide)) rfl dL_law_1463 ?_
        refine r_nn (fun hn379 => ?_)
        refine r_callVI 1464 hC [] [] rfl vl_L_198 rfl hn379 (by decide) (Nat.le_of_ble_eq_true rfl) (by omega) (by omega) dL_law_1464 (t_X11_shadow v1 M10 hn379) (fun v380 M381 => ?_)
        refine r_aload_n 1467 hC 2 rfl (Or.inl (by decide)) rfl dL_law_1467 ?_
        refine r_nn (fun hn382 => ?_)
        refine r_callVI 1468 hC [] [(0, v380)] rfl vl_L_201 rfl hn382 (by decide) (Nat.le_of_ble_eq_true rfl) (by omega) (by omega) dL_law_1468 (t_X12_shadow v5 M381 hn382) (fun v383 M384 => ?_)
        refine r_icmp_eq 1471 hC (tgt := 1786) (by decide) dL_law_1471 ?_ ?_
        · exact r_widen (by omega) (by omega) (hj1786 M384)
        · refine r_iconst 1474 hC (r32c rfl) dL_law_1474 ?_
          exact r_lawret 1475 hC hq (by omega) (by omega) dL_law_1475
      refine r_sw_case 33 (tgt := 1476) (off := 1443) hC dL_law_33 ⟨by decide, by decide, r32c rfl⟩ (by decide) (by decide) ?_ (fun hs43 => ?_)
      · refine r_aload_n 1476 hC 1 rfl (Or.inl (by decide)) rfl dL_law_1476 ?_
        refine r_aload_n 1477 hC 0 rfl (Or.inr rfl) rfl dL_law_1477 ?_
        refine r_iload_n 1478 hC 3 rfl rfl dL_law_1478 ?_
        refine r_iconst 1479 hC (r32c rfl) dL_law_1479 ?_
        refine r_iadd 1480 hC dL_law_1480 ?_
        refine r_xld 1481 hC hX dL_law_1481 (fun v385 => ?_)
        refine r_nn (fun hn386 => ?_)
        refine r_callVI 1482 hC [(0, v385)] [] rfl vl_L_202 rfl hn386 (by decide) (Nat.le_of_ble_eq_true rfl) (by omega) (by omega) dL_law_1482 (t_X11_bestSwap v1 v385 M10 hn386) (fun v387 M388 => ?_)
        refine r_aload_n 1485 hC 2 rfl (Or.inl (by decide)) rfl dL_law_1485 ?_
        refine r_aload_n 1486 hC 0 rfl (Or.inr rfl) rfl dL_law_1486 ?_
        refine r_iload_n 1487 hC 3 rfl rfl dL_law_1487 ?_
        refine r_iconst 1488 hC (r32c rfl) dL_law_1488 ?_
        refine r_iadd 1489 hC dL_law_1489 ?_
        refine r_xld 1490 hC hX dL_law_1490 (fun v389 => ?_)
        refine r_nn (fun hn390 => ?_)
        refine r_callVI 1491 hC [(0, v389)] [(0, v387)] rfl vl_L_205 rfl hn390 (by decide) (Nat.le_of_ble_eq_true rfl) (by omega) (by omega) dL_law_1491 (t_X12_bestSwap v5 v389 M388 hn390) (fun v391 M392 => ?_)
        refine r_icmp_eq 1494 hC (tgt := 1786) (by decide) dL_law_1494 ?_ ?_
        · exact r_widen (by omega) (by omega) (hj1786 M392)
        · refine r_iconst 1497 hC (r32c rfl) dL_law_1497 ?_
          exact r_lawret 1498 hC hq (by omega) (by omega) dL_law_1498
      refine r_sw_case 33 (tgt := 1499) (off := 1466) hC dL_law_33 ⟨by decide, by decide, r32c rfl⟩ (by decide) (by decide) ?_ (fun hs44 => ?_)
      · refine r_aload_n 1499 hC 1 rfl (Or.inl (by decide)) rfl dL_law_1499 ?_
        refine r_nn (fun hn393 => ?_)
        refine r_callVI 1500 hC [] [] rfl vl_L_206 rfl hn393 (by decide) (Nat.le_of_ble_eq_true rfl) (by omega) (by omega) dL_law_1500 (t_X11_debts v1 M10 hn393) (fun v394 M395 => ?_)
        refine r_aload_n 1503 hC 2 rfl (Or.inl (by decide)) rfl dL_law_1503 ?_
        refine r_nn (fun hn396 => ?_)
        refine r_callVI 1504 hC [] [(0, v394)] rfl vl_L_209 rfl hn396 (by decide) (Nat.le_of_ble_eq_true rfl) (by omega) (by omega) dL_law_1504 (t_X12_debts v5 M395 hn396) (fun v397 M398 => ?_)
        refine r_icmp_eq 1507 hC (tgt := 1786) (by decide) dL_law_1507 ?_ ?_
        · exact r_widen (by omega) (by omega) (hj1786 M398)
        · refine r_iconst 1510 hC (r32c rfl) dL_law_1510 ?_
          exact r_lawret 1511 hC hq (by omega) (by omega) dL_law_1511
      refine r_sw_case 33 (tgt := 1512) (off := 1479) hC dL_law_33 ⟨by decide, by decide, r32c rfl⟩ (by decide) (by decide) ?_ (fun hs45 => ?_)
      · refine r_aload_n 1512 hC 1 rfl (Or.inl (by decide)) rfl dL_law_1512 ?_
        refine r_aload_n 1513 hC 0 rfl (Or.inr rfl) rfl dL_law_1513 ?_
        refine r_iload_n 1514 hC 3 rfl rfl dL_law_1514 ?_
        refine r_iconst 1515 hC (r32c rfl) dL_law_1515 ?_
        refine r_iadd 1516 hC dL_law_1516 ?_
        refine r_xld 1517 hC hX dL_law_1517 (fun v399 => ?_)
        refine r_nn (fun hn400 => ?_)
        refine r_callVI 1518 hC [(0, v399)] [] rfl vl_L_210 rfl hn400 (by decide) (Nat.le_of_ble_eq_true rfl) (by omega) (by omega) dL_law_1518 (t_X11_balance v1 v399 M10 hn400) (fun v401 M402 => ?_)
        refine r_aload_n 1521 hC 2 rfl (Or.inl (by decide)) rfl dL_law_1521 ?_
        refine r_aload_n 1522 hC 0 rfl (Or.inr rfl) rfl dL_law_1522 ?_
        refine r_iload_n 1523 hC 3 rfl rfl dL_law_1523 ?_
        refine r_iconst 1524 hC (r32c rfl) dL_law_1524 ?_
        refine r_iadd 1525 hC dL_law_1525 ?_
        refine r_xld 1526 hC hX dL_law_1526 (fun v403 => ?_)
        refine r_nn (fun hn404 => ?_)
        refine r_callVI 1527 hC [(0, v403)] [(0, v401)] rfl vl_L_213 rfl hn404 (by decide) (Nat.le_of_ble_eq_true rfl) (by omega) (by omega) dL_law_1527 (t_X12_balance v5 v403 M402 hn404) (fun v405 M406 => ?_)
        refine r_icmp_eq 1530 hC (tgt := 1786) (by decide) dL_law_1530 ?_ ?_
        · exact r_widen (by omega) (by omega) (hj1786 M406)
        · refine r_iconst 1533 hC (r32c rfl) dL_law_1533 ?_
          exact r_lawret 1534 hC hq (by omega) (by omega) dL_law_1534
      refine r_sw_case 33 (tgt := 1535) (off := 1502) hC dL_law_33 ⟨by decide, by decide, r32c rfl⟩ (by decide) (by decide) ?_ (fun hs46 => ?_)
      · refine r_aload_n 1535 hC 1 rfl (Or.inl (by decide)) rfl dL_law_1535 ?_
        refine r_aload_n 1536 hC 0 rfl (Or.inr rfl) rfl dL_law_1536 ?_
        refine r_iload_n 1537 hC 3 rfl rfl dL_law_1537 ?_
        refine r_iconst 1538 hC (r32c rfl) dL_law_1538 ?_
        refine r_iadd 1539 hC dL_law_1539 ?_
        refine r_xld 1540 hC hX dL_law_1540 (fun v407 => ?_)
        refine r_aload_n 1541 hC 0 rfl (Or.inr rfl) rfl dL_law_1541 ?_
        refine r_iload_n 1542 hC 3 rfl rfl dL_law_1542 ?_
        refine r_iconst 1543 hC (r32c rfl) dL_law_1543 ?_
        refine r_iadd 1544 hC dL_law_1544 ?_
        refine r_xld 1545 hC hX dL_law_1545 (fun v408 => ?_)
        refine r_nn (fun hn409 => ?_)
        refine r_callVI 1546 hC [(0, v407), (0, v408)] [] rfl vl_L_214 rfl hn409 (by decide) (Nat.le_of_ble_eq_true rfl) (by omega) (by omega) dL_law_1546 (t_X11_mean v1 v407 v408 M10 hn409) (fun v410 M411 => ?_)
        refine r_aload_n 1549 hC 2 rfl (Or.inl (by decide)) rfl dL_law_1549 ?_
        refine r_aload_n 1550 hC 0 rfl (Or.inr rfl) rfl dL_law_1550 ?_
        refine r_iload_n 1551 hC 3 rfl rfl dL_law_1551 ?_
        refine r_iconst 1552 hC (r32c rfl) dL_law_1552 ?_
        refine r_iadd 1553 hC dL_law_1553 ?_
        refine r_xld 1554 hC hX dL_law_1554 (fun v412 => ?_)
        refine r_aload_n 1555 hC 0 rfl (Or.inr rfl) rfl dL_law_1555 ?_
        refine r_iload_n 1556 hC 3 rfl rfl dL_law_1556 ?_
        refine r_iconst 1557 hC (r32c rfl) dL_law_1557 ?_
        refine r_iadd 1558 hC dL_law_1558 ?_
        refine r_xld 1559 hC hX dL_law_1559 (fun v413 => ?_)
        refine r_nn (fun hn414 => ?_)
        refine r_callVI 1560 hC [(0, v412), (0, v413)] [(0, v410)] rfl vl_L_217 rfl hn414 (by decide) (Nat.le_of_ble_eq_true rfl) (by omega) (by omega) dL_law_1560 (t_X12_mean v5 v412 v413 M411 hn414) (fun v415 M416 => ?_)
        refine r_icmp_eq 1563 hC (tgt := 1786) (by decide) dL_law_1563 ?_ ?_
        · exact r_widen (by omega) (by omega) (hj1786 M416)
        · refine r_iconst 1566 hC (r32c rfl) dL_law_1566 ?_
          exact r_lawret 1567 hC hq (by omega) (by omega) dL_law_1567
      refine r_sw_case 33 (tgt := 1568) (off := 1535) hC dL_law_33 ⟨by decide, by decide, r32c rfl⟩ (by decide) (by decide) ?_ (fun hs47 => ?_)
      · refine r_aload_n 1568 hC 1 rfl (Or.inl (by decide)) rfl dL_law_1568 ?_
        refine r_aload_n 1569 hC 0 rfl (Or.inr rfl) rfl dL_law_1569 ?_
        refine r_iload_n 1570 hC 3 rfl rfl dL_law_1570 ?_
        refine r_iconst 1571 hC (r32c rfl) dL_law_1571 ?_
        refine r_iadd 1572 hC dL_law_1572 ?_
        refine r_xld 1573 hC hX dL_law_1573 (fun v417 => ?_)
        refine r_aload_n 1574 hC 0 rfl (Or.inr rfl) rfl dL_law_1574 ?_
        refine r_iload_n 1575 hC 3 rfl rfl dL_law_1575 ?_
        refine r_iconst 1576 hC (r32c rfl) dL_law_1576 ?_
        refine r_iadd 1577 hC dL_law_1577 ?_
        refine r_xld 1578 hC hX dL_law_1578 (fun v418 => ?_)
        refine r_nn (fun hn419 => ?_)
        refine r_callVI 1579 hC [(0, v417), (0, v418)] [] rfl vl_L_218 rfl hn419 (by decide) (Nat.le_of_ble_eq_true rfl) (by omega) (by omega) dL_law_1579 (t_X11_gaps v1 v417 v418 M10 hn419) (fun v420 M421 => ?_)
        refine r_aload_n 1582 hC 2 rfl (Or.inl (by decide)) rfl dL_law_1582 ?_
        refine r_aload_n 1583 hC 0 rfl (Or.inr rfl) rfl dL_law_1583 ?_
        refine r_iload_n 1584 hC 3 rfl rfl dL_law_1584 ?_
        refine r_iconst 1585 hC (r32c rfl) dL_law_1585 ?_
        refine r_iadd 1586 hC dL_law_1586 ?_
        refine r_xld 1587 hC hX dL_law_1587 (fun v422 => ?_)
        refine r_aload_n 1588 hC 0 rfl (Or.inr rfl) rfl dL_law_1588 ?_
        refine r_iload_n 1589 hC 3 rfl rfl dL_law_1589 ?_
        refine r_iconst 1590 hC (r32c rfl) dL_law_1590 ?_
        refine r_iadd 1591 hC dL_law_1591 ?_
        refine r_xld 1592 hC hX dL_law_1592 (fun v423 => ?_)
        refine r_nn (fun hn424 => ?_)
        refine r_callVI 1593 hC [(0, v422), (0, v423)] [(0, v420)] rfl vl_L_221 rfl hn424 (by decide) (Nat.le_of_ble_eq_true rfl) (by omega) (by omega) dL_law_1593 (t_X12_gaps v5 v422 v423 M421 hn424) (fun v425 M426 => ?_)
        refine r_icmp_eq 1596 hC (tgt := 1786) (by decide) dL_law_1596 ?_ ?_
        · exact r_widen (by omega) (by omega) (hj1786 M426)
        · refine r_iconst 1599 hC (r32c rfl) dL_law_1599 ?_
          exact r_lawret 1600 hC hq (by omega) (by omega) dL_law_1600
      refine r_sw_case 33 (tgt := 1601) (off := 1568) hC dL_law_33 ⟨by decide, by decide, r32c rfl⟩ (by decide) (by decide) ?_ (fun hs48 => ?_)
      · refine r_aload_n 1601 hC 1 rfl (Or.inl (by decide)) rfl dL_law_1601 ?_
        refine r_aload_n 1602 hC 0 rfl (Or.inr rfl) rfl dL_law_1602 ?_
        refine r_iload_n 1603 hC 3 rfl rfl dL_law_1603 ?_
        refine r_iconst 1604 hC (r32c rfl) dL_law_1604 ?_
        refine r_iadd 1605 hC dL_law_1605 ?_
        refine r_xld 1606 hC hX dL_law_1606 (fun v427 => ?_)
        refine r_nn (fun hn428 => ?_)
        refine r_callVI 1607 hC [(0, v427)] [] rfl vl_L_222 rfl hn428 (by decide) (Nat.le_of_ble_eq_true rfl) (by omega) (by omega) dL_law_1607 (t_X11_suspects v1 v427 M10 hn428) (fun v429 M430 => ?_)
        refine r_aload_n 1610 hC 2 rfl (Or.inl (by decide)) rfl dL_law_1610 ?_
        refine r_aload_n 1611 hC 0 rfl (Or.inr rfl) rfl dL_law_1611 ?_
        refine r_iload_n 1612 hC 3 rfl rfl dL_law_1612 ?_
        refine r_iconst 1613 hC (r32c rfl) dL_law_1613 ?_
        refine r_iadd 1614 hC dL_law_1614 ?_
        refine r_xld 1615 hC hX dL_law_1615 (fun v431 => ?_)
        refine r_nn (fun hn432 => ?_)
        refine r_callVI 1616 hC [(0, v431)] [(0, v429)] rfl vl_L_225 rfl hn432 (by decide) (Nat.le_of_ble_eq_true rfl) (by omega) (by omega) dL_law_1616 (t_X12_suspects v5 v431 M430 hn432) (fun v433 M434 => ?_)
        refine r_icmp_eq 1619 hC (tgt := 1786) (by decide) dL_law_1619 ?_ ?_
        · exact r_widen (by omega) (by omega) (hj1786 M434)
        · refine r_iconst 1622 hC (r32c rfl) dL_law_1622 ?_
          exact r_lawret 1623 hC hq (by omega) (by omega) dL_law_1623
      refine r_sw_case 33 (tgt := 1624) (off := 1591) hC dL_law_33 ⟨by decide, by decide, r32c rfl⟩ (by decide) (by decide) ?_ (fun hs49 => ?_)
      · refine r_aload_n 1624 hC 1 rfl (Or.inl (by decide)) rfl dL_law_1624 ?_
        refine r_nn (fun hn435 => ?_)
        refine r_callVI 1625 hC [] [] rfl vl_L_226 rfl hn435 (by decide) (Nat.le_of_ble_eq_true rfl) (by omega) (by omega) dL_law_1625 (t_X11_pass v1 M10 hn435) (fun v436 M437 => ?_)
        refine r_aload_n 1628 hC 2 rfl (Or.inl (by decide)) rfl dL_law_1628 ?_
        refine r_nn (fun hn438 => ?_)
        refine r_callVI 1629 hC [] [(0, v436)] rfl vl_L_229 rfl hn438 (by decide) (Nat.le_of_ble_eq_true rfl) (by omega) (by omega) dL_law_1629 (t_X12_pass v5 M437 hn438) (fun v439 M440 => ?_)
        refine r_icmp_eq 1632 hC (tgt := 1786) (by decide) dL_law_1632 ?_ ?_
        · exact r_widen (by omega) (by omega) (hj1786 M440)
        · refine r_iconst 1635 hC (r32c rfl) dL_law_1635 ?_
          exact r_lawret 1636 hC hq (by omega) (by omega) dL_law_1636
      refine r_sw_case 33 (tgt := 1637) (off := 1604) hC dL_law_33 ⟨by decide, by decide, r32c rfl⟩ (by decide) (by decide) ?_ (fun hs50 => ?_)
      · refine r_aload_n 1637 hC 1 rfl (Or.inl (by decide)) rfl dL_law_1637 ?_
        refine r_aload_n 1638 hC 0 rfl (Or.inr rfl) rfl dL_law_1638 ?_
        refine r_iload_n 1639 hC 3 rfl rfl dL_law_1639 ?_
        refine r_iconst 1640 hC (r32c rfl) dL_law_1640 ?_
        refine r_iadd 1641 hC dL_law_1641 ?_
        refine r_xld 1642 hC hX dL_law_1642 (fun v441 => ?_)
        refine r_nn (fun hn442 => ?_)
        refine r_callVI 1643 hC [(0, v441)] [] rfl vl_L_230 rfl hn442 (by decide) (Nat.le_of_ble_eq_true rfl) (by omega) (by omega) dL_law_1643 (t_X11_account v1 v441 M10 hn442) (fun v443 M444 => ?_)
        refine r_aload_n 1646 hC 2 rfl (Or.inl (by decide)) rfl dL_law_1646 ?_
        refine r_aload_n 1647 hC 0 rfl (Or.inr rfl) rfl dL_law_1647 ?_
        refine r_iload_n 1648 hC 3 rfl rfl dL_law_1648 ?_
        refine r_iconst 1649 hC (r32c rfl) dL_law_1649 ?_
        refine r_iadd 1650 hC dL_law_1650 ?_
        refine r_xld 1651 hC hX dL_law_1651 (fun v445 => ?_)
        refine r_nn (fun hn446 => ?_)
        refine r_callVI 1652 hC [(0, v445)] [(1, v443)] rfl vl_L_234 rfl hn446 (by decide) (Nat.le_of_ble_eq_true rfl) (by omega) (by omega) dL_law_1652 (t_X12_account v5 v445 M444 hn446) (fun v447 M448 => ?_)
        refine r_lcmp_eq 1655 hC (tgt := 1786) (by decide) dL_law_1655 dL_law_1656 ?_ ?_
        · exact r_widen (by omega) (by omega) (hj1786 M448)
        · refine r_iconst 1659 hC (r32c rfl) dL_law_1659 ?_
          exact r_lawret 1660 hC hq (by omega) (by omega) dL_law_1660
      refine r_sw_case 33 (tgt := 1661) (off := 1628) hC dL_law_33 ⟨by decide, by decide, r32c rfl⟩ (by decide) (by decide) ?_ (fun hs51 => ?_)
      · refine r_aload_n 1661 hC 1 rfl (Or.inl (by decide)) rfl dL_law_1661 ?_
        refine r_aload_n 1662 hC 0 rfl (Or.inr rfl) rfl dL_law_1662 ?_
        refine r_iload_n 1663 hC 3 rfl rfl dL_law_1663 ?_
        refine r_iconst 1664 hC (r32c rfl) dL_law_1664 ?_
        refine r_iadd 1665 hC dL_law_1665 ?_
        refine r_xld 1666 hC hX dL_law_1666 (fun v449 => ?_)
        refine r_nn (fun hn450 => ?_)
        refine r_callVI 1667 hC [(0, v449)] [] rfl vl_L_235 rfl hn450 (by decide) (Nat.le_of_ble_eq_true rfl) (by omega) (by omega) dL_law_1667 (t_X11_live v1 v449 M10 hn450) (fun v451 M452 => ?_)
        refine r_aload_n 1670 hC 2 rfl (Or.inl (by decide)) rfl dL_law_1670 ?_
        refine r_aload_n 1671 hC 0 rfl (Or.inr rfl) rfl dL_law_1671 ?_
        refine r_iload_n 1672 hC 3 rfl rfl dL_law_1672 ?_
        refine r_iconst 1673 hC (r32c rfl) dL_law_1673 ?_
        refine r_iadd 1674 hC dL_law_1674 ?_
        refine r_xld 1675 hC hX dL_law_1675 (fun v453 => ?_)
        refine r_nn (fun hn454 => ?_)
        refine r_callVI 1676 hC [(0, v453)] [(0, v451)] rfl vl_L_238 rfl hn454 (by decide) (Nat.le_of_ble_eq_true rfl) (by omega) (by omega) dL_law_1676 (t_X12_live v5 v453 M452 hn454) (fun v455 M456 => ?_)
        refine r_icmp_eq 1679 hC (tgt := 1786) (by decide) dL_law_1679 ?_ ?_
        · exact r_widen (by omega) (by omega) (hj1786 M456)
        · refine r_iconst 1682 hC (r32c rfl) dL_law_1682 ?_
          exact r_lawret 1683 hC hq (by omega) (by omega) dL_law_1683
      refine r_sw_case 33 (tgt := 1684) (off := 1651) hC dL_law_33 ⟨by decide, by decide, r32c rfl⟩ (by decide) (by decide) ?_ (fun hs52 => ?_)
      · refine r_aload_n 1684 hC 1 rfl (Or.inl (by decide)) rfl dL_law_1684 ?_
        refine r_aload_n 1685 hC 0 rfl (Or.inr rfl) rfl dL_law_1685 ?_
        refine r_iload_n 1686 hC 3 rfl rfl dL_law_1686 ?_
        refine r_iconst 1687 hC (r32c rfl) dL_law_1687 ?_
        refine r_iadd 1688 hC dL_law_1688 ?_
        refine r_xld 1689 hC hX dL_law_1689 (fun v457 => ?_)
        refine r_nn (fun hn458 => ?_)
        refine r_callVI 1690 hC [(0, v457)] [] rfl vl_L_239 rfl hn458 (by decide) (Nat.le_of_ble_eq_true rfl) (by omega) (by omega) dL_law_1690 (t_X11_lived v1 v457 M10 hn458) (fun v459 M460 => ?_)
        refine r_aload_n 1693 hC 2 rfl (Or.inl (by decide)) rfl dL_law_1693 ?_
        refine r_aload_n 1694 hC 0 rfl (Or.inr rfl) rfl dL_law_1694 ?_
        refine r_iload_n 1695 hC 3 rfl rfl dL_law_1695 ?_
        refine r_iconst 1696 hC (r32c rfl) dL_law_1696 ?_
        refine r_iadd 1697 hC dL_law_1697 ?_
        refine r_xld 1698 hC hX dL_law_1698 (fun v461 => ?_)
        refine r_nn (fun hn462 => ?_)
        refine r_callVI 1699 hC [(0, v461)] [(0, v459)] rfl vl_L_242 rfl hn462 (by decide) (Nat.le_of_ble_eq_true rfl) (by omega) (by omega) dL_law_1699 (t_X12_lived v5 v461 M460 hn462) (fun v463 M464 => ?_)
        refine r_icmp_eq 1702 hC (tgt := 1786) (by decide) dL_law_1702 ?_ ?_
        · exact r_widen (by omega) (by omega) (hj1786 M464)
        · refine r_iconst 1705 hC (r32c rfl) dL_law_1705 ?_
          exact r_lawret 1706 hC hq (by omega) (by omega) dL_law_1706
      refine r_sw_case 33 (tgt := 1707) (off := 1674) hC dL_law_33 ⟨by decide, by decide, r32c rfl⟩ (by decide) (by decide) ?_ (fun hs53 => ?_)
      · refine r_aload_n 1707 hC 1 rfl (Or.inl (by decide)) rfl dL_law_1707 ?_
        refine r_aload_n 1708 hC 0 rfl (Or.inr rfl) rfl dL_law_1708 ?_
        refine r_iload_n 1709 hC 3 rfl rfl dL_law_1709 ?_
        refine r_iconst 1710 hC (r32c rfl) dL_law_1710 ?_
        refine r_iadd 1711 hC dL_law_1711 ?_
        refine r_xld 1712 hC hX dL_law_1712 (fun v465 => ?_)
        refine r_aload_n 1713 hC 0 rfl (Or.inr rfl) rfl dL_law_1713 ?_
        refine r_iload_n 1714 hC 3 rfl rfl dL_law_1714 ?_
        refine r_iconst 1715 hC (r32c rfl) dL_law_1715 ?_
        refine r_iadd 1716 hC dL_law_1716 ?_
        refine r_xld 1717 hC hX dL_law_1717 (fun v466 => ?_)
        refine r_aload_n 1718 hC 0 rfl (Or.inr rfl) rfl dL_law_1718 ?_
        refine r_iload_n 1719 hC 3 rfl rfl dL_law_1719 ?_
        refine r_iconst 1720 hC (r32c rfl) dL_law_1720 ?_
        refine r_iadd 1721 hC dL_law_1721 ?_
        refine r_xld 1722 hC hX dL_law_1722 (fun v467 => ?_)
        refine r_aload_n 1723 hC 0 rfl (Or.inr rfl) rfl dL_law_1723 ?_
        refine r_iload_n 1724 hC 3 rfl rfl dL_law_1724 ?_
        refine r_iconst 1725 hC (r32c rfl) dL_law_1725 ?_
        refine r_iadd 1726 hC dL_law_1726 ?_
        refine r_xld 1727 hC hX dL_law_1727 (fun v468 => ?_)
        refine r_nn (fun hn469 => ?_)
        refine r_callVI 1728 hC [(0, v465), (0, v466), (0, v467), (0, v468)] [] rfl vl_L_243 rfl hn469 (by decide) (Nat.le_of_ble_eq_true rfl) (by omega) (by omega) dL_law_1728 (t_X11_odds v1 v465 v466 v467 v468 M10 hn469) (fun v470 M471 => ?_)
        refine r_aload_n 1731 hC 2 rfl (Or.inl (by decide)) rfl dL_law_1731 ?_
        refine r_aload_n 1732 hC 0 rfl (Or.inr rfl) rfl dL_law_1732 ?_
        refine r_iload_n 1733 hC 3 rfl rfl dL_law_1733 ?_
        refine r_iconst 1734 hC (r32c rfl) dL_law_1734 ?_
        refine r_iadd 1735 hC dL_law_1735 ?_
        refine r_xld 1736 hC hX dL_law_1736 (fun v472 => ?_)
        refine r_aload_n 1737 hC 0 rfl (Or.inr rfl) rfl dL_law_1737 ?_
        refine r_iload_n 1738 hC 3 rfl rfl dL_law_1738 ?_
        refine r_iconst 1739 hC (r32c rfl) dL_law_1739 ?_
        refine r_iadd 1740 hC dL_law_1740 ?_
        refine r_xld 1741 hC hX dL_law_1741 (fun v473 => ?_)
        refine r_aload_n 1742 hC 0 rfl (Or.inr rfl) rfl dL_law_1742 ?_
        refine r_iload_n 1743 hC 3 rfl rfl dL_law_1743 ?_
        refine r_iconst 1744 hC (r32c rfl) dL_law_1744 ?_
        refine r_iadd 1745 hC dL_law_1745 ?_
        refine r_xld 1746 hC hX dL_law_1746 (fun v474 => ?_)
        refine r_aload_n 1747 hC 0 rfl (Or.inr rfl) rfl dL_law_1747 ?_
        refine r_iload_n 1748 hC 3 rfl rfl dL_law_1748 ?_
        refine r_iconst 1749 hC (r32c rfl) dL_law_1749 ?_
        refine r_iadd 1750 hC dL_law_1750 ?_
        refine r_xld 1751 hC hX dL_law_1751 (fun v475 => ?_)
        refine r_nn (fun hn476 => ?_)
        refine r_callVI 1752 hC [(0, v472), (0, v473), (0, v474), (0, v475)] [(0, v470)] rfl vl_L_247 rfl hn476 (by decide) (Nat.le_of_ble_eq_true rfl) (by omega) (by omega) dL_law_1752 (t_X12_odds v5 v472 v473 v474 v475 M471 hn476) (fun v477 M478 => ?_)
        refine r_icmp_eq 1755 hC (tgt := 1786) (by decide) dL_law_1755 ?_ ?_
        · exact r_widen (by omega) (by omega) (hj1786 M478)
        · refine r_iconst 1758 hC (r32c rfl) dL_law_1758 ?_
          exact r_lawret 1759 hC hq (by omega) (by omega) dL_law_1759
      refine r_sw_case 33 (tgt := 1760) (off := 1727) hC dL_law_33 ⟨by decide, by decide, r32c rfl⟩ (by decide) (by decide) ?_ (fun hs54 => ?_)
      · refine r_aload_n 1760 hC 1 rfl (Or.inl (by decide)) rfl dL_law_1760 ?_
        refine r_nn (fun hn479 => ?_)
        refine r_callVI 1761 hC [] [] rfl vl_L_248 rfl hn479 (by decide) (Nat.le_of_ble_eq_true rfl) (by omega) (by omega) dL_law_1761 (t_X11_mark v1 M10 hn479) (fun v480 M481 => ?_)
        refine r_aload_n 1764 hC 2 rfl (Or.inl (by decide)) rfl dL_law_1764 ?_
        refine r_nn (fun hn482 => ?_)
        refine r_callVI 1765 hC [] [(0, v480)] rfl vl_L_251 rfl hn482 (by decide) (Nat.le_of_ble_eq_true rfl) (by omega) (by omega) dL_law_1765 (t_X12_mark v5 M481 hn482) (fun v483 M484 => ?_)
        refine r_icmp_eq 1768 hC (tgt := 1786) (by decide) dL_law_1768 ?_ ?_
        · exact r_widen (by omega) (by omega) (hj1786 M484)
        · refine r_iconst 1771 hC (r32c rfl) dL_law_1771 ?_
          exact r_lawret 1772 hC hq (by omega) (by omega) dL_law_1772
      refine r_sw_case 33 (tgt := 1773) (off := 1740) hC dL_law_33 ⟨by decide, by decide, r32c rfl⟩ (by decide) (by decide) ?_ (fun hs55 => ?_)
      · refine r_aload_n 1773 hC 1 rfl (Or.inl (by decide)) rfl dL_law_1773 ?_
        refine r_nn (fun hn485 => ?_)
        refine r_callVI 1774 hC [] [] rfl vl_L_252 rfl hn485 (by decide) (Nat.le_of_ble_eq_true rfl) (by omega) (by omega) dL_law_1774 (t_X11_back v1 M10 hn485) (fun v486 M487 => ?_)
        refine r_aload_n 1777 hC 2 rfl (Or.inl (by decide)) rfl dL_law_1777 ?_
        refine r_nn (fun hn488 => ?_)
        refine r_callVI 1778 hC [] [(0, v486)] rfl vl_L_255 rfl hn488 (by decide) (Nat.le_of_ble_eq_true rfl) (by omega) (by omega) dL_law_1778 (t_X12_back v5 M487 hn488) (fun v489 M490 => ?_)
        refine r_icmp_eq 1781 hC (tgt := 1786) (by decide) dL_law_1781 ?_ ?_
        · exact r_widen (by omega) (by omega) (hj1786 M490)
        · refine r_iconst 1784 hC (r32c rfl) dL_law_1784 ?_
          exact r_lawret 1785 hC hq (by omega) (by omega) dL_law_1785
      refine r_sw_dflt 33 (tgt := 1786) hC dL_law_33 (by omega) (by decide) ?_
      exact r_widen (by omega) (by omega) (hj1786 M10)
set_option maxRecDepth 100000 in
set_option maxHeartbeats 4000000 in
theorem t_law {E : EnvT} {C : Cx} {xs : Int → Int} {L : Int} {M : Mem} (hC : CxOK E C code 4 RL 20 600000 7302250) (hq : LawQ E C) (hX : LawX E C xs L) : Bk E C 4 M (1 : Int) 0 [(0, 2, (-3))] [] M 0 0 (f_L_law xs L M) := by
  unfold f_L_law
  refine r_new 0 hC cl_9 rfl (by decide) cq_L_7 in_X11 ini_X11 (by omega) (by omega) dL_law_0 (fun v1 M2 => ?_)
  refine r_dup 3 hC (by decide) dL_law_3 ?_
  refine r_nn (fun hn3 => ?_)
  refine r_ctor 4 hC il_L_9 (by decide) hn3 (by decide) (Nat.le_of_ble_eq_true rfl) (by omega) (by omega) dL_law_4 (t_X11_init v1 M2 hn3) (fun M4 => ?_)
  refine r_astore_n 7 hC rfl (Or.inl (by decide)) (by decide) dL_law_7 (r_eqls (ls' := [(1, 29, v1), (0, 2, (-3))]) rfl ?_)
  refine r_new 8 hC cl_10 rfl (by decide) cq_L_10 in_X12 ini_X12 (by omega) (by omega) dL_law_8 (fun v5 M6 => ?_)
  refine r_dup 11 hC (by decide) dL_law_11 ?_
  refine r_nn (fun hn7 => ?_)
  refine r_ctor 12 hC il_L_12 (by decide) hn7 (by decide) (Nat.le_of_ble_eq_true rfl) (by omega) (by omega) dL_law_12 (t_X12_init v5 M6 hn7) (fun M8 => ?_)
  refine r_astore_n 15 hC rfl (Or.inl (by decide)) (by decide) dL_law_15 (r_eqls (ls' := [(2, 30, v5), (1, 29, v1), (0, 2, (-3))]) rfl ?_)
  refine r_iconst 16 hC (r32c rfl) dL_law_16 ?_
  refine r_istore_n 17 hC rfl (by decide) dL_law_17 (r_eqls (ls' := [(3, 0, 0), (2, 30, v5), (1, 29, v1), (0, 2, (-3))]) rfl ?_)
  exact r_sub [3, 2, 1, 0] rfl (f_L_law_L18_ok hC hq hX 513 0 M8 136 10850 (by decide) (by decide))
