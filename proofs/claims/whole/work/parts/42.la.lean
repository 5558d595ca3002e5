/-! ===== the law (wip/gen/law.py) ===== -/
theorem dl_0 : decode code 0 = .ok (.new 7, 3) := by decide +kernel
theorem dl_3 : decode code 3 = .ok (.dup, 1) := by decide +kernel
theorem dl_4 : decode code 4 = .ok (.invokespecial 9, 3) := by decide +kernel
theorem dl_7 : decode code 7 = .ok (.astore_n 1, 1) := by decide +kernel
theorem dl_8 : decode code 8 = .ok (.new 10, 3) := by decide +kernel
theorem dl_11 : decode code 11 = .ok (.dup, 1) := by decide +kernel
theorem dl_12 : decode code 12 = .ok (.invokespecial 12, 3) := by decide +kernel
theorem dl_15 : decode code 15 = .ok (.astore_n 2, 1) := by decide +kernel
theorem dl_16 : decode code 16 = .ok (.iconst 0, 1) := by decide +kernel
theorem dl_17 : decode code 17 = .ok (.istore_n 3, 1) := by decide +kernel
theorem dl_18 : decode code 18 = .ok (.iload_n 3, 1) := by decide +kernel
theorem dl_19 : decode code 19 = .ok (.aload_n 0, 1) := by decide +kernel
theorem dl_20 : decode code 20 = .ok (.arraylength, 1) := by decide +kernel
theorem dl_21 : decode code 21 = .ok (.bipush 6, 2) := by decide +kernel
theorem dl_23 : decode code 23 = .ok (.isub, 1) := by decide +kernel
theorem dl_24 : decode code 24 = .ok (.if_icmp .gt 1679, 3) := by decide +kernel
theorem dl_27 : decode code 27 = .ok (.aload_n 0, 1) := by decide +kernel
theorem dl_28 : decode code 28 = .ok (.iload_n 3, 1) := by decide +kernel
theorem dl_29 : decode code 29 = .ok (.iaload, 1) := by decide +kernel
theorem dl_30 : decode code 30 = .ok (.bipush 63, 2) := by decide +kernel
theorem dl_32 : decode code 32 = .ok (.iand, 1) := by decide +kernel
theorem dl_33 : decode code 33 = .ok (.tableswitch 1664 0 51 #[223, 256, 289, 322, 365, 389, 412, 425, 458, 491, 515, 538, 581, 624, 657, 680, 694, 737, 770, 814, 827, 850, 873, 916, 929, 942, 955, 978, 1001, 1024, 1047, 1080, 1113, 1137, 1160, 1193, 1226, 1249, 1282, 1295, 1308, 1341, 1374, 1417, 1460, 1523, 1546, 1579, 1592, 1605, 1618, 1641], 223) := by decide +kernel
theorem dl_256 : decode code 256 = .ok (.aload_n 1, 1) := by decide +kernel
theorem dl_257 : decode code 257 = .ok (.aload_n 0, 1) := by decide +kernel
theorem dl_258 : decode code 258 = .ok (.iload_n 3, 1) := by decide +kernel
theorem dl_259 : decode code 259 = .ok (.iconst 1, 1) := by decide +kernel
theorem dl_260 : decode code 260 = .ok (.iadd, 1) := by decide +kernel
theorem dl_261 : decode code 261 = .ok (.iaload, 1) := by decide +kernel
theorem dl_262 : decode code 262 = .ok (.aload_n 0, 1) := by decide +kernel
theorem dl_263 : decode code 263 = .ok (.iload_n 3, 1) := by decide +kernel
theorem dl_264 : decode code 264 = .ok (.iconst 2, 1) := by decide +kernel
theorem dl_265 : decode code 265 = .ok (.iadd, 1) := by decide +kernel
theorem dl_266 : decode code 266 = .ok (.iaload, 1) := by decide +kernel
theorem dl_267 : decode code 267 = .ok (.invokevirtual 13, 3) := by decide +kernel
theorem dl_270 : decode code 270 = .ok (.aload_n 2, 1) := by decide +kernel
theorem dl_271 : decode code 271 = .ok (.aload_n 0, 1) := by decide +kernel
theorem dl_272 : decode code 272 = .ok (.iload_n 3, 1) := by decide +kernel
theorem dl_273 : decode code 273 = .ok (.iconst 1, 1) := by decide +kernel
theorem dl_274 : decode code 274 = .ok (.iadd, 1) := by decide +kernel
theorem dl_275 : decode code 275 = .ok (.iaload, 1) := by decide +kernel
theorem dl_276 : decode code 276 = .ok (.aload_n 0, 1) := by decide +kernel
theorem dl_277 : decode code 277 = .ok (.iload_n 3, 1) := by decide +kernel
theorem dl_278 : decode code 278 = .ok (.iconst 2, 1) := by decide +kernel
theorem dl_279 : decode code 279 = .ok (.iadd, 1) := by decide +kernel
theorem dl_280 : decode code 280 = .ok (.iaload, 1) := by decide +kernel
theorem dl_281 : decode code 281 = .ok (.invokevirtual 17, 3) := by decide +kernel
theorem dl_284 : decode code 284 = .ok (.if_icmp .eq 1413, 3) := by decide +kernel
theorem dl_287 : decode code 287 = .ok (.iconst 0, 1) := by decide +kernel
theorem dl_288 : decode code 288 = .ok (.ireturn, 1) := by decide +kernel
theorem dl_289 : decode code 289 = .ok (.aload_n 1, 1) := by decide +kernel
theorem dl_290 : decode code 290 = .ok (.aload_n 0, 1) := by decide +kernel
theorem dl_291 : decode code 291 = .ok (.iload_n 3, 1) := by decide +kernel
theorem dl_292 : decode code 292 = .ok (.iconst 1, 1) := by decide +kernel
theorem dl_293 : decode code 293 = .ok (.iadd, 1) := by decide +kernel
theorem dl_294 : decode code 294 = .ok (.iaload, 1) := by decide +kernel
theorem dl_295 : decode code 295 = .ok (.aload_n 0, 1) := by decide +kernel
theorem dl_296 : decode code 296 = .ok (.iload_n 3, 1) := by decide +kernel
theorem dl_297 : decode code 297 = .ok (.iconst 2, 1) := by decide +kernel
theorem dl_298 : decode code 298 = .ok (.iadd, 1) := by decide +kernel
theorem dl_299 : decode code 299 = .ok (.iaload, 1) := by decide +kernel
theorem dl_300 : decode code 300 = .ok (.invokevirtual 18, 3) := by decide +kernel
theorem dl_303 : decode code 303 = .ok (.aload_n 2, 1) := by decide +kernel
theorem dl_304 : decode code 304 = .ok (.aload_n 0, 1) := by decide +kernel
theorem dl_305 : decode code 305 = .ok (.iload_n 3, 1) := by decide +kernel
theorem dl_306 : decode code 306 = .ok (.iconst 1, 1) := by decide +kernel
theorem dl_307 : decode code 307 = .ok (.iadd, 1) := by decide +kernel
theorem dl_308 : decode code 308 = .ok (.iaload, 1) := by decide +kernel
theorem dl_309 : decode code 309 = .ok (.aload_n 0, 1) := by decide +kernel
theorem dl_310 : decode code 310 = .ok (.iload_n 3, 1) := by decide +kernel
theorem dl_311 : decode code 311 = .ok (.iconst 2, 1) := by decide +kernel
theorem dl_312 : decode code 312 = .ok (.iadd, 1) := by decide +kernel
theorem dl_313 : decode code 313 = .ok (.iaload, 1) := by decide +kernel
theorem dl_314 : decode code 314 = .ok (.invokevirtual 21, 3) := by decide +kernel
theorem dl_317 : decode code 317 = .ok (.if_icmp .eq 1380, 3) := by decide +kernel
theorem dl_320 : decode code 320 = .ok (.iconst 0, 1) := by decide +kernel
theorem dl_321 : decode code 321 = .ok (.ireturn, 1) := by decide +kernel
theorem dl_322 : decode code 322 = .ok (.aload_n 1, 1) := by decide +kernel
theorem dl_323 : decode code 323 = .ok (.aload_n 0, 1) := by decide +kernel
theorem dl_324 : decode code 324 = .ok (.iload_n 3, 1) := by decide +kernel
theorem dl_325 : decode code 325 = .ok (.iconst 1, 1) := by decide +kernel
theorem dl_326 : decode code 326 = .ok (.iadd, 1) := by decide +kernel
theorem dl_327 : decode code 327 = .ok (.iaload, 1) := by decide +kernel
theorem dl_328 : decode code 328 = .ok (.aload_n 0, 1) := by decide +kernel
theorem dl_329 : decode code 329 = .ok (.iload_n 3, 1) := by decide +kernel
theorem dl_330 : decode code 330 = .ok (.iconst 2, 1) := by decide +kernel
theorem dl_331 : decode code 331 = .ok (.iadd, 1) := by decide +kernel
theorem dl_332 : decode code 332 = .ok (.iaload, 1) := by decide +kernel
theorem dl_333 : decode code 333 = .ok (.invokevirtual 22, 3) := by decide +kernel
theorem dl_336 : decode code 336 = .ok (.aload_n 2, 1) := by decide +kernel
theorem dl_337 : decode code 337 = .ok (.aload_n 0, 1) := by decide +kernel
theorem dl_338 : decode code 338 = .ok (.iload_n 3, 1) := by decide +kernel
theorem dl_339 : decode code 339 = .ok (.iconst 1, 1) := by decide +kernel
theorem dl_340 : decode code 340 = .ok (.iadd, 1) := by decide +kernel
theorem dl_341 : decode code 341 = .ok (.iaload, 1) := by decide +kernel
theorem dl_342 : decode code 342 = .ok (.aload_n 0, 1) := by decide +kernel
theorem dl_343 : decode code 343 = .ok (.iload_n 3, 1) := by decide +kernel
theorem dl_344 : decode code 344 = .ok (.iconst 2, 1) := by decide +kernel
theorem dl_345 : decode code 345 = .ok (.iadd, 1) := by decide +kernel
theorem dl_346 : decode code 346 = .ok (.iaload, 1) := by decide +kernel
theorem dl_347 : decode code 347 = .ok (.invokevirtual 25, 3) := by decide +kernel
theorem dl_350 : decode code 350 = .ok (.if_icmp .eq 1347, 3) := by decide +kernel
theorem dl_353 : decode code 353 = .ok (.iconst 0, 1) := by decide +kernel
theorem dl_354 : decode code 354 = .ok (.ireturn, 1) := by decide +kernel
theorem dl_355 : decode code 355 = .ok (.aload_n 1, 1) := by decide +kernel
theorem dl_356 : decode code 356 = .ok (.aload_n 0, 1) := by decide +kernel
theorem dl_357 : decode code 357 = .ok (.iload_n 3, 1) := by decide +kernel
theorem dl_358 : decode code 358 = .ok (.iconst 1, 1) := by decide +kernel
theorem dl_359 : decode code 359 = .ok (.iadd, 1) := by decide +kernel
theorem dl_360 : decode code 360 = .ok (.iaload, 1) := by decide +kernel
theorem dl_361 : decode code 361 = .ok (.aload_n 0, 1) := by decide +kernel
theorem dl_362 : decode code 362 = .ok (.iload_n 3, 1) := by decide +kernel
theorem dl_363 : decode code 363 = .ok (.iconst 2, 1) := by decide +kernel
theorem dl_364 : decode code 364 = .ok (.iadd, 1) := by decide +kernel
theorem dl_365 : decode code 365 = .ok (.iaload, 1) := by decide +kernel
theorem dl_366 : decode code 366 = .ok (.aload_n 0, 1) := by decide +kernel
theorem dl_367 : decode code 367 = .ok (.iload_n 3, 1) := by decide +kernel
theorem dl_368 : decode code 368 = .ok (.iconst 3, 1) := by decide +kernel
theorem dl_369 : decode code 369 = .ok (.iadd, 1) := by decide +kernel
theorem dl_370 : decode code 370 = .ok (.iaload, 1) := by decide +kernel
theorem dl_371 : decode code 371 = .ok (.invokevirtual 26, 3) := by decide +kernel
theorem dl_374 : decode code 374 = .ok (.aload_n 2, 1) := by decide +kernel
theorem dl_375 : decode code 375 = .ok (.aload_n 0, 1) := by decide +kernel
theorem dl_376 : decode code 376 = .ok (.iload_n 3, 1) := by decide +kernel
theorem dl_377 : decode code 377 = .ok (.iconst 1, 1) := by decide +kernel
theorem dl_378 : decode code 378 = .ok (.iadd, 1) := by decide +kernel
theorem dl_379 : decode code 379 = .ok (.iaload, 1) := by decide +kernel
theorem dl_380 : decode code 380 = .ok (.aload_n 0, 1) := by decide +kernel
theorem dl_381 : decode code 381 = .ok (.iload_n 3, 1) := by decide +kernel
theorem dl_382 : decode code 382 = .ok (.iconst 2, 1) := by decide +kernel
theorem dl_383 : decode code 383 = .ok (.iadd, 1) := by decide +kernel
theorem dl_384 : decode code 384 = .ok (.iaload, 1) := by decide +kernel
theorem dl_385 : decode code 385 = .ok (.aload_n 0, 1) := by decide +kernel
theorem dl_386 : decode code 386 = .ok (.iload_n 3, 1) := by decide +kernel
theorem dl_387 : decode code 387 = .ok (.iconst 3, 1) := by decide +kernel
theorem dl_388 : decode code 388 = .ok (.iadd, 1) := by decide +kernel
theorem dl_389 : decode code 389 = .ok (.iaload, 1) := by decide +kernel
theorem dl_390 : decode code 390 = .ok (.invokevirtual 30, 3) := by decide +kernel
theorem dl_393 : decode code 393 = .ok (.if_icmp .eq 1304, 3) := by decide +kernel
theorem dl_396 : decode code 396 = .ok (.iconst 0, 1) := by decide +kernel
theorem dl_397 : decode code 397 = .ok (.ireturn, 1) := by decide +kernel
theorem dl_398 : decode code 398 = .ok (.aload_n 1, 1) := by decide +kernel
theorem dl_399 : decode code 399 = .ok (.aload_n 0, 1) := by decide +kernel
theorem dl_400 : decode code 400 = .ok (.iload_n 3, 1) := by decide +kernel
theorem dl_401 : decode code 401 = .ok (.iconst 1, 1) := by decide +kernel
theorem dl_402 : decode code 402 = .ok (.iadd, 1) := by decide +kernel
theorem dl_403 : decode code 403 = .ok (.iaload, 1) := by decide +kernel
theorem dl_404 : decode code 404 = .ok (.invokevirtual 31, 3) := by decide +kernel
theorem dl_407 : decode code 407 = .ok (.aload_n 2, 1) := by decide +kernel
theorem dl_408 : decode code 408 = .ok (.aload_n 0, 1) := by decide +kernel
theorem dl_409 : decode code 409 = .ok (.iload_n 3, 1) := by decide +kernel
theorem dl_410 : decode code 410 = .ok (.iconst 1, 1) := by decide +kernel
theorem dl_411 : decode code 411 = .ok (.iadd, 1) := by decide +kernel
theorem dl_412 : decode code 412 = .ok (.iaload, 1) := by decide +kernel
theorem dl_413 : decode code 413 = .ok (.invokevirtual 35, 3) := by decide +kernel
theorem dl_416 : decode code 416 = .ok (.lcmp, 1) := by decide +kernel
theorem dl_417 : decode code 417 = .ok (.ifCond .eq 1280, 3) := by decide +kernel
theorem dl_420 : decode code 420 = .ok (.iconst 0, 1) := by decide +kernel
theorem dl_421 : decode code 421 = .ok (.ireturn, 1) := by decide +kernel
theorem dl_422 : decode code 422 = .ok (.aload_n 1, 1) := by decide +kernel
theorem dl_423 : decode code 423 = .ok (.aload_n 0, 1) := by decide +kernel
theorem dl_424 : decode code 424 = .ok (.iload_n 3, 1) := by decide +kernel
theorem dl_425 : decode code 425 = .ok (.iconst 1, 1) := by decide +kernel
theorem dl_426 : decode code 426 = .ok (.iadd, 1) := by decide +kernel
theorem dl_427 : decode code 427 = .ok (.iaload, 1) := by decide +kernel
theorem dl_428 : decode code 428 = .ok (.invokevirtual 36, 3) := by decide +kernel
theorem dl_431 : decode code 431 = .ok (.aload_n 2, 1) := by decide +kernel
theorem dl_432 : decode code 432 = .ok (.aload_n 0, 1) := by decide +kernel
theorem dl_433 : decode code 433 = .ok (.iload_n 3, 1) := by decide +kernel
theorem dl_434 : decode code 434 = .ok (.iconst 1, 1) := by decide +kernel
theorem dl_435 : decode code 435 = .ok (.iadd, 1) := by decide +kernel
theorem dl_436 : decode code 436 = .ok (.iaload, 1) := by decide +kernel
theorem dl_437 : decode code 437 = .ok (.invokevirtual 40, 3) := by decide +kernel
theorem dl_440 : decode code 440 = .ok (.if_icmp .eq 1257, 3) := by decide +kernel
theorem dl_443 : decode code 443 = .ok (.iconst 0, 1) := by decide +kernel
theorem dl_444 : decode code 444 = .ok (.ireturn, 1) := by decide +kernel
theorem dl_445 : decode code 445 = .ok (.aload_n 1, 1) := by decide +kernel
theorem dl_446 : decode code 446 = .ok (.invokevirtual 41, 3) := by decide +kernel
theorem dl_449 : decode code 449 = .ok (.aload_n 2, 1) := by decide +kernel
theorem dl_450 : decode code 450 = .ok (.invokevirtual 45, 3) := by decide +kernel
theorem dl_453 : decode code 453 = .ok (.if_icmp .eq 1244, 3) := by decide +kernel
theorem dl_456 : decode code 456 = .ok (.iconst 0, 1) := by decide +kernel
theorem dl_457 : decode code 457 = .ok (.ireturn, 1) := by decide +kernel
theorem dl_458 : decode code 458 = .ok (.aload_n 1, 1) := by decide +kernel
theorem dl_459 : decode code 459 = .ok (.aload_n 0, 1) := by decide +kernel
theorem dl_460 : decode code 460 = .ok (.iload_n 3, 1) := by decide +kernel
theorem dl_461 : decode code 461 = .ok (.iconst 1, 1) := by decide +kernel
theorem dl_462 : decode code 462 = .ok (.iadd, 1) := by decide +kernel
theorem dl_463 : decode code 463 = .ok (.iaload, 1) := by decide +kernel
theorem dl_464 : decode code 464 = .ok (.aload_n 0, 1) := by decide +kernel
theorem dl_465 : decode code 465 = .ok (.iload_n 3, 1) := by decide +kernel
theorem dl_466 : decode code 466 = .ok (.iconst 2, 1) := by decide +kernel
theorem dl_467 : decode code 467 = .ok (.iadd, 1) := by decide +kernel
theorem dl_468 : decode code 468 = .ok (.iaload, 1) := by decide +kernel
theorem dl_469 : decode code 469 = .ok (.invokevirtual 46, 3) := by decide +kernel
theorem dl_472 : decode code 472 = .ok (.aload_n 2, 1) := by decide +kernel
theorem dl_473 : decode code 473 = .ok (.aload_n 0, 1) := by decide +kernel
theorem dl_474 : decode code 474 = .ok (.iload_n 3, 1) := by decide +kernel
theorem dl_475 : decode code 475 = .ok (.iconst 1, 1) := by decide +kernel
theorem dl_476 : decode code 476 = .ok (.iadd, 1) := by decide +kernel
theorem dl_477 : decode code 477 = .ok (.iaload, 1) := by decide +kernel
theorem dl_478 : decode code 478 = .ok (.aload_n 0, 1) := by decide +kernel
theorem dl_479 : decode code 479 = .ok (.iload_n 3, 1) := by decide +kernel
theorem dl_480 : decode code 480 = .ok (.iconst 2, 1) := by decide +kernel
theorem dl_481 : decode code 481 = .ok (.iadd, 1) := by decide +kernel
theorem dl_482 : decode code 482 = .ok (.iaload, 1) := by decide +kernel
theorem dl_483 : decode code 483 = .ok (.invokevirtual 49, 3) := by decide +kernel
theorem dl_486 : decode code 486 = .ok (.if_icmp .eq 1211, 3) := by decide +kernel
theorem dl_489 : decode code 489 = .ok (.iconst 0, 1) := by decide +kernel
theorem dl_490 : decode code 490 = .ok (.ireturn, 1) := by decide +kernel
theorem dl_491 : decode code 491 = .ok (.aload_n 1, 1) := by decide +kernel
theorem dl_492 : decode code 492 = .ok (.aload_n 0, 1) := by decide +kernel
theorem dl_493 : decode code 493 = .ok (.iload_n 3, 1) := by decide +kernel
theorem dl_494 : decode code 494 = .ok (.iconst 1, 1) := by decide +kernel
theorem dl_495 : decode code 495 = .ok (.iadd, 1) := by decide +kernel
theorem dl_496 : decode code 496 = .ok (.iaload, 1) := by decide +kernel
theorem dl_497 : decode code 497 = .ok (.aload_n 0, 1) := by decide +kernel
theorem dl_498 : decode code 498 = .ok (.iload_n 3, 1) := by decide +kernel
theorem dl_499 : decode code 499 = .ok (.iconst 2, 1) := by decide +kernel
theorem dl_500 : decode code 500 = .ok (.iadd, 1) := by decide +kernel
theorem dl_501 : decode code 501 = .ok (.iaload, 1) := by decide +kernel
theorem dl_502 : decode code 502 = .ok (.invokevirtual 50, 3) := by decide +kernel
theorem dl_505 : decode code 505 = .ok (.aload_n 2, 1) := by decide +kernel
theorem dl_506 : decode code 506 = .ok (.aload_n 0, 1) := by decide +kernel
theorem dl_507 : decode code 507 = .ok (.iload_n 3, 1) := by decide +kernel
theorem dl_508 : decode code 508 = .ok (.iconst 1, 1) := by decide +kernel
theorem dl_509 : decode code 509 = .ok (.iadd, 1) := by decide +kernel
theorem dl_510 : decode code 510 = .ok (.iaload, 1) := by decide +kernel
theorem dl_511 : decode code 511 = .ok (.aload_n 0, 1) := by decide +kernel
theorem dl_512 : decode code 512 = .ok (.iload_n 3, 1) := by decide +kernel
theorem dl_513 : decode code 513 = .ok (.iconst 2, 1) := by decide +kernel
theorem dl_514 : decode code 514 = .ok (.iadd, 1) := by decide +kernel
theorem dl_515 : decode code 515 = .ok (.iaload, 1) := by decide +kernel
theorem dl_516 : decode code 516 = .ok (.invokevirtual 53, 3) := by decide +kernel
theorem dl_519 : decode code 519 = .ok (.if_icmp .eq 1178, 3) := by decide +kernel
theorem dl_522 : decode code 522 = .ok (.iconst 0, 1) := by decide +kernel
theorem dl_523 : decode code 523 = .ok (.ireturn, 1) := by decide +kernel
theorem dl_524 : decode code 524 = .ok (.aload_n 1, 1) := by decide +kernel
theorem dl_525 : decode code 525 = .ok (.aload_n 0, 1) := by decide +kernel
theorem dl_526 : decode code 526 = .ok (.iload_n 3, 1) := by decide +kernel
theorem dl_527 : decode code 527 = .ok (.iconst 1, 1) := by decide +kernel
theorem dl_528 : decode code 528 = .ok (.iadd, 1) := by decide +kernel
theorem dl_529 : decode code 529 = .ok (.iaload, 1) := by decide +kernel
theorem dl_530 : decode code 530 = .ok (.invokevirtual 54, 3) := by decide +kernel
theorem dl_533 : decode code 533 = .ok (.aload_n 2, 1) := by decide +kernel
theorem dl_534 : decode code 534 = .ok (.aload_n 0, 1) := by decide +kernel
theorem dl_535 : decode code 535 = .ok (.iload_n 3, 1) := by decide +kernel
theorem dl_536 : decode code 536 = .ok (.iconst 1, 1) := by decide +kernel
theorem dl_537 : decode code 537 = .ok (.iadd, 1) := by decide +kernel
theorem dl_538 : decode code 538 = .ok (.iaload, 1) := by decide +kernel
theorem dl_539 : decode code 539 = .ok (.invokevirtual 57, 3) := by decide +kernel
theorem dl_542 : decode code 542 = .ok (.lcmp, 1) := by decide +kernel
theorem dl_543 : decode code 543 = .ok (.ifCond .eq 1154, 3) := by decide +kernel
theorem dl_546 : decode code 546 = .ok (.iconst 0, 1) := by decide +kernel
theorem dl_547 : decode code 547 = .ok (.ireturn, 1) := by decide +kernel
theorem dl_548 : decode code 548 = .ok (.aload_n 1, 1) := by decide +kernel
theorem dl_549 : decode code 549 = .ok (.aload_n 0, 1) := by decide +kernel
theorem dl_550 : decode code 550 = .ok (.iload_n 3, 1) := by decide +kernel
theorem dl_551 : decode code 551 = .ok (.iconst 1, 1) := by decide +kernel
theorem dl_552 : decode code 552 = .ok (.iadd, 1) := by decide +kernel
theorem dl_553 : decode code 553 = .ok (.iaload, 1) := by decide +kernel
theorem dl_554 : decode code 554 = .ok (.invokevirtual 58, 3) := by decide +kernel
theorem dl_557 : decode code 557 = .ok (.aload_n 2, 1) := by decide +kernel
theorem dl_558 : decode code 558 = .ok (.aload_n 0, 1) := by decide +kernel
theorem dl_559 : decode code 559 = .ok (.iload_n 3, 1) := by decide +kernel
theorem dl_560 : decode code 560 = .ok (.iconst 1, 1) := by decide +kernel
theorem dl_561 : decode code 561 = .ok (.iadd, 1) := by decide +kernel
theorem dl_562 : decode code 562 = .ok (.iaload, 1) := by decide +kernel
theorem dl_563 : decode code 563 = .ok (.invokevirtual 61, 3) := by decide +kernel
theorem dl_566 : decode code 566 = .ok (.if_icmp .eq 1131, 3) := by decide +kernel
theorem dl_569 : decode code 569 = .ok (.iconst 0, 1) := by decide +kernel
theorem dl_570 : decode code 570 = .ok (.ireturn, 1) := by decide +kernel
theorem dl_571 : decode code 571 = .ok (.aload_n 1, 1) := by decide +kernel
theorem dl_572 : decode code 572 = .ok (.aload_n 0, 1) := by decide +kernel
theorem dl_573 : decode code 573 = .ok (.iload_n 3, 1) := by decide +kernel
theorem dl_574 : decode code 574 = .ok (.iconst 1, 1) := by decide +kernel
theorem dl_575 : decode code 575 = .ok (.iadd, 1) := by decide +kernel
theorem dl_576 : decode code 576 = .ok (.iaload, 1) := by decide +kernel
theorem dl_577 : decode code 577 = .ok (.aload_n 0, 1) := by decide +kernel
theorem dl_578 : decode code 578 = .ok (.iload_n 3, 1) := by decide +kernel
theorem dl_579 : decode code 579 = .ok (.iconst 2, 1) := by decide +kernel
theorem dl_580 : decode code 580 = .ok (.iadd, 1) := by decide +kernel
theorem dl_581 : decode code 581 = .ok (.iaload, 1) := by decide +kernel
theorem dl_582 : decode code 582 = .ok (.aload_n 0, 1) := by decide +kernel
theorem dl_583 : decode code 583 = .ok (.iload_n 3, 1) := by decide +kernel
theorem dl_584 : decode code 584 = .ok (.iconst 3, 1) := by decide +kernel
theorem dl_585 : decode code 585 = .ok (.iadd, 1) := by decide +kernel
theorem dl_586 : decode code 586 = .ok (.iaload, 1) := by decide +kernel
theorem dl_587 : decode code 587 = .ok (.invokevirtual 62, 3) := by decide +kernel
theorem dl_590 : decode code 590 = .ok (.aload_n 2, 1) := by decide +kernel
theorem dl_591 : decode code 591 = .ok (.aload_n 0, 1) := by decide +kernel
theorem dl_592 : decode code 592 = .ok (.iload_n 3, 1) := by decide +kernel
theorem dl_593 : decode code 593 = .ok (.iconst 1, 1) := by decide +kernel
theorem dl_594 : decode code 594 = .ok (.iadd, 1) := by decide +kernel
theorem dl_595 : decode code 595 = .ok (.iaload, 1) := by decide +kernel
theorem dl_596 : decode code 596 = .ok (.aload_n 0, 1) := by decide +kernel
theorem dl_597 : decode code 597 = .ok (.iload_n 3, 1) := by decide +kernel
theorem dl_598 : decode code 598 = .ok (.iconst 2, 1) := by decide +kernel
theorem dl_599 : decode code 599 = .ok (.iadd, 1) := by decide +kernel
theorem dl_600 : decode code 600 = .ok (.iaload, 1) := by decide +kernel
theorem dl_601 : decode code 601 = .ok (.aload_n 0, 1) := by decide +kernel
theorem dl_602 : decode code 602 = .ok (.iload_n 3, 1) := by decide +kernel
theorem dl_603 : decode code 603 = .ok (.iconst 3, 1) := by decide +kernel
theorem dl_604 : decode code 604 = .ok (.iadd, 1) := by decide +kernel
theorem dl_605 : decode code 605 = .ok (.iaload, 1) := by decide +kernel
theorem dl_606 : decode code 606 = .ok (.invokevirtual 65, 3) := by decide +kernel
theorem dl_609 : decode code 609 = .ok (.if_icmp .eq 1088, 3) := by decide +kernel
theorem dl_612 : decode code 612 = .ok (.iconst 0, 1) := by decide +kernel
theorem dl_613 : decode code 613 = .ok (.ireturn, 1) := by decide +kernel
theorem dl_614 : decode code 614 = .ok (.aload_n 1, 1) := by decide +kernel
theorem dl_615 : decode code 615 = .ok (.aload_n 0, 1) := by decide +kernel
theorem dl_616 : decode code 616 = .ok (.iload_n 3, 1) := by decide +kernel
theorem dl_617 : decode code 617 = .ok (.iconst 1, 1) := by decide +kernel
theorem dl_618 : decode code 618 = .ok (.iadd, 1) := by decide +kernel
theorem dl_619 : decode code 619 = .ok (.iaload, 1) := by decide +kernel
theorem dl_620 : decode code 620 = .ok (.aload_n 0, 1) := by decide +kernel
theorem dl_621 : decode code 621 = .ok (.iload_n 3, 1) := by decide +kernel
theorem dl_622 : decode code 622 = .ok (.iconst 2, 1) := by decide +kernel
theorem dl_623 : decode code 623 = .ok (.iadd, 1) := by decide +kernel
theorem dl_624 : decode code 624 = .ok (.iaload, 1) := by decide +kernel
theorem dl_625 : decode code 625 = .ok (.aload_n 0, 1) := by decide +kernel
theorem dl_626 : decode code 626 = .ok (.iload_n 3, 1) := by decide +kernel
theorem dl_627 : decode code 627 = .ok (.iconst 3, 1) := by decide +kernel
theorem dl_628 : decode code 628 = .ok (.iadd, 1) := by decide +kernel
theorem dl_629 : decode code 629 = .ok (.iaload, 1) := by decide +kernel
theorem dl_630 : decode code 630 = .ok (.invokevirtual 66, 3) := by decide +kernel
theorem dl_633 : decode code 633 = .ok (.aload_n 2, 1) := by decide +kernel
theorem dl_634 : decode code 634 = .ok (.aload_n 0, 1) := by decide +kernel
theorem dl_635 : decode code 635 = .ok (.iload_n 3, 1) := by decide +kernel
theorem dl_636 : decode code 636 = .ok (.iconst 1, 1) := by decide +kernel
theorem dl_637 : decode code 637 = .ok (.iadd, 1) := by decide +kernel
theorem dl_638 : decode code 638 = .ok (.iaload, 1) := by decide +kernel
theorem dl_639 : decode code 639 = .ok (.aload_n 0, 1) := by decide +kernel
theorem dl_640 : decode code 640 = .ok (.iload_n 3, 1) := by decide +kernel
theorem dl_641 : decode code 641 = .ok (.iconst 2, 1) := by decide +kernel
theorem dl_642 : decode code 642 = .ok (.iadd, 1) := by decide +kernel
theorem dl_643 : decode code 643 = .ok (.iaload, 1) := by decide +kernel
theorem dl_644 : decode code 644 = .ok (.aload_n 0, 1) := by decide +kernel
theorem dl_645 : decode code 645 = .ok (.iload_n 3, 1) := by decide +kernel
theorem dl_646 : decode code 646 = .ok (.iconst 3, 1) := by decide +kernel
theorem dl_647 : decode code 647 = .ok (.iadd, 1) := by decide +kernel
theorem dl_648 : decode code 648 = .ok (.iaload, 1) := by decide +kernel
theorem dl_649 : decode code 649 = .ok (.invokevirtual 69, 3) := by decide +kernel
theorem dl_652 : decode code 652 = .ok (.if_icmp .eq 1045, 3) := by decide +kernel
theorem dl_655 : decode code 655 = .ok (.iconst 0, 1) := by decide +kernel
theorem dl_656 : decode code 656 = .ok (.ireturn, 1) := by decide +kernel
theorem dl_657 : decode code 657 = .ok (.aload_n 1, 1) := by decide +kernel
theorem dl_658 : decode code 658 = .ok (.aload_n 0, 1) := by decide +kernel
theorem dl_659 : decode code 659 = .ok (.iload_n 3, 1) := by decide +kernel
theorem dl_660 : decode code 660 = .ok (.iconst 1, 1) := by decide +kernel
theorem dl_661 : decode code 661 = .ok (.iadd, 1) := by decide +kernel
theorem dl_662 : decode code 662 = .ok (.iaload, 1) := by decide +kernel
theorem dl_663 : decode code 663 = .ok (.aload_n 0, 1) := by decide +kernel
theorem dl_664 : decode code 664 = .ok (.iload_n 3, 1) := by decide +kernel
theorem dl_665 : decode code 665 = .ok (.iconst 2, 1) := by decide +kernel
theorem dl_666 : decode code 666 = .ok (.iadd, 1) := by decide +kernel
theorem dl_667 : decode code 667 = .ok (.iaload, 1) := by decide +kernel
theorem dl_668 : decode code 668 = .ok (.invokevirtual 70, 3) := by decide +kernel
theorem dl_671 : decode code 671 = .ok (.aload_n 2, 1) := by decide +kernel
theorem dl_672 : decode code 672 = .ok (.aload_n 0, 1) := by decide +kernel
theorem dl_673 : decode code 673 = .ok (.iload_n 3, 1) := by decide +kernel
theorem dl_674 : decode code 674 = .ok (.iconst 1, 1) := by decide +kernel
theorem dl_675 : decode code 675 = .ok (.iadd, 1) := by decide +kernel
theorem dl_676 : decode code 676 = .ok (.iaload, 1) := by decide +kernel
theorem dl_677 : decode code 677 = .ok (.aload_n 0, 1) := by decide +kernel
theorem dl_678 : decode code 678 = .ok (.iload_n 3, 1) := by decide +kernel
theorem dl_679 : decode code 679 = .ok (.iconst 2, 1) := by decide +kernel
theorem dl_680 : decode code 680 = .ok (.iadd, 1) := by decide +kernel
theorem dl_681 : decode code 681 = .ok (.iaload, 1) := by decide +kernel
theorem dl_682 : decode code 682 = .ok (.invokevirtual 73, 3) := by decide +kernel
theorem dl_685 : decode code 685 = .ok (.if_icmp .eq 1012, 3) := by decide +kernel
theorem dl_688 : decode code 688 = .ok (.iconst 0, 1) := by decide +kernel
theorem dl_689 : decode code 689 = .ok (.ireturn, 1) := by decide +kernel
theorem dl_690 : decode code 690 = .ok (.aload_n 1, 1) := by decide +kernel
theorem dl_691 : decode code 691 = .ok (.aload_n 0, 1) := by decide +kernel
theorem dl_692 : decode code 692 = .ok (.iload_n 3, 1) := by decide +kernel
theorem dl_693 : decode code 693 = .ok (.iconst 1, 1) := by decide +kernel
theorem dl_694 : decode code 694 = .ok (.iadd, 1) := by decide +kernel
theorem dl_695 : decode code 695 = .ok (.iaload, 1) := by decide +kernel
theorem dl_696 : decode code 696 = .ok (.invokevirtual 74, 3) := by decide +kernel
theorem dl_699 : decode code 699 = .ok (.aload_n 2, 1) := by decide +kernel
theorem dl_700 : decode code 700 = .ok (.aload_n 0, 1) := by decide +kernel
theorem dl_701 : decode code 701 = .ok (.iload_n 3, 1) := by decide +kernel
theorem dl_702 : decode code 702 = .ok (.iconst 1, 1) := by decide +kernel
theorem dl_703 : decode code 703 = .ok (.iadd, 1) := by decide +kernel
theorem dl_704 : decode code 704 = .ok (.iaload, 1) := by decide +kernel
theorem dl_705 : decode code 705 = .ok (.invokevirtual 77, 3) := by decide +kernel
theorem dl_708 : decode code 708 = .ok (.if_icmp .eq 989, 3) := by decide +kernel
theorem dl_711 : decode code 711 = .ok (.iconst 0, 1) := by decide +kernel
theorem dl_712 : decode code 712 = .ok (.ireturn, 1) := by decide +kernel
theorem dl_713 : decode code 713 = .ok (.aload_n 1, 1) := by decide +kernel
theorem dl_714 : decode code 714 = .ok (.invokevirtual 78, 3) := by decide +kernel
theorem dl_717 : decode code 717 = .ok (.aload_n 2, 1) := by decide +kernel
theorem dl_718 : decode code 718 = .ok (.invokevirtual 82, 3) := by decide +kernel
theorem dl_721 : decode code 721 = .ok (.lcmp, 1) := by decide +kernel
theorem dl_722 : decode code 722 = .ok (.ifCond .eq 975, 3) := by decide +kernel
theorem dl_725 : decode code 725 = .ok (.iconst 0, 1) := by decide +kernel
theorem dl_726 : decode code 726 = .ok (.ireturn, 1) := by decide +kernel
theorem dl_727 : decode code 727 = .ok (.aload_n 1, 1) := by decide +kernel
theorem dl_728 : decode code 728 = .ok (.aload_n 0, 1) := by decide +kernel
theorem dl_729 : decode code 729 = .ok (.iload_n 3, 1) := by decide +kernel
theorem dl_730 : decode code 730 = .ok (.iconst 1, 1) := by decide +kernel
theorem dl_731 : decode code 731 = .ok (.iadd, 1) := by decide +kernel
theorem dl_732 : decode code 732 = .ok (.iaload, 1) := by decide +kernel
theorem dl_733 : decode code 733 = .ok (.aload_n 0, 1) := by decide +kernel
theorem dl_734 : decode code 734 = .ok (.iload_n 3, 1) := by decide +kernel
theorem dl_735 : decode code 735 = .ok (.iconst 2, 1) := by decide +kernel
theorem dl_736 : decode code 736 = .ok (.iadd, 1) := by decide +kernel
theorem dl_737 : decode code 737 = .ok (.iaload, 1) := by decide +kernel
theorem dl_738 : decode code 738 = .ok (.aload_n 0, 1) := by decide +kernel
theorem dl_739 : decode code 739 = .ok (.iload_n 3, 1) := by decide +kernel
theorem dl_740 : decode code 740 = .ok (.iconst 3, 1) := by decide +kernel
theorem dl_741 : decode code 741 = .ok (.iadd, 1) := by decide +kernel
theorem dl_742 : decode code 742 = .ok (.iaload, 1) := by decide +kernel
theorem dl_743 : decode code 743 = .ok (.invokevirtual 83, 3) := by decide +kernel
theorem dl_746 : decode code 746 = .ok (.aload_n 2, 1) := by decide +kernel
theorem dl_747 : decode code 747 = .ok (.aload_n 0, 1) := by decide +kernel
theorem dl_748 : decode code 748 = .ok (.iload_n 3, 1) := by decide +kernel
theorem dl_749 : decode code 749 = .ok (.iconst 1, 1) := by decide +kernel
theorem dl_750 : decode code 750 = .ok (.iadd, 1) := by decide +kernel
theorem dl_751 : decode code 751 = .ok (.iaload, 1) := by decide +kernel
theorem dl_752 : decode code 752 = .ok (.aload_n 0, 1) := by decide +kernel
theorem dl_753 : decode code 753 = .ok (.iload_n 3, 1) := by decide +kernel
theorem dl_754 : decode code 754 = .ok (.iconst 2, 1) := by decide +kernel
theorem dl_755 : decode code 755 = .ok (.iadd, 1) := by decide +kernel
theorem dl_756 : decode code 756 = .ok (.iaload, 1) := by decide +kernel
theorem dl_757 : decode code 757 = .ok (.aload_n 0, 1) := by decide +kernel
theorem dl_758 : decode code 758 = .ok (.iload_n 3, 1) := by decide +kernel
theorem dl_759 : decode code 759 = .ok (.iconst 3, 1) := by decide +kernel
theorem dl_760 : decode code 760 = .ok (.iadd, 1) := by decide +kernel
theorem dl_761 : decode code 761 = .ok (.iaload, 1) := by decide +kernel
theorem dl_762 : decode code 762 = .ok (.invokevirtual 86, 3) := by decide +kernel
theorem dl_765 : decode code 765 = .ok (.if_icmp .eq 932, 3) := by decide +kernel
theorem dl_768 : decode code 768 = .ok (.iconst 0, 1) := by decide +kernel
theorem dl_769 : decode code 769 = .ok (.ireturn, 1) := by decide +kernel
theorem dl_770 : decode code 770 = .ok (.aload_n 1, 1) := by decide +kernel
theorem dl_771 : decode code 771 = .ok (.aload_n 0, 1) := by decide +kernel
theorem dl_772 : decode code 772 = .ok (.iload_n 3, 1) := by decide +kernel
theorem dl_773 : decode code 773 = .ok (.iconst 1, 1) := by decide +kernel
theorem dl_774 : decode code 774 = .ok (.iadd, 1) := by decide +kernel
theorem dl_775 : decode code 775 = .ok (.iaload, 1) := by decide +kernel
theorem dl_776 : decode code 776 = .ok (.aload_n 0, 1) := by decide +kernel
theorem dl_777 : decode code 777 = .ok (.iload_n 3, 1) := by decide +kernel
theorem dl_778 : decode code 778 = .ok (.iconst 2, 1) := by decide +kernel
theorem dl_779 : decode code 779 = .ok (.iadd, 1) := by decide +kernel
theorem dl_780 : decode code 780 = .ok (.iaload, 1) := by decide +kernel
theorem dl_781 : decode code 781 = .ok (.invokevirtual 87, 3) := by decide +kernel
theorem dl_784 : decode code 784 = .ok (.aload_n 2, 1) := by decide +kernel
theorem dl_785 : decode code 785 = .ok (.aload_n 0, 1) := by decide +kernel
theorem dl_786 : decode code 786 = .ok (.iload_n 3, 1) := by decide +kernel
theorem dl_787 : decode code 787 = .ok (.iconst 1, 1) := by decide +kernel
theorem dl_788 : decode code 788 = .ok (.iadd, 1) := by decide +kernel
theorem dl_789 : decode code 789 = .ok (.iaload, 1) := by decide +kernel
theorem dl_790 : decode code 790 = .ok (.aload_n 0, 1) := by decide +kernel
theorem dl_791 : decode code 791 = .ok (.iload_n 3, 1) := by decide +kernel
theorem dl_792 : decode code 792 = .ok (.iconst 2, 1) := by decide +kernel
theorem dl_793 : decode code 793 = .ok (.iadd, 1) := by decide +kernel
theorem dl_794 : decode code 794 = .ok (.iaload, 1) := by decide +kernel
theorem dl_795 : decode code 795 = .ok (.invokevirtual 90, 3) := by decide +kernel
theorem dl_798 : decode code 798 = .ok (.if_icmp .eq 899, 3) := by decide +kernel
theorem dl_801 : decode code 801 = .ok (.iconst 0, 1) := by decide +kernel
theorem dl_802 : decode code 802 = .ok (.ireturn, 1) := by decide +kernel
theorem dl_803 : decode code 803 = .ok (.aload_n 1, 1) := by decide +kernel
theorem dl_804 : decode code 804 = .ok (.aload_n 0, 1) := by decide +kernel
theorem dl_805 : decode code 805 = .ok (.iload_n 3, 1) := by decide +kernel
theorem dl_806 : decode code 806 = .ok (.iconst 1, 1) := by decide +kernel
theorem dl_807 : decode code 807 = .ok (.iadd, 1) := by decide +kernel
theorem dl_808 : decode code 808 = .ok (.iaload, 1) := by decide +kernel
theorem dl_809 : decode code 809 = .ok (.aload_n 0, 1) := by decide +kernel
theorem dl_810 : decode code 810 = .ok (.iload_n 3, 1) := by decide +kernel
theorem dl_811 : decode code 811 = .ok (.iconst 2, 1) := by decide +kernel
theorem dl_812 : decode code 812 = .ok (.iadd, 1) := by decide +kernel
theorem dl_813 : decode code 813 = .ok (.iaload, 1) := by decide +kernel
theorem dl_814 : decode code 814 = .ok (.aload_n 0, 1) := by decide +kernel
theorem dl_815 : decode code 815 = .ok (.iload_n 3, 1) := by decide +kernel
theorem dl_816 : decode code 816 = .ok (.iconst 3, 1) := by decide +kernel
theorem dl_817 : decode code 817 = .ok (.iadd, 1) := by decide +kernel
theorem dl_818 : decode code 818 = .ok (.iaload, 1) := by decide +kernel
theorem dl_819 : decode code 819 = .ok (.invokevirtual 91, 3) := by decide +kernel
theorem dl_822 : decode code 822 = .ok (.aload_n 2, 1) := by decide +kernel
theorem dl_823 : decode code 823 = .ok (.aload_n 0, 1) := by decide +kernel
theorem dl_824 : decode code 824 = .ok (.iload_n 3, 1) := by decide +kernel
theorem dl_825 : decode code 825 = .ok (.iconst 1, 1) := by decide +kernel
theorem dl_826 : decode code 826 = .ok (.iadd, 1) := by decide +kernel
theorem dl_827 : decode code 827 = .ok (.iaload, 1) := by decide +kernel
theorem dl_828 : decode code 828 = .ok (.aload_n 0, 1) := by decide +kernel
theorem dl_829 : decode code 829 = .ok (.iload_n 3, 1) := by decide +kernel
theorem dl_830 : decode code 830 = .ok (.iconst 2, 1) := by decide +kernel
theorem dl_831 : decode code 831 = .ok (.iadd, 1) := by decide +kernel
theorem dl_832 : decode code 832 = .ok (.iaload, 1) := by decide +kernel
theorem dl_833 : decode code 833 = .ok (.aload_n 0, 1) := by decide +kernel
theorem dl_834 : decode code 834 = .ok (.iload_n 3, 1) := by decide +kernel
theorem dl_835 : decode code 835 = .ok (.iconst 3, 1) := by decide +kernel
theorem dl_836 : decode code 836 = .ok (.iadd, 1) := by decide +kernel
theorem dl_837 : decode code 837 = .ok (.iaload, 1) := by decide +kernel
theorem dl_838 : decode code 838 = .ok (.invokevirtual 95, 3) := by decide +kernel
theorem dl_841 : decode code 841 = .ok (.lcmp, 1) := by decide +kernel
theorem dl_842 : decode code 842 = .ok (.ifCond .eq 855, 3) := by decide +kernel
theorem dl_845 : decode code 845 = .ok (.iconst 0, 1) := by decide +kernel
theorem dl_846 : decode code 846 = .ok (.ireturn, 1) := by decide +kernel
theorem dl_847 : decode code 847 = .ok (.aload_n 1, 1) := by decide +kernel
theorem dl_848 : decode code 848 = .ok (.invokevirtual 96, 3) := by decide +kernel
theorem dl_851 : decode code 851 = .ok (.aload_n 2, 1) := by decide +kernel
theorem dl_852 : decode code 852 = .ok (.invokevirtual 99, 3) := by decide +kernel
theorem dl_855 : decode code 855 = .ok (.if_icmp .eq 842, 3) := by decide +kernel
theorem dl_858 : decode code 858 = .ok (.iconst 0, 1) := by decide +kernel
theorem dl_859 : decode code 859 = .ok (.ireturn, 1) := by decide +kernel
theorem dl_860 : decode code 860 = .ok (.aload_n 1, 1) := by decide +kernel
theorem dl_861 : decode code 861 = .ok (.aload_n 0, 1) := by decide +kernel
theorem dl_862 : decode code 862 = .ok (.iload_n 3, 1) := by decide +kernel
theorem dl_863 : decode code 863 = .ok (.iconst 1, 1) := by decide +kernel
theorem dl_864 : decode code 864 = .ok (.iadd, 1) := by decide +kernel
theorem dl_865 : decode code 865 = .ok (.iaload, 1) := by decide +kernel
theorem dl_866 : decode code 866 = .ok (.invokevirtual 100, 3) := by decide +kernel
theorem dl_869 : decode code 869 = .ok (.aload_n 2, 1) := by decide +kernel
theorem dl_870 : decode code 870 = .ok (.aload_n 0, 1) := by decide +kernel
theorem dl_871 : decode code 871 = .ok (.iload_n 3, 1) := by decide +kernel
theorem dl_872 : decode code 872 = .ok (.iconst 1, 1) := by decide +kernel
theorem dl_873 : decode code 873 = .ok (.iadd, 1) := by decide +kernel
theorem dl_874 : decode code 874 = .ok (.iaload, 1) := by decide +kernel
theorem dl_875 : decode code 875 = .ok (.invokevirtual 103, 3) := by decide +kernel
theorem dl_878 : decode code 878 = .ok (.if_icmp .eq 819, 3) := by decide +kernel
theorem dl_881 : decode code 881 = .ok (.iconst 0, 1) := by decide +kernel
theorem dl_882 : decode code 882 = .ok (.ireturn, 1) := by decide +kernel
theorem dl_883 : decode code 883 = .ok (.aload_n 1, 1) := by decide +kernel
theorem dl_884 : decode code 884 = .ok (.aload_n 0, 1) := by decide +kernel
theorem dl_885 : decode code 885 = .ok (.iload_n 3, 1) := by decide +kernel
theorem dl_886 : decode code 886 = .ok (.iconst 1, 1) := by decide +kernel
theorem dl_887 : decode code 887 = .ok (.iadd, 1) := by decide +kernel
theorem dl_888 : decode code 888 = .ok (.iaload, 1) := by decide +kernel
theorem dl_889 : decode code 889 = .ok (.invokevirtual 104, 3) := by decide +kernel
theorem dl_892 : decode code 892 = .ok (.aload_n 2, 1) := by decide +kernel
theorem dl_893 : decode code 893 = .ok (.aload_n 0, 1) := by decide +kernel
theorem dl_894 : decode code 894 = .ok (.iload_n 3, 1) := by decide +kernel
theorem dl_895 : decode code 895 = .ok (.iconst 1, 1) := by decide +kernel
theorem dl_896 : decode code 896 = .ok (.iadd, 1) := by decide +kernel
theorem dl_897 : decode code 897 = .ok (.iaload, 1) := by decide +kernel
theorem dl_898 : decode code 898 = .ok (.invokevirtual 107, 3) := by decide +kernel
theorem dl_901 : decode code 901 = .ok (.if_icmp .eq 796, 3) := by decide +kernel
theorem dl_904 : decode code 904 = .ok (.iconst 0, 1) := by decide +kernel
theorem dl_905 : decode code 905 = .ok (.ireturn, 1) := by decide +kernel
theorem dl_906 : decode code 906 = .ok (.aload_n 1, 1) := by decide +kernel
theorem dl_907 : decode code 907 = .ok (.aload_n 0, 1) := by decide +kernel
theorem dl_908 : decode code 908 = .ok (.iload_n 3, 1) := by decide +kernel
theorem dl_909 : decode code 909 = .ok (.iconst 1, 1) := by decide +kernel
theorem dl_910 : decode code 910 = .ok (.iadd, 1) := by decide +kernel
theorem dl_911 : decode code 911 = .ok (.iaload, 1) := by decide +kernel
theorem dl_912 : decode code 912 = .ok (.aload_n 0, 1) := by decide +kernel
theorem dl_913 : decode code 913 = .ok (.iload_n 3, 1) := by decide +kernel
theorem dl_914 : decode code 914 = .ok (.iconst 2, 1) := by decide +kernel
theorem dl_915 : decode code 915 = .ok (.iadd, 1) := by decide +kernel
theorem dl_916 : decode code 916 = .ok (.iaload, 1) := by decide +kernel
theorem dl_917 : decode code 917 = .ok (.aload_n 0, 1) := by decide +kernel
theorem dl_918 : decode code 918 = .ok (.iload_n 3, 1) := by decide +kernel
theorem dl_919 : decode code 919 = .ok (.iconst 3, 1) := by decide +kernel
theorem dl_920 : decode code 920 = .ok (.iadd, 1) := by decide +kernel
theorem dl_921 : decode code 921 = .ok (.iaload, 1) := by decide +kernel
theorem dl_922 : decode code 922 = .ok (.invokevirtual 108, 3) := by decide +kernel
theorem dl_925 : decode code 925 = .ok (.aload_n 2, 1) := by decide +kernel
theorem dl_926 : decode code 926 = .ok (.aload_n 0, 1) := by decide +kernel
theorem dl_927 : decode code 927 = .ok (.iload_n 3, 1) := by decide +kernel
theorem dl_928 : decode code 928 = .ok (.iconst 1, 1) := by decide +kernel
theorem dl_929 : decode code 929 = .ok (.iadd, 1) := by decide +kernel
theorem dl_930 : decode code 930 = .ok (.iaload, 1) := by decide +kernel
theorem dl_931 : decode code 931 = .ok (.aload_n 0, 1) := by decide +kernel
theorem dl_932 : decode code 932 = .ok (.iload_n 3, 1) := by decide +kernel
theorem dl_933 : decode code 933 = .ok (.iconst 2, 1) := by decide +kernel
theorem dl_934 : decode code 934 = .ok (.iadd, 1) := by decide +kernel
theorem dl_935 : decode code 935 = .ok (.iaload, 1) := by decide +kernel
theorem dl_936 : decode code 936 = .ok (.aload_n 0, 1) := by decide +kernel
theorem dl_937 : decode code 937 = .ok (.iload_n 3, 1) := by decide +kernel
theorem dl_938 : decode code 938 = .ok (.iconst 3, 1) := by decide +kernel
theorem dl_939 : decode code 939 = .ok (.iadd, 1) := by decide +kernel
theorem dl_940 : decode code 940 = .ok (.iaload, 1) := by decide +kernel
theorem dl_941 : decode code 941 = .ok (.invokevirtual 111, 3) := by decide +kernel
theorem dl_944 : decode code 944 = .ok (.if_icmp .eq 753, 3) := by decide +kernel
theorem dl_947 : decode code 947 = .ok (.iconst 0, 1) := by decide +kernel
theorem dl_948 : decode code 948 = .ok (.ireturn, 1) := by decide +kernel
theorem dl_949 : decode code 949 = .ok (.aload_n 1, 1) := by decide +kernel
theorem dl_950 : decode code 950 = .ok (.invokevirtual 112, 3) := by decide +kernel
theorem dl_953 : decode code 953 = .ok (.aload_n 2, 1) := by decide +kernel
theorem dl_954 : decode code 954 = .ok (.invokevirtual 115, 3) := by decide +kernel
theorem dl_957 : decode code 957 = .ok (.if_icmp .eq 740, 3) := by decide +kernel
theorem dl_960 : decode code 960 = .ok (.iconst 0, 1) := by decide +kernel
theorem dl_961 : decode code 961 = .ok (.ireturn, 1) := by decide +kernel
theorem dl_962 : decode code 962 = .ok (.aload_n 1, 1) := by decide +kernel
theorem dl_963 : decode code 963 = .ok (.invokevirtual 116, 3) := by decide +kernel
theorem dl_966 : decode code 966 = .ok (.aload_n 2, 1) := by decide +kernel
theorem dl_967 : decode code 967 = .ok (.invokevirtual 119, 3) := by decide +kernel
theorem dl_970 : decode code 970 = .ok (.if_icmp .eq 727, 3) := by decide +kernel
theorem dl_973 : decode code 973 = .ok (.iconst 0, 1) := by decide +kernel
theorem dl_974 : decode code 974 = .ok (.ireturn, 1) := by decide +kernel
theorem dl_975 : decode code 975 = .ok (.aload_n 1, 1) := by decide +kernel
theorem dl_976 : decode code 976 = .ok (.invokevirtual 120, 3) := by decide +kernel
theorem dl_979 : decode code 979 = .ok (.aload_n 2, 1) := by decide +kernel
theorem dl_980 : decode code 980 = .ok (.invokevirtual 123, 3) := by decide +kernel
theorem dl_983 : decode code 983 = .ok (.if_icmp .eq 714, 3) := by decide +kernel
theorem dl_986 : decode code 986 = .ok (.iconst 0, 1) := by decide +kernel
theorem dl_987 : decode code 987 = .ok (.ireturn, 1) := by decide +kernel
theorem dl_988 : decode code 988 = .ok (.aload_n 1, 1) := by decide +kernel
theorem dl_989 : decode code 989 = .ok (.aload_n 0, 1) := by decide +kernel
theorem dl_990 : decode code 990 = .ok (.iload_n 3, 1) := by decide +kernel
theorem dl_991 : decode code 991 = .ok (.iconst 1, 1) := by decide +kernel
theorem dl_992 : decode code 992 = .ok (.iadd, 1) := by decide +kernel
theorem dl_993 : decode code 993 = .ok (.iaload, 1) := by decide +kernel
theorem dl_994 : decode code 994 = .ok (.invokevirtual 124, 3) := by decide +kernel
theorem dl_997 : decode code 997 = .ok (.aload_n 2, 1) := by decide +kernel
theorem dl_998 : decode code 998 = .ok (.aload_n 0, 1) := by decide +kernel
theorem dl_999 : decode code 999 = .ok (.iload_n 3, 1) := by decide +kernel
theorem dl_1000 : decode code 1000 = .ok (.iconst 1, 1) := by decide +kernel
theorem dl_1001 : decode code 1001 = .ok (.iadd, 1) := by decide +kernel
theorem dl_1002 : decode code 1002 = .ok (.iaload, 1) := by decide +kernel
theorem dl_1003 : decode code 1003 = .ok (.invokevirtual 127, 3) := by decide +kernel
theorem dl_1006 : decode code 1006 = .ok (.if_icmp .eq 691, 3) := by decide +kernel
theorem dl_1009 : decode code 1009 = .ok (.iconst 0, 1) := by decide +kernel
theorem dl_1010 : decode code 1010 = .ok (.ireturn, 1) := by decide +kernel
theorem dl_1011 : decode code 1011 = .ok (.aload_n 1, 1) := by decide +kernel
theorem dl_1012 : decode code 1012 = .ok (.aload_n 0, 1) := by decide +kernel
theorem dl_1013 : decode code 1013 = .ok (.iload_n 3, 1) := by decide +kernel
theorem dl_1014 : decode code 1014 = .ok (.iconst 1, 1) := by decide +kernel
theorem dl_1015 : decode code 1015 = .ok (.iadd, 1) := by decide +kernel
theorem dl_1016 : decode code 1016 = .ok (.iaload, 1) := by decide +kernel
theorem dl_1017 : decode code 1017 = .ok (.invokevirtual 128, 3) := by decide +kernel
theorem dl_1020 : decode code 1020 = .ok (.aload_n 2, 1) := by decide +kernel
theorem dl_1021 : decode code 1021 = .ok (.aload_n 0, 1) := by decide +kernel
theorem dl_1022 : decode code 1022 = .ok (.iload_n 3, 1) := by decide +kernel
theorem dl_1023 : decode code 1023 = .ok (.iconst 1, 1) := by decide +kernel
theorem dl_1024 : decode code 1024 = .ok (.iadd, 1) := by decide +kernel
theorem dl_1025 : decode code 1025 = .ok (.iaload, 1) := by decide +kernel
theorem dl_1026 : decode code 1026 = .ok (.invokevirtual 131, 3) := by decide +kernel
theorem dl_1029 : decode code 1029 = .ok (.if_icmp .eq 668, 3) := by decide +kernel
theorem dl_1032 : decode code 1032 = .ok (.iconst 0, 1) := by decide +kernel
theorem dl_1033 : decode code 1033 = .ok (.ireturn, 1) := by decide +kernel
theorem dl_1034 : decode code 1034 = .ok (.aload_n 1, 1) := by decide +kernel
theorem dl_1035 : decode code 1035 = .ok (.aload_n 0, 1) := by decide +kernel
theorem dl_1036 : decode code 1036 = .ok (.iload_n 3, 1) := by decide +kernel
theorem dl_1037 : decode code 1037 = .ok (.iconst 1, 1) := by decide +kernel
theorem dl_1038 : decode code 1038 = .ok (.iadd, 1) := by decide +kernel
theorem dl_1039 : decode code 1039 = .ok (.iaload, 1) := by decide +kernel
theorem dl_1040 : decode code 1040 = .ok (.invokevirtual 132, 3) := by decide +kernel
theorem dl_1043 : decode code 1043 = .ok (.aload_n 2, 1) := by decide +kernel
theorem dl_1044 : decode code 1044 = .ok (.aload_n 0, 1) := by decide +kernel
theorem dl_1045 : decode code 1045 = .ok (.iload_n 3, 1) := by decide +kernel
theorem dl_1046 : decode code 1046 = .ok (.iconst 1, 1) := by decide +kernel
theorem dl_1047 : decode code 1047 = .ok (.iadd, 1) := by decide +kernel
theorem dl_1048 : decode code 1048 = .ok (.iaload, 1) := by decide +kernel
theorem dl_1049 : decode code 1049 = .ok (.invokevirtual 135, 3) := by decide +kernel
theorem dl_1052 : decode code 1052 = .ok (.if_icmp .eq 645, 3) := by decide +kernel
theorem dl_1055 : decode code 1055 = .ok (.iconst 0, 1) := by decide +kernel
theorem dl_1056 : decode code 1056 = .ok (.ireturn, 1) := by decide +kernel
theorem dl_1057 : decode code 1057 = .ok (.aload_n 1, 1) := by decide +kernel
theorem dl_1058 : decode code 1058 = .ok (.aload_n 0, 1) := by decide +kernel
theorem dl_1059 : decode code 1059 = .ok (.iload_n 3, 1) := by decide +kernel
theorem dl_1060 : decode code 1060 = .ok (.iconst 1, 1) := by decide +kernel
theorem dl_1061 : decode code 1061 = .ok (.iadd, 1) := by decide +kernel
theorem dl_1062 : decode code 1062 = .ok (.iaload, 1) := by decide +kernel
theorem dl_1063 : decode code 1063 = .ok (.invokevirtual 136, 3) := by decide +kernel
theorem dl_1066 : decode code 1066 = .ok (.aload_n 2, 1) := by decide +kernel
theorem dl_1067 : decode code 1067 = .ok (.aload_n 0, 1) := by decide +kernel
theorem dl_1068 : decode code 1068 = .ok (.iload_n 3, 1) := by decide +kernel
theorem dl_1069 : decode code 1069 = .ok (.iconst 1, 1) := by decide +kernel
theorem dl_1070 : decode code 1070 = .ok (.iadd, 1) := by decide +kernel
theorem dl_1071 : decode code 1071 = .ok (.iaload, 1) := by decide +kernel
theorem dl_1072 : decode code 1072 = .ok (.invokevirtual 139, 3) := by decide +kernel
theorem dl_1075 : decode code 1075 = .ok (.if_icmp .eq 622, 3) := by decide +kernel
theorem dl_1078 : decode code 1078 = .ok (.iconst 0, 1) := by decide +kernel
theorem dl_1079 : decode code 1079 = .ok (.ireturn, 1) := by decide +kernel
theorem dl_1080 : decode code 1080 = .ok (.aload_n 1, 1) := by decide +kernel
theorem dl_1081 : decode code 1081 = .ok (.aload_n 0, 1) := by decide +kernel
theorem dl_1082 : decode code 1082 = .ok (.iload_n 3, 1) := by decide +kernel
theorem dl_1083 : decode code 1083 = .ok (.iconst 1, 1) := by decide +kernel
theorem dl_1084 : decode code 1084 = .ok (.iadd, 1) := by decide +kernel
theorem dl_1085 : decode code 1085 = .ok (.iaload, 1) := by decide +kernel
theorem dl_1086 : decode code 1086 = .ok (.aload_n 0, 1) := by decide +kernel
theorem dl_1087 : decode code 1087 = .ok (.iload_n 3, 1) := by decide +kernel
theorem dl_1088 : decode code 1088 = .ok (.iconst 2, 1) := by decide +kernel
theorem dl_1089 : decode code 1089 = .ok (.iadd, 1) := by decide +kernel
theorem dl_1090 : decode code 1090 = .ok (.iaload, 1) := by decide +kernel
theorem dl_1091 : decode code 1091 = .ok (.invokevirtual 140, 3) := by decide +kernel
theorem dl_1094 : decode code 1094 = .ok (.aload_n 2, 1) := by decide +kernel
theorem dl_1095 : decode code 1095 = .ok (.aload_n 0, 1) := by decide +kernel
theorem dl_1096 : decode code 1096 = .ok (.iload_n 3, 1) := by decide +kernel
theorem dl_1097 : decode code 1097 = .ok (.iconst 1, 1) := by decide +kernel
theorem dl_1098 : decode code 1098 = .ok (.iadd, 1) := by decide +kernel
theorem dl_1099 : decode code 1099 = .ok (.iaload, 1) := by decide +kernel
theorem dl_1100 : decode code 1100 = .ok (.aload_n 0, 1) := by decide +kernel
theorem dl_1101 : decode code 1101 = .ok (.iload_n 3, 1) := by decide +kernel
theorem dl_1102 : decode code 1102 = .ok (.iconst 2, 1) := by decide +kernel
theorem dl_1103 : decode code 1103 = .ok (.iadd, 1) := by decide +kernel
theorem dl_1104 : decode code 1104 = .ok (.iaload, 1) := by decide +kernel
theorem dl_1105 : decode code 1105 = .ok (.invokevirtual 143, 3) := by decide +kernel
theorem dl_1108 : decode code 1108 = .ok (.if_icmp .eq 589, 3) := by decide +kernel
theorem dl_1111 : decode code 1111 = .ok (.iconst 0, 1) := by decide +kernel
theorem dl_1112 : decode code 1112 = .ok (.ireturn, 1) := by decide +kernel
theorem dl_1113 : decode code 1113 = .ok (.aload_n 1, 1) := by decide +kernel
theorem dl_1114 : decode code 1114 = .ok (.aload_n 0, 1) := by decide +kernel
theorem dl_1115 : decode code 1115 = .ok (.iload_n 3, 1) := by decide +kernel
theorem dl_1116 : decode code 1116 = .ok (.iconst 1, 1) := by decide +kernel
theorem dl_1117 : decode code 1117 = .ok (.iadd, 1) := by decide +kernel
theorem dl_1118 : decode code 1118 = .ok (.iaload, 1) := by decide +kernel
theorem dl_1119 : decode code 1119 = .ok (.aload_n 0, 1) := by decide +kernel
theorem dl_1120 : decode code 1120 = .ok (.iload_n 3, 1) := by decide +kernel
theorem dl_1121 : decode code 1121 = .ok (.iconst 2, 1) := by decide +kernel
theorem dl_1122 : decode code 1122 = .ok (.iadd, 1) := by decide +kernel
theorem dl_1123 : decode code 1123 = .ok (.iaload, 1) := by decide +kernel
theorem dl_1124 : decode code 1124 = .ok (.invokevirtual 144, 3) := by decide +kernel
theorem dl_1127 : decode code 1127 = .ok (.aload_n 2, 1) := by decide +kernel
theorem dl_1128 : decode code 1128 = .ok (.aload_n 0, 1) := by decide +kernel
theorem dl_1129 : decode code 1129 = .ok (.iload_n 3, 1) := by decide +kernel
theorem dl_1130 : decode code 1130 = .ok (.iconst 1, 1) := by decide +kernel
theorem dl_1131 : decode code 1131 = .ok (.iadd, 1) := by decide +kernel
theorem dl_1132 : decode code 1132 = .ok (.iaload, 1) := by decide +kernel
theorem dl_1133 : decode code 1133 = .ok (.aload_n 0, 1) := by decide +kernel
theorem dl_1134 : decode code 1134 = .ok (.iload_n 3, 1) := by decide +kernel
theorem dl_1135 : decode code 1135 = .ok (.iconst 2, 1) := by decide +kernel
theorem dl_1136 : decode code 1136 = .ok (.iadd, 1) := by decide +kernel
theorem dl_1137 : decode code 1137 = .ok (.iaload, 1) := by decide +kernel
theorem dl_1138 : decode code 1138 = .ok (.invokevirtual 147, 3) := by decide +kernel
theorem dl_1141 : decode code 1141 = .ok (.if_icmp .eq 556, 3) := by decide +kernel
theorem dl_1144 : decode code 1144 = .ok (.iconst 0, 1) := by decide +kernel
theorem dl_1145 : decode code 1145 = .ok (.ireturn, 1) := by decide +kernel
theorem dl_1146 : decode code 1146 = .ok (.aload_n 1, 1) := by decide +kernel
theorem dl_1147 : decode code 1147 = .ok (.aload_n 0, 1) := by decide +kernel
theorem dl_1148 : decode code 1148 = .ok (.iload_n 3, 1) := by decide +kernel
theorem dl_1149 : decode code 1149 = .ok (.iconst 1, 1) := by decide +kernel
theorem dl_1150 : decode code 1150 = .ok (.iadd, 1) := by decide +kernel
theorem dl_1151 : decode code 1151 = .ok (.iaload, 1) := by decide +kernel
theorem dl_1152 : decode code 1152 = .ok (.invokevirtual 148, 3) := by decide +kernel
theorem dl_1155 : decode code 1155 = .ok (.aload_n 2, 1) := by decide +kernel
theorem dl_1156 : decode code 1156 = .ok (.aload_n 0, 1) := by decide +kernel
theorem dl_1157 : decode code 1157 = .ok (.iload_n 3, 1) := by decide +kernel
theorem dl_1158 : decode code 1158 = .ok (.iconst 1, 1) := by decide +kernel
theorem dl_1159 : decode code 1159 = .ok (.iadd, 1) := by decide +kernel
theorem dl_1160 : decode code 1160 = .ok (.iaload, 1) := by decide +kernel
theorem dl_1161 : decode code 1161 = .ok (.invokevirtual 151, 3) := by decide +kernel
theorem dl_1164 : decode code 1164 = .ok (.lcmp, 1) := by decide +kernel
theorem dl_1165 : decode code 1165 = .ok (.ifCond .eq 532, 3) := by decide +kernel
theorem dl_1168 : decode code 1168 = .ok (.iconst 0, 1) := by decide +kernel
theorem dl_1169 : decode code 1169 = .ok (.ireturn, 1) := by decide +kernel
theorem dl_1170 : decode code 1170 = .ok (.aload_n 1, 1) := by decide +kernel
theorem dl_1171 : decode code 1171 = .ok (.aload_n 0, 1) := by decide +kernel
theorem dl_1172 : decode code 1172 = .ok (.iload_n 3, 1) := by decide +kernel
theorem dl_1173 : decode code 1173 = .ok (.iconst 1, 1) := by decide +kernel
theorem dl_1174 : decode code 1174 = .ok (.iadd, 1) := by decide +kernel
theorem dl_1175 : decode code 1175 = .ok (.iaload, 1) := by decide +kernel
theorem dl_1176 : decode code 1176 = .ok (.invokevirtual 152, 3) := by decide +kernel
theorem dl_1179 : decode code 1179 = .ok (.aload_n 2, 1) := by decide +kernel
theorem dl_1180 : decode code 1180 = .ok (.aload_n 0, 1) := by decide +kernel
theorem dl_1181 : decode code 1181 = .ok (.iload_n 3, 1) := by decide +kernel
theorem dl_1182 : decode code 1182 = .ok (.iconst 1, 1) := by decide +kernel
theorem dl_1183 : decode code 1183 = .ok (.iadd, 1) := by decide +kernel
theorem dl_1184 : decode code 1184 = .ok (.iaload, 1) := by decide +kernel
theorem dl_1185 : decode code 1185 = .ok (.invokevirtual 155, 3) := by decide +kernel
theorem dl_1188 : decode code 1188 = .ok (.if_icmp .eq 509, 3) := by decide +kernel
theorem dl_1191 : decode code 1191 = .ok (.iconst 0, 1) := by decide +kernel
theorem dl_1192 : decode code 1192 = .ok (.ireturn, 1) := by decide +kernel
theorem dl_1193 : decode code 1193 = .ok (.aload_n 1, 1) := by decide +kernel
theorem dl_1194 : decode code 1194 = .ok (.aload_n 0, 1) := by decide +kernel
theorem dl_1195 : decode code 1195 = .ok (.iload_n 3, 1) := by decide +kernel
theorem dl_1196 : decode code 1196 = .ok (.iconst 1, 1) := by decide +kernel
theorem dl_1197 : decode code 1197 = .ok (.iadd, 1) := by decide +kernel
theorem dl_1198 : decode code 1198 = .ok (.iaload, 1) := by decide +kernel
theorem dl_1199 : decode code 1199 = .ok (.aload_n 0, 1) := by decide +kernel
theorem dl_1200 : decode code 1200 = .ok (.iload_n 3, 1) := by decide +kernel
theorem dl_1201 : decode code 1201 = .ok (.iconst 2, 1) := by decide +kernel
theorem dl_1202 : decode code 1202 = .ok (.iadd, 1) := by decide +kernel
theorem dl_1203 : decode code 1203 = .ok (.iaload, 1) := by decide +kernel
theorem dl_1204 : decode code 1204 = .ok (.invokevirtual 156, 3) := by decide +kernel
theorem dl_1207 : decode code 1207 = .ok (.aload_n 2, 1) := by decide +kernel
theorem dl_1208 : decode code 1208 = .ok (.aload_n 0, 1) := by decide +kernel
theorem dl_1209 : decode code 1209 = .ok (.iload_n 3, 1) := by decide +kernel
theorem dl_1210 : decode code 1210 = .ok (.iconst 1, 1) := by decide +kernel
theorem dl_1211 : decode code 1211 = .ok (.iadd, 1) := by decide +kernel
theorem dl_1212 : decode code 1212 = .ok (.iaload, 1) := by decide +kernel
theorem dl_1213 : decode code 1213 = .ok (.aload_n 0, 1) := by decide +kernel
theorem dl_1214 : decode code 1214 = .ok (.iload_n 3, 1) := by decide +kernel
theorem dl_1215 : decode code 1215 = .ok (.iconst 2, 1) := by decide +kernel
theorem dl_1216 : decode code 1216 = .ok (.iadd, 1) := by decide +kernel
theorem dl_1217 : decode code 1217 = .ok (.iaload, 1) := by decide +kernel
theorem dl_1218 : decode code 1218 = .ok (.invokevirtual 159, 3) := by decide +kernel
theorem dl_1221 : decode code 1221 = .ok (.if_icmp .eq 476, 3) := by decide +kernel
theorem dl_1224 : decode code 1224 = .ok (.iconst 0, 1) := by decide +kernel
theorem dl_1225 : decode code 1225 = .ok (.ireturn, 1) := by decide +kernel
theorem dl_1226 : decode code 1226 = .ok (.aload_n 1, 1) := by decide +kernel
theorem dl_1227 : decode code 1227 = .ok (.aload_n 0, 1) := by decide +kernel
theorem dl_1228 : decode code 1228 = .ok (.iload_n 3, 1) := by decide +kernel
theorem dl_1229 : decode code 1229 = .ok (.iconst 1, 1) := by decide +kernel
theorem dl_1230 : decode code 1230 = .ok (.iadd, 1) := by decide +kernel
theorem dl_1231 : decode code 1231 = .ok (.iaload, 1) := by decide +kernel
theorem dl_1232 : decode code 1232 = .ok (.aload_n 0, 1) := by decide +kernel
theorem dl_1233 : decode code 1233 = .ok (.iload_n 3, 1) := by decide +kernel
theorem dl_1234 : decode code 1234 = .ok (.iconst 2, 1) := by decide +kernel
theorem dl_1235 : decode code 1235 = .ok (.iadd, 1) := by decide +kernel
theorem dl_1236 : decode code 1236 = .ok (.iaload, 1) := by decide +kernel
theorem dl_1237 : decode code 1237 = .ok (.invokevirtual 160, 3) := by decide +kernel
theorem dl_1240 : decode code 1240 = .ok (.aload_n 2, 1) := by decide +kernel
theorem dl_1241 : decode code 1241 = .ok (.aload_n 0, 1) := by decide +kernel
theorem dl_1242 : decode code 1242 = .ok (.iload_n 3, 1) := by decide +kernel
theorem dl_1243 : decode code 1243 = .ok (.iconst 1, 1) := by decide +kernel
theorem dl_1244 : decode code 1244 = .ok (.iadd, 1) := by decide +kernel
theorem dl_1245 : decode code 1245 = .ok (.iaload, 1) := by decide +kernel
theorem dl_1246 : decode code 1246 = .ok (.aload_n 0, 1) := by decide +kernel
theorem dl_1247 : decode code 1247 = .ok (.iload_n 3, 1) := by decide +kernel
theorem dl_1248 : decode code 1248 = .ok (.iconst 2, 1) := by decide +kernel
theorem dl_1249 : decode code 1249 = .ok (.iadd, 1) := by decide +kernel
theorem dl_1250 : decode code 1250 = .ok (.iaload, 1) := by decide +kernel
theorem dl_1251 : decode code 1251 = .ok (.invokevirtual 163, 3) := by decide +kernel
theorem dl_1254 : decode code 1254 = .ok (.if_icmp .eq 443, 3) := by decide +kernel
theorem dl_1257 : decode code 1257 = .ok (.iconst 0, 1) := by decide +kernel
theorem dl_1258 : decode code 1258 = .ok (.ireturn, 1) := by decide +kernel
theorem dl_1259 : decode code 1259 = .ok (.aload_n 1, 1) := by decide +kernel
theorem dl_1260 : decode code 1260 = .ok (.aload_n 0, 1) := by decide +kernel
theorem dl_1261 : decode code 1261 = .ok (.iload_n 3, 1) := by decide +kernel
theorem dl_1262 : decode code 1262 = .ok (.iconst 1, 1) := by decide +kernel
theorem dl_1263 : decode code 1263 = .ok (.iadd, 1) := by decide +kernel
theorem dl_1264 : decode code 1264 = .ok (.iaload, 1) := by decide +kernel
theorem dl_1265 : decode code 1265 = .ok (.invokevirtual 164, 3) := by decide +kernel
theorem dl_1268 : decode code 1268 = .ok (.aload_n 2, 1) := by decide +kernel
theorem dl_1269 : decode code 1269 = .ok (.aload_n 0, 1) := by decide +kernel
theorem dl_1270 : decode code 1270 = .ok (.iload_n 3, 1) := by decide +kernel
theorem dl_1271 : decode code 1271 = .ok (.iconst 1, 1) := by decide +kernel
theorem dl_1272 : decode code 1272 = .ok (.iadd, 1) := by decide +kernel
theorem dl_1273 : decode code 1273 = .ok (.iaload, 1) := by decide +kernel
theorem dl_1274 : decode code 1274 = .ok (.invokevirtual 167, 3) := by decide +kernel
theorem dl_1277 : decode code 1277 = .ok (.if_icmp .eq 420, 3) := by decide +kernel
theorem dl_1280 : decode code 1280 = .ok (.iconst 0, 1) := by decide +kernel
theorem dl_1281 : decode code 1281 = .ok (.ireturn, 1) := by decide +kernel
theorem dl_1282 : decode code 1282 = .ok (.aload_n 1, 1) := by decide +kernel
theorem dl_1283 : decode code 1283 = .ok (.aload_n 0, 1) := by decide +kernel
theorem dl_1284 : decode code 1284 = .ok (.iload_n 3, 1) := by decide +kernel
theorem dl_1285 : decode code 1285 = .ok (.iconst 1, 1) := by decide +kernel
theorem dl_1286 : decode code 1286 = .ok (.iadd, 1) := by decide +kernel
theorem dl_1287 : decode code 1287 = .ok (.iaload, 1) := by decide +kernel
theorem dl_1288 : decode code 1288 = .ok (.aload_n 0, 1) := by decide +kernel
theorem dl_1289 : decode code 1289 = .ok (.iload_n 3, 1) := by decide +kernel
theorem dl_1290 : decode code 1290 = .ok (.iconst 2, 1) := by decide +kernel
theorem dl_1291 : decode code 1291 = .ok (.iadd, 1) := by decide +kernel
theorem dl_1292 : decode code 1292 = .ok (.iaload, 1) := by decide +kernel
theorem dl_1293 : decode code 1293 = .ok (.invokevirtual 168, 3) := by decide +kernel
theorem dl_1296 : decode code 1296 = .ok (.aload_n 2, 1) := by decide +kernel
theorem dl_1297 : decode code 1297 = .ok (.aload_n 0, 1) := by decide +kernel
theorem dl_1298 : decode code 1298 = .ok (.iload_n 3, 1) := by decide +kernel
theorem dl_1299 : decode code 1299 = .ok (.iconst 1, 1) := by decide +kernel
theorem dl_1300 : decode code 1300 = .ok (.iadd, 1) := by decide +kernel
theorem dl_1301 : decode code 1301 = .ok (.iaload, 1) := by decide +kernel
theorem dl_1302 : decode code 1302 = .ok (.aload_n 0, 1) := by decide +kernel
theorem dl_1303 : decode code 1303 = .ok (.iload_n 3, 1) := by decide +kernel
theorem dl_1304 : decode code 1304 = .ok (.iconst 2, 1) := by decide +kernel
theorem dl_1305 : decode code 1305 = .ok (.iadd, 1) := by decide +kernel
theorem dl_1306 : decode code 1306 = .ok (.iaload, 1) := by decide +kernel
theorem dl_1307 : decode code 1307 = .ok (.invokevirtual 171, 3) := by decide +kernel
theorem dl_1310 : decode code 1310 = .ok (.if_icmp .eq 387, 3) := by decide +kernel
theorem dl_1313 : decode code 1313 = .ok (.iconst 0, 1) := by decide +kernel
theorem dl_1314 : decode code 1314 = .ok (.ireturn, 1) := by decide +kernel
theorem dl_1315 : decode code 1315 = .ok (.aload_n 1, 1) := by decide +kernel
theorem dl_1316 : decode code 1316 = .ok (.invokevirtual 172, 3) := by decide +kernel
theorem dl_1319 : decode code 1319 = .ok (.aload_n 2, 1) := by decide +kernel
theorem dl_1320 : decode code 1320 = .ok (.invokevirtual 175, 3) := by decide +kernel
theorem dl_1323 : decode code 1323 = .ok (.if_icmp .eq 374, 3) := by decide +kernel
theorem dl_1326 : decode code 1326 = .ok (.iconst 0, 1) := by decide +kernel
theorem dl_1327 : decode code 1327 = .ok (.ireturn, 1) := by decide +kernel
theorem dl_1328 : decode code 1328 = .ok (.aload_n 1, 1) := by decide +kernel
theorem dl_1329 : decode code 1329 = .ok (.invokevirtual 176, 3) := by decide +kernel
theorem dl_1332 : decode code 1332 = .ok (.aload_n 2, 1) := by decide +kernel
theorem dl_1333 : decode code 1333 = .ok (.invokevirtual 179, 3) := by decide +kernel
theorem dl_1336 : decode code 1336 = .ok (.if_icmp .eq 361, 3) := by decide +kernel
theorem dl_1339 : decode code 1339 = .ok (.iconst 0, 1) := by decide +kernel
theorem dl_1340 : decode code 1340 = .ok (.ireturn, 1) := by decide +kernel
theorem dl_1341 : decode code 1341 = .ok (.aload_n 1, 1) := by decide +kernel
theorem dl_1342 : decode code 1342 = .ok (.aload_n 0, 1) := by decide +kernel
theorem dl_1343 : decode code 1343 = .ok (.iload_n 3, 1) := by decide +kernel
theorem dl_1344 : decode code 1344 = .ok (.iconst 1, 1) := by decide +kernel
theorem dl_1345 : decode code 1345 = .ok (.iadd, 1) := by decide +kernel
theorem dl_1346 : decode code 1346 = .ok (.iaload, 1) := by decide +kernel
theorem dl_1347 : decode code 1347 = .ok (.aload_n 0, 1) := by decide +kernel
theorem dl_1348 : decode code 1348 = .ok (.iload_n 3, 1) := by decide +kernel
theorem dl_1349 : decode code 1349 = .ok (.iconst 2, 1) := by decide +kernel
theorem dl_1350 : decode code 1350 = .ok (.iadd, 1) := by decide +kernel
theorem dl_1351 : decode code 1351 = .ok (.iaload, 1) := by decide +kernel
theorem dl_1352 : decode code 1352 = .ok (.invokevirtual 180, 3) := by decide +kernel
theorem dl_1355 : decode code 1355 = .ok (.aload_n 2, 1) := by decide +kernel
theorem dl_1356 : decode code 1356 = .ok (.aload_n 0, 1) := by decide +kernel
theorem dl_1357 : decode code 1357 = .ok (.iload_n 3, 1) := by decide +kernel
theorem dl_1358 : decode code 1358 = .ok (.iconst 1, 1) := by decide +kernel
theorem dl_1359 : decode code 1359 = .ok (.iadd, 1) := by decide +kernel
theorem dl_1360 : decode code 1360 = .ok (.iaload, 1) := by decide +kernel
theorem dl_1361 : decode code 1361 = .ok (.aload_n 0, 1) := by decide +kernel
theorem dl_1362 : decode code 1362 = .ok (.iload_n 3, 1) := by decide +kernel
theorem dl_1363 : decode code 1363 = .ok (.iconst 2, 1) := by decide +kernel
theorem dl_1364 : decode code 1364 = .ok (.iadd, 1) := by decide +kernel
theorem dl_1365 : decode code 1365 = .ok (.iaload, 1) := by decide +kernel
theorem dl_1366 : decode code 1366 = .ok (.invokevirtual 183, 3) := by decide +kernel
theorem dl_1369 : decode code 1369 = .ok (.if_icmp .eq 328, 3) := by decide +kernel
theorem dl_1372 : decode code 1372 = .ok (.iconst 0, 1) := by decide +kernel
theorem dl_1373 : decode code 1373 = .ok (.ireturn, 1) := by decide +kernel
theorem dl_1374 : decode code 1374 = .ok (.aload_n 1, 1) := by decide +kernel
theorem dl_1375 : decode code 1375 = .ok (.aload_n 0, 1) := by decide +kernel
theorem dl_1376 : decode code 1376 = .ok (.iload_n 3, 1) := by decide +kernel
theorem dl_1377 : decode code 1377 = .ok (.iconst 1, 1) := by decide +kernel
theorem dl_1378 : decode code 1378 = .ok (.iadd, 1) := by decide +kernel
theorem dl_1379 : decode code 1379 = .ok (.iaload, 1) := by decide +kernel
theorem dl_1380 : decode code 1380 = .ok (.aload_n 0, 1) := by decide +kernel
theorem dl_1381 : decode code 1381 = .ok (.iload_n 3, 1) := by decide +kernel
theorem dl_1382 : decode code 1382 = .ok (.iconst 2, 1) := by decide +kernel
theorem dl_1383 : decode code 1383 = .ok (.iadd, 1) := by decide +kernel
theorem dl_1384 : decode code 1384 = .ok (.iaload, 1) := by decide +kernel
theorem dl_1385 : decode code 1385 = .ok (.invokevirtual 184, 3) := by decide +kernel
theorem dl_1388 : decode code 1388 = .ok (.aload_n 2, 1) := by decide +kernel
theorem dl_1389 : decode code 1389 = .ok (.aload_n 0, 1) := by decide +kernel
theorem dl_1390 : decode code 1390 = .ok (.iload_n 3, 1) := by decide +kernel
theorem dl_1391 : decode code 1391 = .ok (.iconst 1, 1) := by decide +kernel
theorem dl_1392 : decode code 1392 = .ok (.iadd, 1) := by decide +kernel
theorem dl_1393 : decode code 1393 = .ok (.iaload, 1) := by decide +kernel
theorem dl_1394 : decode code 1394 = .ok (.aload_n 0, 1) := by decide +kernel
theorem dl_1395 : decode code 1395 = .ok (.iload_n 3, 1) := by decide +kernel
theorem dl_1396 : decode code 1396 = .ok (.iconst 2, 1) := by decide +kernel
theorem dl_1397 : decode code 1397 = .ok (.iadd, 1) := by decide +kernel
theorem dl_1398 : decode code 1398 = .ok (.iaload, 1) := by decide +kernel
theorem dl_1399 : decode code 1399 = .ok (.invokevirtual 187, 3) := by decide +kernel
theorem dl_1402 : decode code 1402 = .ok (.if_icmp .eq 295, 3) := by decide +kernel
theorem dl_1405 : decode code 1405 = .ok (.iconst 0, 1) := by decide +kernel
theorem dl_1406 : decode code 1406 = .ok (.ireturn, 1) := by decide +kernel
theorem dl_1407 : decode code 1407 = .ok (.aload_n 1, 1) := by decide +kernel
theorem dl_1408 : decode code 1408 = .ok (.aload_n 0, 1) := by decide +kernel
theorem dl_1409 : decode code 1409 = .ok (.iload_n 3, 1) := by decide +kernel
theorem dl_1410 : decode code 1410 = .ok (.iconst 1, 1) := by decide +kernel
theorem dl_1411 : decode code 1411 = .ok (.iadd, 1) := by decide +kernel
theorem dl_1412 : decode code 1412 = .ok (.iaload, 1) := by decide +kernel
theorem dl_1413 : decode code 1413 = .ok (.aload_n 0, 1) := by decide +kernel
theorem dl_1414 : decode code 1414 = .ok (.iload_n 3, 1) := by decide +kernel
theorem dl_1415 : decode code 1415 = .ok (.iconst 2, 1) := by decide +kernel
theorem dl_1416 : decode code 1416 = .ok (.iadd, 1) := by decide +kernel
theorem dl_1417 : decode code 1417 = .ok (.iaload, 1) := by decide +kernel
theorem dl_1418 : decode code 1418 = .ok (.aload_n 0, 1) := by decide +kernel
theorem dl_1419 : decode code 1419 = .ok (.iload_n 3, 1) := by decide +kernel
theorem dl_1420 : decode code 1420 = .ok (.iconst 3, 1) := by decide +kernel
theorem dl_1421 : decode code 1421 = .ok (.iadd, 1) := by decide +kernel
theorem dl_1422 : decode code 1422 = .ok (.iaload, 1) := by decide +kernel
theorem dl_1423 : decode code 1423 = .ok (.invokevirtual 188, 3) := by decide +kernel
theorem dl_1426 : decode code 1426 = .ok (.aload_n 2, 1) := by decide +kernel
theorem dl_1427 : decode code 1427 = .ok (.aload_n 0, 1) := by decide +kernel
theorem dl_1428 : decode code 1428 = .ok (.iload_n 3, 1) := by decide +kernel
theorem dl_1429 : decode code 1429 = .ok (.iconst 1, 1) := by decide +kernel
theorem dl_1430 : decode code 1430 = .ok (.iadd, 1) := by decide +kernel
theorem dl_1431 : decode code 1431 = .ok (.iaload, 1) := by decide +kernel
theorem dl_1432 : decode code 1432 = .ok (.aload_n 0, 1) := by decide +kernel
theorem dl_1433 : decode code 1433 = .ok (.iload_n 3, 1) := by decide +kernel
theorem dl_1434 : decode code 1434 = .ok (.iconst 2, 1) := by decide +kernel
theorem dl_1435 : decode code 1435 = .ok (.iadd, 1) := by decide +kernel
theorem dl_1436 : decode code 1436 = .ok (.iaload, 1) := by decide +kernel
theorem dl_1437 : decode code 1437 = .ok (.aload_n 0, 1) := by decide +kernel
theorem dl_1438 : decode code 1438 = .ok (.iload_n 3, 1) := by decide +kernel
theorem dl_1439 : decode code 1439 = .ok (.iconst 3, 1) := by decide +kernel
theorem dl_1440 : decode code 1440 = .ok (.iadd, 1) := by decide +kernel
theorem dl_1441 : decode code 1441 = .ok (.iaload, 1) := by decide +kernel
theorem dl_1442 : decode code 1442 = .ok (.invokevirtual 191, 3) := by decide +kernel
theorem dl_1445 : decode code 1445 = .ok (.if_icmp .eq 252, 3) := by decide +kernel
theorem dl_1448 : decode code 1448 = .ok (.iconst 0, 1) := by decide +kernel
theorem dl_1449 : decode code 1449 = .ok (.ireturn, 1) := by decide +kernel
theorem dl_1450 : decode code 1450 = .ok (.aload_n 1, 1) := by decide +kernel
theorem dl_1451 : decode code 1451 = .ok (.aload_n 0, 1) := by decide +kernel
theorem dl_1452 : decode code 1452 = .ok (.iload_n 3, 1) := by decide +kernel
theorem dl_1453 : decode code 1453 = .ok (.iconst 1, 1) := by decide +kernel
theorem dl_1454 : decode code 1454 = .ok (.iadd, 1) := by decide +kernel
theorem dl_1455 : decode code 1455 = .ok (.iaload, 1) := by decide +kernel
theorem dl_1456 : decode code 1456 = .ok (.aload_n 0, 1) := by decide +kernel
theorem dl_1457 : decode code 1457 = .ok (.iload_n 3, 1) := by decide +kernel
theorem dl_1458 : decode code 1458 = .ok (.iconst 2, 1) := by decide +kernel
theorem dl_1459 : decode code 1459 = .ok (.iadd, 1) := by decide +kernel
theorem dl_1460 : decode code 1460 = .ok (.iaload, 1) := by decide +kernel
theorem dl_1461 : decode code 1461 = .ok (.aload_n 0, 1) := by decide +kernel
theorem dl_1462 : decode code 1462 = .ok (.iload_n 3, 1) := by decide +kernel
theorem dl_1463 : decode code 1463 = .ok (.iconst 3, 1) := by decide +kernel
theorem dl_1464 : decode code 1464 = .ok (.iadd, 1) := by decide +kernel
theorem dl_1465 : decode code 1465 = .ok (.iaload, 1) := by decide +kernel
theorem dl_1466 : decode code 1466 = .ok (.invokevirtual 192, 3) := by decide +kernel
theorem dl_1469 : decode code 1469 = .ok (.aload_n 2, 1) := by decide +kernel
theorem dl_1470 : decode code 1470 = .ok (.aload_n 0, 1) := by decide +kernel
theorem dl_1471 : decode code 1471 = .ok (.iload_n 3, 1) := by decide +kernel
theorem dl_1472 : decode code 1472 = .ok (.iconst 1, 1) := by decide +kernel
theorem dl_1473 : decode code 1473 = .ok (.iadd, 1) := by decide +kernel
theorem dl_1474 : decode code 1474 = .ok (.iaload, 1) := by decide +kernel
theorem dl_1475 : decode code 1475 = .ok (.aload_n 0, 1) := by decide +kernel
theorem dl_1476 : decode code 1476 = .ok (.iload_n 3, 1) := by decide +kernel
theorem dl_1477 : decode code 1477 = .ok (.iconst 2, 1) := by decide +kernel
theorem dl_1478 : decode code 1478 = .ok (.iadd, 1) := by decide +kernel
theorem dl_1479 : decode code 1479 = .ok (.iaload, 1) := by decide +kernel
theorem dl_1480 : decode code 1480 = .ok (.aload_n 0, 1) := by decide +kernel
theorem dl_1481 : decode code 1481 = .ok (.iload_n 3, 1) := by decide +kernel
theorem dl_1482 : decode code 1482 = .ok (.iconst 3, 1) := by decide +kernel
theorem dl_1483 : decode code 1483 = .ok (.iadd, 1) := by decide +kernel
theorem dl_1484 : decode code 1484 = .ok (.iaload, 1) := by decide +kernel
theorem dl_1485 : decode code 1485 = .ok (.invokevirtual 195, 3) := by decide +kernel
theorem dl_1488 : decode code 1488 = .ok (.if_icmp .eq 209, 3) := by decide +kernel
theorem dl_1491 : decode code 1491 = .ok (.iconst 0, 1) := by decide +kernel
theorem dl_1492 : decode code 1492 = .ok (.ireturn, 1) := by decide +kernel
theorem dl_1493 : decode code 1493 = .ok (.aload_n 1, 1) := by decide +kernel
theorem dl_1494 : decode code 1494 = .ok (.aload_n 0, 1) := by decide +kernel
theorem dl_1495 : decode code 1495 = .ok (.iload_n 3, 1) := by decide +kernel
theorem dl_1496 : decode code 1496 = .ok (.iconst 1, 1) := by decide +kernel
theorem dl_1497 : decode code 1497 = .ok (.iadd, 1) := by decide +kernel
theorem dl_1498 : decode code 1498 = .ok (.iaload, 1) := by decide +kernel
theorem dl_1499 : decode code 1499 = .ok (.aload_n 0, 1) := by decide +kernel
theorem dl_1500 : decode code 1500 = .ok (.iload_n 3, 1) := by decide +kernel
theorem dl_1501 : decode code 1501 = .ok (.iconst 2, 1) := by decide +kernel
theorem dl_1502 : decode code 1502 = .ok (.iadd, 1) := by decide +kernel
theorem dl_1503 : decode code 1503 = .ok (.iaload, 1) := by decide +kernel
theorem dl_1504 : decode code 1504 = .ok (.aload_n 0, 1) := by decide +kernel
theorem dl_1505 : decode code 1505 = .ok (.iload_n 3, 1) := by decide +kernel
theorem dl_1506 : decode code 1506 = .ok (.iconst 3, 1) := by decide +kernel
theorem dl_1507 : decode code 1507 = .ok (.iadd, 1) := by decide +kernel
theorem dl_1508 : decode code 1508 = .ok (.iaload, 1) := by decide +kernel
theorem dl_1509 : decode code 1509 = .ok (.aload_n 0, 1) := by decide +kernel
theorem dl_1510 : decode code 1510 = .ok (.iload_n 3, 1) := by decide +kernel
theorem dl_1511 : decode code 1511 = .ok (.iconst 4, 1) := by decide +kernel
theorem dl_1512 : decode code 1512 = .ok (.iadd, 1) := by decide +kernel
theorem dl_1513 : decode code 1513 = .ok (.iaload, 1) := by decide +kernel
theorem dl_1514 : decode code 1514 = .ok (.aload_n 0, 1) := by decide +kernel
theorem dl_1515 : decode code 1515 = .ok (.iload_n 3, 1) := by decide +kernel
theorem dl_1516 : decode code 1516 = .ok (.iconst 5, 1) := by decide +kernel
theorem dl_1517 : decode code 1517 = .ok (.iadd, 1) := by decide +kernel
theorem dl_1518 : decode code 1518 = .ok (.iaload, 1) := by decide +kernel
theorem dl_1519 : decode code 1519 = .ok (.invokevirtual 196, 3) := by decide +kernel
theorem dl_1522 : decode code 1522 = .ok (.aload_n 2, 1) := by decide +kernel
theorem dl_1523 : decode code 1523 = .ok (.aload_n 0, 1) := by decide +kernel
theorem dl_1524 : decode code 1524 = .ok (.iload_n 3, 1) := by decide +kernel
theorem dl_1525 : decode code 1525 = .ok (.iconst 1, 1) := by decide +kernel
theorem dl_1526 : decode code 1526 = .ok (.iadd, 1) := by decide +kernel
theorem dl_1527 : decode code 1527 = .ok (.iaload, 1) := by decide +kernel
theorem dl_1528 : decode code 1528 = .ok (.aload_n 0, 1) := by decide +kernel
theorem dl_1529 : decode code 1529 = .ok (.iload_n 3, 1) := by decide +kernel
theorem dl_1530 : decode code 1530 = .ok (.iconst 2, 1) := by decide +kernel
theorem dl_1531 : decode code 1531 = .ok (.iadd, 1) := by decide +kernel
theorem dl_1532 : decode code 1532 = .ok (.iaload, 1) := by decide +kernel
theorem dl_1533 : decode code 1533 = .ok (.aload_n 0, 1) := by decide +kernel
theorem dl_1534 : decode code 1534 = .ok (.iload_n 3, 1) := by decide +kernel
theorem dl_1535 : decode code 1535 = .ok (.iconst 3, 1) := by decide +kernel
theorem dl_1536 : decode code 1536 = .ok (.iadd, 1) := by decide +kernel
theorem dl_1537 : decode code 1537 = .ok (.iaload, 1) := by decide +kernel
theorem dl_1538 : decode code 1538 = .ok (.aload_n 0, 1) := by decide +kernel
theorem dl_1539 : decode code 1539 = .ok (.iload_n 3, 1) := by decide +kernel
theorem dl_1540 : decode code 1540 = .ok (.iconst 4, 1) := by decide +kernel
theorem dl_1541 : decode code 1541 = .ok (.iadd, 1) := by decide +kernel
theorem dl_1542 : decode code 1542 = .ok (.iaload, 1) := by decide +kernel
theorem dl_1543 : decode code 1543 = .ok (.aload_n 0, 1) := by decide +kernel
theorem dl_1544 : decode code 1544 = .ok (.iload_n 3, 1) := by decide +kernel
theorem dl_1545 : decode code 1545 = .ok (.iconst 5, 1) := by decide +kernel
theorem dl_1546 : decode code 1546 = .ok (.iadd, 1) := by decide +kernel
theorem dl_1547 : decode code 1547 = .ok (.iaload, 1) := by decide +kernel
theorem dl_1548 : decode code 1548 = .ok (.invokevirtual 200, 3) := by decide +kernel
theorem dl_1551 : decode code 1551 = .ok (.if_icmp .eq 146, 3) := by decide +kernel
theorem dl_1554 : decode code 1554 = .ok (.iconst 0, 1) := by decide +kernel
theorem dl_1555 : decode code 1555 = .ok (.ireturn, 1) := by decide +kernel
theorem dl_1556 : decode code 1556 = .ok (.aload_n 1, 1) := by decide +kernel
theorem dl_1557 : decode code 1557 = .ok (.aload_n 0, 1) := by decide +kernel
theorem dl_1558 : decode code 1558 = .ok (.iload_n 3, 1) := by decide +kernel
theorem dl_1559 : decode code 1559 = .ok (.iconst 1, 1) := by decide +kernel
theorem dl_1560 : decode code 1560 = .ok (.iadd, 1) := by decide +kernel
theorem dl_1561 : decode code 1561 = .ok (.iaload, 1) := by decide +kernel
theorem dl_1562 : decode code 1562 = .ok (.invokevirtual 201, 3) := by decide +kernel
theorem dl_1565 : decode code 1565 = .ok (.aload_n 2, 1) := by decide +kernel
theorem dl_1566 : decode code 1566 = .ok (.aload_n 0, 1) := by decide +kernel
theorem dl_1567 : decode code 1567 = .ok (.iload_n 3, 1) := by decide +kernel
theorem dl_1568 : decode code 1568 = .ok (.iconst 1, 1) := by decide +kernel
theorem dl_1569 : decode code 1569 = .ok (.iadd, 1) := by decide +kernel
theorem dl_1570 : decode code 1570 = .ok (.iaload, 1) := by decide +kernel
theorem dl_1571 : decode code 1571 = .ok (.invokevirtual 204, 3) := by decide +kernel
theorem dl_1574 : decode code 1574 = .ok (.if_icmp .eq 123, 3) := by decide +kernel
theorem dl_1577 : decode code 1577 = .ok (.iconst 0, 1) := by decide +kernel
theorem dl_1578 : decode code 1578 = .ok (.ireturn, 1) := by decide +kernel
theorem dl_1579 : decode code 1579 = .ok (.aload_n 1, 1) := by decide +kernel
theorem dl_1580 : decode code 1580 = .ok (.aload_n 0, 1) := by decide +kernel
theorem dl_1581 : decode code 1581 = .ok (.iload_n 3, 1) := by decide +kernel
theorem dl_1582 : decode code 1582 = .ok (.iconst 1, 1) := by decide +kernel
theorem dl_1583 : decode code 1583 = .ok (.iadd, 1) := by decide +kernel
theorem dl_1584 : decode code 1584 = .ok (.iaload, 1) := by decide +kernel
theorem dl_1585 : decode code 1585 = .ok (.aload_n 0, 1) := by decide +kernel
theorem dl_1586 : decode code 1586 = .ok (.iload_n 3, 1) := by decide +kernel
theorem dl_1587 : decode code 1587 = .ok (.iconst 2, 1) := by decide +kernel
theorem dl_1588 : decode code 1588 = .ok (.iadd, 1) := by decide +kernel
theorem dl_1589 : decode code 1589 = .ok (.iaload, 1) := by decide +kernel
theorem dl_1590 : decode code 1590 = .ok (.invokevirtual 205, 3) := by decide +kernel
theorem dl_1593 : decode code 1593 = .ok (.aload_n 2, 1) := by decide +kernel
theorem dl_1594 : decode code 1594 = .ok (.aload_n 0, 1) := by decide +kernel
theorem dl_1595 : decode code 1595 = .ok (.iload_n 3, 1) := by decide +kernel
theorem dl_1596 : decode code 1596 = .ok (.iconst 1, 1) := by decide +kernel
theorem dl_1597 : decode code 1597 = .ok (.iadd, 1) := by decide +kernel
theorem dl_1598 : decode code 1598 = .ok (.iaload, 1) := by decide +kernel
theorem dl_1599 : decode code 1599 = .ok (.aload_n 0, 1) := by decide +kernel
theorem dl_1600 : decode code 1600 = .ok (.iload_n 3, 1) := by decide +kernel
theorem dl_1601 : decode code 1601 = .ok (.iconst 2, 1) := by decide +kernel
theorem dl_1602 : decode code 1602 = .ok (.iadd, 1) := by decide +kernel
theorem dl_1603 : decode code 1603 = .ok (.iaload, 1) := by decide +kernel
theorem dl_1604 : decode code 1604 = .ok (.invokevirtual 208, 3) := by decide +kernel
theorem dl_1607 : decode code 1607 = .ok (.if_icmp .eq 90, 3) := by decide +kernel
theorem dl_1610 : decode code 1610 = .ok (.iconst 0, 1) := by decide +kernel
theorem dl_1611 : decode code 1611 = .ok (.ireturn, 1) := by decide +kernel
theorem dl_1612 : decode code 1612 = .ok (.aload_n 1, 1) := by decide +kernel
theorem dl_1613 : decode code 1613 = .ok (.invokevirtual 209, 3) := by decide +kernel
theorem dl_1616 : decode code 1616 = .ok (.aload_n 2, 1) := by decide +kernel
theorem dl_1617 : decode code 1617 = .ok (.invokevirtual 212, 3) := by decide +kernel
theorem dl_1620 : decode code 1620 = .ok (.if_icmp .eq 77, 3) := by decide +kernel
theorem dl_1623 : decode code 1623 = .ok (.iconst 0, 1) := by decide +kernel
theorem dl_1624 : decode code 1624 = .ok (.ireturn, 1) := by decide +kernel
theorem dl_1625 : decode code 1625 = .ok (.aload_n 1, 1) := by decide +kernel
theorem dl_1626 : decode code 1626 = .ok (.invokevirtual 213, 3) := by decide +kernel
theorem dl_1629 : decode code 1629 = .ok (.aload_n 2, 1) := by decide +kernel
theorem dl_1630 : decode code 1630 = .ok (.invokevirtual 216, 3) := by decide +kernel
theorem dl_1633 : decode code 1633 = .ok (.if_icmp .eq 64, 3) := by decide +kernel
theorem dl_1636 : decode code 1636 = .ok (.iconst 0, 1) := by decide +kernel
theorem dl_1637 : decode code 1637 = .ok (.ireturn, 1) := by decide +kernel
theorem dl_1638 : decode code 1638 = .ok (.aload_n 1, 1) := by decide +kernel
theorem dl_1639 : decode code 1639 = .ok (.invokevirtual 217, 3) := by decide +kernel
theorem dl_1642 : decode code 1642 = .ok (.aload_n 2, 1) := by decide +kernel
theorem dl_1643 : decode code 1643 = .ok (.invokevirtual 220, 3) := by decide +kernel
theorem dl_1646 : decode code 1646 = .ok (.if_icmp .eq 51, 3) := by decide +kernel
theorem dl_1649 : decode code 1649 = .ok (.iconst 0, 1) := by decide +kernel
theorem dl_1650 : decode code 1650 = .ok (.ireturn, 1) := by decide +kernel
theorem dl_1651 : decode code 1651 = .ok (.aload_n 1, 1) := by decide +kernel
theorem dl_1652 : decode code 1652 = .ok (.aload_n 0, 1) := by decide +kernel
theorem dl_1653 : decode code 1653 = .ok (.iload_n 3, 1) := by decide +kernel
theorem dl_1654 : decode code 1654 = .ok (.iconst 1, 1) := by decide +kernel
theorem dl_1655 : decode code 1655 = .ok (.iadd, 1) := by decide +kernel
theorem dl_1656 : decode code 1656 = .ok (.iaload, 1) := by decide +kernel
theorem dl_1657 : decode code 1657 = .ok (.invokevirtual 221, 3) := by decide +kernel
theorem dl_1660 : decode code 1660 = .ok (.aload_n 2, 1) := by decide +kernel
theorem dl_1661 : decode code 1661 = .ok (.aload_n 0, 1) := by decide +kernel
theorem dl_1662 : decode code 1662 = .ok (.iload_n 3, 1) := by decide +kernel
theorem dl_1663 : decode code 1663 = .ok (.iconst 1, 1) := by decide +kernel
theorem dl_1664 : decode code 1664 = .ok (.iadd, 1) := by decide +kernel
theorem dl_1665 : decode code 1665 = .ok (.iaload, 1) := by decide +kernel
theorem dl_1666 : decode code 1666 = .ok (.invokevirtual 224, 3) := by decide +kernel
theorem dl_1669 : decode code 1669 = .ok (.if_icmp .eq 28, 3) := by decide +kernel
theorem dl_1672 : decode code 1672 = .ok (.iconst 0, 1) := by decide +kernel
theorem dl_1673 : decode code 1673 = .ok (.ireturn, 1) := by decide +kernel
theorem dl_1674 : decode code 1674 = .ok (.aload_n 1, 1) := by decide +kernel
theorem dl_1675 : decode code 1675 = .ok (.aload_n 0, 1) := by decide +kernel
theorem dl_1676 : decode code 1676 = .ok (.iload_n 3, 1) := by decide +kernel
theorem dl_1677 : decode code 1677 = .ok (.iconst 1, 1) := by decide +kernel
theorem dl_1678 : decode code 1678 = .ok (.iadd, 1) := by decide +kernel
theorem dl_1679 : decode code 1679 = .ok (.iaload, 1) := by decide +kernel
theorem dl_1680 : decode code 1680 = .ok (.invokevirtual 225, 3) := by decide +kernel
theorem dl_1683 : decode code 1683 = .ok (.aload_n 2, 1) := by decide +kernel
theorem dl_1684 : decode code 1684 = .ok (.aload_n 0, 1) := by decide +kernel
theorem dl_1685 : decode code 1685 = .ok (.iload_n 3, 1) := by decide +kernel
theorem dl_1686 : decode code 1686 = .ok (.iconst 1, 1) := by decide +kernel
theorem dl_1687 : decode code 1687 = .ok (.iadd, 1) := by decide +kernel
theorem dl_1688 : decode code 1688 = .ok (.iaload, 1) := by decide +kernel
theorem dl_1689 : decode code 1689 = .ok (.invokevirtual 228, 3) := by decide +kernel
theorem dl_1692 : decode code 1692 = .ok (.if_icmp .eq 5, 3) := by decide +kernel
theorem dl_1695 : decode code 1695 = .ok (.iconst 0, 1) := by decide +kernel
theorem dl_1696 : decode code 1696 = .ok (.ireturn, 1) := by decide +kernel
theorem dl_1697 : decode code 1697 = .ok (.iinc 3 6, 3) := by decide +kernel
theorem dl_1700 : decode code 1700 = .ok (.goto (-1682), 3) := by decide +kernel
theorem dl_1703 : decode code 1703 = .ok (.iconst 1, 1) := by decide +kernel
theorem dl_1704 : decode code 1704 = .ok (.ireturn, 1) := by decide +kernel
