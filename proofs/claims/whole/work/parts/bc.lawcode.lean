/-! ===== the law: its instructions ===== -/
theorem dL_23 : decode cL_law 23 = .ok (.iload 4, 2) := by decide +kernel
theorem dL_25 : decode cL_law 25 = .ok (.aload_n 0, 1) := by decide +kernel
theorem dL_26 : decode cL_law 26 = .ok (.arraylength, 1) := by decide +kernel
theorem dL_27 : decode cL_law 27 = .ok (.bipush 7, 2) := by decide +kernel
theorem dL_29 : decode cL_law 29 = .ok (.isub, 1) := by decide +kernel
theorem dL_30 : decode cL_law 30 = .ok (.if_icmp .gt 1644, 3) := by decide +kernel
theorem dL_33 : decode cL_law 33 = .ok (.aload_n 0, 1) := by decide +kernel
theorem dL_34 : decode cL_law 34 = .ok (.iload 4, 2) := by decide +kernel
theorem dL_36 : decode cL_law 36 = .ok (.iaload, 1) := by decide +kernel
theorem dL_37 : decode cL_law 37 = .ok (.bipush 63, 2) := by decide +kernel
theorem dL_39 : decode cL_law 39 = .ok (.iand, 1) := by decide +kernel
theorem dL_40 : decode cL_law 40 = .ok (.tableswitch 1628 0 42 #[188, 335, 348, 361, 398, 435, 472, 509, 546, 583, 596, 609, 634, 671, 708, 733, 758, 795, 808, 833, 870, 907, 960, 985, 1010, 1023, 1036, 1061, 1098, 1111, 1124, 1149, 1214, 1227, 1240, 1253, 1306, 1331, 1372, 1409, 1501, 1550, 1603], 188) := by decide +kernel
theorem dL_228 : decode cL_law 228 = .ok (.aload_n 1, 1) := by decide +kernel
theorem dL_229 : decode cL_law 229 = .ok (.aload_n 0, 1) := by decide +kernel
theorem dL_230 : decode cL_law 230 = .ok (.iload 4, 2) := by decide +kernel
theorem dL_232 : decode cL_law 232 = .ok (.iconst 1, 1) := by decide +kernel
theorem dL_233 : decode cL_law 233 = .ok (.iadd, 1) := by decide +kernel
theorem dL_234 : decode cL_law 234 = .ok (.iaload, 1) := by decide +kernel
theorem dL_235 : decode cL_law 235 = .ok (.i2l, 1) := by decide +kernel
theorem dL_236 : decode cL_law 236 = .ok (.bipush 32, 2) := by decide +kernel
theorem dL_238 : decode cL_law 238 = .ok (.lshl, 1) := by decide +kernel
theorem dL_239 : decode cL_law 239 = .ok (.aload_n 0, 1) := by decide +kernel
theorem dL_240 : decode cL_law 240 = .ok (.iload 4, 2) := by decide +kernel
theorem dL_242 : decode cL_law 242 = .ok (.iconst 2, 1) := by decide +kernel
theorem dL_243 : decode cL_law 243 = .ok (.iadd, 1) := by decide +kernel
theorem dL_244 : decode cL_law 244 = .ok (.iaload, 1) := by decide +kernel
theorem dL_245 : decode cL_law 245 = .ok (.i2l, 1) := by decide +kernel
theorem dL_246 : decode cL_law 246 = .ok (.ldc2_w 19, 3) := by decide +kernel
theorem dL_249 : decode cL_law 249 = .ok (.land, 1) := by decide +kernel
theorem dL_250 : decode cL_law 250 = .ok (.lor, 1) := by decide +kernel
theorem dL_251 : decode cL_law 251 = .ok (.aload_n 0, 1) := by decide +kernel
theorem dL_252 : decode cL_law 252 = .ok (.iload 4, 2) := by decide +kernel
theorem dL_254 : decode cL_law 254 = .ok (.iconst 3, 1) := by decide +kernel
theorem dL_255 : decode cL_law 255 = .ok (.iadd, 1) := by decide +kernel
theorem dL_256 : decode cL_law 256 = .ok (.iaload, 1) := by decide +kernel
theorem dL_257 : decode cL_law 257 = .ok (.i2l, 1) := by decide +kernel
theorem dL_258 : decode cL_law 258 = .ok (.bipush 32, 2) := by decide +kernel
theorem dL_260 : decode cL_law 260 = .ok (.lshl, 1) := by decide +kernel
theorem dL_261 : decode cL_law 261 = .ok (.aload_n 0, 1) := by decide +kernel
theorem dL_262 : decode cL_law 262 = .ok (.iload 4, 2) := by decide +kernel
theorem dL_264 : decode cL_law 264 = .ok (.iconst 4, 1) := by decide +kernel
theorem dL_265 : decode cL_law 265 = .ok (.iadd, 1) := by decide +kernel
theorem dL_266 : decode cL_law 266 = .ok (.iaload, 1) := by decide +kernel
theorem dL_267 : decode cL_law 267 = .ok (.i2l, 1) := by decide +kernel
theorem dL_268 : decode cL_law 268 = .ok (.ldc2_w 19, 3) := by decide +kernel
theorem dL_271 : decode cL_law 271 = .ok (.land, 1) := by decide +kernel
theorem dL_272 : decode cL_law 272 = .ok (.lor, 1) := by decide +kernel
theorem dL_273 : decode cL_law 273 = .ok (.aload_n 0, 1) := by decide +kernel
theorem dL_274 : decode cL_law 274 = .ok (.iload 4, 2) := by decide +kernel
theorem dL_276 : decode cL_law 276 = .ok (.iconst 5, 1) := by decide +kernel
theorem dL_277 : decode cL_law 277 = .ok (.iadd, 1) := by decide +kernel
theorem dL_278 : decode cL_law 278 = .ok (.iaload, 1) := by decide +kernel
theorem dL_279 : decode cL_law 279 = .ok (.i2l, 1) := by decide +kernel
theorem dL_280 : decode cL_law 280 = .ok (.bipush 32, 2) := by decide +kernel
theorem dL_282 : decode cL_law 282 = .ok (.lshl, 1) := by decide +kernel
theorem dL_283 : decode cL_law 283 = .ok (.aload_n 0, 1) := by decide +kernel
theorem dL_284 : decode cL_law 284 = .ok (.iload 4, 2) := by decide +kernel
theorem dL_286 : decode cL_law 286 = .ok (.bipush 6, 2) := by decide +kernel
theorem dL_288 : decode cL_law 288 = .ok (.iadd, 1) := by decide +kernel
theorem dL_289 : decode cL_law 289 = .ok (.iaload, 1) := by decide +kernel
theorem dL_290 : decode cL_law 290 = .ok (.i2l, 1) := by decide +kernel
theorem dL_291 : decode cL_law 291 = .ok (.ldc2_w 19, 3) := by decide +kernel
theorem dL_294 : decode cL_law 294 = .ok (.land, 1) := by decide +kernel
theorem dL_295 : decode cL_law 295 = .ok (.lor, 1) := by decide +kernel
theorem dL_296 : decode cL_law 296 = .ok (.invokevirtual 21, 3) := by decide +kernel
theorem dL_299 : decode cL_law 299 = .ok (.aload_n 2, 1) := by decide +kernel
theorem dL_300 : decode cL_law 300 = .ok (.aload_n 0, 1) := by decide +kernel
theorem dL_301 : decode cL_law 301 = .ok (.iload 4, 2) := by decide +kernel
theorem dL_303 : decode cL_law 303 = .ok (.iconst 1, 1) := by decide +kernel
theorem dL_304 : decode cL_law 304 = .ok (.iadd, 1) := by decide +kernel
theorem dL_305 : decode cL_law 305 = .ok (.iaload, 1) := by decide +kernel
theorem dL_306 : decode cL_law 306 = .ok (.i2l, 1) := by decide +kernel
theorem dL_307 : decode cL_law 307 = .ok (.bipush 32, 2) := by decide +kernel
theorem dL_309 : decode cL_law 309 = .ok (.lshl, 1) := by decide +kernel
theorem dL_310 : decode cL_law 310 = .ok (.aload_n 0, 1) := by decide +kernel
theorem dL_311 : decode cL_law 311 = .ok (.iload 4, 2) := by decide +kernel
theorem dL_313 : decode cL_law 313 = .ok (.iconst 2, 1) := by decide +kernel
theorem dL_314 : decode cL_law 314 = .ok (.iadd, 1) := by decide +kernel
theorem dL_315 : decode cL_law 315 = .ok (.iaload, 1) := by decide +kernel
theorem dL_316 : decode cL_law 316 = .ok (.i2l, 1) := by decide +kernel
theorem dL_317 : decode cL_law 317 = .ok (.ldc2_w 19, 3) := by decide +kernel
theorem dL_320 : decode cL_law 320 = .ok (.land, 1) := by decide +kernel
theorem dL_321 : decode cL_law 321 = .ok (.lor, 1) := by decide +kernel
theorem dL_322 : decode cL_law 322 = .ok (.aload_n 0, 1) := by decide +kernel
theorem dL_323 : decode cL_law 323 = .ok (.iload 4, 2) := by decide +kernel
theorem dL_325 : decode cL_law 325 = .ok (.iconst 3, 1) := by decide +kernel
theorem dL_326 : decode cL_law 326 = .ok (.iadd, 1) := by decide +kernel
theorem dL_327 : decode cL_law 327 = .ok (.iaload, 1) := by decide +kernel
theorem dL_328 : decode cL_law 328 = .ok (.i2l, 1) := by decide +kernel
theorem dL_329 : decode cL_law 329 = .ok (.bipush 32, 2) := by decide +kernel
theorem dL_331 : decode cL_law 331 = .ok (.lshl, 1) := by decide +kernel
theorem dL_332 : decode cL_law 332 = .ok (.aload_n 0, 1) := by decide +kernel
theorem dL_333 : decode cL_law 333 = .ok (.iload 4, 2) := by decide +kernel
theorem dL_335 : decode cL_law 335 = .ok (.iconst 4, 1) := by decide +kernel
theorem dL_336 : decode cL_law 336 = .ok (.iadd, 1) := by decide +kernel
theorem dL_337 : decode cL_law 337 = .ok (.iaload, 1) := by decide +kernel
theorem dL_338 : decode cL_law 338 = .ok (.i2l, 1) := by decide +kernel
theorem dL_339 : decode cL_law 339 = .ok (.ldc2_w 19, 3) := by decide +kernel
theorem dL_342 : decode cL_law 342 = .ok (.land, 1) := by decide +kernel
theorem dL_343 : decode cL_law 343 = .ok (.lor, 1) := by decide +kernel
theorem dL_344 : decode cL_law 344 = .ok (.aload_n 0, 1) := by decide +kernel
theorem dL_345 : decode cL_law 345 = .ok (.iload 4, 2) := by decide +kernel
theorem dL_347 : decode cL_law 347 = .ok (.iconst 5, 1) := by decide +kernel
theorem dL_348 : decode cL_law 348 = .ok (.iadd, 1) := by decide +kernel
theorem dL_349 : decode cL_law 349 = .ok (.iaload, 1) := by decide +kernel
theorem dL_350 : decode cL_law 350 = .ok (.i2l, 1) := by decide +kernel
theorem dL_351 : decode cL_law 351 = .ok (.bipush 32, 2) := by decide +kernel
theorem dL_353 : decode cL_law 353 = .ok (.lshl, 1) := by decide +kernel
theorem dL_354 : decode cL_law 354 = .ok (.aload_n 0, 1) := by decide +kernel
theorem dL_355 : decode cL_law 355 = .ok (.iload 4, 2) := by decide +kernel
theorem dL_357 : decode cL_law 357 = .ok (.bipush 6, 2) := by decide +kernel
theorem dL_359 : decode cL_law 359 = .ok (.iadd, 1) := by decide +kernel
theorem dL_360 : decode cL_law 360 = .ok (.iaload, 1) := by decide +kernel
theorem dL_361 : decode cL_law 361 = .ok (.i2l, 1) := by decide +kernel
theorem dL_362 : decode cL_law 362 = .ok (.ldc2_w 19, 3) := by decide +kernel
theorem dL_365 : decode cL_law 365 = .ok (.land, 1) := by decide +kernel
theorem dL_366 : decode cL_law 366 = .ok (.lor, 1) := by decide +kernel
theorem dL_367 : decode cL_law 367 = .ok (.invokevirtual 25, 3) := by decide +kernel
theorem dL_370 : decode cL_law 370 = .ok (.if_icmp .eq 1298, 3) := by decide +kernel
theorem dL_373 : decode cL_law 373 = .ok (.iconst 0, 1) := by decide +kernel
theorem dL_374 : decode cL_law 374 = .ok (.ireturn, 1) := by decide +kernel
theorem dL_375 : decode cL_law 375 = .ok (.aload_n 1, 1) := by decide +kernel
theorem dL_376 : decode cL_law 376 = .ok (.invokevirtual 26, 3) := by decide +kernel
theorem dL_379 : decode cL_law 379 = .ok (.aload_n 2, 1) := by decide +kernel
theorem dL_380 : decode cL_law 380 = .ok (.invokevirtual 30, 3) := by decide +kernel
theorem dL_383 : decode cL_law 383 = .ok (.if_icmp .eq 1285, 3) := by decide +kernel
theorem dL_386 : decode cL_law 386 = .ok (.iconst 0, 1) := by decide +kernel
theorem dL_387 : decode cL_law 387 = .ok (.ireturn, 1) := by decide +kernel
theorem dL_388 : decode cL_law 388 = .ok (.aload_n 1, 1) := by decide +kernel
theorem dL_389 : decode cL_law 389 = .ok (.invokevirtual 31, 3) := by decide +kernel
theorem dL_392 : decode cL_law 392 = .ok (.aload_n 2, 1) := by decide +kernel
theorem dL_393 : decode cL_law 393 = .ok (.invokevirtual 34, 3) := by decide +kernel
theorem dL_396 : decode cL_law 396 = .ok (.if_icmp .eq 1272, 3) := by decide +kernel
theorem dL_399 : decode cL_law 399 = .ok (.iconst 0, 1) := by decide +kernel
theorem dL_400 : decode cL_law 400 = .ok (.ireturn, 1) := by decide +kernel
theorem dL_401 : decode cL_law 401 = .ok (.aload_n 1, 1) := by decide +kernel
theorem dL_402 : decode cL_law 402 = .ok (.aload_n 0, 1) := by decide +kernel
theorem dL_403 : decode cL_law 403 = .ok (.iload 4, 2) := by decide +kernel
theorem dL_405 : decode cL_law 405 = .ok (.iconst 1, 1) := by decide +kernel
theorem dL_406 : decode cL_law 406 = .ok (.iadd, 1) := by decide +kernel
theorem dL_407 : decode cL_law 407 = .ok (.iaload, 1) := by decide +kernel
theorem dL_408 : decode cL_law 408 = .ok (.aload_n 0, 1) := by decide +kernel
theorem dL_409 : decode cL_law 409 = .ok (.iload 4, 2) := by decide +kernel
theorem dL_411 : decode cL_law 411 = .ok (.iconst 2, 1) := by decide +kernel
theorem dL_412 : decode cL_law 412 = .ok (.iadd, 1) := by decide +kernel
theorem dL_413 : decode cL_law 413 = .ok (.iaload, 1) := by decide +kernel
theorem dL_414 : decode cL_law 414 = .ok (.invokevirtual 35, 3) := by decide +kernel
theorem dL_417 : decode cL_law 417 = .ok (.aload_n 2, 1) := by decide +kernel
theorem dL_418 : decode cL_law 418 = .ok (.aload_n 0, 1) := by decide +kernel
theorem dL_419 : decode cL_law 419 = .ok (.iload 4, 2) := by decide +kernel
theorem dL_421 : decode cL_law 421 = .ok (.iconst 1, 1) := by decide +kernel
theorem dL_422 : decode cL_law 422 = .ok (.iadd, 1) := by decide +kernel
theorem dL_423 : decode cL_law 423 = .ok (.iaload, 1) := by decide +kernel
theorem dL_424 : decode cL_law 424 = .ok (.aload_n 0, 1) := by decide +kernel
theorem dL_425 : decode cL_law 425 = .ok (.iload 4, 2) := by decide +kernel
theorem dL_427 : decode cL_law 427 = .ok (.iconst 2, 1) := by decide +kernel
theorem dL_428 : decode cL_law 428 = .ok (.iadd, 1) := by decide +kernel
theorem dL_429 : decode cL_law 429 = .ok (.iaload, 1) := by decide +kernel
theorem dL_430 : decode cL_law 430 = .ok (.invokevirtual 39, 3) := by decide +kernel
theorem dL_433 : decode cL_law 433 = .ok (.if_icmp .eq 1235, 3) := by decide +kernel
theorem dL_436 : decode cL_law 436 = .ok (.iconst 0, 1) := by decide +kernel
theorem dL_437 : decode cL_law 437 = .ok (.ireturn, 1) := by decide +kernel
theorem dL_438 : decode cL_law 438 = .ok (.aload_n 1, 1) := by decide +kernel
theorem dL_439 : decode cL_law 439 = .ok (.aload_n 0, 1) := by decide +kernel
theorem dL_440 : decode cL_law 440 = .ok (.iload 4, 2) := by decide +kernel
theorem dL_442 : decode cL_law 442 = .ok (.iconst 1, 1) := by decide +kernel
theorem dL_443 : decode cL_law 443 = .ok (.iadd, 1) := by decide +kernel
theorem dL_444 : decode cL_law 444 = .ok (.iaload, 1) := by decide +kernel
theorem dL_445 : decode cL_law 445 = .ok (.aload_n 0, 1) := by decide +kernel
theorem dL_446 : decode cL_law 446 = .ok (.iload 4, 2) := by decide +kernel
theorem dL_448 : decode cL_law 448 = .ok (.iconst 2, 1) := by decide +kernel
theorem dL_449 : decode cL_law 449 = .ok (.iadd, 1) := by decide +kernel
theorem dL_450 : decode cL_law 450 = .ok (.iaload, 1) := by decide +kernel
theorem dL_451 : decode cL_law 451 = .ok (.invokevirtual 40, 3) := by decide +kernel
theorem dL_454 : decode cL_law 454 = .ok (.aload_n 2, 1) := by decide +kernel
theorem dL_455 : decode cL_law 455 = .ok (.aload_n 0, 1) := by decide +kernel
theorem dL_456 : decode cL_law 456 = .ok (.iload 4, 2) := by decide +kernel
theorem dL_458 : decode cL_law 458 = .ok (.iconst 1, 1) := by decide +kernel
theorem dL_459 : decode cL_law 459 = .ok (.iadd, 1) := by decide +kernel
theorem dL_460 : decode cL_law 460 = .ok (.iaload, 1) := by decide +kernel
theorem dL_461 : decode cL_law 461 = .ok (.aload_n 0, 1) := by decide +kernel
theorem dL_462 : decode cL_law 462 = .ok (.iload 4, 2) := by decide +kernel
theorem dL_464 : decode cL_law 464 = .ok (.iconst 2, 1) := by decide +kernel
theorem dL_465 : decode cL_law 465 = .ok (.iadd, 1) := by decide +kernel
theorem dL_466 : decode cL_law 466 = .ok (.iaload, 1) := by decide +kernel
theorem dL_467 : decode cL_law 467 = .ok (.invokevirtual 43, 3) := by decide +kernel
theorem dL_470 : decode cL_law 470 = .ok (.if_icmp .eq 1198, 3) := by decide +kernel
theorem dL_473 : decode cL_law 473 = .ok (.iconst 0, 1) := by decide +kernel
theorem dL_474 : decode cL_law 474 = .ok (.ireturn, 1) := by decide +kernel
theorem dL_475 : decode cL_law 475 = .ok (.aload_n 1, 1) := by decide +kernel
theorem dL_476 : decode cL_law 476 = .ok (.aload_n 0, 1) := by decide +kernel
theorem dL_477 : decode cL_law 477 = .ok (.iload 4, 2) := by decide +kernel
theorem dL_479 : decode cL_law 479 = .ok (.iconst 1, 1) := by decide +kernel
theorem dL_480 : decode cL_law 480 = .ok (.iadd, 1) := by decide +kernel
theorem dL_481 : decode cL_law 481 = .ok (.iaload, 1) := by decide +kernel
theorem dL_482 : decode cL_law 482 = .ok (.aload_n 0, 1) := by decide +kernel
theorem dL_483 : decode cL_law 483 = .ok (.iload 4, 2) := by decide +kernel
theorem dL_485 : decode cL_law 485 = .ok (.iconst 2, 1) := by decide +kernel
theorem dL_486 : decode cL_law 486 = .ok (.iadd, 1) := by decide +kernel
theorem dL_487 : decode cL_law 487 = .ok (.iaload, 1) := by decide +kernel
theorem dL_488 : decode cL_law 488 = .ok (.invokevirtual 44, 3) := by decide +kernel
theorem dL_491 : decode cL_law 491 = .ok (.aload_n 2, 1) := by decide +kernel
theorem dL_492 : decode cL_law 492 = .ok (.aload_n 0, 1) := by decide +kernel
theorem dL_493 : decode cL_law 493 = .ok (.iload 4, 2) := by decide +kernel
theorem dL_495 : decode cL_law 495 = .ok (.iconst 1, 1) := by decide +kernel
theorem dL_496 : decode cL_law 496 = .ok (.iadd, 1) := by decide +kernel
theorem dL_497 : decode cL_law 497 = .ok (.iaload, 1) := by decide +kernel
theorem dL_498 : decode cL_law 498 = .ok (.aload_n 0, 1) := by decide +kernel
theorem dL_499 : decode cL_law 499 = .ok (.iload 4, 2) := by decide +kernel
theorem dL_501 : decode cL_law 501 = .ok (.iconst 2, 1) := by decide +kernel
theorem dL_502 : decode cL_law 502 = .ok (.iadd, 1) := by decide +kernel
theorem dL_503 : decode cL_law 503 = .ok (.iaload, 1) := by decide +kernel
theorem dL_504 : decode cL_law 504 = .ok (.invokevirtual 47, 3) := by decide +kernel
theorem dL_507 : decode cL_law 507 = .ok (.if_icmp .eq 1161, 3) := by decide +kernel
theorem dL_510 : decode cL_law 510 = .ok (.iconst 0, 1) := by decide +kernel
theorem dL_511 : decode cL_law 511 = .ok (.ireturn, 1) := by decide +kernel
theorem dL_512 : decode cL_law 512 = .ok (.aload_n 1, 1) := by decide +kernel
theorem dL_513 : decode cL_law 513 = .ok (.aload_n 0, 1) := by decide +kernel
theorem dL_514 : decode cL_law 514 = .ok (.iload 4, 2) := by decide +kernel
theorem dL_516 : decode cL_law 516 = .ok (.iconst 1, 1) := by decide +kernel
theorem dL_517 : decode cL_law 517 = .ok (.iadd, 1) := by decide +kernel
theorem dL_518 : decode cL_law 518 = .ok (.iaload, 1) := by decide +kernel
theorem dL_519 : decode cL_law 519 = .ok (.aload_n 0, 1) := by decide +kernel
theorem dL_520 : decode cL_law 520 = .ok (.iload 4, 2) := by decide +kernel
theorem dL_522 : decode cL_law 522 = .ok (.iconst 2, 1) := by decide +kernel
theorem dL_523 : decode cL_law 523 = .ok (.iadd, 1) := by decide +kernel
theorem dL_524 : decode cL_law 524 = .ok (.iaload, 1) := by decide +kernel
theorem dL_525 : decode cL_law 525 = .ok (.invokevirtual 48, 3) := by decide +kernel
theorem dL_528 : decode cL_law 528 = .ok (.aload_n 2, 1) := by decide +kernel
theorem dL_529 : decode cL_law 529 = .ok (.aload_n 0, 1) := by decide +kernel
theorem dL_530 : decode cL_law 530 = .ok (.iload 4, 2) := by decide +kernel
theorem dL_532 : decode cL_law 532 = .ok (.iconst 1, 1) := by decide +kernel
theorem dL_533 : decode cL_law 533 = .ok (.iadd, 1) := by decide +kernel
theorem dL_534 : decode cL_law 534 = .ok (.iaload, 1) := by decide +kernel
theorem dL_535 : decode cL_law 535 = .ok (.aload_n 0, 1) := by decide +kernel
theorem dL_536 : decode cL_law 536 = .ok (.iload 4, 2) := by decide +kernel
theorem dL_538 : decode cL_law 538 = .ok (.iconst 2, 1) := by decide +kernel
theorem dL_539 : decode cL_law 539 = .ok (.iadd, 1) := by decide +kernel
theorem dL_540 : decode cL_law 540 = .ok (.iaload, 1) := by decide +kernel
theorem dL_541 : decode cL_law 541 = .ok (.invokevirtual 52, 3) := by decide +kernel
theorem dL_544 : decode cL_law 544 = .ok (.if_icmp .eq 1124, 3) := by decide +kernel
theorem dL_547 : decode cL_law 547 = .ok (.iconst 0, 1) := by decide +kernel
theorem dL_548 : decode cL_law 548 = .ok (.ireturn, 1) := by decide +kernel
theorem dL_549 : decode cL_law 549 = .ok (.aload_n 1, 1) := by decide +kernel
theorem dL_550 : decode cL_law 550 = .ok (.aload_n 0, 1) := by decide +kernel
theorem dL_551 : decode cL_law 551 = .ok (.iload 4, 2) := by decide +kernel
theorem dL_553 : decode cL_law 553 = .ok (.iconst 1, 1) := by decide +kernel
theorem dL_554 : decode cL_law 554 = .ok (.iadd, 1) := by decide +kernel
theorem dL_555 : decode cL_law 555 = .ok (.iaload, 1) := by decide +kernel
theorem dL_556 : decode cL_law 556 = .ok (.aload_n 0, 1) := by decide +kernel
theorem dL_557 : decode cL_law 557 = .ok (.iload 4, 2) := by decide +kernel
theorem dL_559 : decode cL_law 559 = .ok (.iconst 2, 1) := by decide +kernel
theorem dL_560 : decode cL_law 560 = .ok (.iadd, 1) := by decide +kernel
theorem dL_561 : decode cL_law 561 = .ok (.iaload, 1) := by decide +kernel
theorem dL_562 : decode cL_law 562 = .ok (.invokevirtual 53, 3) := by decide +kernel
theorem dL_565 : decode cL_law 565 = .ok (.aload_n 2, 1) := by decide +kernel
theorem dL_566 : decode cL_law 566 = .ok (.aload_n 0, 1) := by decide +kernel
theorem dL_567 : decode cL_law 567 = .ok (.iload 4, 2) := by decide +kernel
theorem dL_569 : decode cL_law 569 = .ok (.iconst 1, 1) := by decide +kernel
theorem dL_570 : decode cL_law 570 = .ok (.iadd, 1) := by decide +kernel
theorem dL_571 : decode cL_law 571 = .ok (.iaload, 1) := by decide +kernel
theorem dL_572 : decode cL_law 572 = .ok (.aload_n 0, 1) := by decide +kernel
theorem dL_573 : decode cL_law 573 = .ok (.iload 4, 2) := by decide +kernel
theorem dL_575 : decode cL_law 575 = .ok (.iconst 2, 1) := by decide +kernel
theorem dL_576 : decode cL_law 576 = .ok (.iadd, 1) := by decide +kernel
theorem dL_577 : decode cL_law 577 = .ok (.iaload, 1) := by decide +kernel
theorem dL_578 : decode cL_law 578 = .ok (.invokevirtual 56, 3) := by decide +kernel
theorem dL_581 : decode cL_law 581 = .ok (.if_icmp .eq 1087, 3) := by decide +kernel
theorem dL_584 : decode cL_law 584 = .ok (.iconst 0, 1) := by decide +kernel
theorem dL_585 : decode cL_law 585 = .ok (.ireturn, 1) := by decide +kernel
theorem dL_586 : decode cL_law 586 = .ok (.aload_n 1, 1) := by decide +kernel
theorem dL_587 : decode cL_law 587 = .ok (.aload_n 0, 1) := by decide +kernel
theorem dL_588 : decode cL_law 588 = .ok (.iload 4, 2) := by decide +kernel
theorem dL_590 : decode cL_law 590 = .ok (.iconst 1, 1) := by decide +kernel
theorem dL_591 : decode cL_law 591 = .ok (.iadd, 1) := by decide +kernel
theorem dL_592 : decode cL_law 592 = .ok (.iaload, 1) := by decide +kernel
theorem dL_593 : decode cL_law 593 = .ok (.aload_n 0, 1) := by decide +kernel
theorem dL_594 : decode cL_law 594 = .ok (.iload 4, 2) := by decide +kernel
theorem dL_596 : decode cL_law 596 = .ok (.iconst 2, 1) := by decide +kernel
theorem dL_597 : decode cL_law 597 = .ok (.iadd, 1) := by decide +kernel
theorem dL_598 : decode cL_law 598 = .ok (.iaload, 1) := by decide +kernel
theorem dL_599 : decode cL_law 599 = .ok (.invokevirtual 57, 3) := by decide +kernel
theorem dL_602 : decode cL_law 602 = .ok (.aload_n 2, 1) := by decide +kernel
theorem dL_603 : decode cL_law 603 = .ok (.aload_n 0, 1) := by decide +kernel
theorem dL_604 : decode cL_law 604 = .ok (.iload 4, 2) := by decide +kernel
theorem dL_606 : decode cL_law 606 = .ok (.iconst 1, 1) := by decide +kernel
theorem dL_607 : decode cL_law 607 = .ok (.iadd, 1) := by decide +kernel
theorem dL_608 : decode cL_law 608 = .ok (.iaload, 1) := by decide +kernel
theorem dL_609 : decode cL_law 609 = .ok (.aload_n 0, 1) := by decide +kernel
theorem dL_610 : decode cL_law 610 = .ok (.iload 4, 2) := by decide +kernel
theorem dL_612 : decode cL_law 612 = .ok (.iconst 2, 1) := by decide +kernel
theorem dL_613 : decode cL_law 613 = .ok (.iadd, 1) := by decide +kernel
theorem dL_614 : decode cL_law 614 = .ok (.iaload, 1) := by decide +kernel
theorem dL_615 : decode cL_law 615 = .ok (.invokevirtual 60, 3) := by decide +kernel
theorem dL_618 : decode cL_law 618 = .ok (.if_icmp .eq 1050, 3) := by decide +kernel
theorem dL_621 : decode cL_law 621 = .ok (.iconst 0, 1) := by decide +kernel
theorem dL_622 : decode cL_law 622 = .ok (.ireturn, 1) := by decide +kernel
theorem dL_623 : decode cL_law 623 = .ok (.aload_n 1, 1) := by decide +kernel
theorem dL_624 : decode cL_law 624 = .ok (.invokevirtual 61, 3) := by decide +kernel
theorem dL_627 : decode cL_law 627 = .ok (.aload_n 2, 1) := by decide +kernel
theorem dL_628 : decode cL_law 628 = .ok (.invokevirtual 65, 3) := by decide +kernel
theorem dL_631 : decode cL_law 631 = .ok (.if_icmp .eq 1037, 3) := by decide +kernel
theorem dL_634 : decode cL_law 634 = .ok (.iconst 0, 1) := by decide +kernel
theorem dL_635 : decode cL_law 635 = .ok (.ireturn, 1) := by decide +kernel
theorem dL_636 : decode cL_law 636 = .ok (.aload_n 1, 1) := by decide +kernel
theorem dL_637 : decode cL_law 637 = .ok (.invokevirtual 66, 3) := by decide +kernel
theorem dL_640 : decode cL_law 640 = .ok (.aload_n 2, 1) := by decide +kernel
theorem dL_641 : decode cL_law 641 = .ok (.invokevirtual 69, 3) := by decide +kernel
theorem dL_644 : decode cL_law 644 = .ok (.if_icmp .eq 1024, 3) := by decide +kernel
theorem dL_647 : decode cL_law 647 = .ok (.iconst 0, 1) := by decide +kernel
theorem dL_648 : decode cL_law 648 = .ok (.ireturn, 1) := by decide +kernel
theorem dL_649 : decode cL_law 649 = .ok (.aload_n 1, 1) := by decide +kernel
theorem dL_650 : decode cL_law 650 = .ok (.aload_n 0, 1) := by decide +kernel
theorem dL_651 : decode cL_law 651 = .ok (.iload 4, 2) := by decide +kernel
theorem dL_653 : decode cL_law 653 = .ok (.iconst 1, 1) := by decide +kernel
theorem dL_654 : decode cL_law 654 = .ok (.iadd, 1) := by decide +kernel
theorem dL_655 : decode cL_law 655 = .ok (.iaload, 1) := by decide +kernel
theorem dL_656 : decode cL_law 656 = .ok (.invokevirtual 70, 3) := by decide +kernel
theorem dL_659 : decode cL_law 659 = .ok (.aload_n 2, 1) := by decide +kernel
theorem dL_660 : decode cL_law 660 = .ok (.aload_n 0, 1) := by decide +kernel
theorem dL_661 : decode cL_law 661 = .ok (.iload 4, 2) := by decide +kernel
theorem dL_663 : decode cL_law 663 = .ok (.iconst 1, 1) := by decide +kernel
theorem dL_664 : decode cL_law 664 = .ok (.iadd, 1) := by decide +kernel
theorem dL_665 : decode cL_law 665 = .ok (.iaload, 1) := by decide +kernel
theorem dL_666 : decode cL_law 666 = .ok (.invokevirtual 74, 3) := by decide +kernel
theorem dL_669 : decode cL_law 669 = .ok (.if_icmp .eq 999, 3) := by decide +kernel
theorem dL_672 : decode cL_law 672 = .ok (.iconst 0, 1) := by decide +kernel
theorem dL_673 : decode cL_law 673 = .ok (.ireturn, 1) := by decide +kernel
theorem dL_674 : decode cL_law 674 = .ok (.aload_n 1, 1) := by decide +kernel
theorem dL_675 : decode cL_law 675 = .ok (.aload_n 0, 1) := by decide +kernel
theorem dL_676 : decode cL_law 676 = .ok (.iload 4, 2) := by decide +kernel
theorem dL_678 : decode cL_law 678 = .ok (.iconst 1, 1) := by decide +kernel
theorem dL_679 : decode cL_law 679 = .ok (.iadd, 1) := by decide +kernel
theorem dL_680 : decode cL_law 680 = .ok (.iaload, 1) := by decide +kernel
theorem dL_681 : decode cL_law 681 = .ok (.aload_n 0, 1) := by decide +kernel
theorem dL_682 : decode cL_law 682 = .ok (.iload 4, 2) := by decide +kernel
theorem dL_684 : decode cL_law 684 = .ok (.iconst 2, 1) := by decide +kernel
theorem dL_685 : decode cL_law 685 = .ok (.iadd, 1) := by decide +kernel
theorem dL_686 : decode cL_law 686 = .ok (.iaload, 1) := by decide +kernel
theorem dL_687 : decode cL_law 687 = .ok (.invokevirtual 75, 3) := by decide +kernel
theorem dL_690 : decode cL_law 690 = .ok (.aload_n 2, 1) := by decide +kernel
theorem dL_691 : decode cL_law 691 = .ok (.aload_n 0, 1) := by decide +kernel
theorem dL_692 : decode cL_law 692 = .ok (.iload 4, 2) := by decide +kernel
theorem dL_694 : decode cL_law 694 = .ok (.iconst 1, 1) := by decide +kernel
theorem dL_695 : decode cL_law 695 = .ok (.iadd, 1) := by decide +kernel
theorem dL_696 : decode cL_law 696 = .ok (.iaload, 1) := by decide +kernel
theorem dL_697 : decode cL_law 697 = .ok (.aload_n 0, 1) := by decide +kernel
theorem dL_698 : decode cL_law 698 = .ok (.iload 4, 2) := by decide +kernel
theorem dL_700 : decode cL_law 700 = .ok (.iconst 2, 1) := by decide +kernel
theorem dL_701 : decode cL_law 701 = .ok (.iadd, 1) := by decide +kernel
theorem dL_702 : decode cL_law 702 = .ok (.iaload, 1) := by decide +kernel
theorem dL_703 : decode cL_law 703 = .ok (.invokevirtual 78, 3) := by decide +kernel
theorem dL_706 : decode cL_law 706 = .ok (.if_icmp .eq 962, 3) := by decide +kernel
theorem dL_709 : decode cL_law 709 = .ok (.iconst 0, 1) := by decide +kernel
theorem dL_710 : decode cL_law 710 = .ok (.ireturn, 1) := by decide +kernel
theorem dL_711 : decode cL_law 711 = .ok (.aload_n 1, 1) := by decide +kernel
theorem dL_712 : decode cL_law 712 = .ok (.aload_n 0, 1) := by decide +kernel
theorem dL_713 : decode cL_law 713 = .ok (.iload 4, 2) := by decide +kernel
theorem dL_715 : decode cL_law 715 = .ok (.iconst 1, 1) := by decide +kernel
theorem dL_716 : decode cL_law 716 = .ok (.iadd, 1) := by decide +kernel
theorem dL_717 : decode cL_law 717 = .ok (.iaload, 1) := by decide +kernel
theorem dL_718 : decode cL_law 718 = .ok (.aload_n 0, 1) := by decide +kernel
theorem dL_719 : decode cL_law 719 = .ok (.iload 4, 2) := by decide +kernel
theorem dL_721 : decode cL_law 721 = .ok (.iconst 2, 1) := by decide +kernel
theorem dL_722 : decode cL_law 722 = .ok (.iadd, 1) := by decide +kernel
theorem dL_723 : decode cL_law 723 = .ok (.iaload, 1) := by decide +kernel
theorem dL_724 : decode cL_law 724 = .ok (.invokevirtual 79, 3) := by decide +kernel
theorem dL_727 : decode cL_law 727 = .ok (.aload_n 2, 1) := by decide +kernel
theorem dL_728 : decode cL_law 728 = .ok (.aload_n 0, 1) := by decide +kernel
theorem dL_729 : decode cL_law 729 = .ok (.iload 4, 2) := by decide +kernel
theorem dL_731 : decode cL_law 731 = .ok (.iconst 1, 1) := by decide +kernel
theorem dL_732 : decode cL_law 732 = .ok (.iadd, 1) := by decide +kernel
theorem dL_733 : decode cL_law 733 = .ok (.iaload, 1) := by decide +kernel
theorem dL_734 : decode cL_law 734 = .ok (.aload_n 0, 1) := by decide +kernel
theorem dL_735 : decode cL_law 735 = .ok (.iload 4, 2) := by decide +kernel
theorem dL_737 : decode cL_law 737 = .ok (.iconst 2, 1) := by decide +kernel
theorem dL_738 : decode cL_law 738 = .ok (.iadd, 1) := by decide +kernel
theorem dL_739 : decode cL_law 739 = .ok (.iaload, 1) := by decide +kernel
theorem dL_740 : decode cL_law 740 = .ok (.invokevirtual 82, 3) := by decide +kernel
theorem dL_743 : decode cL_law 743 = .ok (.if_icmp .eq 925, 3) := by decide +kernel
theorem dL_746 : decode cL_law 746 = .ok (.iconst 0, 1) := by decide +kernel
theorem dL_747 : decode cL_law 747 = .ok (.ireturn, 1) := by decide +kernel
theorem dL_748 : decode cL_law 748 = .ok (.aload_n 1, 1) := by decide +kernel
theorem dL_749 : decode cL_law 749 = .ok (.aload_n 0, 1) := by decide +kernel
theorem dL_750 : decode cL_law 750 = .ok (.iload 4, 2) := by decide +kernel
theorem dL_752 : decode cL_law 752 = .ok (.iconst 1, 1) := by decide +kernel
theorem dL_753 : decode cL_law 753 = .ok (.iadd, 1) := by decide +kernel
theorem dL_754 : decode cL_law 754 = .ok (.iaload, 1) := by decide +kernel
theorem dL_755 : decode cL_law 755 = .ok (.invokevirtual 83, 3) := by decide +kernel
theorem dL_758 : decode cL_law 758 = .ok (.aload_n 2, 1) := by decide +kernel
theorem dL_759 : decode cL_law 759 = .ok (.aload_n 0, 1) := by decide +kernel
theorem dL_760 : decode cL_law 760 = .ok (.iload 4, 2) := by decide +kernel
theorem dL_762 : decode cL_law 762 = .ok (.iconst 1, 1) := by decide +kernel
theorem dL_763 : decode cL_law 763 = .ok (.iadd, 1) := by decide +kernel
theorem dL_764 : decode cL_law 764 = .ok (.iaload, 1) := by decide +kernel
theorem dL_765 : decode cL_law 765 = .ok (.invokevirtual 86, 3) := by decide +kernel
theorem dL_768 : decode cL_law 768 = .ok (.if_icmp .eq 900, 3) := by decide +kernel
theorem dL_771 : decode cL_law 771 = .ok (.iconst 0, 1) := by decide +kernel
theorem dL_772 : decode cL_law 772 = .ok (.ireturn, 1) := by decide +kernel
theorem dL_773 : decode cL_law 773 = .ok (.aload_n 1, 1) := by decide +kernel
theorem dL_774 : decode cL_law 774 = .ok (.aload_n 0, 1) := by decide +kernel
theorem dL_775 : decode cL_law 775 = .ok (.iload 4, 2) := by decide +kernel
theorem dL_777 : decode cL_law 777 = .ok (.iconst 1, 1) := by decide +kernel
theorem dL_778 : decode cL_law 778 = .ok (.iadd, 1) := by decide +kernel
theorem dL_779 : decode cL_law 779 = .ok (.iaload, 1) := by decide +kernel
theorem dL_780 : decode cL_law 780 = .ok (.invokevirtual 87, 3) := by decide +kernel
theorem dL_783 : decode cL_law 783 = .ok (.aload_n 2, 1) := by decide +kernel
theorem dL_784 : decode cL_law 784 = .ok (.aload_n 0, 1) := by decide +kernel
theorem dL_785 : decode cL_law 785 = .ok (.iload 4, 2) := by decide +kernel
theorem dL_787 : decode cL_law 787 = .ok (.iconst 1, 1) := by decide +kernel
theorem dL_788 : decode cL_law 788 = .ok (.iadd, 1) := by decide +kernel
theorem dL_789 : decode cL_law 789 = .ok (.iaload, 1) := by decide +kernel
theorem dL_790 : decode cL_law 790 = .ok (.invokevirtual 90, 3) := by decide +kernel
theorem dL_793 : decode cL_law 793 = .ok (.if_icmp .eq 875, 3) := by decide +kernel
theorem dL_796 : decode cL_law 796 = .ok (.iconst 0, 1) := by decide +kernel
theorem dL_797 : decode cL_law 797 = .ok (.ireturn, 1) := by decide +kernel
theorem dL_798 : decode cL_law 798 = .ok (.aload_n 1, 1) := by decide +kernel
theorem dL_799 : decode cL_law 799 = .ok (.aload_n 0, 1) := by decide +kernel
theorem dL_800 : decode cL_law 800 = .ok (.iload 4, 2) := by decide +kernel
theorem dL_802 : decode cL_law 802 = .ok (.iconst 1, 1) := by decide +kernel
theorem dL_803 : decode cL_law 803 = .ok (.iadd, 1) := by decide +kernel
theorem dL_804 : decode cL_law 804 = .ok (.iaload, 1) := by decide +kernel
theorem dL_805 : decode cL_law 805 = .ok (.aload_n 0, 1) := by decide +kernel
theorem dL_806 : decode cL_law 806 = .ok (.iload 4, 2) := by decide +kernel
theorem dL_808 : decode cL_law 808 = .ok (.iconst 2, 1) := by decide +kernel
theorem dL_809 : decode cL_law 809 = .ok (.iadd, 1) := by decide +kernel
theorem dL_810 : decode cL_law 810 = .ok (.iaload, 1) := by decide +kernel
theorem dL_811 : decode cL_law 811 = .ok (.invokevirtual 91, 3) := by decide +kernel
theorem dL_814 : decode cL_law 814 = .ok (.aload_n 2, 1) := by decide +kernel
theorem dL_815 : decode cL_law 815 = .ok (.aload_n 0, 1) := by decide +kernel
theorem dL_816 : decode cL_law 816 = .ok (.iload 4, 2) := by decide +kernel
theorem dL_818 : decode cL_law 818 = .ok (.iconst 1, 1) := by decide +kernel
theorem dL_819 : decode cL_law 819 = .ok (.iadd, 1) := by decide +kernel
theorem dL_820 : decode cL_law 820 = .ok (.iaload, 1) := by decide +kernel
theorem dL_821 : decode cL_law 821 = .ok (.aload_n 0, 1) := by decide +kernel
theorem dL_822 : decode cL_law 822 = .ok (.iload 4, 2) := by decide +kernel
theorem dL_824 : decode cL_law 824 = .ok (.iconst 2, 1) := by decide +kernel
theorem dL_825 : decode cL_law 825 = .ok (.iadd, 1) := by decide +kernel
theorem dL_826 : decode cL_law 826 = .ok (.iaload, 1) := by decide +kernel
theorem dL_827 : decode cL_law 827 = .ok (.invokevirtual 94, 3) := by decide +kernel
theorem dL_830 : decode cL_law 830 = .ok (.if_icmp .eq 838, 3) := by decide +kernel
theorem dL_833 : decode cL_law 833 = .ok (.iconst 0, 1) := by decide +kernel
theorem dL_834 : decode cL_law 834 = .ok (.ireturn, 1) := by decide +kernel
theorem dL_835 : decode cL_law 835 = .ok (.aload_n 1, 1) := by decide +kernel
theorem dL_836 : decode cL_law 836 = .ok (.invokevirtual 95, 3) := by decide +kernel
theorem dL_839 : decode cL_law 839 = .ok (.aload_n 2, 1) := by decide +kernel
theorem dL_840 : decode cL_law 840 = .ok (.invokevirtual 98, 3) := by decide +kernel
theorem dL_843 : decode cL_law 843 = .ok (.if_icmp .eq 825, 3) := by decide +kernel
theorem dL_846 : decode cL_law 846 = .ok (.iconst 0, 1) := by decide +kernel
theorem dL_847 : decode cL_law 847 = .ok (.ireturn, 1) := by decide +kernel
theorem dL_848 : decode cL_law 848 = .ok (.aload_n 1, 1) := by decide +kernel
theorem dL_849 : decode cL_law 849 = .ok (.aload_n 0, 1) := by decide +kernel
theorem dL_850 : decode cL_law 850 = .ok (.iload 4, 2) := by decide +kernel
theorem dL_852 : decode cL_law 852 = .ok (.iconst 1, 1) := by decide +kernel
theorem dL_853 : decode cL_law 853 = .ok (.iadd, 1) := by decide +kernel
theorem dL_854 : decode cL_law 854 = .ok (.iaload, 1) := by decide +kernel
theorem dL_855 : decode cL_law 855 = .ok (.invokevirtual 99, 3) := by decide +kernel
theorem dL_858 : decode cL_law 858 = .ok (.aload_n 2, 1) := by decide +kernel
theorem dL_859 : decode cL_law 859 = .ok (.aload_n 0, 1) := by decide +kernel
theorem dL_860 : decode cL_law 860 = .ok (.iload 4, 2) := by decide +kernel
theorem dL_862 : decode cL_law 862 = .ok (.iconst 1, 1) := by decide +kernel
theorem dL_863 : decode cL_law 863 = .ok (.iadd, 1) := by decide +kernel
theorem dL_864 : decode cL_law 864 = .ok (.iaload, 1) := by decide +kernel
theorem dL_865 : decode cL_law 865 = .ok (.invokevirtual 102, 3) := by decide +kernel
theorem dL_868 : decode cL_law 868 = .ok (.if_icmp .eq 800, 3) := by decide +kernel
theorem dL_871 : decode cL_law 871 = .ok (.iconst 0, 1) := by decide +kernel
theorem dL_872 : decode cL_law 872 = .ok (.ireturn, 1) := by decide +kernel
theorem dL_873 : decode cL_law 873 = .ok (.aload_n 1, 1) := by decide +kernel
theorem dL_874 : decode cL_law 874 = .ok (.aload_n 0, 1) := by decide +kernel
theorem dL_875 : decode cL_law 875 = .ok (.iload 4, 2) := by decide +kernel
theorem dL_877 : decode cL_law 877 = .ok (.iconst 1, 1) := by decide +kernel
theorem dL_878 : decode cL_law 878 = .ok (.iadd, 1) := by decide +kernel
theorem dL_879 : decode cL_law 879 = .ok (.iaload, 1) := by decide +kernel
theorem dL_880 : decode cL_law 880 = .ok (.aload_n 0, 1) := by decide +kernel
theorem dL_881 : decode cL_law 881 = .ok (.iload 4, 2) := by decide +kernel
theorem dL_883 : decode cL_law 883 = .ok (.iconst 2, 1) := by decide +kernel
theorem dL_884 : decode cL_law 884 = .ok (.iadd, 1) := by decide +kernel
theorem dL_885 : decode cL_law 885 = .ok (.iaload, 1) := by decide +kernel
theorem dL_886 : decode cL_law 886 = .ok (.invokevirtual 103, 3) := by decide +kernel
theorem dL_889 : decode cL_law 889 = .ok (.aload_n 2, 1) := by decide +kernel
theorem dL_890 : decode cL_law 890 = .ok (.aload_n 0, 1) := by decide +kernel
theorem dL_891 : decode cL_law 891 = .ok (.iload 4, 2) := by decide +kernel
theorem dL_893 : decode cL_law 893 = .ok (.iconst 1, 1) := by decide +kernel
theorem dL_894 : decode cL_law 894 = .ok (.iadd, 1) := by decide +kernel
theorem dL_895 : decode cL_law 895 = .ok (.iaload, 1) := by decide +kernel
theorem dL_896 : decode cL_law 896 = .ok (.aload_n 0, 1) := by decide +kernel
theorem dL_897 : decode cL_law 897 = .ok (.iload 4, 2) := by decide +kernel
theorem dL_899 : decode cL_law 899 = .ok (.iconst 2, 1) := by decide +kernel
theorem dL_900 : decode cL_law 900 = .ok (.iadd, 1) := by decide +kernel
theorem dL_901 : decode cL_law 901 = .ok (.iaload, 1) := by decide +kernel
theorem dL_902 : decode cL_law 902 = .ok (.invokevirtual 106, 3) := by decide +kernel
theorem dL_905 : decode cL_law 905 = .ok (.if_icmp .eq 763, 3) := by decide +kernel
theorem dL_908 : decode cL_law 908 = .ok (.iconst 0, 1) := by decide +kernel
theorem dL_909 : decode cL_law 909 = .ok (.ireturn, 1) := by decide +kernel
theorem dL_910 : decode cL_law 910 = .ok (.aload_n 1, 1) := by decide +kernel
theorem dL_911 : decode cL_law 911 = .ok (.aload_n 0, 1) := by decide +kernel
theorem dL_912 : decode cL_law 912 = .ok (.iload 4, 2) := by decide +kernel
theorem dL_914 : decode cL_law 914 = .ok (.iconst 1, 1) := by decide +kernel
theorem dL_915 : decode cL_law 915 = .ok (.iadd, 1) := by decide +kernel
theorem dL_916 : decode cL_law 916 = .ok (.iaload, 1) := by decide +kernel
theorem dL_917 : decode cL_law 917 = .ok (.aload_n 0, 1) := by decide +kernel
theorem dL_918 : decode cL_law 918 = .ok (.iload 4, 2) := by decide +kernel
theorem dL_920 : decode cL_law 920 = .ok (.iconst 2, 1) := by decide +kernel
theorem dL_921 : decode cL_law 921 = .ok (.iadd, 1) := by decide +kernel
theorem dL_922 : decode cL_law 922 = .ok (.iaload, 1) := by decide +kernel
theorem dL_923 : decode cL_law 923 = .ok (.invokevirtual 107, 3) := by decide +kernel
theorem dL_926 : decode cL_law 926 = .ok (.aload_n 2, 1) := by decide +kernel
theorem dL_927 : decode cL_law 927 = .ok (.aload_n 0, 1) := by decide +kernel
theorem dL_928 : decode cL_law 928 = .ok (.iload 4, 2) := by decide +kernel
theorem dL_930 : decode cL_law 930 = .ok (.iconst 1, 1) := by decide +kernel
theorem dL_931 : decode cL_law 931 = .ok (.iadd, 1) := by decide +kernel
theorem dL_932 : decode cL_law 932 = .ok (.iaload, 1) := by decide +kernel
theorem dL_933 : decode cL_law 933 = .ok (.aload_n 0, 1) := by decide +kernel
theorem dL_934 : decode cL_law 934 = .ok (.iload 4, 2) := by decide +kernel
theorem dL_936 : decode cL_law 936 = .ok (.iconst 2, 1) := by decide +kernel
theorem dL_937 : decode cL_law 937 = .ok (.iadd, 1) := by decide +kernel
theorem dL_938 : decode cL_law 938 = .ok (.iaload, 1) := by decide +kernel
theorem dL_939 : decode cL_law 939 = .ok (.invokevirtual 110, 3) := by decide +kernel
theorem dL_942 : decode cL_law 942 = .ok (.if_icmp .eq 726, 3) := by decide +kernel
theorem dL_945 : decode cL_law 945 = .ok (.iconst 0, 1) := by decide +kernel
theorem dL_946 : decode cL_law 946 = .ok (.ireturn, 1) := by decide +kernel
theorem dL_947 : decode cL_law 947 = .ok (.aload_n 1, 1) := by decide +kernel
theorem dL_948 : decode cL_law 948 = .ok (.aload_n 0, 1) := by decide +kernel
theorem dL_949 : decode cL_law 949 = .ok (.iload 4, 2) := by decide +kernel
theorem dL_951 : decode cL_law 951 = .ok (.iconst 1, 1) := by decide +kernel
theorem dL_952 : decode cL_law 952 = .ok (.iadd, 1) := by decide +kernel
theorem dL_953 : decode cL_law 953 = .ok (.iaload, 1) := by decide +kernel
theorem dL_954 : decode cL_law 954 = .ok (.aload_n 0, 1) := by decide +kernel
theorem dL_955 : decode cL_law 955 = .ok (.iload 4, 2) := by decide +kernel
theorem dL_957 : decode cL_law 957 = .ok (.iconst 2, 1) := by decide +kernel
theorem dL_958 : decode cL_law 958 = .ok (.iadd, 1) := by decide +kernel
theorem dL_959 : decode cL_law 959 = .ok (.iaload, 1) := by decide +kernel
theorem dL_960 : decode cL_law 960 = .ok (.ifCond .eq 7, 3) := by decide +kernel
theorem dL_963 : decode cL_law 963 = .ok (.iconst 1, 1) := by decide +kernel
theorem dL_964 : decode cL_law 964 = .ok (.goto 4, 3) := by decide +kernel
theorem dL_967 : decode cL_law 967 = .ok (.iconst 0, 1) := by decide +kernel
theorem dL_968 : decode cL_law 968 = .ok (.invokevirtual 111, 3) := by decide +kernel
theorem dL_971 : decode cL_law 971 = .ok (.aload_n 2, 1) := by decide +kernel
theorem dL_972 : decode cL_law 972 = .ok (.aload_n 0, 1) := by decide +kernel
theorem dL_973 : decode cL_law 973 = .ok (.iload 4, 2) := by decide +kernel
theorem dL_975 : decode cL_law 975 = .ok (.iconst 1, 1) := by decide +kernel
theorem dL_976 : decode cL_law 976 = .ok (.iadd, 1) := by decide +kernel
theorem dL_977 : decode cL_law 977 = .ok (.iaload, 1) := by decide +kernel
theorem dL_978 : decode cL_law 978 = .ok (.aload_n 0, 1) := by decide +kernel
theorem dL_979 : decode cL_law 979 = .ok (.iload 4, 2) := by decide +kernel
theorem dL_981 : decode cL_law 981 = .ok (.iconst 2, 1) := by decide +kernel
theorem dL_982 : decode cL_law 982 = .ok (.iadd, 1) := by decide +kernel
theorem dL_983 : decode cL_law 983 = .ok (.iaload, 1) := by decide +kernel
theorem dL_984 : decode cL_law 984 = .ok (.ifCond .eq 7, 3) := by decide +kernel
theorem dL_987 : decode cL_law 987 = .ok (.iconst 1, 1) := by decide +kernel
theorem dL_988 : decode cL_law 988 = .ok (.goto 4, 3) := by decide +kernel
theorem dL_991 : decode cL_law 991 = .ok (.iconst 0, 1) := by decide +kernel
theorem dL_992 : decode cL_law 992 = .ok (.invokevirtual 115, 3) := by decide +kernel
theorem dL_995 : decode cL_law 995 = .ok (.if_icmp .eq 673, 3) := by decide +kernel
theorem dL_998 : decode cL_law 998 = .ok (.iconst 0, 1) := by decide +kernel
theorem dL_999 : decode cL_law 999 = .ok (.ireturn, 1) := by decide +kernel
theorem dL_1000 : decode cL_law 1000 = .ok (.aload_n 1, 1) := by decide +kernel
theorem dL_1001 : decode cL_law 1001 = .ok (.aload_n 0, 1) := by decide +kernel
theorem dL_1002 : decode cL_law 1002 = .ok (.iload 4, 2) := by decide +kernel
theorem dL_1004 : decode cL_law 1004 = .ok (.iconst 1, 1) := by decide +kernel
theorem dL_1005 : decode cL_law 1005 = .ok (.iadd, 1) := by decide +kernel
theorem dL_1006 : decode cL_law 1006 = .ok (.iaload, 1) := by decide +kernel
theorem dL_1007 : decode cL_law 1007 = .ok (.invokevirtual 116, 3) := by decide +kernel
theorem dL_1010 : decode cL_law 1010 = .ok (.aload_n 2, 1) := by decide +kernel
theorem dL_1011 : decode cL_law 1011 = .ok (.aload_n 0, 1) := by decide +kernel
theorem dL_1012 : decode cL_law 1012 = .ok (.iload 4, 2) := by decide +kernel
theorem dL_1014 : decode cL_law 1014 = .ok (.iconst 1, 1) := by decide +kernel
theorem dL_1015 : decode cL_law 1015 = .ok (.iadd, 1) := by decide +kernel
theorem dL_1016 : decode cL_law 1016 = .ok (.iaload, 1) := by decide +kernel
theorem dL_1017 : decode cL_law 1017 = .ok (.invokevirtual 119, 3) := by decide +kernel
theorem dL_1020 : decode cL_law 1020 = .ok (.if_icmp .eq 648, 3) := by decide +kernel
theorem dL_1023 : decode cL_law 1023 = .ok (.iconst 0, 1) := by decide +kernel
theorem dL_1024 : decode cL_law 1024 = .ok (.ireturn, 1) := by decide +kernel
theorem dL_1025 : decode cL_law 1025 = .ok (.aload_n 1, 1) := by decide +kernel
theorem dL_1026 : decode cL_law 1026 = .ok (.aload_n 0, 1) := by decide +kernel
theorem dL_1027 : decode cL_law 1027 = .ok (.iload 4, 2) := by decide +kernel
theorem dL_1029 : decode cL_law 1029 = .ok (.iconst 1, 1) := by decide +kernel
theorem dL_1030 : decode cL_law 1030 = .ok (.iadd, 1) := by decide +kernel
theorem dL_1031 : decode cL_law 1031 = .ok (.iaload, 1) := by decide +kernel
theorem dL_1032 : decode cL_law 1032 = .ok (.invokevirtual 120, 3) := by decide +kernel
theorem dL_1035 : decode cL_law 1035 = .ok (.aload_n 2, 1) := by decide +kernel
theorem dL_1036 : decode cL_law 1036 = .ok (.aload_n 0, 1) := by decide +kernel
theorem dL_1037 : decode cL_law 1037 = .ok (.iload 4, 2) := by decide +kernel
theorem dL_1039 : decode cL_law 1039 = .ok (.iconst 1, 1) := by decide +kernel
theorem dL_1040 : decode cL_law 1040 = .ok (.iadd, 1) := by decide +kernel
theorem dL_1041 : decode cL_law 1041 = .ok (.iaload, 1) := by decide +kernel
theorem dL_1042 : decode cL_law 1042 = .ok (.invokevirtual 123, 3) := by decide +kernel
theorem dL_1045 : decode cL_law 1045 = .ok (.if_icmp .eq 623, 3) := by decide +kernel
theorem dL_1048 : decode cL_law 1048 = .ok (.iconst 0, 1) := by decide +kernel
theorem dL_1049 : decode cL_law 1049 = .ok (.ireturn, 1) := by decide +kernel
theorem dL_1050 : decode cL_law 1050 = .ok (.aload_n 1, 1) := by decide +kernel
theorem dL_1051 : decode cL_law 1051 = .ok (.invokevirtual 124, 3) := by decide +kernel
theorem dL_1054 : decode cL_law 1054 = .ok (.aload_n 2, 1) := by decide +kernel
theorem dL_1055 : decode cL_law 1055 = .ok (.invokevirtual 127, 3) := by decide +kernel
theorem dL_1058 : decode cL_law 1058 = .ok (.if_icmp .eq 610, 3) := by decide +kernel
theorem dL_1061 : decode cL_law 1061 = .ok (.iconst 0, 1) := by decide +kernel
theorem dL_1062 : decode cL_law 1062 = .ok (.ireturn, 1) := by decide +kernel
theorem dL_1063 : decode cL_law 1063 = .ok (.aload_n 1, 1) := by decide +kernel
theorem dL_1064 : decode cL_law 1064 = .ok (.invokevirtual 128, 3) := by decide +kernel
theorem dL_1067 : decode cL_law 1067 = .ok (.aload_n 2, 1) := by decide +kernel
theorem dL_1068 : decode cL_law 1068 = .ok (.invokevirtual 131, 3) := by decide +kernel
theorem dL_1071 : decode cL_law 1071 = .ok (.if_icmp .eq 597, 3) := by decide +kernel
theorem dL_1074 : decode cL_law 1074 = .ok (.iconst 0, 1) := by decide +kernel
theorem dL_1075 : decode cL_law 1075 = .ok (.ireturn, 1) := by decide +kernel
theorem dL_1076 : decode cL_law 1076 = .ok (.aload_n 1, 1) := by decide +kernel
theorem dL_1077 : decode cL_law 1077 = .ok (.aload_n 0, 1) := by decide +kernel
theorem dL_1078 : decode cL_law 1078 = .ok (.iload 4, 2) := by decide +kernel
theorem dL_1080 : decode cL_law 1080 = .ok (.iconst 1, 1) := by decide +kernel
theorem dL_1081 : decode cL_law 1081 = .ok (.iadd, 1) := by decide +kernel
theorem dL_1082 : decode cL_law 1082 = .ok (.iaload, 1) := by decide +kernel
theorem dL_1083 : decode cL_law 1083 = .ok (.invokevirtual 132, 3) := by decide +kernel
theorem dL_1086 : decode cL_law 1086 = .ok (.aload_n 2, 1) := by decide +kernel
theorem dL_1087 : decode cL_law 1087 = .ok (.aload_n 0, 1) := by decide +kernel
theorem dL_1088 : decode cL_law 1088 = .ok (.iload 4, 2) := by decide +kernel
theorem dL_1090 : decode cL_law 1090 = .ok (.iconst 1, 1) := by decide +kernel
theorem dL_1091 : decode cL_law 1091 = .ok (.iadd, 1) := by decide +kernel
theorem dL_1092 : decode cL_law 1092 = .ok (.iaload, 1) := by decide +kernel
theorem dL_1093 : decode cL_law 1093 = .ok (.invokevirtual 135, 3) := by decide +kernel
theorem dL_1096 : decode cL_law 1096 = .ok (.if_icmp .eq 572, 3) := by decide +kernel
theorem dL_1099 : decode cL_law 1099 = .ok (.iconst 0, 1) := by decide +kernel
theorem dL_1100 : decode cL_law 1100 = .ok (.ireturn, 1) := by decide +kernel
theorem dL_1101 : decode cL_law 1101 = .ok (.aload_n 1, 1) := by decide +kernel
theorem dL_1102 : decode cL_law 1102 = .ok (.aload_n 0, 1) := by decide +kernel
theorem dL_1103 : decode cL_law 1103 = .ok (.iload 4, 2) := by decide +kernel
theorem dL_1105 : decode cL_law 1105 = .ok (.iconst 1, 1) := by decide +kernel
theorem dL_1106 : decode cL_law 1106 = .ok (.iadd, 1) := by decide +kernel
theorem dL_1107 : decode cL_law 1107 = .ok (.iaload, 1) := by decide +kernel
theorem dL_1108 : decode cL_law 1108 = .ok (.aload_n 0, 1) := by decide +kernel
theorem dL_1109 : decode cL_law 1109 = .ok (.iload 4, 2) := by decide +kernel
theorem dL_1111 : decode cL_law 1111 = .ok (.iconst 2, 1) := by decide +kernel
theorem dL_1112 : decode cL_law 1112 = .ok (.iadd, 1) := by decide +kernel
theorem dL_1113 : decode cL_law 1113 = .ok (.iaload, 1) := by decide +kernel
theorem dL_1114 : decode cL_law 1114 = .ok (.invokevirtual 136, 3) := by decide +kernel
theorem dL_1117 : decode cL_law 1117 = .ok (.aload_n 2, 1) := by decide +kernel
theorem dL_1118 : decode cL_law 1118 = .ok (.aload_n 0, 1) := by decide +kernel
theorem dL_1119 : decode cL_law 1119 = .ok (.iload 4, 2) := by decide +kernel
theorem dL_1121 : decode cL_law 1121 = .ok (.iconst 1, 1) := by decide +kernel
theorem dL_1122 : decode cL_law 1122 = .ok (.iadd, 1) := by decide +kernel
theorem dL_1123 : decode cL_law 1123 = .ok (.iaload, 1) := by decide +kernel
theorem dL_1124 : decode cL_law 1124 = .ok (.aload_n 0, 1) := by decide +kernel
theorem dL_1125 : decode cL_law 1125 = .ok (.iload 4, 2) := by decide +kernel
theorem dL_1127 : decode cL_law 1127 = .ok (.iconst 2, 1) := by decide +kernel
theorem dL_1128 : decode cL_law 1128 = .ok (.iadd, 1) := by decide +kernel
theorem dL_1129 : decode cL_law 1129 = .ok (.iaload, 1) := by decide +kernel
theorem dL_1130 : decode cL_law 1130 = .ok (.invokevirtual 139, 3) := by decide +kernel
theorem dL_1133 : decode cL_law 1133 = .ok (.if_icmp .eq 535, 3) := by decide +kernel
theorem dL_1136 : decode cL_law 1136 = .ok (.iconst 0, 1) := by decide +kernel
theorem dL_1137 : decode cL_law 1137 = .ok (.ireturn, 1) := by decide +kernel
theorem dL_1138 : decode cL_law 1138 = .ok (.aload_n 1, 1) := by decide +kernel
theorem dL_1139 : decode cL_law 1139 = .ok (.invokevirtual 140, 3) := by decide +kernel
theorem dL_1142 : decode cL_law 1142 = .ok (.aload_n 2, 1) := by decide +kernel
theorem dL_1143 : decode cL_law 1143 = .ok (.invokevirtual 143, 3) := by decide +kernel
theorem dL_1146 : decode cL_law 1146 = .ok (.if_icmp .eq 522, 3) := by decide +kernel
theorem dL_1149 : decode cL_law 1149 = .ok (.iconst 0, 1) := by decide +kernel
theorem dL_1150 : decode cL_law 1150 = .ok (.ireturn, 1) := by decide +kernel
theorem dL_1151 : decode cL_law 1151 = .ok (.aload_n 1, 1) := by decide +kernel
theorem dL_1152 : decode cL_law 1152 = .ok (.invokevirtual 144, 3) := by decide +kernel
theorem dL_1155 : decode cL_law 1155 = .ok (.aload_n 2, 1) := by decide +kernel
theorem dL_1156 : decode cL_law 1156 = .ok (.invokevirtual 147, 3) := by decide +kernel
theorem dL_1159 : decode cL_law 1159 = .ok (.if_icmp .eq 509, 3) := by decide +kernel
theorem dL_1162 : decode cL_law 1162 = .ok (.iconst 0, 1) := by decide +kernel
theorem dL_1163 : decode cL_law 1163 = .ok (.ireturn, 1) := by decide +kernel
theorem dL_1164 : decode cL_law 1164 = .ok (.aload_n 1, 1) := by decide +kernel
theorem dL_1165 : decode cL_law 1165 = .ok (.aload_n 0, 1) := by decide +kernel
theorem dL_1166 : decode cL_law 1166 = .ok (.iload 4, 2) := by decide +kernel
theorem dL_1168 : decode cL_law 1168 = .ok (.iconst 1, 1) := by decide +kernel
theorem dL_1169 : decode cL_law 1169 = .ok (.iadd, 1) := by decide +kernel
theorem dL_1170 : decode cL_law 1170 = .ok (.iaload, 1) := by decide +kernel
theorem dL_1171 : decode cL_law 1171 = .ok (.invokevirtual 148, 3) := by decide +kernel
theorem dL_1174 : decode cL_law 1174 = .ok (.aload_n 2, 1) := by decide +kernel
theorem dL_1175 : decode cL_law 1175 = .ok (.aload_n 0, 1) := by decide +kernel
theorem dL_1176 : decode cL_law 1176 = .ok (.iload 4, 2) := by decide +kernel
theorem dL_1178 : decode cL_law 1178 = .ok (.iconst 1, 1) := by decide +kernel
theorem dL_1179 : decode cL_law 1179 = .ok (.iadd, 1) := by decide +kernel
theorem dL_1180 : decode cL_law 1180 = .ok (.iaload, 1) := by decide +kernel
theorem dL_1181 : decode cL_law 1181 = .ok (.invokevirtual 151, 3) := by decide +kernel
theorem dL_1184 : decode cL_law 1184 = .ok (.if_icmp .eq 484, 3) := by decide +kernel
theorem dL_1187 : decode cL_law 1187 = .ok (.iconst 0, 1) := by decide +kernel
theorem dL_1188 : decode cL_law 1188 = .ok (.ireturn, 1) := by decide +kernel
theorem dL_1189 : decode cL_law 1189 = .ok (.aload_n 1, 1) := by decide +kernel
theorem dL_1190 : decode cL_law 1190 = .ok (.aload_n 0, 1) := by decide +kernel
theorem dL_1191 : decode cL_law 1191 = .ok (.iload 4, 2) := by decide +kernel
theorem dL_1193 : decode cL_law 1193 = .ok (.iconst 1, 1) := by decide +kernel
theorem dL_1194 : decode cL_law 1194 = .ok (.iadd, 1) := by decide +kernel
theorem dL_1195 : decode cL_law 1195 = .ok (.iaload, 1) := by decide +kernel
theorem dL_1196 : decode cL_law 1196 = .ok (.aload_n 0, 1) := by decide +kernel
theorem dL_1197 : decode cL_law 1197 = .ok (.iload 4, 2) := by decide +kernel
theorem dL_1199 : decode cL_law 1199 = .ok (.iconst 2, 1) := by decide +kernel
theorem dL_1200 : decode cL_law 1200 = .ok (.iadd, 1) := by decide +kernel
theorem dL_1201 : decode cL_law 1201 = .ok (.iaload, 1) := by decide +kernel
theorem dL_1202 : decode cL_law 1202 = .ok (.aload_n 0, 1) := by decide +kernel
theorem dL_1203 : decode cL_law 1203 = .ok (.iload 4, 2) := by decide +kernel
theorem dL_1205 : decode cL_law 1205 = .ok (.iconst 3, 1) := by decide +kernel
theorem dL_1206 : decode cL_law 1206 = .ok (.iadd, 1) := by decide +kernel
theorem dL_1207 : decode cL_law 1207 = .ok (.iaload, 1) := by decide +kernel
theorem dL_1208 : decode cL_law 1208 = .ok (.ifCond .eq 7, 3) := by decide +kernel
theorem dL_1211 : decode cL_law 1211 = .ok (.iconst 1, 1) := by decide +kernel
theorem dL_1212 : decode cL_law 1212 = .ok (.goto 4, 3) := by decide +kernel
theorem dL_1215 : decode cL_law 1215 = .ok (.iconst 0, 1) := by decide +kernel
theorem dL_1216 : decode cL_law 1216 = .ok (.invokevirtual 152, 3) := by decide +kernel
theorem dL_1219 : decode cL_law 1219 = .ok (.aload_n 2, 1) := by decide +kernel
theorem dL_1220 : decode cL_law 1220 = .ok (.aload_n 0, 1) := by decide +kernel
theorem dL_1221 : decode cL_law 1221 = .ok (.iload 4, 2) := by decide +kernel
theorem dL_1223 : decode cL_law 1223 = .ok (.iconst 1, 1) := by decide +kernel
theorem dL_1224 : decode cL_law 1224 = .ok (.iadd, 1) := by decide +kernel
theorem dL_1225 : decode cL_law 1225 = .ok (.iaload, 1) := by decide +kernel
theorem dL_1226 : decode cL_law 1226 = .ok (.aload_n 0, 1) := by decide +kernel
theorem dL_1227 : decode cL_law 1227 = .ok (.iload 4, 2) := by decide +kernel
theorem dL_1229 : decode cL_law 1229 = .ok (.iconst 2, 1) := by decide +kernel
theorem dL_1230 : decode cL_law 1230 = .ok (.iadd, 1) := by decide +kernel
theorem dL_1231 : decode cL_law 1231 = .ok (.iaload, 1) := by decide +kernel
theorem dL_1232 : decode cL_law 1232 = .ok (.aload_n 0, 1) := by decide +kernel
theorem dL_1233 : decode cL_law 1233 = .ok (.iload 4, 2) := by decide +kernel
theorem dL_1235 : decode cL_law 1235 = .ok (.iconst 3, 1) := by decide +kernel
theorem dL_1236 : decode cL_law 1236 = .ok (.iadd, 1) := by decide +kernel
theorem dL_1237 : decode cL_law 1237 = .ok (.iaload, 1) := by decide +kernel
theorem dL_1238 : decode cL_law 1238 = .ok (.ifCond .eq 7, 3) := by decide +kernel
theorem dL_1241 : decode cL_law 1241 = .ok (.iconst 1, 1) := by decide +kernel
theorem dL_1242 : decode cL_law 1242 = .ok (.goto 4, 3) := by decide +kernel
theorem dL_1245 : decode cL_law 1245 = .ok (.iconst 0, 1) := by decide +kernel
theorem dL_1246 : decode cL_law 1246 = .ok (.invokevirtual 156, 3) := by decide +kernel
theorem dL_1249 : decode cL_law 1249 = .ok (.if_icmp .eq 419, 3) := by decide +kernel
theorem dL_1252 : decode cL_law 1252 = .ok (.iconst 0, 1) := by decide +kernel
theorem dL_1253 : decode cL_law 1253 = .ok (.ireturn, 1) := by decide +kernel
theorem dL_1254 : decode cL_law 1254 = .ok (.aload_n 1, 1) := by decide +kernel
theorem dL_1255 : decode cL_law 1255 = .ok (.invokevirtual 157, 3) := by decide +kernel
theorem dL_1258 : decode cL_law 1258 = .ok (.aload_n 2, 1) := by decide +kernel
theorem dL_1259 : decode cL_law 1259 = .ok (.invokevirtual 160, 3) := by decide +kernel
theorem dL_1262 : decode cL_law 1262 = .ok (.if_icmp .eq 406, 3) := by decide +kernel
theorem dL_1265 : decode cL_law 1265 = .ok (.iconst 0, 1) := by decide +kernel
theorem dL_1266 : decode cL_law 1266 = .ok (.ireturn, 1) := by decide +kernel
theorem dL_1267 : decode cL_law 1267 = .ok (.aload_n 1, 1) := by decide +kernel
theorem dL_1268 : decode cL_law 1268 = .ok (.invokevirtual 161, 3) := by decide +kernel
theorem dL_1271 : decode cL_law 1271 = .ok (.aload_n 2, 1) := by decide +kernel
theorem dL_1272 : decode cL_law 1272 = .ok (.invokevirtual 164, 3) := by decide +kernel
theorem dL_1275 : decode cL_law 1275 = .ok (.if_icmp .eq 393, 3) := by decide +kernel
theorem dL_1278 : decode cL_law 1278 = .ok (.iconst 0, 1) := by decide +kernel
theorem dL_1279 : decode cL_law 1279 = .ok (.ireturn, 1) := by decide +kernel
theorem dL_1280 : decode cL_law 1280 = .ok (.aload_n 1, 1) := by decide +kernel
theorem dL_1281 : decode cL_law 1281 = .ok (.invokevirtual 165, 3) := by decide +kernel
theorem dL_1284 : decode cL_law 1284 = .ok (.aload_n 2, 1) := by decide +kernel
theorem dL_1285 : decode cL_law 1285 = .ok (.invokevirtual 168, 3) := by decide +kernel
theorem dL_1288 : decode cL_law 1288 = .ok (.if_icmp .eq 380, 3) := by decide +kernel
theorem dL_1291 : decode cL_law 1291 = .ok (.iconst 0, 1) := by decide +kernel
theorem dL_1292 : decode cL_law 1292 = .ok (.ireturn, 1) := by decide +kernel
theorem dL_1293 : decode cL_law 1293 = .ok (.aload_n 1, 1) := by decide +kernel
theorem dL_1294 : decode cL_law 1294 = .ok (.aload_n 0, 1) := by decide +kernel
theorem dL_1295 : decode cL_law 1295 = .ok (.iload 4, 2) := by decide +kernel
theorem dL_1297 : decode cL_law 1297 = .ok (.iconst 1, 1) := by decide +kernel
theorem dL_1298 : decode cL_law 1298 = .ok (.iadd, 1) := by decide +kernel
theorem dL_1299 : decode cL_law 1299 = .ok (.iaload, 1) := by decide +kernel
theorem dL_1300 : decode cL_law 1300 = .ok (.aload_n 0, 1) := by decide +kernel
theorem dL_1301 : decode cL_law 1301 = .ok (.iload 4, 2) := by decide +kernel
theorem dL_1303 : decode cL_law 1303 = .ok (.iconst 2, 1) := by decide +kernel
theorem dL_1304 : decode cL_law 1304 = .ok (.iadd, 1) := by decide +kernel
theorem dL_1305 : decode cL_law 1305 = .ok (.iaload, 1) := by decide +kernel
theorem dL_1306 : decode cL_law 1306 = .ok (.ifCond .eq 7, 3) := by decide +kernel
theorem dL_1309 : decode cL_law 1309 = .ok (.iconst 1, 1) := by decide +kernel
theorem dL_1310 : decode cL_law 1310 = .ok (.goto 4, 3) := by decide +kernel
theorem dL_1313 : decode cL_law 1313 = .ok (.iconst 0, 1) := by decide +kernel
theorem dL_1314 : decode cL_law 1314 = .ok (.invokevirtual 169, 3) := by decide +kernel
theorem dL_1317 : decode cL_law 1317 = .ok (.aload_n 2, 1) := by decide +kernel
theorem dL_1318 : decode cL_law 1318 = .ok (.aload_n 0, 1) := by decide +kernel
theorem dL_1319 : decode cL_law 1319 = .ok (.iload 4, 2) := by decide +kernel
theorem dL_1321 : decode cL_law 1321 = .ok (.iconst 1, 1) := by decide +kernel
theorem dL_1322 : decode cL_law 1322 = .ok (.iadd, 1) := by decide +kernel
theorem dL_1323 : decode cL_law 1323 = .ok (.iaload, 1) := by decide +kernel
theorem dL_1324 : decode cL_law 1324 = .ok (.aload_n 0, 1) := by decide +kernel
theorem dL_1325 : decode cL_law 1325 = .ok (.iload 4, 2) := by decide +kernel
theorem dL_1327 : decode cL_law 1327 = .ok (.iconst 2, 1) := by decide +kernel
theorem dL_1328 : decode cL_law 1328 = .ok (.iadd, 1) := by decide +kernel
theorem dL_1329 : decode cL_law 1329 = .ok (.iaload, 1) := by decide +kernel
theorem dL_1330 : decode cL_law 1330 = .ok (.ifCond .eq 7, 3) := by decide +kernel
theorem dL_1333 : decode cL_law 1333 = .ok (.iconst 1, 1) := by decide +kernel
theorem dL_1334 : decode cL_law 1334 = .ok (.goto 4, 3) := by decide +kernel
theorem dL_1337 : decode cL_law 1337 = .ok (.iconst 0, 1) := by decide +kernel
theorem dL_1338 : decode cL_law 1338 = .ok (.invokevirtual 172, 3) := by decide +kernel
theorem dL_1341 : decode cL_law 1341 = .ok (.if_icmp .eq 327, 3) := by decide +kernel
theorem dL_1344 : decode cL_law 1344 = .ok (.iconst 0, 1) := by decide +kernel
theorem dL_1345 : decode cL_law 1345 = .ok (.ireturn, 1) := by decide +kernel
theorem dL_1346 : decode cL_law 1346 = .ok (.aload_n 1, 1) := by decide +kernel
theorem dL_1347 : decode cL_law 1347 = .ok (.aload_n 0, 1) := by decide +kernel
theorem dL_1348 : decode cL_law 1348 = .ok (.iload 4, 2) := by decide +kernel
theorem dL_1350 : decode cL_law 1350 = .ok (.iconst 1, 1) := by decide +kernel
theorem dL_1351 : decode cL_law 1351 = .ok (.iadd, 1) := by decide +kernel
theorem dL_1352 : decode cL_law 1352 = .ok (.iaload, 1) := by decide +kernel
theorem dL_1353 : decode cL_law 1353 = .ok (.invokevirtual 173, 3) := by decide +kernel
theorem dL_1356 : decode cL_law 1356 = .ok (.aload_n 2, 1) := by decide +kernel
theorem dL_1357 : decode cL_law 1357 = .ok (.aload_n 0, 1) := by decide +kernel
theorem dL_1358 : decode cL_law 1358 = .ok (.iload 4, 2) := by decide +kernel
theorem dL_1360 : decode cL_law 1360 = .ok (.iconst 1, 1) := by decide +kernel
theorem dL_1361 : decode cL_law 1361 = .ok (.iadd, 1) := by decide +kernel
theorem dL_1362 : decode cL_law 1362 = .ok (.iaload, 1) := by decide +kernel
theorem dL_1363 : decode cL_law 1363 = .ok (.invokevirtual 176, 3) := by decide +kernel
theorem dL_1366 : decode cL_law 1366 = .ok (.if_icmp .eq 302, 3) := by decide +kernel
theorem dL_1369 : decode cL_law 1369 = .ok (.iconst 0, 1) := by decide +kernel
theorem dL_1370 : decode cL_law 1370 = .ok (.ireturn, 1) := by decide +kernel
theorem dL_1371 : decode cL_law 1371 = .ok (.aload_n 1, 1) := by decide +kernel
theorem dL_1372 : decode cL_law 1372 = .ok (.aload_n 0, 1) := by decide +kernel
theorem dL_1373 : decode cL_law 1373 = .ok (.iload 4, 2) := by decide +kernel
theorem dL_1375 : decode cL_law 1375 = .ok (.iconst 1, 1) := by decide +kernel
theorem dL_1376 : decode cL_law 1376 = .ok (.iadd, 1) := by decide +kernel
theorem dL_1377 : decode cL_law 1377 = .ok (.iaload, 1) := by decide +kernel
theorem dL_1378 : decode cL_law 1378 = .ok (.ifCond .eq 7, 3) := by decide +kernel
theorem dL_1381 : decode cL_law 1381 = .ok (.iconst 1, 1) := by decide +kernel
theorem dL_1382 : decode cL_law 1382 = .ok (.goto 4, 3) := by decide +kernel
theorem dL_1385 : decode cL_law 1385 = .ok (.iconst 0, 1) := by decide +kernel
theorem dL_1386 : decode cL_law 1386 = .ok (.invokevirtual 177, 3) := by decide +kernel
theorem dL_1389 : decode cL_law 1389 = .ok (.aload_n 2, 1) := by decide +kernel
theorem dL_1390 : decode cL_law 1390 = .ok (.aload_n 0, 1) := by decide +kernel
theorem dL_1391 : decode cL_law 1391 = .ok (.iload 4, 2) := by decide +kernel
theorem dL_1393 : decode cL_law 1393 = .ok (.iconst 1, 1) := by decide +kernel
theorem dL_1394 : decode cL_law 1394 = .ok (.iadd, 1) := by decide +kernel
theorem dL_1395 : decode cL_law 1395 = .ok (.iaload, 1) := by decide +kernel
theorem dL_1396 : decode cL_law 1396 = .ok (.ifCond .eq 7, 3) := by decide +kernel
theorem dL_1399 : decode cL_law 1399 = .ok (.iconst 1, 1) := by decide +kernel
theorem dL_1400 : decode cL_law 1400 = .ok (.goto 4, 3) := by decide +kernel
theorem dL_1403 : decode cL_law 1403 = .ok (.iconst 0, 1) := by decide +kernel
theorem dL_1404 : decode cL_law 1404 = .ok (.invokevirtual 181, 3) := by decide +kernel
theorem dL_1407 : decode cL_law 1407 = .ok (.if_icmp .eq 261, 3) := by decide +kernel
theorem dL_1410 : decode cL_law 1410 = .ok (.iconst 0, 1) := by decide +kernel
theorem dL_1411 : decode cL_law 1411 = .ok (.ireturn, 1) := by decide +kernel
theorem dL_1412 : decode cL_law 1412 = .ok (.aload_n 1, 1) := by decide +kernel
theorem dL_1413 : decode cL_law 1413 = .ok (.aload_n 0, 1) := by decide +kernel
theorem dL_1414 : decode cL_law 1414 = .ok (.iload 4, 2) := by decide +kernel
theorem dL_1416 : decode cL_law 1416 = .ok (.iconst 1, 1) := by decide +kernel
theorem dL_1417 : decode cL_law 1417 = .ok (.iadd, 1) := by decide +kernel
theorem dL_1418 : decode cL_law 1418 = .ok (.iaload, 1) := by decide +kernel
theorem dL_1419 : decode cL_law 1419 = .ok (.aload_n 0, 1) := by decide +kernel
theorem dL_1420 : decode cL_law 1420 = .ok (.iload 4, 2) := by decide +kernel
theorem dL_1422 : decode cL_law 1422 = .ok (.iconst 2, 1) := by decide +kernel
theorem dL_1423 : decode cL_law 1423 = .ok (.iadd, 1) := by decide +kernel
theorem dL_1424 : decode cL_law 1424 = .ok (.iaload, 1) := by decide +kernel
theorem dL_1425 : decode cL_law 1425 = .ok (.invokevirtual 182, 3) := by decide +kernel
theorem dL_1428 : decode cL_law 1428 = .ok (.aload_n 2, 1) := by decide +kernel
theorem dL_1429 : decode cL_law 1429 = .ok (.aload_n 0, 1) := by decide +kernel
theorem dL_1430 : decode cL_law 1430 = .ok (.iload 4, 2) := by decide +kernel
theorem dL_1432 : decode cL_law 1432 = .ok (.iconst 1, 1) := by decide +kernel
theorem dL_1433 : decode cL_law 1433 = .ok (.iadd, 1) := by decide +kernel
theorem dL_1434 : decode cL_law 1434 = .ok (.iaload, 1) := by decide +kernel
theorem dL_1435 : decode cL_law 1435 = .ok (.aload_n 0, 1) := by decide +kernel
theorem dL_1436 : decode cL_law 1436 = .ok (.iload 4, 2) := by decide +kernel
theorem dL_1438 : decode cL_law 1438 = .ok (.iconst 2, 1) := by decide +kernel
theorem dL_1439 : decode cL_law 1439 = .ok (.iadd, 1) := by decide +kernel
theorem dL_1440 : decode cL_law 1440 = .ok (.iaload, 1) := by decide +kernel
theorem dL_1441 : decode cL_law 1441 = .ok (.invokevirtual 185, 3) := by decide +kernel
theorem dL_1444 : decode cL_law 1444 = .ok (.if_icmp .eq 224, 3) := by decide +kernel
theorem dL_1447 : decode cL_law 1447 = .ok (.iconst 0, 1) := by decide +kernel
theorem dL_1448 : decode cL_law 1448 = .ok (.ireturn, 1) := by decide +kernel
theorem dL_1449 : decode cL_law 1449 = .ok (.aload_n 1, 1) := by decide +kernel
theorem dL_1450 : decode cL_law 1450 = .ok (.aload_n 0, 1) := by decide +kernel
theorem dL_1451 : decode cL_law 1451 = .ok (.iload 4, 2) := by decide +kernel
theorem dL_1453 : decode cL_law 1453 = .ok (.iconst 1, 1) := by decide +kernel
theorem dL_1454 : decode cL_law 1454 = .ok (.iadd, 1) := by decide +kernel
theorem dL_1455 : decode cL_law 1455 = .ok (.iaload, 1) := by decide +kernel
theorem dL_1456 : decode cL_law 1456 = .ok (.aload_n 0, 1) := by decide +kernel
theorem dL_1457 : decode cL_law 1457 = .ok (.iload 4, 2) := by decide +kernel
theorem dL_1459 : decode cL_law 1459 = .ok (.iconst 2, 1) := by decide +kernel
theorem dL_1460 : decode cL_law 1460 = .ok (.iadd, 1) := by decide +kernel
theorem dL_1461 : decode cL_law 1461 = .ok (.iaload, 1) := by decide +kernel
theorem dL_1462 : decode cL_law 1462 = .ok (.aload_n 0, 1) := by decide +kernel
theorem dL_1463 : decode cL_law 1463 = .ok (.iload 4, 2) := by decide +kernel
theorem dL_1465 : decode cL_law 1465 = .ok (.iconst 3, 1) := by decide +kernel
theorem dL_1466 : decode cL_law 1466 = .ok (.iadd, 1) := by decide +kernel
theorem dL_1467 : decode cL_law 1467 = .ok (.iaload, 1) := by decide +kernel
theorem dL_1468 : decode cL_law 1468 = .ok (.aload_n 0, 1) := by decide +kernel
theorem dL_1469 : decode cL_law 1469 = .ok (.iload 4, 2) := by decide +kernel
theorem dL_1471 : decode cL_law 1471 = .ok (.iconst 4, 1) := by decide +kernel
theorem dL_1472 : decode cL_law 1472 = .ok (.iadd, 1) := by decide +kernel
theorem dL_1473 : decode cL_law 1473 = .ok (.iaload, 1) := by decide +kernel
theorem dL_1474 : decode cL_law 1474 = .ok (.aload_n 3, 1) := by decide +kernel
theorem dL_1475 : decode cL_law 1475 = .ok (.invokestatic 186, 3) := by decide +kernel
theorem dL_1478 : decode cL_law 1478 = .ok (.istore 5, 2) := by decide +kernel
theorem dL_1480 : decode cL_law 1480 = .ok (.aload_n 2, 1) := by decide +kernel
theorem dL_1481 : decode cL_law 1481 = .ok (.aload_n 0, 1) := by decide +kernel
theorem dL_1482 : decode cL_law 1482 = .ok (.iload 4, 2) := by decide +kernel
theorem dL_1484 : decode cL_law 1484 = .ok (.iconst 1, 1) := by decide +kernel
theorem dL_1485 : decode cL_law 1485 = .ok (.iadd, 1) := by decide +kernel
theorem dL_1486 : decode cL_law 1486 = .ok (.iaload, 1) := by decide +kernel
theorem dL_1487 : decode cL_law 1487 = .ok (.aload_n 0, 1) := by decide +kernel
theorem dL_1488 : decode cL_law 1488 = .ok (.iload 4, 2) := by decide +kernel
theorem dL_1490 : decode cL_law 1490 = .ok (.iconst 2, 1) := by decide +kernel
theorem dL_1491 : decode cL_law 1491 = .ok (.iadd, 1) := by decide +kernel
theorem dL_1492 : decode cL_law 1492 = .ok (.iaload, 1) := by decide +kernel
theorem dL_1493 : decode cL_law 1493 = .ok (.aload_n 0, 1) := by decide +kernel
theorem dL_1494 : decode cL_law 1494 = .ok (.iload 4, 2) := by decide +kernel
theorem dL_1496 : decode cL_law 1496 = .ok (.iconst 3, 1) := by decide +kernel
theorem dL_1497 : decode cL_law 1497 = .ok (.iadd, 1) := by decide +kernel
theorem dL_1498 : decode cL_law 1498 = .ok (.iaload, 1) := by decide +kernel
theorem dL_1499 : decode cL_law 1499 = .ok (.aload_n 0, 1) := by decide +kernel
theorem dL_1500 : decode cL_law 1500 = .ok (.iload 4, 2) := by decide +kernel
theorem dL_1502 : decode cL_law 1502 = .ok (.iconst 4, 1) := by decide +kernel
theorem dL_1503 : decode cL_law 1503 = .ok (.iadd, 1) := by decide +kernel
theorem dL_1504 : decode cL_law 1504 = .ok (.iaload, 1) := by decide +kernel
theorem dL_1505 : decode cL_law 1505 = .ok (.invokevirtual 191, 3) := by decide +kernel
theorem dL_1508 : decode cL_law 1508 = .ok (.istore 6, 2) := by decide +kernel
theorem dL_1510 : decode cL_law 1510 = .ok (.aload_n 2, 1) := by decide +kernel
theorem dL_1511 : decode cL_law 1511 = .ok (.invokevirtual 192, 3) := by decide +kernel
theorem dL_1514 : decode cL_law 1514 = .ok (.iload 5, 2) := by decide +kernel
theorem dL_1516 : decode cL_law 1516 = .ok (.if_icmp .eq 5, 3) := by decide +kernel
theorem dL_1519 : decode cL_law 1519 = .ok (.iconst 0, 1) := by decide +kernel
theorem dL_1520 : decode cL_law 1520 = .ok (.ireturn, 1) := by decide +kernel
theorem dL_1521 : decode cL_law 1521 = .ok (.iload 5, 2) := by decide +kernel
theorem dL_1523 : decode cL_law 1523 = .ok (.ifCond .ne 15, 3) := by decide +kernel
theorem dL_1526 : decode cL_law 1526 = .ok (.aload_n 3, 1) := by decide +kernel
theorem dL_1527 : decode cL_law 1527 = .ok (.iconst 0, 1) := by decide +kernel
theorem dL_1528 : decode cL_law 1528 = .ok (.laload, 1) := by decide +kernel
theorem dL_1529 : decode cL_law 1529 = .ok (.iload 6, 2) := by decide +kernel
theorem dL_1531 : decode cL_law 1531 = .ok (.i2l, 1) := by decide +kernel
theorem dL_1532 : decode cL_law 1532 = .ok (.lcmp, 1) := by decide +kernel
theorem dL_1533 : decode cL_law 1533 = .ok (.ifCond .eq 5, 3) := by decide +kernel
theorem dL_1536 : decode cL_law 1536 = .ok (.iconst 0, 1) := by decide +kernel
theorem dL_1537 : decode cL_law 1537 = .ok (.ireturn, 1) := by decide +kernel
theorem dL_1538 : decode cL_law 1538 = .ok (.goto 130, 3) := by decide +kernel
theorem dL_1541 : decode cL_law 1541 = .ok (.aload_n 1, 1) := by decide +kernel
theorem dL_1542 : decode cL_law 1542 = .ok (.aload_n 0, 1) := by decide +kernel
theorem dL_1543 : decode cL_law 1543 = .ok (.iload 4, 2) := by decide +kernel
theorem dL_1545 : decode cL_law 1545 = .ok (.iconst 1, 1) := by decide +kernel
theorem dL_1546 : decode cL_law 1546 = .ok (.iadd, 1) := by decide +kernel
theorem dL_1547 : decode cL_law 1547 = .ok (.iaload, 1) := by decide +kernel
theorem dL_1548 : decode cL_law 1548 = .ok (.aload_n 0, 1) := by decide +kernel
theorem dL_1549 : decode cL_law 1549 = .ok (.iload 4, 2) := by decide +kernel
theorem dL_1551 : decode cL_law 1551 = .ok (.iconst 2, 1) := by decide +kernel
theorem dL_1552 : decode cL_law 1552 = .ok (.iadd, 1) := by decide +kernel
theorem dL_1553 : decode cL_law 1553 = .ok (.iaload, 1) := by decide +kernel
theorem dL_1554 : decode cL_law 1554 = .ok (.aload_n 0, 1) := by decide +kernel
theorem dL_1555 : decode cL_law 1555 = .ok (.iload 4, 2) := by decide +kernel
theorem dL_1557 : decode cL_law 1557 = .ok (.iconst 3, 1) := by decide +kernel
theorem dL_1558 : decode cL_law 1558 = .ok (.iadd, 1) := by decide +kernel
theorem dL_1559 : decode cL_law 1559 = .ok (.iaload, 1) := by decide +kernel
theorem dL_1560 : decode cL_law 1560 = .ok (.invokevirtual 195, 3) := by decide +kernel
theorem dL_1563 : decode cL_law 1563 = .ok (.aload_n 2, 1) := by decide +kernel
theorem dL_1564 : decode cL_law 1564 = .ok (.aload_n 0, 1) := by decide +kernel
theorem dL_1565 : decode cL_law 1565 = .ok (.iload 4, 2) := by decide +kernel
theorem dL_1567 : decode cL_law 1567 = .ok (.iconst 1, 1) := by decide +kernel
theorem dL_1568 : decode cL_law 1568 = .ok (.iadd, 1) := by decide +kernel
theorem dL_1569 : decode cL_law 1569 = .ok (.iaload, 1) := by decide +kernel
theorem dL_1570 : decode cL_law 1570 = .ok (.aload_n 0, 1) := by decide +kernel
theorem dL_1571 : decode cL_law 1571 = .ok (.iload 4, 2) := by decide +kernel
theorem dL_1573 : decode cL_law 1573 = .ok (.iconst 2, 1) := by decide +kernel
theorem dL_1574 : decode cL_law 1574 = .ok (.iadd, 1) := by decide +kernel
theorem dL_1575 : decode cL_law 1575 = .ok (.iaload, 1) := by decide +kernel
theorem dL_1576 : decode cL_law 1576 = .ok (.aload_n 0, 1) := by decide +kernel
theorem dL_1577 : decode cL_law 1577 = .ok (.iload 4, 2) := by decide +kernel
theorem dL_1579 : decode cL_law 1579 = .ok (.iconst 3, 1) := by decide +kernel
theorem dL_1580 : decode cL_law 1580 = .ok (.iadd, 1) := by decide +kernel
theorem dL_1581 : decode cL_law 1581 = .ok (.iaload, 1) := by decide +kernel
theorem dL_1582 : decode cL_law 1582 = .ok (.invokevirtual 199, 3) := by decide +kernel
theorem dL_1585 : decode cL_law 1585 = .ok (.if_icmp .eq 83, 3) := by decide +kernel
theorem dL_1588 : decode cL_law 1588 = .ok (.iconst 0, 1) := by decide +kernel
theorem dL_1589 : decode cL_law 1589 = .ok (.ireturn, 1) := by decide +kernel
theorem dL_1590 : decode cL_law 1590 = .ok (.aload_n 1, 1) := by decide +kernel
theorem dL_1591 : decode cL_law 1591 = .ok (.aload_n 0, 1) := by decide +kernel
theorem dL_1592 : decode cL_law 1592 = .ok (.iload 4, 2) := by decide +kernel
theorem dL_1594 : decode cL_law 1594 = .ok (.iconst 1, 1) := by decide +kernel
theorem dL_1595 : decode cL_law 1595 = .ok (.iadd, 1) := by decide +kernel
theorem dL_1596 : decode cL_law 1596 = .ok (.iaload, 1) := by decide +kernel
theorem dL_1597 : decode cL_law 1597 = .ok (.aload_n 0, 1) := by decide +kernel
theorem dL_1598 : decode cL_law 1598 = .ok (.iload 4, 2) := by decide +kernel
theorem dL_1600 : decode cL_law 1600 = .ok (.iconst 2, 1) := by decide +kernel
theorem dL_1601 : decode cL_law 1601 = .ok (.iadd, 1) := by decide +kernel
theorem dL_1602 : decode cL_law 1602 = .ok (.iaload, 1) := by decide +kernel
theorem dL_1603 : decode cL_law 1603 = .ok (.ifCond .eq 7, 3) := by decide +kernel
theorem dL_1606 : decode cL_law 1606 = .ok (.iconst 1, 1) := by decide +kernel
theorem dL_1607 : decode cL_law 1607 = .ok (.goto 4, 3) := by decide +kernel
theorem dL_1610 : decode cL_law 1610 = .ok (.iconst 0, 1) := by decide +kernel
theorem dL_1611 : decode cL_law 1611 = .ok (.invokevirtual 200, 3) := by decide +kernel
theorem dL_1614 : decode cL_law 1614 = .ok (.aload_n 2, 1) := by decide +kernel
theorem dL_1615 : decode cL_law 1615 = .ok (.aload_n 0, 1) := by decide +kernel
theorem dL_1616 : decode cL_law 1616 = .ok (.iload 4, 2) := by decide +kernel
theorem dL_1618 : decode cL_law 1618 = .ok (.iconst 1, 1) := by decide +kernel
theorem dL_1619 : decode cL_law 1619 = .ok (.iadd, 1) := by decide +kernel
theorem dL_1620 : decode cL_law 1620 = .ok (.iaload, 1) := by decide +kernel
theorem dL_1621 : decode cL_law 1621 = .ok (.aload_n 0, 1) := by decide +kernel
theorem dL_1622 : decode cL_law 1622 = .ok (.iload 4, 2) := by decide +kernel
theorem dL_1624 : decode cL_law 1624 = .ok (.iconst 2, 1) := by decide +kernel
theorem dL_1625 : decode cL_law 1625 = .ok (.iadd, 1) := by decide +kernel
theorem dL_1626 : decode cL_law 1626 = .ok (.iaload, 1) := by decide +kernel
theorem dL_1627 : decode cL_law 1627 = .ok (.ifCond .eq 7, 3) := by decide +kernel
theorem dL_1630 : decode cL_law 1630 = .ok (.iconst 1, 1) := by decide +kernel
theorem dL_1631 : decode cL_law 1631 = .ok (.goto 4, 3) := by decide +kernel
theorem dL_1634 : decode cL_law 1634 = .ok (.iconst 0, 1) := by decide +kernel
theorem dL_1635 : decode cL_law 1635 = .ok (.invokevirtual 204, 3) := by decide +kernel
theorem dL_1638 : decode cL_law 1638 = .ok (.if_icmp .eq 30, 3) := by decide +kernel
theorem dL_1641 : decode cL_law 1641 = .ok (.iconst 0, 1) := by decide +kernel
theorem dL_1642 : decode cL_law 1642 = .ok (.ireturn, 1) := by decide +kernel
theorem dL_1643 : decode cL_law 1643 = .ok (.aload_n 1, 1) := by decide +kernel
theorem dL_1644 : decode cL_law 1644 = .ok (.aload_n 0, 1) := by decide +kernel
theorem dL_1645 : decode cL_law 1645 = .ok (.iload 4, 2) := by decide +kernel
theorem dL_1647 : decode cL_law 1647 = .ok (.iconst 1, 1) := by decide +kernel
theorem dL_1648 : decode cL_law 1648 = .ok (.iadd, 1) := by decide +kernel
theorem dL_1649 : decode cL_law 1649 = .ok (.iaload, 1) := by decide +kernel
theorem dL_1650 : decode cL_law 1650 = .ok (.invokevirtual 205, 3) := by decide +kernel
theorem dL_1653 : decode cL_law 1653 = .ok (.aload_n 2, 1) := by decide +kernel
theorem dL_1654 : decode cL_law 1654 = .ok (.aload_n 0, 1) := by decide +kernel
theorem dL_1655 : decode cL_law 1655 = .ok (.iload 4, 2) := by decide +kernel
theorem dL_1657 : decode cL_law 1657 = .ok (.iconst 1, 1) := by decide +kernel
theorem dL_1658 : decode cL_law 1658 = .ok (.iadd, 1) := by decide +kernel
theorem dL_1659 : decode cL_law 1659 = .ok (.iaload, 1) := by decide +kernel
theorem dL_1660 : decode cL_law 1660 = .ok (.invokevirtual 208, 3) := by decide +kernel
theorem dL_1663 : decode cL_law 1663 = .ok (.if_icmp .eq 5, 3) := by decide +kernel
theorem dL_1666 : decode cL_law 1666 = .ok (.iconst 0, 1) := by decide +kernel
theorem dL_1667 : decode cL_law 1667 = .ok (.ireturn, 1) := by decide +kernel
theorem dL_1668 : decode cL_law 1668 = .ok (.iinc 4 7, 3) := by decide +kernel
theorem dL_1671 : decode cL_law 1671 = .ok (.goto (-1648), 3) := by decide +kernel
theorem dL_1674 : decode cL_law 1674 = .ok (.iconst 1, 1) := by decide +kernel
theorem dL_1675 : decode cL_law 1675 = .ok (.ireturn, 1) := by decide +kernel
theorem dLr_0 : decode cL_rests 0 = .ok (.aload 5, 2) := by decide +kernel
theorem dLr_2 : decode cL_rests 2 = .ok (.iconst 0, 1) := by decide +kernel
theorem dLr_3 : decode cL_rests 3 = .ok (.aload_n 0, 1) := by decide +kernel
theorem dLr_4 : decode cL_rests 4 = .ok (.iload_n 1, 1) := by decide +kernel
theorem dLr_5 : decode cL_rests 5 = .ok (.iload_n 2, 1) := by decide +kernel
theorem dLr_6 : decode cL_rests 6 = .ok (.iload_n 3, 1) := by decide +kernel
theorem dLr_7 : decode cL_rests 7 = .ok (.iload 4, 2) := by decide +kernel
theorem dLr_9 : decode cL_rests 9 = .ok (.invokevirtual 7, 3) := by decide +kernel
theorem dLr_12 : decode cL_rests 12 = .ok (.i2l, 1) := by decide +kernel
theorem dLr_13 : decode cL_rests 13 = .ok (.lastore, 1) := by decide +kernel
theorem dLr_14 : decode cL_rests 14 = .ok (.goto 7, 3) := by decide +kernel
theorem dLr_17 : decode cL_rests 17 = .ok (.astore 6, 2) := by decide +kernel
theorem dLr_19 : decode cL_rests 19 = .ok (.iconst 1, 1) := by decide +kernel
theorem dLr_20 : decode cL_rests 20 = .ok (.ireturn, 1) := by decide +kernel
theorem dLr_21 : decode cL_rests 21 = .ok (.iconst 0, 1) := by decide +kernel
theorem dLr_22 : decode cL_rests 22 = .ok (.ireturn, 1) := by decide +kernel
