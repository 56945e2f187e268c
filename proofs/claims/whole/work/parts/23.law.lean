abbrev mLaw (b L : Nat) (xs : Nat → Int32) : MD := (x, code, 4, some .boolean, some (b, L, xs))
theorem dL_law_18 : decode code 18 = .ok (.iload_n 3, 1) := by decide +kernel
theorem dL_law_19 : decode code 19 = .ok (.aload_n 0, 1) := by decide +kernel
theorem dL_law_20 : decode code 20 = .ok (.arraylength, 1) := by decide +kernel
theorem dL_law_21 : decode code 21 = .ok (.iconst 5, 1) := by decide +kernel
theorem dL_law_22 : decode code 22 = .ok (.isub, 1) := by decide +kernel
theorem dL_law_23 : decode code 23 = .ok (.if_icmp .gt 1591, 3) := by decide +kernel
theorem dL_law_26 : decode code 26 = .ok (.aload_n 0, 1) := by decide +kernel
theorem dL_law_27 : decode code 27 = .ok (.iload_n 3, 1) := by decide +kernel
theorem dL_law_28 : decode code 28 = .ok (.iaload, 1) := by decide +kernel
theorem dL_law_29 : decode code 29 = .ok (.bipush 63, 2) := by decide +kernel
theorem dL_law_31 : decode code 31 = .ok (.iand, 1) := by decide +kernel
theorem dL_law_32 : decode code 32 = .ok (.tableswitch 1576 0 46 #[204, 237, 260, 283, 316, 359, 412, 445, 478, 501, 524, 537, 560, 593, 616, 639, 662, 675, 698, 731, 754, 777, 810, 833, 856, 880, 903, 936, 959, 982, 1005, 1028, 1071, 1094, 1127, 1160, 1193, 1226, 1269, 1302, 1345, 1388, 1401, 1454, 1477, 1510, 1543], 204) := by decide +kernel
theorem dL_law_236 : decode code 236 = .ok (.aload_n 1, 1) := by decide +kernel
theorem dL_law_237 : decode code 237 = .ok (.aload_n 0, 1) := by decide +kernel
theorem dL_law_238 : decode code 238 = .ok (.iload_n 3, 1) := by decide +kernel
theorem dL_law_239 : decode code 239 = .ok (.iconst 1, 1) := by decide +kernel
theorem dL_law_240 : decode code 240 = .ok (.iadd, 1) := by decide +kernel
theorem dL_law_241 : decode code 241 = .ok (.iaload, 1) := by decide +kernel
theorem dL_law_242 : decode code 242 = .ok (.aload_n 0, 1) := by decide +kernel
theorem dL_law_243 : decode code 243 = .ok (.iload_n 3, 1) := by decide +kernel
theorem dL_law_244 : decode code 244 = .ok (.iconst 2, 1) := by decide +kernel
theorem dL_law_245 : decode code 245 = .ok (.iadd, 1) := by decide +kernel
theorem dL_law_246 : decode code 246 = .ok (.iaload, 1) := by decide +kernel
theorem dL_law_247 : decode code 247 = .ok (.invokevirtual 13, 3) := by decide +kernel
theorem dL_law_250 : decode code 250 = .ok (.aload_n 2, 1) := by decide +kernel
theorem dL_law_251 : decode code 251 = .ok (.aload_n 0, 1) := by decide +kernel
theorem dL_law_252 : decode code 252 = .ok (.iload_n 3, 1) := by decide +kernel
theorem dL_law_253 : decode code 253 = .ok (.iconst 1, 1) := by decide +kernel
theorem dL_law_254 : decode code 254 = .ok (.iadd, 1) := by decide +kernel
theorem dL_law_255 : decode code 255 = .ok (.iaload, 1) := by decide +kernel
theorem dL_law_256 : decode code 256 = .ok (.aload_n 0, 1) := by decide +kernel
theorem dL_law_257 : decode code 257 = .ok (.iload_n 3, 1) := by decide +kernel
theorem dL_law_258 : decode code 258 = .ok (.iconst 2, 1) := by decide +kernel
theorem dL_law_259 : decode code 259 = .ok (.iadd, 1) := by decide +kernel
theorem dL_law_260 : decode code 260 = .ok (.iaload, 1) := by decide +kernel
theorem dL_law_261 : decode code 261 = .ok (.invokevirtual 17, 3) := by decide +kernel
theorem dL_law_264 : decode code 264 = .ok (.if_icmp .eq 1344, 3) := by decide +kernel
theorem dL_law_267 : decode code 267 = .ok (.iconst 0, 1) := by decide +kernel
theorem dL_law_268 : decode code 268 = .ok (.ireturn, 1) := by decide +kernel
theorem dL_law_269 : decode code 269 = .ok (.aload_n 1, 1) := by decide +kernel
theorem dL_law_270 : decode code 270 = .ok (.aload_n 0, 1) := by decide +kernel
theorem dL_law_271 : decode code 271 = .ok (.iload_n 3, 1) := by decide +kernel
theorem dL_law_272 : decode code 272 = .ok (.iconst 1, 1) := by decide +kernel
theorem dL_law_273 : decode code 273 = .ok (.iadd, 1) := by decide +kernel
theorem dL_law_274 : decode code 274 = .ok (.iaload, 1) := by decide +kernel
theorem dL_law_275 : decode code 275 = .ok (.invokevirtual 18, 3) := by decide +kernel
theorem dL_law_278 : decode code 278 = .ok (.aload_n 2, 1) := by decide +kernel
theorem dL_law_279 : decode code 279 = .ok (.aload_n 0, 1) := by decide +kernel
theorem dL_law_280 : decode code 280 = .ok (.iload_n 3, 1) := by decide +kernel
theorem dL_law_281 : decode code 281 = .ok (.iconst 1, 1) := by decide +kernel
theorem dL_law_282 : decode code 282 = .ok (.iadd, 1) := by decide +kernel
theorem dL_law_283 : decode code 283 = .ok (.iaload, 1) := by decide +kernel
theorem dL_law_284 : decode code 284 = .ok (.invokevirtual 22, 3) := by decide +kernel
theorem dL_law_287 : decode code 287 = .ok (.if_icmp .eq 1321, 3) := by decide +kernel
theorem dL_law_290 : decode code 290 = .ok (.iconst 0, 1) := by decide +kernel
theorem dL_law_291 : decode code 291 = .ok (.ireturn, 1) := by decide +kernel
theorem dL_law_292 : decode code 292 = .ok (.aload_n 1, 1) := by decide +kernel
theorem dL_law_293 : decode code 293 = .ok (.aload_n 0, 1) := by decide +kernel
theorem dL_law_294 : decode code 294 = .ok (.iload_n 3, 1) := by decide +kernel
theorem dL_law_295 : decode code 295 = .ok (.iconst 1, 1) := by decide +kernel
theorem dL_law_296 : decode code 296 = .ok (.iadd, 1) := by decide +kernel
theorem dL_law_297 : decode code 297 = .ok (.iaload, 1) := by decide +kernel
theorem dL_law_298 : decode code 298 = .ok (.invokevirtual 23, 3) := by decide +kernel
theorem dL_law_301 : decode code 301 = .ok (.aload_n 2, 1) := by decide +kernel
theorem dL_law_302 : decode code 302 = .ok (.aload_n 0, 1) := by decide +kernel
theorem dL_law_303 : decode code 303 = .ok (.iload_n 3, 1) := by decide +kernel
theorem dL_law_304 : decode code 304 = .ok (.iconst 1, 1) := by decide +kernel
theorem dL_law_305 : decode code 305 = .ok (.iadd, 1) := by decide +kernel
theorem dL_law_306 : decode code 306 = .ok (.iaload, 1) := by decide +kernel
theorem dL_law_307 : decode code 307 = .ok (.invokevirtual 26, 3) := by decide +kernel
theorem dL_law_310 : decode code 310 = .ok (.if_icmp .eq 1298, 3) := by decide +kernel
theorem dL_law_313 : decode code 313 = .ok (.iconst 0, 1) := by decide +kernel
theorem dL_law_314 : decode code 314 = .ok (.ireturn, 1) := by decide +kernel
theorem dL_law_315 : decode code 315 = .ok (.aload_n 1, 1) := by decide +kernel
theorem dL_law_316 : decode code 316 = .ok (.aload_n 0, 1) := by decide +kernel
theorem dL_law_317 : decode code 317 = .ok (.iload_n 3, 1) := by decide +kernel
theorem dL_law_318 : decode code 318 = .ok (.iconst 1, 1) := by decide +kernel
theorem dL_law_319 : decode code 319 = .ok (.iadd, 1) := by decide +kernel
theorem dL_law_320 : decode code 320 = .ok (.iaload, 1) := by decide +kernel
theorem dL_law_321 : decode code 321 = .ok (.aload_n 0, 1) := by decide +kernel
theorem dL_law_322 : decode code 322 = .ok (.iload_n 3, 1) := by decide +kernel
theorem dL_law_323 : decode code 323 = .ok (.iconst 2, 1) := by decide +kernel
theorem dL_law_324 : decode code 324 = .ok (.iadd, 1) := by decide +kernel
theorem dL_law_325 : decode code 325 = .ok (.iaload, 1) := by decide +kernel
theorem dL_law_326 : decode code 326 = .ok (.invokevirtual 27, 3) := by decide +kernel
theorem dL_law_329 : decode code 329 = .ok (.aload_n 2, 1) := by decide +kernel
theorem dL_law_330 : decode code 330 = .ok (.aload_n 0, 1) := by decide +kernel
theorem dL_law_331 : decode code 331 = .ok (.iload_n 3, 1) := by decide +kernel
theorem dL_law_332 : decode code 332 = .ok (.iconst 1, 1) := by decide +kernel
theorem dL_law_333 : decode code 333 = .ok (.iadd, 1) := by decide +kernel
theorem dL_law_334 : decode code 334 = .ok (.iaload, 1) := by decide +kernel
theorem dL_law_335 : decode code 335 = .ok (.aload_n 0, 1) := by decide +kernel
theorem dL_law_336 : decode code 336 = .ok (.iload_n 3, 1) := by decide +kernel
theorem dL_law_337 : decode code 337 = .ok (.iconst 2, 1) := by decide +kernel
theorem dL_law_338 : decode code 338 = .ok (.iadd, 1) := by decide +kernel
theorem dL_law_339 : decode code 339 = .ok (.iaload, 1) := by decide +kernel
theorem dL_law_340 : decode code 340 = .ok (.invokevirtual 30, 3) := by decide +kernel
theorem dL_law_343 : decode code 343 = .ok (.if_icmp .eq 1265, 3) := by decide +kernel
theorem dL_law_346 : decode code 346 = .ok (.iconst 0, 1) := by decide +kernel
theorem dL_law_347 : decode code 347 = .ok (.ireturn, 1) := by decide +kernel
theorem dL_law_348 : decode code 348 = .ok (.aload_n 1, 1) := by decide +kernel
theorem dL_law_349 : decode code 349 = .ok (.aload_n 0, 1) := by decide +kernel
theorem dL_law_350 : decode code 350 = .ok (.iload_n 3, 1) := by decide +kernel
theorem dL_law_351 : decode code 351 = .ok (.iconst 1, 1) := by decide +kernel
theorem dL_law_352 : decode code 352 = .ok (.iadd, 1) := by decide +kernel
theorem dL_law_353 : decode code 353 = .ok (.iaload, 1) := by decide +kernel
theorem dL_law_354 : decode code 354 = .ok (.aload_n 0, 1) := by decide +kernel
theorem dL_law_355 : decode code 355 = .ok (.iload_n 3, 1) := by decide +kernel
theorem dL_law_356 : decode code 356 = .ok (.iconst 2, 1) := by decide +kernel
theorem dL_law_357 : decode code 357 = .ok (.iadd, 1) := by decide +kernel
theorem dL_law_358 : decode code 358 = .ok (.iaload, 1) := by decide +kernel
theorem dL_law_359 : decode code 359 = .ok (.aload_n 0, 1) := by decide +kernel
theorem dL_law_360 : decode code 360 = .ok (.iload_n 3, 1) := by decide +kernel
theorem dL_law_361 : decode code 361 = .ok (.iconst 3, 1) := by decide +kernel
theorem dL_law_362 : decode code 362 = .ok (.iadd, 1) := by decide +kernel
theorem dL_law_363 : decode code 363 = .ok (.iaload, 1) := by decide +kernel
theorem dL_law_364 : decode code 364 = .ok (.invokevirtual 31, 3) := by decide +kernel
theorem dL_law_367 : decode code 367 = .ok (.aload_n 2, 1) := by decide +kernel
theorem dL_law_368 : decode code 368 = .ok (.aload_n 0, 1) := by decide +kernel
theorem dL_law_369 : decode code 369 = .ok (.iload_n 3, 1) := by decide +kernel
theorem dL_law_370 : decode code 370 = .ok (.iconst 1, 1) := by decide +kernel
theorem dL_law_371 : decode code 371 = .ok (.iadd, 1) := by decide +kernel
theorem dL_law_372 : decode code 372 = .ok (.iaload, 1) := by decide +kernel
theorem dL_law_373 : decode code 373 = .ok (.aload_n 0, 1) := by decide +kernel
theorem dL_law_374 : decode code 374 = .ok (.iload_n 3, 1) := by decide +kernel
theorem dL_law_375 : decode code 375 = .ok (.iconst 2, 1) := by decide +kernel
theorem dL_law_376 : decode code 376 = .ok (.iadd, 1) := by decide +kernel
theorem dL_law_377 : decode code 377 = .ok (.iaload, 1) := by decide +kernel
theorem dL_law_378 : decode code 378 = .ok (.aload_n 0, 1) := by decide +kernel
theorem dL_law_379 : decode code 379 = .ok (.iload_n 3, 1) := by decide +kernel
theorem dL_law_380 : decode code 380 = .ok (.iconst 3, 1) := by decide +kernel
theorem dL_law_381 : decode code 381 = .ok (.iadd, 1) := by decide +kernel
theorem dL_law_382 : decode code 382 = .ok (.iaload, 1) := by decide +kernel
theorem dL_law_383 : decode code 383 = .ok (.invokevirtual 35, 3) := by decide +kernel
theorem dL_law_386 : decode code 386 = .ok (.if_icmp .eq 1222, 3) := by decide +kernel
theorem dL_law_389 : decode code 389 = .ok (.iconst 0, 1) := by decide +kernel
theorem dL_law_390 : decode code 390 = .ok (.ireturn, 1) := by decide +kernel
theorem dL_law_391 : decode code 391 = .ok (.aload_n 1, 1) := by decide +kernel
theorem dL_law_392 : decode code 392 = .ok (.aload_n 0, 1) := by decide +kernel
theorem dL_law_393 : decode code 393 = .ok (.iload_n 3, 1) := by decide +kernel
theorem dL_law_394 : decode code 394 = .ok (.iconst 1, 1) := by decide +kernel
theorem dL_law_395 : decode code 395 = .ok (.iadd, 1) := by decide +kernel
theorem dL_law_396 : decode code 396 = .ok (.iaload, 1) := by decide +kernel
theorem dL_law_397 : decode code 397 = .ok (.aload_n 0, 1) := by decide +kernel
theorem dL_law_398 : decode code 398 = .ok (.iload_n 3, 1) := by decide +kernel
theorem dL_law_399 : decode code 399 = .ok (.iconst 2, 1) := by decide +kernel
theorem dL_law_400 : decode code 400 = .ok (.iadd, 1) := by decide +kernel
theorem dL_law_401 : decode code 401 = .ok (.iaload, 1) := by decide +kernel
theorem dL_law_402 : decode code 402 = .ok (.aload_n 0, 1) := by decide +kernel
theorem dL_law_403 : decode code 403 = .ok (.iload_n 3, 1) := by decide +kernel
theorem dL_law_404 : decode code 404 = .ok (.iconst 3, 1) := by decide +kernel
theorem dL_law_405 : decode code 405 = .ok (.iadd, 1) := by decide +kernel
theorem dL_law_406 : decode code 406 = .ok (.iaload, 1) := by decide +kernel
theorem dL_law_407 : decode code 407 = .ok (.aload_n 0, 1) := by decide +kernel
theorem dL_law_408 : decode code 408 = .ok (.iload_n 3, 1) := by decide +kernel
theorem dL_law_409 : decode code 409 = .ok (.iconst 4, 1) := by decide +kernel
theorem dL_law_410 : decode code 410 = .ok (.iadd, 1) := by decide +kernel
theorem dL_law_411 : decode code 411 = .ok (.iaload, 1) := by decide +kernel
theorem dL_law_412 : decode code 412 = .ok (.invokevirtual 36, 3) := by decide +kernel
theorem dL_law_415 : decode code 415 = .ok (.aload_n 2, 1) := by decide +kernel
theorem dL_law_416 : decode code 416 = .ok (.aload_n 0, 1) := by decide +kernel
theorem dL_law_417 : decode code 417 = .ok (.iload_n 3, 1) := by decide +kernel
theorem dL_law_418 : decode code 418 = .ok (.iconst 1, 1) := by decide +kernel
theorem dL_law_419 : decode code 419 = .ok (.iadd, 1) := by decide +kernel
theorem dL_law_420 : decode code 420 = .ok (.iaload, 1) := by decide +kernel
theorem dL_law_421 : decode code 421 = .ok (.aload_n 0, 1) := by decide +kernel
theorem dL_law_422 : decode code 422 = .ok (.iload_n 3, 1) := by decide +kernel
theorem dL_law_423 : decode code 423 = .ok (.iconst 2, 1) := by decide +kernel
theorem dL_law_424 : decode code 424 = .ok (.iadd, 1) := by decide +kernel
theorem dL_law_425 : decode code 425 = .ok (.iaload, 1) := by decide +kernel
theorem dL_law_426 : decode code 426 = .ok (.aload_n 0, 1) := by decide +kernel
theorem dL_law_427 : decode code 427 = .ok (.iload_n 3, 1) := by decide +kernel
theorem dL_law_428 : decode code 428 = .ok (.iconst 3, 1) := by decide +kernel
theorem dL_law_429 : decode code 429 = .ok (.iadd, 1) := by decide +kernel
theorem dL_law_430 : decode code 430 = .ok (.iaload, 1) := by decide +kernel
theorem dL_law_431 : decode code 431 = .ok (.aload_n 0, 1) := by decide +kernel
theorem dL_law_432 : decode code 432 = .ok (.iload_n 3, 1) := by decide +kernel
theorem dL_law_433 : decode code 433 = .ok (.iconst 4, 1) := by decide +kernel
theorem dL_law_434 : decode code 434 = .ok (.iadd, 1) := by decide +kernel
theorem dL_law_435 : decode code 435 = .ok (.iaload, 1) := by decide +kernel
theorem dL_law_436 : decode code 436 = .ok (.invokevirtual 40, 3) := by decide +kernel
theorem dL_law_439 : decode code 439 = .ok (.if_icmp .eq 1169, 3) := by decide +kernel
theorem dL_law_442 : decode code 442 = .ok (.iconst 0, 1) := by decide +kernel
theorem dL_law_443 : decode code 443 = .ok (.ireturn, 1) := by decide +kernel
theorem dL_law_444 : decode code 444 = .ok (.aload_n 1, 1) := by decide +kernel
theorem dL_law_445 : decode code 445 = .ok (.aload_n 0, 1) := by decide +kernel
theorem dL_law_446 : decode code 446 = .ok (.iload_n 3, 1) := by decide +kernel
theorem dL_law_447 : decode code 447 = .ok (.iconst 1, 1) := by decide +kernel
theorem dL_law_448 : decode code 448 = .ok (.iadd, 1) := by decide +kernel
theorem dL_law_449 : decode code 449 = .ok (.iaload, 1) := by decide +kernel
theorem dL_law_450 : decode code 450 = .ok (.aload_n 0, 1) := by decide +kernel
theorem dL_law_451 : decode code 451 = .ok (.iload_n 3, 1) := by decide +kernel
theorem dL_law_452 : decode code 452 = .ok (.iconst 2, 1) := by decide +kernel
theorem dL_law_453 : decode code 453 = .ok (.iadd, 1) := by decide +kernel
theorem dL_law_454 : decode code 454 = .ok (.iaload, 1) := by decide +kernel
theorem dL_law_455 : decode code 455 = .ok (.invokevirtual 41, 3) := by decide +kernel
theorem dL_law_458 : decode code 458 = .ok (.aload_n 2, 1) := by decide +kernel
theorem dL_law_459 : decode code 459 = .ok (.aload_n 0, 1) := by decide +kernel
theorem dL_law_460 : decode code 460 = .ok (.iload_n 3, 1) := by decide +kernel
theorem dL_law_461 : decode code 461 = .ok (.iconst 1, 1) := by decide +kernel
theorem dL_law_462 : decode code 462 = .ok (.iadd, 1) := by decide +kernel
theorem dL_law_463 : decode code 463 = .ok (.iaload, 1) := by decide +kernel
theorem dL_law_464 : decode code 464 = .ok (.aload_n 0, 1) := by decide +kernel
theorem dL_law_465 : decode code 465 = .ok (.iload_n 3, 1) := by decide +kernel
theorem dL_law_466 : decode code 466 = .ok (.iconst 2, 1) := by decide +kernel
theorem dL_law_467 : decode code 467 = .ok (.iadd, 1) := by decide +kernel
theorem dL_law_468 : decode code 468 = .ok (.iaload, 1) := by decide +kernel
theorem dL_law_469 : decode code 469 = .ok (.invokevirtual 44, 3) := by decide +kernel
theorem dL_law_472 : decode code 472 = .ok (.if_icmp .eq 1136, 3) := by decide +kernel
theorem dL_law_475 : decode code 475 = .ok (.iconst 0, 1) := by decide +kernel
theorem dL_law_476 : decode code 476 = .ok (.ireturn, 1) := by decide +kernel
theorem dL_law_477 : decode code 477 = .ok (.aload_n 1, 1) := by decide +kernel
theorem dL_law_478 : decode code 478 = .ok (.aload_n 0, 1) := by decide +kernel
theorem dL_law_479 : decode code 479 = .ok (.iload_n 3, 1) := by decide +kernel
theorem dL_law_480 : decode code 480 = .ok (.iconst 1, 1) := by decide +kernel
theorem dL_law_481 : decode code 481 = .ok (.iadd, 1) := by decide +kernel
theorem dL_law_482 : decode code 482 = .ok (.iaload, 1) := by decide +kernel
theorem dL_law_483 : decode code 483 = .ok (.aload_n 0, 1) := by decide +kernel
theorem dL_law_484 : decode code 484 = .ok (.iload_n 3, 1) := by decide +kernel
theorem dL_law_485 : decode code 485 = .ok (.iconst 2, 1) := by decide +kernel
theorem dL_law_486 : decode code 486 = .ok (.iadd, 1) := by decide +kernel
theorem dL_law_487 : decode code 487 = .ok (.iaload, 1) := by decide +kernel
theorem dL_law_488 : decode code 488 = .ok (.invokevirtual 45, 3) := by decide +kernel
theorem dL_law_491 : decode code 491 = .ok (.aload_n 2, 1) := by decide +kernel
theorem dL_law_492 : decode code 492 = .ok (.aload_n 0, 1) := by decide +kernel
theorem dL_law_493 : decode code 493 = .ok (.iload_n 3, 1) := by decide +kernel
theorem dL_law_494 : decode code 494 = .ok (.iconst 1, 1) := by decide +kernel
theorem dL_law_495 : decode code 495 = .ok (.iadd, 1) := by decide +kernel
theorem dL_law_496 : decode code 496 = .ok (.iaload, 1) := by decide +kernel
theorem dL_law_497 : decode code 497 = .ok (.aload_n 0, 1) := by decide +kernel
theorem dL_law_498 : decode code 498 = .ok (.iload_n 3, 1) := by decide +kernel
theorem dL_law_499 : decode code 499 = .ok (.iconst 2, 1) := by decide +kernel
theorem dL_law_500 : decode code 500 = .ok (.iadd, 1) := by decide +kernel
theorem dL_law_501 : decode code 501 = .ok (.iaload, 1) := by decide +kernel
theorem dL_law_502 : decode code 502 = .ok (.invokevirtual 48, 3) := by decide +kernel
theorem dL_law_505 : decode code 505 = .ok (.if_icmp .eq 1103, 3) := by decide +kernel
theorem dL_law_508 : decode code 508 = .ok (.iconst 0, 1) := by decide +kernel
theorem dL_law_509 : decode code 509 = .ok (.ireturn, 1) := by decide +kernel
theorem dL_law_510 : decode code 510 = .ok (.aload_n 1, 1) := by decide +kernel
theorem dL_law_511 : decode code 511 = .ok (.aload_n 0, 1) := by decide +kernel
theorem dL_law_512 : decode code 512 = .ok (.iload_n 3, 1) := by decide +kernel
theorem dL_law_513 : decode code 513 = .ok (.iconst 1, 1) := by decide +kernel
theorem dL_law_514 : decode code 514 = .ok (.iadd, 1) := by decide +kernel
theorem dL_law_515 : decode code 515 = .ok (.iaload, 1) := by decide +kernel
theorem dL_law_516 : decode code 516 = .ok (.invokevirtual 49, 3) := by decide +kernel
theorem dL_law_519 : decode code 519 = .ok (.aload_n 2, 1) := by decide +kernel
theorem dL_law_520 : decode code 520 = .ok (.aload_n 0, 1) := by decide +kernel
theorem dL_law_521 : decode code 521 = .ok (.iload_n 3, 1) := by decide +kernel
theorem dL_law_522 : decode code 522 = .ok (.iconst 1, 1) := by decide +kernel
theorem dL_law_523 : decode code 523 = .ok (.iadd, 1) := by decide +kernel
theorem dL_law_524 : decode code 524 = .ok (.iaload, 1) := by decide +kernel
theorem dL_law_525 : decode code 525 = .ok (.invokevirtual 52, 3) := by decide +kernel
theorem dL_law_528 : decode code 528 = .ok (.if_icmp .eq 1080, 3) := by decide +kernel
theorem dL_law_531 : decode code 531 = .ok (.iconst 0, 1) := by decide +kernel
theorem dL_law_532 : decode code 532 = .ok (.ireturn, 1) := by decide +kernel
theorem dL_law_533 : decode code 533 = .ok (.aload_n 1, 1) := by decide +kernel
theorem dL_law_534 : decode code 534 = .ok (.aload_n 0, 1) := by decide +kernel
theorem dL_law_535 : decode code 535 = .ok (.iload_n 3, 1) := by decide +kernel
theorem dL_law_536 : decode code 536 = .ok (.iconst 1, 1) := by decide +kernel
theorem dL_law_537 : decode code 537 = .ok (.iadd, 1) := by decide +kernel
theorem dL_law_538 : decode code 538 = .ok (.iaload, 1) := by decide +kernel
theorem dL_law_539 : decode code 539 = .ok (.invokevirtual 53, 3) := by decide +kernel
theorem dL_law_542 : decode code 542 = .ok (.aload_n 2, 1) := by decide +kernel
theorem dL_law_543 : decode code 543 = .ok (.aload_n 0, 1) := by decide +kernel
theorem dL_law_544 : decode code 544 = .ok (.iload_n 3, 1) := by decide +kernel
theorem dL_law_545 : decode code 545 = .ok (.iconst 1, 1) := by decide +kernel
theorem dL_law_546 : decode code 546 = .ok (.iadd, 1) := by decide +kernel
theorem dL_law_547 : decode code 547 = .ok (.iaload, 1) := by decide +kernel
theorem dL_law_548 : decode code 548 = .ok (.invokevirtual 56, 3) := by decide +kernel
theorem dL_law_551 : decode code 551 = .ok (.if_icmp .eq 1057, 3) := by decide +kernel
theorem dL_law_554 : decode code 554 = .ok (.iconst 0, 1) := by decide +kernel
theorem dL_law_555 : decode code 555 = .ok (.ireturn, 1) := by decide +kernel
theorem dL_law_556 : decode code 556 = .ok (.aload_n 1, 1) := by decide +kernel
theorem dL_law_557 : decode code 557 = .ok (.invokevirtual 57, 3) := by decide +kernel
theorem dL_law_560 : decode code 560 = .ok (.aload_n 2, 1) := by decide +kernel
theorem dL_law_561 : decode code 561 = .ok (.invokevirtual 61, 3) := by decide +kernel
theorem dL_law_564 : decode code 564 = .ok (.if_icmp .eq 1044, 3) := by decide +kernel
theorem dL_law_567 : decode code 567 = .ok (.iconst 0, 1) := by decide +kernel
theorem dL_law_568 : decode code 568 = .ok (.ireturn, 1) := by decide +kernel
theorem dL_law_569 : decode code 569 = .ok (.aload_n 1, 1) := by decide +kernel
theorem dL_law_570 : decode code 570 = .ok (.aload_n 0, 1) := by decide +kernel
theorem dL_law_571 : decode code 571 = .ok (.iload_n 3, 1) := by decide +kernel
theorem dL_law_572 : decode code 572 = .ok (.iconst 1, 1) := by decide +kernel
theorem dL_law_573 : decode code 573 = .ok (.iadd, 1) := by decide +kernel
theorem dL_law_574 : decode code 574 = .ok (.iaload, 1) := by decide +kernel
theorem dL_law_575 : decode code 575 = .ok (.invokevirtual 62, 3) := by decide +kernel
theorem dL_law_578 : decode code 578 = .ok (.aload_n 2, 1) := by decide +kernel
theorem dL_law_579 : decode code 579 = .ok (.aload_n 0, 1) := by decide +kernel
theorem dL_law_580 : decode code 580 = .ok (.iload_n 3, 1) := by decide +kernel
theorem dL_law_581 : decode code 581 = .ok (.iconst 1, 1) := by decide +kernel
theorem dL_law_582 : decode code 582 = .ok (.iadd, 1) := by decide +kernel
theorem dL_law_583 : decode code 583 = .ok (.iaload, 1) := by decide +kernel
theorem dL_law_584 : decode code 584 = .ok (.invokevirtual 65, 3) := by decide +kernel
theorem dL_law_587 : decode code 587 = .ok (.if_icmp .eq 1021, 3) := by decide +kernel
theorem dL_law_590 : decode code 590 = .ok (.iconst 0, 1) := by decide +kernel
theorem dL_law_591 : decode code 591 = .ok (.ireturn, 1) := by decide +kernel
theorem dL_law_592 : decode code 592 = .ok (.aload_n 1, 1) := by decide +kernel
theorem dL_law_593 : decode code 593 = .ok (.aload_n 0, 1) := by decide +kernel
theorem dL_law_594 : decode code 594 = .ok (.iload_n 3, 1) := by decide +kernel
theorem dL_law_595 : decode code 595 = .ok (.iconst 1, 1) := by decide +kernel
theorem dL_law_596 : decode code 596 = .ok (.iadd, 1) := by decide +kernel
theorem dL_law_597 : decode code 597 = .ok (.iaload, 1) := by decide +kernel
theorem dL_law_598 : decode code 598 = .ok (.aload_n 0, 1) := by decide +kernel
theorem dL_law_599 : decode code 599 = .ok (.iload_n 3, 1) := by decide +kernel
theorem dL_law_600 : decode code 600 = .ok (.iconst 2, 1) := by decide +kernel
theorem dL_law_601 : decode code 601 = .ok (.iadd, 1) := by decide +kernel
theorem dL_law_602 : decode code 602 = .ok (.iaload, 1) := by decide +kernel
theorem dL_law_603 : decode code 603 = .ok (.invokevirtual 66, 3) := by decide +kernel
theorem dL_law_606 : decode code 606 = .ok (.aload_n 2, 1) := by decide +kernel
theorem dL_law_607 : decode code 607 = .ok (.aload_n 0, 1) := by decide +kernel
theorem dL_law_608 : decode code 608 = .ok (.iload_n 3, 1) := by decide +kernel
theorem dL_law_609 : decode code 609 = .ok (.iconst 1, 1) := by decide +kernel
theorem dL_law_610 : decode code 610 = .ok (.iadd, 1) := by decide +kernel
theorem dL_law_611 : decode code 611 = .ok (.iaload, 1) := by decide +kernel
theorem dL_law_612 : decode code 612 = .ok (.aload_n 0, 1) := by decide +kernel
theorem dL_law_613 : decode code 613 = .ok (.iload_n 3, 1) := by decide +kernel
theorem dL_law_614 : decode code 614 = .ok (.iconst 2, 1) := by decide +kernel
theorem dL_law_615 : decode code 615 = .ok (.iadd, 1) := by decide +kernel
theorem dL_law_616 : decode code 616 = .ok (.iaload, 1) := by decide +kernel
theorem dL_law_617 : decode code 617 = .ok (.invokevirtual 69, 3) := by decide +kernel
theorem dL_law_620 : decode code 620 = .ok (.if_icmp .eq 988, 3) := by decide +kernel
theorem dL_law_623 : decode code 623 = .ok (.iconst 0, 1) := by decide +kernel
theorem dL_law_624 : decode code 624 = .ok (.ireturn, 1) := by decide +kernel
theorem dL_law_625 : decode code 625 = .ok (.aload_n 1, 1) := by decide +kernel
theorem dL_law_626 : decode code 626 = .ok (.aload_n 0, 1) := by decide +kernel
theorem dL_law_627 : decode code 627 = .ok (.iload_n 3, 1) := by decide +kernel
theorem dL_law_628 : decode code 628 = .ok (.iconst 1, 1) := by decide +kernel
theorem dL_law_629 : decode code 629 = .ok (.iadd, 1) := by decide +kernel
theorem dL_law_630 : decode code 630 = .ok (.iaload, 1) := by decide +kernel
theorem dL_law_631 : decode code 631 = .ok (.invokevirtual 70, 3) := by decide +kernel
theorem dL_law_634 : decode code 634 = .ok (.aload_n 2, 1) := by decide +kernel
theorem dL_law_635 : decode code 635 = .ok (.aload_n 0, 1) := by decide +kernel
theorem dL_law_636 : decode code 636 = .ok (.iload_n 3, 1) := by decide +kernel
theorem dL_law_637 : decode code 637 = .ok (.iconst 1, 1) := by decide +kernel
theorem dL_law_638 : decode code 638 = .ok (.iadd, 1) := by decide +kernel
theorem dL_law_639 : decode code 639 = .ok (.iaload, 1) := by decide +kernel
theorem dL_law_640 : decode code 640 = .ok (.invokevirtual 73, 3) := by decide +kernel
theorem dL_law_643 : decode code 643 = .ok (.if_icmp .eq 965, 3) := by decide +kernel
theorem dL_law_646 : decode code 646 = .ok (.iconst 0, 1) := by decide +kernel
theorem dL_law_647 : decode code 647 = .ok (.ireturn, 1) := by decide +kernel
theorem dL_law_648 : decode code 648 = .ok (.aload_n 1, 1) := by decide +kernel
theorem dL_law_649 : decode code 649 = .ok (.aload_n 0, 1) := by decide +kernel
theorem dL_law_650 : decode code 650 = .ok (.iload_n 3, 1) := by decide +kernel
theorem dL_law_651 : decode code 651 = .ok (.iconst 1, 1) := by decide +kernel
theorem dL_law_652 : decode code 652 = .ok (.iadd, 1) := by decide +kernel
theorem dL_law_653 : decode code 653 = .ok (.iaload, 1) := by decide +kernel
theorem dL_law_654 : decode code 654 = .ok (.invokevirtual 74, 3) := by decide +kernel
theorem dL_law_657 : decode code 657 = .ok (.aload_n 2, 1) := by decide +kernel
theorem dL_law_658 : decode code 658 = .ok (.aload_n 0, 1) := by decide +kernel
theorem dL_law_659 : decode code 659 = .ok (.iload_n 3, 1) := by decide +kernel
theorem dL_law_660 : decode code 660 = .ok (.iconst 1, 1) := by decide +kernel
theorem dL_law_661 : decode code 661 = .ok (.iadd, 1) := by decide +kernel
theorem dL_law_662 : decode code 662 = .ok (.iaload, 1) := by decide +kernel
theorem dL_law_663 : decode code 663 = .ok (.invokevirtual 77, 3) := by decide +kernel
theorem dL_law_666 : decode code 666 = .ok (.if_icmp .eq 942, 3) := by decide +kernel
theorem dL_law_669 : decode code 669 = .ok (.iconst 0, 1) := by decide +kernel
theorem dL_law_670 : decode code 670 = .ok (.ireturn, 1) := by decide +kernel
theorem dL_law_671 : decode code 671 = .ok (.aload_n 1, 1) := by decide +kernel
theorem dL_law_672 : decode code 672 = .ok (.aload_n 0, 1) := by decide +kernel
theorem dL_law_673 : decode code 673 = .ok (.iload_n 3, 1) := by decide +kernel
theorem dL_law_674 : decode code 674 = .ok (.iconst 1, 1) := by decide +kernel
theorem dL_law_675 : decode code 675 = .ok (.iadd, 1) := by decide +kernel
theorem dL_law_676 : decode code 676 = .ok (.iaload, 1) := by decide +kernel
theorem dL_law_677 : decode code 677 = .ok (.invokevirtual 78, 3) := by decide +kernel
theorem dL_law_680 : decode code 680 = .ok (.aload_n 2, 1) := by decide +kernel
theorem dL_law_681 : decode code 681 = .ok (.aload_n 0, 1) := by decide +kernel
theorem dL_law_682 : decode code 682 = .ok (.iload_n 3, 1) := by decide +kernel
theorem dL_law_683 : decode code 683 = .ok (.iconst 1, 1) := by decide +kernel
theorem dL_law_684 : decode code 684 = .ok (.iadd, 1) := by decide +kernel
theorem dL_law_685 : decode code 685 = .ok (.iaload, 1) := by decide +kernel
theorem dL_law_686 : decode code 686 = .ok (.invokevirtual 81, 3) := by decide +kernel
theorem dL_law_689 : decode code 689 = .ok (.if_icmp .eq 919, 3) := by decide +kernel
theorem dL_law_692 : decode code 692 = .ok (.iconst 0, 1) := by decide +kernel
theorem dL_law_693 : decode code 693 = .ok (.ireturn, 1) := by decide +kernel
theorem dL_law_694 : decode code 694 = .ok (.aload_n 1, 1) := by decide +kernel
theorem dL_law_695 : decode code 695 = .ok (.invokevirtual 82, 3) := by decide +kernel
theorem dL_law_698 : decode code 698 = .ok (.aload_n 2, 1) := by decide +kernel
theorem dL_law_699 : decode code 699 = .ok (.invokevirtual 85, 3) := by decide +kernel
theorem dL_law_702 : decode code 702 = .ok (.if_icmp .eq 906, 3) := by decide +kernel
theorem dL_law_705 : decode code 705 = .ok (.iconst 0, 1) := by decide +kernel
theorem dL_law_706 : decode code 706 = .ok (.ireturn, 1) := by decide +kernel
theorem dL_law_707 : decode code 707 = .ok (.aload_n 1, 1) := by decide +kernel
theorem dL_law_708 : decode code 708 = .ok (.aload_n 0, 1) := by decide +kernel
theorem dL_law_709 : decode code 709 = .ok (.iload_n 3, 1) := by decide +kernel
theorem dL_law_710 : decode code 710 = .ok (.iconst 1, 1) := by decide +kernel
theorem dL_law_711 : decode code 711 = .ok (.iadd, 1) := by decide +kernel
theorem dL_law_712 : decode code 712 = .ok (.iaload, 1) := by decide +kernel
theorem dL_law_713 : decode code 713 = .ok (.invokevirtual 86, 3) := by decide +kernel
theorem dL_law_716 : decode code 716 = .ok (.aload_n 2, 1) := by decide +kernel
theorem dL_law_717 : decode code 717 = .ok (.aload_n 0, 1) := by decide +kernel
theorem dL_law_718 : decode code 718 = .ok (.iload_n 3, 1) := by decide +kernel
theorem dL_law_719 : decode code 719 = .ok (.iconst 1, 1) := by decide +kernel
theorem dL_law_720 : decode code 720 = .ok (.iadd, 1) := by decide +kernel
theorem dL_law_721 : decode code 721 = .ok (.iaload, 1) := by decide +kernel
theorem dL_law_722 : decode code 722 = .ok (.invokevirtual 89, 3) := by decide +kernel
theorem dL_law_725 : decode code 725 = .ok (.if_icmp .eq 883, 3) := by decide +kernel
theorem dL_law_728 : decode code 728 = .ok (.iconst 0, 1) := by decide +kernel
theorem dL_law_729 : decode code 729 = .ok (.ireturn, 1) := by decide +kernel
theorem dL_law_730 : decode code 730 = .ok (.aload_n 1, 1) := by decide +kernel
theorem dL_law_731 : decode code 731 = .ok (.aload_n 0, 1) := by decide +kernel
theorem dL_law_732 : decode code 732 = .ok (.iload_n 3, 1) := by decide +kernel
theorem dL_law_733 : decode code 733 = .ok (.iconst 1, 1) := by decide +kernel
theorem dL_law_734 : decode code 734 = .ok (.iadd, 1) := by decide +kernel
theorem dL_law_735 : decode code 735 = .ok (.iaload, 1) := by decide +kernel
theorem dL_law_736 : decode code 736 = .ok (.aload_n 0, 1) := by decide +kernel
theorem dL_law_737 : decode code 737 = .ok (.iload_n 3, 1) := by decide +kernel
theorem dL_law_738 : decode code 738 = .ok (.iconst 2, 1) := by decide +kernel
theorem dL_law_739 : decode code 739 = .ok (.iadd, 1) := by decide +kernel
theorem dL_law_740 : decode code 740 = .ok (.iaload, 1) := by decide +kernel
theorem dL_law_741 : decode code 741 = .ok (.invokevirtual 90, 3) := by decide +kernel
theorem dL_law_744 : decode code 744 = .ok (.aload_n 2, 1) := by decide +kernel
theorem dL_law_745 : decode code 745 = .ok (.aload_n 0, 1) := by decide +kernel
theorem dL_law_746 : decode code 746 = .ok (.iload_n 3, 1) := by decide +kernel
theorem dL_law_747 : decode code 747 = .ok (.iconst 1, 1) := by decide +kernel
theorem dL_law_748 : decode code 748 = .ok (.iadd, 1) := by decide +kernel
theorem dL_law_749 : decode code 749 = .ok (.iaload, 1) := by decide +kernel
theorem dL_law_750 : decode code 750 = .ok (.aload_n 0, 1) := by decide +kernel
theorem dL_law_751 : decode code 751 = .ok (.iload_n 3, 1) := by decide +kernel
theorem dL_law_752 : decode code 752 = .ok (.iconst 2, 1) := by decide +kernel
theorem dL_law_753 : decode code 753 = .ok (.iadd, 1) := by decide +kernel
theorem dL_law_754 : decode code 754 = .ok (.iaload, 1) := by decide +kernel
theorem dL_law_755 : decode code 755 = .ok (.invokevirtual 93, 3) := by decide +kernel
theorem dL_law_758 : decode code 758 = .ok (.if_icmp .eq 850, 3) := by decide +kernel
theorem dL_law_761 : decode code 761 = .ok (.iconst 0, 1) := by decide +kernel
theorem dL_law_762 : decode code 762 = .ok (.ireturn, 1) := by decide +kernel
theorem dL_law_763 : decode code 763 = .ok (.aload_n 1, 1) := by decide +kernel
theorem dL_law_764 : decode code 764 = .ok (.aload_n 0, 1) := by decide +kernel
theorem dL_law_765 : decode code 765 = .ok (.iload_n 3, 1) := by decide +kernel
theorem dL_law_766 : decode code 766 = .ok (.iconst 1, 1) := by decide +kernel
theorem dL_law_767 : decode code 767 = .ok (.iadd, 1) := by decide +kernel
theorem dL_law_768 : decode code 768 = .ok (.iaload, 1) := by decide +kernel
theorem dL_law_769 : decode code 769 = .ok (.invokevirtual 94, 3) := by decide +kernel
theorem dL_law_772 : decode code 772 = .ok (.aload_n 2, 1) := by decide +kernel
theorem dL_law_773 : decode code 773 = .ok (.aload_n 0, 1) := by decide +kernel
theorem dL_law_774 : decode code 774 = .ok (.iload_n 3, 1) := by decide +kernel
theorem dL_law_775 : decode code 775 = .ok (.iconst 1, 1) := by decide +kernel
theorem dL_law_776 : decode code 776 = .ok (.iadd, 1) := by decide +kernel
theorem dL_law_777 : decode code 777 = .ok (.iaload, 1) := by decide +kernel
theorem dL_law_778 : decode code 778 = .ok (.invokevirtual 97, 3) := by decide +kernel
theorem dL_law_781 : decode code 781 = .ok (.if_icmp .eq 827, 3) := by decide +kernel
theorem dL_law_784 : decode code 784 = .ok (.iconst 0, 1) := by decide +kernel
theorem dL_law_785 : decode code 785 = .ok (.ireturn, 1) := by decide +kernel
theorem dL_law_786 : decode code 786 = .ok (.aload_n 1, 1) := by decide +kernel
theorem dL_law_787 : decode code 787 = .ok (.aload_n 0, 1) := by decide +kernel
theorem dL_law_788 : decode code 788 = .ok (.iload_n 3, 1) := by decide +kernel
theorem dL_law_789 : decode code 789 = .ok (.iconst 1, 1) := by decide +kernel
theorem dL_law_790 : decode code 790 = .ok (.iadd, 1) := by decide +kernel
theorem dL_law_791 : decode code 791 = .ok (.iaload, 1) := by decide +kernel
theorem dL_law_792 : decode code 792 = .ok (.invokevirtual 98, 3) := by decide +kernel
theorem dL_law_795 : decode code 795 = .ok (.aload_n 2, 1) := by decide +kernel
theorem dL_law_796 : decode code 796 = .ok (.aload_n 0, 1) := by decide +kernel
theorem dL_law_797 : decode code 797 = .ok (.iload_n 3, 1) := by decide +kernel
theorem dL_law_798 : decode code 798 = .ok (.iconst 1, 1) := by decide +kernel
theorem dL_law_799 : decode code 799 = .ok (.iadd, 1) := by decide +kernel
theorem dL_law_800 : decode code 800 = .ok (.iaload, 1) := by decide +kernel
theorem dL_law_801 : decode code 801 = .ok (.invokevirtual 101, 3) := by decide +kernel
theorem dL_law_804 : decode code 804 = .ok (.if_icmp .eq 804, 3) := by decide +kernel
theorem dL_law_807 : decode code 807 = .ok (.iconst 0, 1) := by decide +kernel
theorem dL_law_808 : decode code 808 = .ok (.ireturn, 1) := by decide +kernel
theorem dL_law_809 : decode code 809 = .ok (.aload_n 1, 1) := by decide +kernel
theorem dL_law_810 : decode code 810 = .ok (.aload_n 0, 1) := by decide +kernel
theorem dL_law_811 : decode code 811 = .ok (.iload_n 3, 1) := by decide +kernel
theorem dL_law_812 : decode code 812 = .ok (.iconst 1, 1) := by decide +kernel
theorem dL_law_813 : decode code 813 = .ok (.iadd, 1) := by decide +kernel
theorem dL_law_814 : decode code 814 = .ok (.iaload, 1) := by decide +kernel
theorem dL_law_815 : decode code 815 = .ok (.aload_n 0, 1) := by decide +kernel
theorem dL_law_816 : decode code 816 = .ok (.iload_n 3, 1) := by decide +kernel
theorem dL_law_817 : decode code 817 = .ok (.iconst 2, 1) := by decide +kernel
theorem dL_law_818 : decode code 818 = .ok (.iadd, 1) := by decide +kernel
theorem dL_law_819 : decode code 819 = .ok (.iaload, 1) := by decide +kernel
theorem dL_law_820 : decode code 820 = .ok (.invokevirtual 102, 3) := by decide +kernel
theorem dL_law_823 : decode code 823 = .ok (.aload_n 2, 1) := by decide +kernel
theorem dL_law_824 : decode code 824 = .ok (.aload_n 0, 1) := by decide +kernel
theorem dL_law_825 : decode code 825 = .ok (.iload_n 3, 1) := by decide +kernel
theorem dL_law_826 : decode code 826 = .ok (.iconst 1, 1) := by decide +kernel
theorem dL_law_827 : decode code 827 = .ok (.iadd, 1) := by decide +kernel
theorem dL_law_828 : decode code 828 = .ok (.iaload, 1) := by decide +kernel
theorem dL_law_829 : decode code 829 = .ok (.aload_n 0, 1) := by decide +kernel
theorem dL_law_830 : decode code 830 = .ok (.iload_n 3, 1) := by decide +kernel
theorem dL_law_831 : decode code 831 = .ok (.iconst 2, 1) := by decide +kernel
theorem dL_law_832 : decode code 832 = .ok (.iadd, 1) := by decide +kernel
theorem dL_law_833 : decode code 833 = .ok (.iaload, 1) := by decide +kernel
theorem dL_law_834 : decode code 834 = .ok (.invokevirtual 105, 3) := by decide +kernel
theorem dL_law_837 : decode code 837 = .ok (.if_icmp .eq 771, 3) := by decide +kernel
theorem dL_law_840 : decode code 840 = .ok (.iconst 0, 1) := by decide +kernel
theorem dL_law_841 : decode code 841 = .ok (.ireturn, 1) := by decide +kernel
theorem dL_law_842 : decode code 842 = .ok (.aload_n 1, 1) := by decide +kernel
theorem dL_law_843 : decode code 843 = .ok (.aload_n 0, 1) := by decide +kernel
theorem dL_law_844 : decode code 844 = .ok (.iload_n 3, 1) := by decide +kernel
theorem dL_law_845 : decode code 845 = .ok (.iconst 1, 1) := by decide +kernel
theorem dL_law_846 : decode code 846 = .ok (.iadd, 1) := by decide +kernel
theorem dL_law_847 : decode code 847 = .ok (.iaload, 1) := by decide +kernel
theorem dL_law_848 : decode code 848 = .ok (.invokevirtual 106, 3) := by decide +kernel
theorem dL_law_851 : decode code 851 = .ok (.aload_n 2, 1) := by decide +kernel
theorem dL_law_852 : decode code 852 = .ok (.aload_n 0, 1) := by decide +kernel
theorem dL_law_853 : decode code 853 = .ok (.iload_n 3, 1) := by decide +kernel
theorem dL_law_854 : decode code 854 = .ok (.iconst 1, 1) := by decide +kernel
theorem dL_law_855 : decode code 855 = .ok (.iadd, 1) := by decide +kernel
theorem dL_law_856 : decode code 856 = .ok (.iaload, 1) := by decide +kernel
theorem dL_law_857 : decode code 857 = .ok (.invokevirtual 109, 3) := by decide +kernel
theorem dL_law_860 : decode code 860 = .ok (.if_icmp .eq 748, 3) := by decide +kernel
theorem dL_law_863 : decode code 863 = .ok (.iconst 0, 1) := by decide +kernel
theorem dL_law_864 : decode code 864 = .ok (.ireturn, 1) := by decide +kernel
theorem dL_law_865 : decode code 865 = .ok (.aload_n 1, 1) := by decide +kernel
theorem dL_law_866 : decode code 866 = .ok (.aload_n 0, 1) := by decide +kernel
theorem dL_law_867 : decode code 867 = .ok (.iload_n 3, 1) := by decide +kernel
theorem dL_law_868 : decode code 868 = .ok (.iconst 1, 1) := by decide +kernel
theorem dL_law_869 : decode code 869 = .ok (.iadd, 1) := by decide +kernel
theorem dL_law_870 : decode code 870 = .ok (.iaload, 1) := by decide +kernel
theorem dL_law_871 : decode code 871 = .ok (.invokevirtual 110, 3) := by decide +kernel
theorem dL_law_874 : decode code 874 = .ok (.aload_n 2, 1) := by decide +kernel
theorem dL_law_875 : decode code 875 = .ok (.aload_n 0, 1) := by decide +kernel
theorem dL_law_876 : decode code 876 = .ok (.iload_n 3, 1) := by decide +kernel
theorem dL_law_877 : decode code 877 = .ok (.iconst 1, 1) := by decide +kernel
theorem dL_law_878 : decode code 878 = .ok (.iadd, 1) := by decide +kernel
theorem dL_law_879 : decode code 879 = .ok (.iaload, 1) := by decide +kernel
theorem dL_law_880 : decode code 880 = .ok (.invokevirtual 113, 3) := by decide +kernel
theorem dL_law_883 : decode code 883 = .ok (.if_icmp .eq 725, 3) := by decide +kernel
theorem dL_law_886 : decode code 886 = .ok (.iconst 0, 1) := by decide +kernel
theorem dL_law_887 : decode code 887 = .ok (.ireturn, 1) := by decide +kernel
theorem dL_law_888 : decode code 888 = .ok (.aload_n 1, 1) := by decide +kernel
theorem dL_law_889 : decode code 889 = .ok (.aload_n 0, 1) := by decide +kernel
theorem dL_law_890 : decode code 890 = .ok (.iload_n 3, 1) := by decide +kernel
theorem dL_law_891 : decode code 891 = .ok (.iconst 1, 1) := by decide +kernel
theorem dL_law_892 : decode code 892 = .ok (.iadd, 1) := by decide +kernel
theorem dL_law_893 : decode code 893 = .ok (.iaload, 1) := by decide +kernel
theorem dL_law_894 : decode code 894 = .ok (.invokevirtual 114, 3) := by decide +kernel
theorem dL_law_897 : decode code 897 = .ok (.aload_n 2, 1) := by decide +kernel
theorem dL_law_898 : decode code 898 = .ok (.aload_n 0, 1) := by decide +kernel
theorem dL_law_899 : decode code 899 = .ok (.iload_n 3, 1) := by decide +kernel
theorem dL_law_900 : decode code 900 = .ok (.iconst 1, 1) := by decide +kernel
theorem dL_law_901 : decode code 901 = .ok (.iadd, 1) := by decide +kernel
theorem dL_law_902 : decode code 902 = .ok (.iaload, 1) := by decide +kernel
theorem dL_law_903 : decode code 903 = .ok (.invokevirtual 118, 3) := by decide +kernel
theorem dL_law_906 : decode code 906 = .ok (.lcmp, 1) := by decide +kernel
theorem dL_law_907 : decode code 907 = .ok (.ifCond .eq 701, 3) := by decide +kernel
theorem dL_law_910 : decode code 910 = .ok (.iconst 0, 1) := by decide +kernel
theorem dL_law_911 : decode code 911 = .ok (.ireturn, 1) := by decide +kernel
theorem dL_law_912 : decode code 912 = .ok (.aload_n 1, 1) := by decide +kernel
theorem dL_law_913 : decode code 913 = .ok (.aload_n 0, 1) := by decide +kernel
theorem dL_law_914 : decode code 914 = .ok (.iload_n 3, 1) := by decide +kernel
theorem dL_law_915 : decode code 915 = .ok (.iconst 1, 1) := by decide +kernel
theorem dL_law_916 : decode code 916 = .ok (.iadd, 1) := by decide +kernel
theorem dL_law_917 : decode code 917 = .ok (.iaload, 1) := by decide +kernel
theorem dL_law_918 : decode code 918 = .ok (.invokevirtual 119, 3) := by decide +kernel
theorem dL_law_921 : decode code 921 = .ok (.aload_n 2, 1) := by decide +kernel
theorem dL_law_922 : decode code 922 = .ok (.aload_n 0, 1) := by decide +kernel
theorem dL_law_923 : decode code 923 = .ok (.iload_n 3, 1) := by decide +kernel
theorem dL_law_924 : decode code 924 = .ok (.iconst 1, 1) := by decide +kernel
theorem dL_law_925 : decode code 925 = .ok (.iadd, 1) := by decide +kernel
theorem dL_law_926 : decode code 926 = .ok (.iaload, 1) := by decide +kernel
theorem dL_law_927 : decode code 927 = .ok (.invokevirtual 122, 3) := by decide +kernel
theorem dL_law_930 : decode code 930 = .ok (.if_icmp .eq 678, 3) := by decide +kernel
theorem dL_law_933 : decode code 933 = .ok (.iconst 0, 1) := by decide +kernel
theorem dL_law_934 : decode code 934 = .ok (.ireturn, 1) := by decide +kernel
theorem dL_law_935 : decode code 935 = .ok (.aload_n 1, 1) := by decide +kernel
theorem dL_law_936 : decode code 936 = .ok (.aload_n 0, 1) := by decide +kernel
theorem dL_law_937 : decode code 937 = .ok (.iload_n 3, 1) := by decide +kernel
theorem dL_law_938 : decode code 938 = .ok (.iconst 1, 1) := by decide +kernel
theorem dL_law_939 : decode code 939 = .ok (.iadd, 1) := by decide +kernel
theorem dL_law_940 : decode code 940 = .ok (.iaload, 1) := by decide +kernel
theorem dL_law_941 : decode code 941 = .ok (.aload_n 0, 1) := by decide +kernel
theorem dL_law_942 : decode code 942 = .ok (.iload_n 3, 1) := by decide +kernel
theorem dL_law_943 : decode code 943 = .ok (.iconst 2, 1) := by decide +kernel
theorem dL_law_944 : decode code 944 = .ok (.iadd, 1) := by decide +kernel
theorem dL_law_945 : decode code 945 = .ok (.iaload, 1) := by decide +kernel
theorem dL_law_946 : decode code 946 = .ok (.invokevirtual 123, 3) := by decide +kernel
theorem dL_law_949 : decode code 949 = .ok (.aload_n 2, 1) := by decide +kernel
theorem dL_law_950 : decode code 950 = .ok (.aload_n 0, 1) := by decide +kernel
theorem dL_law_951 : decode code 951 = .ok (.iload_n 3, 1) := by decide +kernel
theorem dL_law_952 : decode code 952 = .ok (.iconst 1, 1) := by decide +kernel
theorem dL_law_953 : decode code 953 = .ok (.iadd, 1) := by decide +kernel
theorem dL_law_954 : decode code 954 = .ok (.iaload, 1) := by decide +kernel
theorem dL_law_955 : decode code 955 = .ok (.aload_n 0, 1) := by decide +kernel
theorem dL_law_956 : decode code 956 = .ok (.iload_n 3, 1) := by decide +kernel
theorem dL_law_957 : decode code 957 = .ok (.iconst 2, 1) := by decide +kernel
theorem dL_law_958 : decode code 958 = .ok (.iadd, 1) := by decide +kernel
theorem dL_law_959 : decode code 959 = .ok (.iaload, 1) := by decide +kernel
theorem dL_law_960 : decode code 960 = .ok (.invokevirtual 126, 3) := by decide +kernel
theorem dL_law_963 : decode code 963 = .ok (.if_icmp .eq 645, 3) := by decide +kernel
theorem dL_law_966 : decode code 966 = .ok (.iconst 0, 1) := by decide +kernel
theorem dL_law_967 : decode code 967 = .ok (.ireturn, 1) := by decide +kernel
theorem dL_law_968 : decode code 968 = .ok (.aload_n 1, 1) := by decide +kernel
theorem dL_law_969 : decode code 969 = .ok (.aload_n 0, 1) := by decide +kernel
theorem dL_law_970 : decode code 970 = .ok (.iload_n 3, 1) := by decide +kernel
theorem dL_law_971 : decode code 971 = .ok (.iconst 1, 1) := by decide +kernel
theorem dL_law_972 : decode code 972 = .ok (.iadd, 1) := by decide +kernel
theorem dL_law_973 : decode code 973 = .ok (.iaload, 1) := by decide +kernel
theorem dL_law_974 : decode code 974 = .ok (.invokevirtual 127, 3) := by decide +kernel
theorem dL_law_977 : decode code 977 = .ok (.aload_n 2, 1) := by decide +kernel
theorem dL_law_978 : decode code 978 = .ok (.aload_n 0, 1) := by decide +kernel
theorem dL_law_979 : decode code 979 = .ok (.iload_n 3, 1) := by decide +kernel
theorem dL_law_980 : decode code 980 = .ok (.iconst 1, 1) := by decide +kernel
theorem dL_law_981 : decode code 981 = .ok (.iadd, 1) := by decide +kernel
theorem dL_law_982 : decode code 982 = .ok (.iaload, 1) := by decide +kernel
theorem dL_law_983 : decode code 983 = .ok (.invokevirtual 130, 3) := by decide +kernel
theorem dL_law_986 : decode code 986 = .ok (.if_icmp .eq 622, 3) := by decide +kernel
theorem dL_law_989 : decode code 989 = .ok (.iconst 0, 1) := by decide +kernel
theorem dL_law_990 : decode code 990 = .ok (.ireturn, 1) := by decide +kernel
theorem dL_law_991 : decode code 991 = .ok (.aload_n 1, 1) := by decide +kernel
theorem dL_law_992 : decode code 992 = .ok (.aload_n 0, 1) := by decide +kernel
theorem dL_law_993 : decode code 993 = .ok (.iload_n 3, 1) := by decide +kernel
theorem dL_law_994 : decode code 994 = .ok (.iconst 1, 1) := by decide +kernel
theorem dL_law_995 : decode code 995 = .ok (.iadd, 1) := by decide +kernel
theorem dL_law_996 : decode code 996 = .ok (.iaload, 1) := by decide +kernel
theorem dL_law_997 : decode code 997 = .ok (.invokevirtual 131, 3) := by decide +kernel
theorem dL_law_1000 : decode code 1000 = .ok (.aload_n 2, 1) := by decide +kernel
theorem dL_law_1001 : decode code 1001 = .ok (.aload_n 0, 1) := by decide +kernel
theorem dL_law_1002 : decode code 1002 = .ok (.iload_n 3, 1) := by decide +kernel
theorem dL_law_1003 : decode code 1003 = .ok (.iconst 1, 1) := by decide +kernel
theorem dL_law_1004 : decode code 1004 = .ok (.iadd, 1) := by decide +kernel
theorem dL_law_1005 : decode code 1005 = .ok (.iaload, 1) := by decide +kernel
theorem dL_law_1006 : decode code 1006 = .ok (.invokevirtual 134, 3) := by decide +kernel
theorem dL_law_1009 : decode code 1009 = .ok (.if_icmp .eq 599, 3) := by decide +kernel
theorem dL_law_1012 : decode code 1012 = .ok (.iconst 0, 1) := by decide +kernel
theorem dL_law_1013 : decode code 1013 = .ok (.ireturn, 1) := by decide +kernel
theorem dL_law_1014 : decode code 1014 = .ok (.aload_n 1, 1) := by decide +kernel
theorem dL_law_1015 : decode code 1015 = .ok (.aload_n 0, 1) := by decide +kernel
theorem dL_law_1016 : decode code 1016 = .ok (.iload_n 3, 1) := by decide +kernel
theorem dL_law_1017 : decode code 1017 = .ok (.iconst 1, 1) := by decide +kernel
theorem dL_law_1018 : decode code 1018 = .ok (.iadd, 1) := by decide +kernel
theorem dL_law_1019 : decode code 1019 = .ok (.iaload, 1) := by decide +kernel
theorem dL_law_1020 : decode code 1020 = .ok (.invokevirtual 135, 3) := by decide +kernel
theorem dL_law_1023 : decode code 1023 = .ok (.aload_n 2, 1) := by decide +kernel
theorem dL_law_1024 : decode code 1024 = .ok (.aload_n 0, 1) := by decide +kernel
theorem dL_law_1025 : decode code 1025 = .ok (.iload_n 3, 1) := by decide +kernel
theorem dL_law_1026 : decode code 1026 = .ok (.iconst 1, 1) := by decide +kernel
theorem dL_law_1027 : decode code 1027 = .ok (.iadd, 1) := by decide +kernel
theorem dL_law_1028 : decode code 1028 = .ok (.iaload, 1) := by decide +kernel
theorem dL_law_1029 : decode code 1029 = .ok (.invokevirtual 138, 3) := by decide +kernel
theorem dL_law_1032 : decode code 1032 = .ok (.if_icmp .eq 576, 3) := by decide +kernel
theorem dL_law_1035 : decode code 1035 = .ok (.iconst 0, 1) := by decide +kernel
theorem dL_law_1036 : decode code 1036 = .ok (.ireturn, 1) := by decide +kernel
theorem dL_law_1037 : decode code 1037 = .ok (.aload_n 1, 1) := by decide +kernel
theorem dL_law_1038 : decode code 1038 = .ok (.aload_n 0, 1) := by decide +kernel
theorem dL_law_1039 : decode code 1039 = .ok (.iload_n 3, 1) := by decide +kernel
theorem dL_law_1040 : decode code 1040 = .ok (.iconst 1, 1) := by decide +kernel
theorem dL_law_1041 : decode code 1041 = .ok (.iadd, 1) := by decide +kernel
theorem dL_law_1042 : decode code 1042 = .ok (.iaload, 1) := by decide +kernel
theorem dL_law_1043 : decode code 1043 = .ok (.invokevirtual 139, 3) := by decide +kernel
theorem dL_law_1046 : decode code 1046 = .ok (.aload_n 2, 1) := by decide +kernel
theorem dL_law_1047 : decode code 1047 = .ok (.aload_n 0, 1) := by decide +kernel
theorem dL_law_1048 : decode code 1048 = .ok (.iload_n 3, 1) := by decide +kernel
theorem dL_law_1049 : decode code 1049 = .ok (.iconst 1, 1) := by decide +kernel
theorem dL_law_1050 : decode code 1050 = .ok (.iadd, 1) := by decide +kernel
theorem dL_law_1051 : decode code 1051 = .ok (.iaload, 1) := by decide +kernel
theorem dL_law_1052 : decode code 1052 = .ok (.invokevirtual 142, 3) := by decide +kernel
theorem dL_law_1055 : decode code 1055 = .ok (.if_icmp .eq 553, 3) := by decide +kernel
theorem dL_law_1058 : decode code 1058 = .ok (.iconst 0, 1) := by decide +kernel
theorem dL_law_1059 : decode code 1059 = .ok (.ireturn, 1) := by decide +kernel
theorem dL_law_1060 : decode code 1060 = .ok (.aload_n 1, 1) := by decide +kernel
theorem dL_law_1061 : decode code 1061 = .ok (.aload_n 0, 1) := by decide +kernel
theorem dL_law_1062 : decode code 1062 = .ok (.iload_n 3, 1) := by decide +kernel
theorem dL_law_1063 : decode code 1063 = .ok (.iconst 1, 1) := by decide +kernel
theorem dL_law_1064 : decode code 1064 = .ok (.iadd, 1) := by decide +kernel
theorem dL_law_1065 : decode code 1065 = .ok (.iaload, 1) := by decide +kernel
theorem dL_law_1066 : decode code 1066 = .ok (.aload_n 0, 1) := by decide +kernel
theorem dL_law_1067 : decode code 1067 = .ok (.iload_n 3, 1) := by decide +kernel
theorem dL_law_1068 : decode code 1068 = .ok (.iconst 2, 1) := by decide +kernel
theorem dL_law_1069 : decode code 1069 = .ok (.iadd, 1) := by decide +kernel
theorem dL_law_1070 : decode code 1070 = .ok (.iaload, 1) := by decide +kernel
theorem dL_law_1071 : decode code 1071 = .ok (.aload_n 0, 1) := by decide +kernel
theorem dL_law_1072 : decode code 1072 = .ok (.iload_n 3, 1) := by decide +kernel
theorem dL_law_1073 : decode code 1073 = .ok (.iconst 3, 1) := by decide +kernel
theorem dL_law_1074 : decode code 1074 = .ok (.iadd, 1) := by decide +kernel
theorem dL_law_1075 : decode code 1075 = .ok (.iaload, 1) := by decide +kernel
theorem dL_law_1076 : decode code 1076 = .ok (.invokevirtual 143, 3) := by decide +kernel
theorem dL_law_1079 : decode code 1079 = .ok (.aload_n 2, 1) := by decide +kernel
theorem dL_law_1080 : decode code 1080 = .ok (.aload_n 0, 1) := by decide +kernel
theorem dL_law_1081 : decode code 1081 = .ok (.iload_n 3, 1) := by decide +kernel
theorem dL_law_1082 : decode code 1082 = .ok (.iconst 1, 1) := by decide +kernel
theorem dL_law_1083 : decode code 1083 = .ok (.iadd, 1) := by decide +kernel
theorem dL_law_1084 : decode code 1084 = .ok (.iaload, 1) := by decide +kernel
theorem dL_law_1085 : decode code 1085 = .ok (.aload_n 0, 1) := by decide +kernel
theorem dL_law_1086 : decode code 1086 = .ok (.iload_n 3, 1) := by decide +kernel
theorem dL_law_1087 : decode code 1087 = .ok (.iconst 2, 1) := by decide +kernel
theorem dL_law_1088 : decode code 1088 = .ok (.iadd, 1) := by decide +kernel
theorem dL_law_1089 : decode code 1089 = .ok (.iaload, 1) := by decide +kernel
theorem dL_law_1090 : decode code 1090 = .ok (.aload_n 0, 1) := by decide +kernel
theorem dL_law_1091 : decode code 1091 = .ok (.iload_n 3, 1) := by decide +kernel
theorem dL_law_1092 : decode code 1092 = .ok (.iconst 3, 1) := by decide +kernel
theorem dL_law_1093 : decode code 1093 = .ok (.iadd, 1) := by decide +kernel
theorem dL_law_1094 : decode code 1094 = .ok (.iaload, 1) := by decide +kernel
theorem dL_law_1095 : decode code 1095 = .ok (.invokevirtual 146, 3) := by decide +kernel
theorem dL_law_1098 : decode code 1098 = .ok (.if_icmp .eq 510, 3) := by decide +kernel
theorem dL_law_1101 : decode code 1101 = .ok (.iconst 0, 1) := by decide +kernel
theorem dL_law_1102 : decode code 1102 = .ok (.ireturn, 1) := by decide +kernel
theorem dL_law_1103 : decode code 1103 = .ok (.aload_n 1, 1) := by decide +kernel
theorem dL_law_1104 : decode code 1104 = .ok (.aload_n 0, 1) := by decide +kernel
theorem dL_law_1105 : decode code 1105 = .ok (.iload_n 3, 1) := by decide +kernel
theorem dL_law_1106 : decode code 1106 = .ok (.iconst 1, 1) := by decide +kernel
theorem dL_law_1107 : decode code 1107 = .ok (.iadd, 1) := by decide +kernel
theorem dL_law_1108 : decode code 1108 = .ok (.iaload, 1) := by decide +kernel
theorem dL_law_1109 : decode code 1109 = .ok (.invokevirtual 147, 3) := by decide +kernel
theorem dL_law_1112 : decode code 1112 = .ok (.aload_n 2, 1) := by decide +kernel
theorem dL_law_1113 : decode code 1113 = .ok (.aload_n 0, 1) := by decide +kernel
theorem dL_law_1114 : decode code 1114 = .ok (.iload_n 3, 1) := by decide +kernel
theorem dL_law_1115 : decode code 1115 = .ok (.iconst 1, 1) := by decide +kernel
theorem dL_law_1116 : decode code 1116 = .ok (.iadd, 1) := by decide +kernel
theorem dL_law_1117 : decode code 1117 = .ok (.iaload, 1) := by decide +kernel
theorem dL_law_1118 : decode code 1118 = .ok (.invokevirtual 150, 3) := by decide +kernel
theorem dL_law_1121 : decode code 1121 = .ok (.if_icmp .eq 487, 3) := by decide +kernel
theorem dL_law_1124 : decode code 1124 = .ok (.iconst 0, 1) := by decide +kernel
theorem dL_law_1125 : decode code 1125 = .ok (.ireturn, 1) := by decide +kernel
theorem dL_law_1126 : decode code 1126 = .ok (.aload_n 1, 1) := by decide +kernel
theorem dL_law_1127 : decode code 1127 = .ok (.aload_n 0, 1) := by decide +kernel
theorem dL_law_1128 : decode code 1128 = .ok (.iload_n 3, 1) := by decide +kernel
theorem dL_law_1129 : decode code 1129 = .ok (.iconst 1, 1) := by decide +kernel
theorem dL_law_1130 : decode code 1130 = .ok (.iadd, 1) := by decide +kernel
theorem dL_law_1131 : decode code 1131 = .ok (.iaload, 1) := by decide +kernel
theorem dL_law_1132 : decode code 1132 = .ok (.aload_n 0, 1) := by decide +kernel
theorem dL_law_1133 : decode code 1133 = .ok (.iload_n 3, 1) := by decide +kernel
theorem dL_law_1134 : decode code 1134 = .ok (.iconst 2, 1) := by decide +kernel
theorem dL_law_1135 : decode code 1135 = .ok (.iadd, 1) := by decide +kernel
theorem dL_law_1136 : decode code 1136 = .ok (.iaload, 1) := by decide +kernel
theorem dL_law_1137 : decode code 1137 = .ok (.invokevirtual 151, 3) := by decide +kernel
theorem dL_law_1140 : decode code 1140 = .ok (.aload_n 2, 1) := by decide +kernel
theorem dL_law_1141 : decode code 1141 = .ok (.aload_n 0, 1) := by decide +kernel
theorem dL_law_1142 : decode code 1142 = .ok (.iload_n 3, 1) := by decide +kernel
theorem dL_law_1143 : decode code 1143 = .ok (.iconst 1, 1) := by decide +kernel
theorem dL_law_1144 : decode code 1144 = .ok (.iadd, 1) := by decide +kernel
theorem dL_law_1145 : decode code 1145 = .ok (.iaload, 1) := by decide +kernel
theorem dL_law_1146 : decode code 1146 = .ok (.aload_n 0, 1) := by decide +kernel
theorem dL_law_1147 : decode code 1147 = .ok (.iload_n 3, 1) := by decide +kernel
theorem dL_law_1148 : decode code 1148 = .ok (.iconst 2, 1) := by decide +kernel
theorem dL_law_1149 : decode code 1149 = .ok (.iadd, 1) := by decide +kernel
theorem dL_law_1150 : decode code 1150 = .ok (.iaload, 1) := by decide +kernel
theorem dL_law_1151 : decode code 1151 = .ok (.invokevirtual 154, 3) := by decide +kernel
theorem dL_law_1154 : decode code 1154 = .ok (.if_icmp .eq 454, 3) := by decide +kernel
theorem dL_law_1157 : decode code 1157 = .ok (.iconst 0, 1) := by decide +kernel
theorem dL_law_1158 : decode code 1158 = .ok (.ireturn, 1) := by decide +kernel
theorem dL_law_1159 : decode code 1159 = .ok (.aload_n 1, 1) := by decide +kernel
theorem dL_law_1160 : decode code 1160 = .ok (.aload_n 0, 1) := by decide +kernel
theorem dL_law_1161 : decode code 1161 = .ok (.iload_n 3, 1) := by decide +kernel
theorem dL_law_1162 : decode code 1162 = .ok (.iconst 1, 1) := by decide +kernel
theorem dL_law_1163 : decode code 1163 = .ok (.iadd, 1) := by decide +kernel
theorem dL_law_1164 : decode code 1164 = .ok (.iaload, 1) := by decide +kernel
theorem dL_law_1165 : decode code 1165 = .ok (.aload_n 0, 1) := by decide +kernel
theorem dL_law_1166 : decode code 1166 = .ok (.iload_n 3, 1) := by decide +kernel
theorem dL_law_1167 : decode code 1167 = .ok (.iconst 2, 1) := by decide +kernel
theorem dL_law_1168 : decode code 1168 = .ok (.iadd, 1) := by decide +kernel
theorem dL_law_1169 : decode code 1169 = .ok (.iaload, 1) := by decide +kernel
theorem dL_law_1170 : decode code 1170 = .ok (.invokevirtual 155, 3) := by decide +kernel
theorem dL_law_1173 : decode code 1173 = .ok (.aload_n 2, 1) := by decide +kernel
theorem dL_law_1174 : decode code 1174 = .ok (.aload_n 0, 1) := by decide +kernel
theorem dL_law_1175 : decode code 1175 = .ok (.iload_n 3, 1) := by decide +kernel
theorem dL_law_1176 : decode code 1176 = .ok (.iconst 1, 1) := by decide +kernel
theorem dL_law_1177 : decode code 1177 = .ok (.iadd, 1) := by decide +kernel
theorem dL_law_1178 : decode code 1178 = .ok (.iaload, 1) := by decide +kernel
theorem dL_law_1179 : decode code 1179 = .ok (.aload_n 0, 1) := by decide +kernel
theorem dL_law_1180 : decode code 1180 = .ok (.iload_n 3, 1) := by decide +kernel
theorem dL_law_1181 : decode code 1181 = .ok (.iconst 2, 1) := by decide +kernel
theorem dL_law_1182 : decode code 1182 = .ok (.iadd, 1) := by decide +kernel
theorem dL_law_1183 : decode code 1183 = .ok (.iaload, 1) := by decide +kernel
theorem dL_law_1184 : decode code 1184 = .ok (.invokevirtual 158, 3) := by decide +kernel
theorem dL_law_1187 : decode code 1187 = .ok (.if_icmp .eq 421, 3) := by decide +kernel
theorem dL_law_1190 : decode code 1190 = .ok (.iconst 0, 1) := by decide +kernel
theorem dL_law_1191 : decode code 1191 = .ok (.ireturn, 1) := by decide +kernel
theorem dL_law_1192 : decode code 1192 = .ok (.aload_n 1, 1) := by decide +kernel
theorem dL_law_1193 : decode code 1193 = .ok (.aload_n 0, 1) := by decide +kernel
theorem dL_law_1194 : decode code 1194 = .ok (.iload_n 3, 1) := by decide +kernel
theorem dL_law_1195 : decode code 1195 = .ok (.iconst 1, 1) := by decide +kernel
theorem dL_law_1196 : decode code 1196 = .ok (.iadd, 1) := by decide +kernel
theorem dL_law_1197 : decode code 1197 = .ok (.iaload, 1) := by decide +kernel
theorem dL_law_1198 : decode code 1198 = .ok (.aload_n 0, 1) := by decide +kernel
theorem dL_law_1199 : decode code 1199 = .ok (.iload_n 3, 1) := by decide +kernel
theorem dL_law_1200 : decode code 1200 = .ok (.iconst 2, 1) := by decide +kernel
theorem dL_law_1201 : decode code 1201 = .ok (.iadd, 1) := by decide +kernel
theorem dL_law_1202 : decode code 1202 = .ok (.iaload, 1) := by decide +kernel
theorem dL_law_1203 : decode code 1203 = .ok (.invokevirtual 159, 3) := by decide +kernel
theorem dL_law_1206 : decode code 1206 = .ok (.aload_n 2, 1) := by decide +kernel
theorem dL_law_1207 : decode code 1207 = .ok (.aload_n 0, 1) := by decide +kernel
theorem dL_law_1208 : decode code 1208 = .ok (.iload_n 3, 1) := by decide +kernel
theorem dL_law_1209 : decode code 1209 = .ok (.iconst 1, 1) := by decide +kernel
theorem dL_law_1210 : decode code 1210 = .ok (.iadd, 1) := by decide +kernel
theorem dL_law_1211 : decode code 1211 = .ok (.iaload, 1) := by decide +kernel
theorem dL_law_1212 : decode code 1212 = .ok (.aload_n 0, 1) := by decide +kernel
theorem dL_law_1213 : decode code 1213 = .ok (.iload_n 3, 1) := by decide +kernel
theorem dL_law_1214 : decode code 1214 = .ok (.iconst 2, 1) := by decide +kernel
theorem dL_law_1215 : decode code 1215 = .ok (.iadd, 1) := by decide +kernel
theorem dL_law_1216 : decode code 1216 = .ok (.iaload, 1) := by decide +kernel
theorem dL_law_1217 : decode code 1217 = .ok (.invokevirtual 162, 3) := by decide +kernel
theorem dL_law_1220 : decode code 1220 = .ok (.if_icmp .eq 388, 3) := by decide +kernel
theorem dL_law_1223 : decode code 1223 = .ok (.iconst 0, 1) := by decide +kernel
theorem dL_law_1224 : decode code 1224 = .ok (.ireturn, 1) := by decide +kernel
theorem dL_law_1225 : decode code 1225 = .ok (.aload_n 1, 1) := by decide +kernel
theorem dL_law_1226 : decode code 1226 = .ok (.aload_n 0, 1) := by decide +kernel
theorem dL_law_1227 : decode code 1227 = .ok (.iload_n 3, 1) := by decide +kernel
theorem dL_law_1228 : decode code 1228 = .ok (.iconst 1, 1) := by decide +kernel
theorem dL_law_1229 : decode code 1229 = .ok (.iadd, 1) := by decide +kernel
theorem dL_law_1230 : decode code 1230 = .ok (.iaload, 1) := by decide +kernel
theorem dL_law_1231 : decode code 1231 = .ok (.aload_n 0, 1) := by decide +kernel
theorem dL_law_1232 : decode code 1232 = .ok (.iload_n 3, 1) := by decide +kernel
theorem dL_law_1233 : decode code 1233 = .ok (.iconst 2, 1) := by decide +kernel
theorem dL_law_1234 : decode code 1234 = .ok (.iadd, 1) := by decide +kernel
theorem dL_law_1235 : decode code 1235 = .ok (.iaload, 1) := by decide +kernel
theorem dL_law_1236 : decode code 1236 = .ok (.invokevirtual 163, 3) := by decide +kernel
theorem dL_law_1239 : decode code 1239 = .ok (.aload_n 2, 1) := by decide +kernel
theorem dL_law_1240 : decode code 1240 = .ok (.aload_n 0, 1) := by decide +kernel
theorem dL_law_1241 : decode code 1241 = .ok (.iload_n 3, 1) := by decide +kernel
theorem dL_law_1242 : decode code 1242 = .ok (.iconst 1, 1) := by decide +kernel
theorem dL_law_1243 : decode code 1243 = .ok (.iadd, 1) := by decide +kernel
theorem dL_law_1244 : decode code 1244 = .ok (.iaload, 1) := by decide +kernel
theorem dL_law_1245 : decode code 1245 = .ok (.aload_n 0, 1) := by decide +kernel
theorem dL_law_1246 : decode code 1246 = .ok (.iload_n 3, 1) := by decide +kernel
theorem dL_law_1247 : decode code 1247 = .ok (.iconst 2, 1) := by decide +kernel
theorem dL_law_1248 : decode code 1248 = .ok (.iadd, 1) := by decide +kernel
theorem dL_law_1249 : decode code 1249 = .ok (.iaload, 1) := by decide +kernel
theorem dL_law_1250 : decode code 1250 = .ok (.invokevirtual 166, 3) := by decide +kernel
theorem dL_law_1253 : decode code 1253 = .ok (.if_icmp .eq 355, 3) := by decide +kernel
theorem dL_law_1256 : decode code 1256 = .ok (.iconst 0, 1) := by decide +kernel
theorem dL_law_1257 : decode code 1257 = .ok (.ireturn, 1) := by decide +kernel
theorem dL_law_1258 : decode code 1258 = .ok (.aload_n 1, 1) := by decide +kernel
theorem dL_law_1259 : decode code 1259 = .ok (.aload_n 0, 1) := by decide +kernel
theorem dL_law_1260 : decode code 1260 = .ok (.iload_n 3, 1) := by decide +kernel
theorem dL_law_1261 : decode code 1261 = .ok (.iconst 1, 1) := by decide +kernel
theorem dL_law_1262 : decode code 1262 = .ok (.iadd, 1) := by decide +kernel
theorem dL_law_1263 : decode code 1263 = .ok (.iaload, 1) := by decide +kernel
theorem dL_law_1264 : decode code 1264 = .ok (.aload_n 0, 1) := by decide +kernel
theorem dL_law_1265 : decode code 1265 = .ok (.iload_n 3, 1) := by decide +kernel
theorem dL_law_1266 : decode code 1266 = .ok (.iconst 2, 1) := by decide +kernel
theorem dL_law_1267 : decode code 1267 = .ok (.iadd, 1) := by decide +kernel
theorem dL_law_1268 : decode code 1268 = .ok (.iaload, 1) := by decide +kernel
theorem dL_law_1269 : decode code 1269 = .ok (.aload_n 0, 1) := by decide +kernel
theorem dL_law_1270 : decode code 1270 = .ok (.iload_n 3, 1) := by decide +kernel
theorem dL_law_1271 : decode code 1271 = .ok (.iconst 3, 1) := by decide +kernel
theorem dL_law_1272 : decode code 1272 = .ok (.iadd, 1) := by decide +kernel
theorem dL_law_1273 : decode code 1273 = .ok (.iaload, 1) := by decide +kernel
theorem dL_law_1274 : decode code 1274 = .ok (.invokevirtual 167, 3) := by decide +kernel
theorem dL_law_1277 : decode code 1277 = .ok (.aload_n 2, 1) := by decide +kernel
theorem dL_law_1278 : decode code 1278 = .ok (.aload_n 0, 1) := by decide +kernel
theorem dL_law_1279 : decode code 1279 = .ok (.iload_n 3, 1) := by decide +kernel
theorem dL_law_1280 : decode code 1280 = .ok (.iconst 1, 1) := by decide +kernel
theorem dL_law_1281 : decode code 1281 = .ok (.iadd, 1) := by decide +kernel
theorem dL_law_1282 : decode code 1282 = .ok (.iaload, 1) := by decide +kernel
theorem dL_law_1283 : decode code 1283 = .ok (.aload_n 0, 1) := by decide +kernel
theorem dL_law_1284 : decode code 1284 = .ok (.iload_n 3, 1) := by decide +kernel
theorem dL_law_1285 : decode code 1285 = .ok (.iconst 2, 1) := by decide +kernel
theorem dL_law_1286 : decode code 1286 = .ok (.iadd, 1) := by decide +kernel
theorem dL_law_1287 : decode code 1287 = .ok (.iaload, 1) := by decide +kernel
theorem dL_law_1288 : decode code 1288 = .ok (.aload_n 0, 1) := by decide +kernel
theorem dL_law_1289 : decode code 1289 = .ok (.iload_n 3, 1) := by decide +kernel
theorem dL_law_1290 : decode code 1290 = .ok (.iconst 3, 1) := by decide +kernel
theorem dL_law_1291 : decode code 1291 = .ok (.iadd, 1) := by decide +kernel
theorem dL_law_1292 : decode code 1292 = .ok (.iaload, 1) := by decide +kernel
theorem dL_law_1293 : decode code 1293 = .ok (.invokevirtual 170, 3) := by decide +kernel
theorem dL_law_1296 : decode code 1296 = .ok (.if_icmp .eq 312, 3) := by decide +kernel
theorem dL_law_1299 : decode code 1299 = .ok (.iconst 0, 1) := by decide +kernel
theorem dL_law_1300 : decode code 1300 = .ok (.ireturn, 1) := by decide +kernel
theorem dL_law_1301 : decode code 1301 = .ok (.aload_n 1, 1) := by decide +kernel
theorem dL_law_1302 : decode code 1302 = .ok (.aload_n 0, 1) := by decide +kernel
theorem dL_law_1303 : decode code 1303 = .ok (.iload_n 3, 1) := by decide +kernel
theorem dL_law_1304 : decode code 1304 = .ok (.iconst 1, 1) := by decide +kernel
theorem dL_law_1305 : decode code 1305 = .ok (.iadd, 1) := by decide +kernel
theorem dL_law_1306 : decode code 1306 = .ok (.iaload, 1) := by decide +kernel
theorem dL_law_1307 : decode code 1307 = .ok (.aload_n 0, 1) := by decide +kernel
theorem dL_law_1308 : decode code 1308 = .ok (.iload_n 3, 1) := by decide +kernel
theorem dL_law_1309 : decode code 1309 = .ok (.iconst 2, 1) := by decide +kernel
theorem dL_law_1310 : decode code 1310 = .ok (.iadd, 1) := by decide +kernel
theorem dL_law_1311 : decode code 1311 = .ok (.iaload, 1) := by decide +kernel
theorem dL_law_1312 : decode code 1312 = .ok (.invokevirtual 171, 3) := by decide +kernel
theorem dL_law_1315 : decode code 1315 = .ok (.aload_n 2, 1) := by decide +kernel
theorem dL_law_1316 : decode code 1316 = .ok (.aload_n 0, 1) := by decide +kernel
theorem dL_law_1317 : decode code 1317 = .ok (.iload_n 3, 1) := by decide +kernel
theorem dL_law_1318 : decode code 1318 = .ok (.iconst 1, 1) := by decide +kernel
theorem dL_law_1319 : decode code 1319 = .ok (.iadd, 1) := by decide +kernel
theorem dL_law_1320 : decode code 1320 = .ok (.iaload, 1) := by decide +kernel
theorem dL_law_1321 : decode code 1321 = .ok (.aload_n 0, 1) := by decide +kernel
theorem dL_law_1322 : decode code 1322 = .ok (.iload_n 3, 1) := by decide +kernel
theorem dL_law_1323 : decode code 1323 = .ok (.iconst 2, 1) := by decide +kernel
theorem dL_law_1324 : decode code 1324 = .ok (.iadd, 1) := by decide +kernel
theorem dL_law_1325 : decode code 1325 = .ok (.iaload, 1) := by decide +kernel
theorem dL_law_1326 : decode code 1326 = .ok (.invokevirtual 174, 3) := by decide +kernel
theorem dL_law_1329 : decode code 1329 = .ok (.if_icmp .eq 279, 3) := by decide +kernel
theorem dL_law_1332 : decode code 1332 = .ok (.iconst 0, 1) := by decide +kernel
theorem dL_law_1333 : decode code 1333 = .ok (.ireturn, 1) := by decide +kernel
theorem dL_law_1334 : decode code 1334 = .ok (.aload_n 1, 1) := by decide +kernel
theorem dL_law_1335 : decode code 1335 = .ok (.aload_n 0, 1) := by decide +kernel
theorem dL_law_1336 : decode code 1336 = .ok (.iload_n 3, 1) := by decide +kernel
theorem dL_law_1337 : decode code 1337 = .ok (.iconst 1, 1) := by decide +kernel
theorem dL_law_1338 : decode code 1338 = .ok (.iadd, 1) := by decide +kernel
theorem dL_law_1339 : decode code 1339 = .ok (.iaload, 1) := by decide +kernel
theorem dL_law_1340 : decode code 1340 = .ok (.aload_n 0, 1) := by decide +kernel
theorem dL_law_1341 : decode code 1341 = .ok (.iload_n 3, 1) := by decide +kernel
theorem dL_law_1342 : decode code 1342 = .ok (.iconst 2, 1) := by decide +kernel
theorem dL_law_1343 : decode code 1343 = .ok (.iadd, 1) := by decide +kernel
theorem dL_law_1344 : decode code 1344 = .ok (.iaload, 1) := by decide +kernel
theorem dL_law_1345 : decode code 1345 = .ok (.aload_n 0, 1) := by decide +kernel
theorem dL_law_1346 : decode code 1346 = .ok (.iload_n 3, 1) := by decide +kernel
theorem dL_law_1347 : decode code 1347 = .ok (.iconst 3, 1) := by decide +kernel
theorem dL_law_1348 : decode code 1348 = .ok (.iadd, 1) := by decide +kernel
theorem dL_law_1349 : decode code 1349 = .ok (.iaload, 1) := by decide +kernel
theorem dL_law_1350 : decode code 1350 = .ok (.invokevirtual 175, 3) := by decide +kernel
theorem dL_law_1353 : decode code 1353 = .ok (.aload_n 2, 1) := by decide +kernel
theorem dL_law_1354 : decode code 1354 = .ok (.aload_n 0, 1) := by decide +kernel
theorem dL_law_1355 : decode code 1355 = .ok (.iload_n 3, 1) := by decide +kernel
theorem dL_law_1356 : decode code 1356 = .ok (.iconst 1, 1) := by decide +kernel
theorem dL_law_1357 : decode code 1357 = .ok (.iadd, 1) := by decide +kernel
theorem dL_law_1358 : decode code 1358 = .ok (.iaload, 1) := by decide +kernel
theorem dL_law_1359 : decode code 1359 = .ok (.aload_n 0, 1) := by decide +kernel
theorem dL_law_1360 : decode code 1360 = .ok (.iload_n 3, 1) := by decide +kernel
theorem dL_law_1361 : decode code 1361 = .ok (.iconst 2, 1) := by decide +kernel
theorem dL_law_1362 : decode code 1362 = .ok (.iadd, 1) := by decide +kernel
theorem dL_law_1363 : decode code 1363 = .ok (.iaload, 1) := by decide +kernel
theorem dL_law_1364 : decode code 1364 = .ok (.aload_n 0, 1) := by decide +kernel
theorem dL_law_1365 : decode code 1365 = .ok (.iload_n 3, 1) := by decide +kernel
theorem dL_law_1366 : decode code 1366 = .ok (.iconst 3, 1) := by decide +kernel
theorem dL_law_1367 : decode code 1367 = .ok (.iadd, 1) := by decide +kernel
theorem dL_law_1368 : decode code 1368 = .ok (.iaload, 1) := by decide +kernel
theorem dL_law_1369 : decode code 1369 = .ok (.invokevirtual 178, 3) := by decide +kernel
theorem dL_law_1372 : decode code 1372 = .ok (.if_icmp .eq 236, 3) := by decide +kernel
theorem dL_law_1375 : decode code 1375 = .ok (.iconst 0, 1) := by decide +kernel
theorem dL_law_1376 : decode code 1376 = .ok (.ireturn, 1) := by decide +kernel
theorem dL_law_1377 : decode code 1377 = .ok (.aload_n 1, 1) := by decide +kernel
theorem dL_law_1378 : decode code 1378 = .ok (.aload_n 0, 1) := by decide +kernel
theorem dL_law_1379 : decode code 1379 = .ok (.iload_n 3, 1) := by decide +kernel
theorem dL_law_1380 : decode code 1380 = .ok (.iconst 1, 1) := by decide +kernel
theorem dL_law_1381 : decode code 1381 = .ok (.iadd, 1) := by decide +kernel
theorem dL_law_1382 : decode code 1382 = .ok (.iaload, 1) := by decide +kernel
theorem dL_law_1383 : decode code 1383 = .ok (.aload_n 0, 1) := by decide +kernel
theorem dL_law_1384 : decode code 1384 = .ok (.iload_n 3, 1) := by decide +kernel
theorem dL_law_1385 : decode code 1385 = .ok (.iconst 2, 1) := by decide +kernel
theorem dL_law_1386 : decode code 1386 = .ok (.iadd, 1) := by decide +kernel
theorem dL_law_1387 : decode code 1387 = .ok (.iaload, 1) := by decide +kernel
theorem dL_law_1388 : decode code 1388 = .ok (.aload_n 0, 1) := by decide +kernel
theorem dL_law_1389 : decode code 1389 = .ok (.iload_n 3, 1) := by decide +kernel
theorem dL_law_1390 : decode code 1390 = .ok (.iconst 3, 1) := by decide +kernel
theorem dL_law_1391 : decode code 1391 = .ok (.iadd, 1) := by decide +kernel
theorem dL_law_1392 : decode code 1392 = .ok (.iaload, 1) := by decide +kernel
theorem dL_law_1393 : decode code 1393 = .ok (.invokevirtual 179, 3) := by decide +kernel
theorem dL_law_1396 : decode code 1396 = .ok (.aload_n 2, 1) := by decide +kernel
theorem dL_law_1397 : decode code 1397 = .ok (.aload_n 0, 1) := by decide +kernel
theorem dL_law_1398 : decode code 1398 = .ok (.iload_n 3, 1) := by decide +kernel
theorem dL_law_1399 : decode code 1399 = .ok (.iconst 1, 1) := by decide +kernel
theorem dL_law_1400 : decode code 1400 = .ok (.iadd, 1) := by decide +kernel
theorem dL_law_1401 : decode code 1401 = .ok (.iaload, 1) := by decide +kernel
theorem dL_law_1402 : decode code 1402 = .ok (.aload_n 0, 1) := by decide +kernel
theorem dL_law_1403 : decode code 1403 = .ok (.iload_n 3, 1) := by decide +kernel
theorem dL_law_1404 : decode code 1404 = .ok (.iconst 2, 1) := by decide +kernel
theorem dL_law_1405 : decode code 1405 = .ok (.iadd, 1) := by decide +kernel
theorem dL_law_1406 : decode code 1406 = .ok (.iaload, 1) := by decide +kernel
theorem dL_law_1407 : decode code 1407 = .ok (.aload_n 0, 1) := by decide +kernel
theorem dL_law_1408 : decode code 1408 = .ok (.iload_n 3, 1) := by decide +kernel
theorem dL_law_1409 : decode code 1409 = .ok (.iconst 3, 1) := by decide +kernel
theorem dL_law_1410 : decode code 1410 = .ok (.iadd, 1) := by decide +kernel
theorem dL_law_1411 : decode code 1411 = .ok (.iaload, 1) := by decide +kernel
theorem dL_law_1412 : decode code 1412 = .ok (.invokevirtual 182, 3) := by decide +kernel
theorem dL_law_1415 : decode code 1415 = .ok (.if_icmp .eq 193, 3) := by decide +kernel
theorem dL_law_1418 : decode code 1418 = .ok (.iconst 0, 1) := by decide +kernel
theorem dL_law_1419 : decode code 1419 = .ok (.ireturn, 1) := by decide +kernel
theorem dL_law_1420 : decode code 1420 = .ok (.aload_n 1, 1) := by decide +kernel
theorem dL_law_1421 : decode code 1421 = .ok (.invokevirtual 183, 3) := by decide +kernel
theorem dL_law_1424 : decode code 1424 = .ok (.aload_n 2, 1) := by decide +kernel
theorem dL_law_1425 : decode code 1425 = .ok (.invokevirtual 186, 3) := by decide +kernel
theorem dL_law_1428 : decode code 1428 = .ok (.if_icmp .eq 180, 3) := by decide +kernel
theorem dL_law_1431 : decode code 1431 = .ok (.iconst 0, 1) := by decide +kernel
theorem dL_law_1432 : decode code 1432 = .ok (.ireturn, 1) := by decide +kernel
theorem dL_law_1433 : decode code 1433 = .ok (.aload_n 1, 1) := by decide +kernel
theorem dL_law_1434 : decode code 1434 = .ok (.aload_n 0, 1) := by decide +kernel
theorem dL_law_1435 : decode code 1435 = .ok (.iload_n 3, 1) := by decide +kernel
theorem dL_law_1436 : decode code 1436 = .ok (.iconst 1, 1) := by decide +kernel
theorem dL_law_1437 : decode code 1437 = .ok (.iadd, 1) := by decide +kernel
theorem dL_law_1438 : decode code 1438 = .ok (.iaload, 1) := by decide +kernel
theorem dL_law_1439 : decode code 1439 = .ok (.aload_n 0, 1) := by decide +kernel
theorem dL_law_1440 : decode code 1440 = .ok (.iload_n 3, 1) := by decide +kernel
theorem dL_law_1441 : decode code 1441 = .ok (.iconst 2, 1) := by decide +kernel
theorem dL_law_1442 : decode code 1442 = .ok (.iadd, 1) := by decide +kernel
theorem dL_law_1443 : decode code 1443 = .ok (.iaload, 1) := by decide +kernel
theorem dL_law_1444 : decode code 1444 = .ok (.aload_n 0, 1) := by decide +kernel
theorem dL_law_1445 : decode code 1445 = .ok (.iload_n 3, 1) := by decide +kernel
theorem dL_law_1446 : decode code 1446 = .ok (.iconst 3, 1) := by decide +kernel
theorem dL_law_1447 : decode code 1447 = .ok (.iadd, 1) := by decide +kernel
theorem dL_law_1448 : decode code 1448 = .ok (.iaload, 1) := by decide +kernel
theorem dL_law_1449 : decode code 1449 = .ok (.aload_n 0, 1) := by decide +kernel
theorem dL_law_1450 : decode code 1450 = .ok (.iload_n 3, 1) := by decide +kernel
theorem dL_law_1451 : decode code 1451 = .ok (.iconst 4, 1) := by decide +kernel
theorem dL_law_1452 : decode code 1452 = .ok (.iadd, 1) := by decide +kernel
theorem dL_law_1453 : decode code 1453 = .ok (.iaload, 1) := by decide +kernel
theorem dL_law_1454 : decode code 1454 = .ok (.invokevirtual 187, 3) := by decide +kernel
theorem dL_law_1457 : decode code 1457 = .ok (.aload_n 2, 1) := by decide +kernel
theorem dL_law_1458 : decode code 1458 = .ok (.aload_n 0, 1) := by decide +kernel
theorem dL_law_1459 : decode code 1459 = .ok (.iload_n 3, 1) := by decide +kernel
theorem dL_law_1460 : decode code 1460 = .ok (.iconst 1, 1) := by decide +kernel
theorem dL_law_1461 : decode code 1461 = .ok (.iadd, 1) := by decide +kernel
theorem dL_law_1462 : decode code 1462 = .ok (.iaload, 1) := by decide +kernel
theorem dL_law_1463 : decode code 1463 = .ok (.aload_n 0, 1) := by decide +kernel
theorem dL_law_1464 : decode code 1464 = .ok (.iload_n 3, 1) := by decide +kernel
theorem dL_law_1465 : decode code 1465 = .ok (.iconst 2, 1) := by decide +kernel
theorem dL_law_1466 : decode code 1466 = .ok (.iadd, 1) := by decide +kernel
theorem dL_law_1467 : decode code 1467 = .ok (.iaload, 1) := by decide +kernel
theorem dL_law_1468 : decode code 1468 = .ok (.aload_n 0, 1) := by decide +kernel
theorem dL_law_1469 : decode code 1469 = .ok (.iload_n 3, 1) := by decide +kernel
theorem dL_law_1470 : decode code 1470 = .ok (.iconst 3, 1) := by decide +kernel
theorem dL_law_1471 : decode code 1471 = .ok (.iadd, 1) := by decide +kernel
theorem dL_law_1472 : decode code 1472 = .ok (.iaload, 1) := by decide +kernel
theorem dL_law_1473 : decode code 1473 = .ok (.aload_n 0, 1) := by decide +kernel
theorem dL_law_1474 : decode code 1474 = .ok (.iload_n 3, 1) := by decide +kernel
theorem dL_law_1475 : decode code 1475 = .ok (.iconst 4, 1) := by decide +kernel
theorem dL_law_1476 : decode code 1476 = .ok (.iadd, 1) := by decide +kernel
theorem dL_law_1477 : decode code 1477 = .ok (.iaload, 1) := by decide +kernel
theorem dL_law_1478 : decode code 1478 = .ok (.invokevirtual 190, 3) := by decide +kernel
theorem dL_law_1481 : decode code 1481 = .ok (.if_icmp .eq 127, 3) := by decide +kernel
theorem dL_law_1484 : decode code 1484 = .ok (.iconst 0, 1) := by decide +kernel
theorem dL_law_1485 : decode code 1485 = .ok (.ireturn, 1) := by decide +kernel
theorem dL_law_1486 : decode code 1486 = .ok (.aload_n 1, 1) := by decide +kernel
theorem dL_law_1487 : decode code 1487 = .ok (.aload_n 0, 1) := by decide +kernel
theorem dL_law_1488 : decode code 1488 = .ok (.iload_n 3, 1) := by decide +kernel
theorem dL_law_1489 : decode code 1489 = .ok (.iconst 1, 1) := by decide +kernel
theorem dL_law_1490 : decode code 1490 = .ok (.iadd, 1) := by decide +kernel
theorem dL_law_1491 : decode code 1491 = .ok (.iaload, 1) := by decide +kernel
theorem dL_law_1492 : decode code 1492 = .ok (.invokevirtual 191, 3) := by decide +kernel
theorem dL_law_1495 : decode code 1495 = .ok (.aload_n 2, 1) := by decide +kernel
theorem dL_law_1496 : decode code 1496 = .ok (.aload_n 0, 1) := by decide +kernel
theorem dL_law_1497 : decode code 1497 = .ok (.iload_n 3, 1) := by decide +kernel
theorem dL_law_1498 : decode code 1498 = .ok (.iconst 1, 1) := by decide +kernel
theorem dL_law_1499 : decode code 1499 = .ok (.iadd, 1) := by decide +kernel
theorem dL_law_1500 : decode code 1500 = .ok (.iaload, 1) := by decide +kernel
theorem dL_law_1501 : decode code 1501 = .ok (.invokevirtual 194, 3) := by decide +kernel
theorem dL_law_1504 : decode code 1504 = .ok (.if_icmp .eq 104, 3) := by decide +kernel
theorem dL_law_1507 : decode code 1507 = .ok (.iconst 0, 1) := by decide +kernel
theorem dL_law_1508 : decode code 1508 = .ok (.ireturn, 1) := by decide +kernel
theorem dL_law_1509 : decode code 1509 = .ok (.aload_n 1, 1) := by decide +kernel
theorem dL_law_1510 : decode code 1510 = .ok (.aload_n 0, 1) := by decide +kernel
theorem dL_law_1511 : decode code 1511 = .ok (.iload_n 3, 1) := by decide +kernel
theorem dL_law_1512 : decode code 1512 = .ok (.iconst 1, 1) := by decide +kernel
theorem dL_law_1513 : decode code 1513 = .ok (.iadd, 1) := by decide +kernel
theorem dL_law_1514 : decode code 1514 = .ok (.iaload, 1) := by decide +kernel
theorem dL_law_1515 : decode code 1515 = .ok (.aload_n 0, 1) := by decide +kernel
theorem dL_law_1516 : decode code 1516 = .ok (.iload_n 3, 1) := by decide +kernel
theorem dL_law_1517 : decode code 1517 = .ok (.iconst 2, 1) := by decide +kernel
theorem dL_law_1518 : decode code 1518 = .ok (.iadd, 1) := by decide +kernel
theorem dL_law_1519 : decode code 1519 = .ok (.iaload, 1) := by decide +kernel
theorem dL_law_1520 : decode code 1520 = .ok (.invokevirtual 195, 3) := by decide +kernel
theorem dL_law_1523 : decode code 1523 = .ok (.aload_n 2, 1) := by decide +kernel
theorem dL_law_1524 : decode code 1524 = .ok (.aload_n 0, 1) := by decide +kernel
theorem dL_law_1525 : decode code 1525 = .ok (.iload_n 3, 1) := by decide +kernel
theorem dL_law_1526 : decode code 1526 = .ok (.iconst 1, 1) := by decide +kernel
theorem dL_law_1527 : decode code 1527 = .ok (.iadd, 1) := by decide +kernel
theorem dL_law_1528 : decode code 1528 = .ok (.iaload, 1) := by decide +kernel
theorem dL_law_1529 : decode code 1529 = .ok (.aload_n 0, 1) := by decide +kernel
theorem dL_law_1530 : decode code 1530 = .ok (.iload_n 3, 1) := by decide +kernel
theorem dL_law_1531 : decode code 1531 = .ok (.iconst 2, 1) := by decide +kernel
theorem dL_law_1532 : decode code 1532 = .ok (.iadd, 1) := by decide +kernel
theorem dL_law_1533 : decode code 1533 = .ok (.iaload, 1) := by decide +kernel
theorem dL_law_1534 : decode code 1534 = .ok (.invokevirtual 198, 3) := by decide +kernel
theorem dL_law_1537 : decode code 1537 = .ok (.if_icmp .eq 71, 3) := by decide +kernel
theorem dL_law_1540 : decode code 1540 = .ok (.iconst 0, 1) := by decide +kernel
theorem dL_law_1541 : decode code 1541 = .ok (.ireturn, 1) := by decide +kernel
theorem dL_law_1542 : decode code 1542 = .ok (.aload_n 1, 1) := by decide +kernel
theorem dL_law_1543 : decode code 1543 = .ok (.aload_n 0, 1) := by decide +kernel
theorem dL_law_1544 : decode code 1544 = .ok (.iload_n 3, 1) := by decide +kernel
theorem dL_law_1545 : decode code 1545 = .ok (.iconst 1, 1) := by decide +kernel
theorem dL_law_1546 : decode code 1546 = .ok (.iadd, 1) := by decide +kernel
theorem dL_law_1547 : decode code 1547 = .ok (.iaload, 1) := by decide +kernel
theorem dL_law_1548 : decode code 1548 = .ok (.aload_n 0, 1) := by decide +kernel
theorem dL_law_1549 : decode code 1549 = .ok (.iload_n 3, 1) := by decide +kernel
theorem dL_law_1550 : decode code 1550 = .ok (.iconst 2, 1) := by decide +kernel
theorem dL_law_1551 : decode code 1551 = .ok (.iadd, 1) := by decide +kernel
theorem dL_law_1552 : decode code 1552 = .ok (.iaload, 1) := by decide +kernel
theorem dL_law_1553 : decode code 1553 = .ok (.invokevirtual 199, 3) := by decide +kernel
theorem dL_law_1556 : decode code 1556 = .ok (.aload_n 2, 1) := by decide +kernel
theorem dL_law_1557 : decode code 1557 = .ok (.aload_n 0, 1) := by decide +kernel
theorem dL_law_1558 : decode code 1558 = .ok (.iload_n 3, 1) := by decide +kernel
theorem dL_law_1559 : decode code 1559 = .ok (.iconst 1, 1) := by decide +kernel
theorem dL_law_1560 : decode code 1560 = .ok (.iadd, 1) := by decide +kernel
theorem dL_law_1561 : decode code 1561 = .ok (.iaload, 1) := by decide +kernel
theorem dL_law_1562 : decode code 1562 = .ok (.aload_n 0, 1) := by decide +kernel
theorem dL_law_1563 : decode code 1563 = .ok (.iload_n 3, 1) := by decide +kernel
theorem dL_law_1564 : decode code 1564 = .ok (.iconst 2, 1) := by decide +kernel
theorem dL_law_1565 : decode code 1565 = .ok (.iadd, 1) := by decide +kernel
theorem dL_law_1566 : decode code 1566 = .ok (.iaload, 1) := by decide +kernel
theorem dL_law_1567 : decode code 1567 = .ok (.invokevirtual 202, 3) := by decide +kernel
theorem dL_law_1570 : decode code 1570 = .ok (.if_icmp .eq 38, 3) := by decide +kernel
theorem dL_law_1573 : decode code 1573 = .ok (.iconst 0, 1) := by decide +kernel
theorem dL_law_1574 : decode code 1574 = .ok (.ireturn, 1) := by decide +kernel
theorem dL_law_1575 : decode code 1575 = .ok (.aload_n 1, 1) := by decide +kernel
theorem dL_law_1576 : decode code 1576 = .ok (.aload_n 0, 1) := by decide +kernel
theorem dL_law_1577 : decode code 1577 = .ok (.iload_n 3, 1) := by decide +kernel
theorem dL_law_1578 : decode code 1578 = .ok (.iconst 1, 1) := by decide +kernel
theorem dL_law_1579 : decode code 1579 = .ok (.iadd, 1) := by decide +kernel
theorem dL_law_1580 : decode code 1580 = .ok (.iaload, 1) := by decide +kernel
theorem dL_law_1581 : decode code 1581 = .ok (.aload_n 0, 1) := by decide +kernel
theorem dL_law_1582 : decode code 1582 = .ok (.iload_n 3, 1) := by decide +kernel
theorem dL_law_1583 : decode code 1583 = .ok (.iconst 2, 1) := by decide +kernel
theorem dL_law_1584 : decode code 1584 = .ok (.iadd, 1) := by decide +kernel
theorem dL_law_1585 : decode code 1585 = .ok (.iaload, 1) := by decide +kernel
theorem dL_law_1586 : decode code 1586 = .ok (.invokevirtual 203, 3) := by decide +kernel
theorem dL_law_1589 : decode code 1589 = .ok (.aload_n 2, 1) := by decide +kernel
theorem dL_law_1590 : decode code 1590 = .ok (.aload_n 0, 1) := by decide +kernel
theorem dL_law_1591 : decode code 1591 = .ok (.iload_n 3, 1) := by decide +kernel
theorem dL_law_1592 : decode code 1592 = .ok (.iconst 1, 1) := by decide +kernel
theorem dL_law_1593 : decode code 1593 = .ok (.iadd, 1) := by decide +kernel
theorem dL_law_1594 : decode code 1594 = .ok (.iaload, 1) := by decide +kernel
theorem dL_law_1595 : decode code 1595 = .ok (.aload_n 0, 1) := by decide +kernel
theorem dL_law_1596 : decode code 1596 = .ok (.iload_n 3, 1) := by decide +kernel
theorem dL_law_1597 : decode code 1597 = .ok (.iconst 2, 1) := by decide +kernel
theorem dL_law_1598 : decode code 1598 = .ok (.iadd, 1) := by decide +kernel
theorem dL_law_1599 : decode code 1599 = .ok (.iaload, 1) := by decide +kernel
theorem dL_law_1600 : decode code 1600 = .ok (.invokevirtual 206, 3) := by decide +kernel
theorem dL_law_1603 : decode code 1603 = .ok (.if_icmp .eq 5, 3) := by decide +kernel
theorem dL_law_1606 : decode code 1606 = .ok (.iconst 0, 1) := by decide +kernel
theorem dL_law_1607 : decode code 1607 = .ok (.ireturn, 1) := by decide +kernel
theorem dL_law_1608 : decode code 1608 = .ok (.iinc 3 5, 3) := by decide +kernel
theorem dL_law_1611 : decode code 1611 = .ok (.goto (-1593), 3) := by decide +kernel
theorem dL_law_1614 : decode code 1614 = .ok (.iconst 1, 1) := by decide +kernel
theorem dL_law_1615 : decode code 1615 = .ok (.ireturn, 1) := by decide +kernel
theorem sL_1608 {b L : Nat} {xs : Nat → Int32} (hL : L < 2147483648) {Q : Int → Hp → Prop} {h : Hp} {l3 : Int}
    (hP : (rj (l3 + 5)) ∧
    E 20 (mLaw b L xs) 18 [(0, vr 130), (1, vr 68), (2, vr 103), (3, vi (l3 + 5))] [] h (qi Q)) :
    E 20 (mLaw b L xs) 1608 [(0, vr 130), (1, vr 68), (2, vr 103), (3, vi l3)] [] h (qi Q) := by
  obtain ⟨v1_0, hP⟩ := hP
  refine E_iinc 3 dL_law_1608 rfl (rgI v1_0) (Nat.le_of_ble_eq_true rfl) rfl ?_
  refine E_goto 18 dL_law_1611 rfl ?_
  exact E_sub [1, 2, 3, 0] rfl hP
theorem sL_236 {b L : Nat} {xs : Nat → Int32} (hL : L < 2147483648) {Q : Int → Hp → Prop} {h : Hp} {l3 : Int}
    (hP : (rj (l3 + 1) ∧ ix (l3 + 1) L ∧ rj (l3 + 2) ∧ ix (l3 + 2) L) ∧
    CI 6 mX10_reset [vr 68, vi ((xs ((l3 + 1)).toNat).toInt), vi ((xs ((l3 + 2)).toNat).toInt)] h (fun r3 h2 =>
     (rj (l3 + 1) ∧ ix (l3 + 1) L ∧ rj (l3 + 2) ∧ ix (l3 + 2) L) ∧
     CI 2 mX11_reset [vr 103, vi ((xs ((l3 + 1)).toNat).toInt), vi ((xs ((l3 + 2)).toNat).toInt)] h2 (fun r6 h5 =>
      ((r3 = r6) →
       E 20 (mLaw b L xs) 1608 [(0, vr 130), (1, vr 68), (2, vr 103), (3, vi l3)] [] h5 (qi Q)) ∧
      ((r3 ≠ r6) →
       Q 0 h5)))) :
    E 20 (mLaw b L xs) 236 [(0, vr 130), (1, vr 68), (2, vr 103), (3, vi l3)] [] h (qi Q) := by
  obtain ⟨⟨v1_0, v1_1, v1_2, v1_3⟩, hP⟩ := hP
  refine E_aload_n 1 1 dL_law_236 rfl rfl ?_
  refine E_aload_n 0 0 dL_law_237 rfl rfl ?_
  refine E_iload_n 3 3 dL_law_238 rfl rfl ?_
  refine E_iconst dL_law_239 (rg_of rfl) ?_
  refine E_iadd dL_law_240 (rgI v1_0) ?_
  refine E_sld dL_law_241 rfl v1_1.1 v1_1.2 ?_
  refine E_aload_n 0 0 dL_law_242 rfl rfl ?_
  refine E_iload_n 3 3 dL_law_243 rfl rfl ?_
  refine E_iconst dL_law_244 (rg_of rfl) ?_
  refine E_iadd dL_law_245 (rgI v1_2) ?_
  refine E_sld dL_law_246 rfl v1_3.1 v1_3.2 ?_
  refine E_invVI [vi ((xs ((l3 + 1)).toNat).toInt), vi ((xs ((l3 + 2)).toNat).toInt)] dL_law_247 fX10_reset lL_13 ic_68 rfl (by decide) rfl rfl (Nat.le_of_ble_eq_true rfl) (CI_mono hP (fun r3 h2 hP => ?_))
  obtain ⟨⟨v4_0, v4_1, v4_2, v4_3⟩, hP⟩ := hP
  refine E_aload_n 2 2 dL_law_250 rfl rfl ?_
  refine E_aload_n 0 0 dL_law_251 rfl rfl ?_
  refine E_iload_n 3 3 dL_law_252 rfl rfl ?_
  refine E_iconst dL_law_253 (rg_of rfl) ?_
  refine E_iadd dL_law_254 (rgI v4_0) ?_
  refine E_sld dL_law_255 rfl v4_1.1 v4_1.2 ?_
  refine E_aload_n 0 0 dL_law_256 rfl rfl ?_
  refine E_iload_n 3 3 dL_law_257 rfl rfl ?_
  refine E_iconst dL_law_258 (rg_of rfl) ?_
  refine E_iadd dL_law_259 (rgI v4_2) ?_
  refine E_sld dL_law_260 rfl v4_3.1 v4_3.2 ?_
  refine E_invVI [vi ((xs ((l3 + 1)).toNat).toInt), vi ((xs ((l3 + 2)).toNat).toInt)] dL_law_261 fX11_reset lL_17 ic_103 rfl (by decide) rfl rfl (Nat.le_of_ble_eq_true rfl) (CI_mono hP (fun r6 h5 hP => ?_))
  refine E_icmp_eq 1608 dL_law_264 rfl (fun hc => ?_) (fun hc => ?_)
  · replace hP := hP.1 (hc)
    exact hP
  · replace hP := hP.2 (by omega)
    refine E_iconst dL_law_267 (rg_of rfl) ?_
    exact E_retZ dL_law_268 rfl (Or.inl rfl) hP
theorem sL_269 {b L : Nat} {xs : Nat → Int32} (hL : L < 2147483648) {Q : Int → Hp → Prop} {h : Hp} {l3 : Int}
    (hP : (rj (l3 + 1) ∧ ix (l3 + 1) L) ∧
    CI 1 mX10_wires [vr 68, vi ((xs ((l3 + 1)).toNat).toInt)] h (fun r3 h2 =>
     (rj (l3 + 1) ∧ ix (l3 + 1) L) ∧
     CI 2 mX11_wires [vr 103, vi ((xs ((l3 + 1)).toNat).toInt)] h2 (fun r6 h5 =>
      ((r3 = r6) →
       E 20 (mLaw b L xs) 1608 [(0, vr 130), (1, vr 68), (2, vr 103), (3, vi l3)] [] h5 (qi Q)) ∧
      ((r3 ≠ r6) →
       Q 0 h5)))) :
    E 20 (mLaw b L xs) 269 [(0, vr 130), (1, vr 68), (2, vr 103), (3, vi l3)] [] h (qi Q) := by
  obtain ⟨⟨v1_0, v1_1⟩, hP⟩ := hP
  refine E_aload_n 1 1 dL_law_269 rfl rfl ?_
  refine E_aload_n 0 0 dL_law_270 rfl rfl ?_
  refine E_iload_n 3 3 dL_law_271 rfl rfl ?_
  refine E_iconst dL_law_272 (rg_of rfl) ?_
  refine E_iadd dL_law_273 (rgI v1_0) ?_
  refine E_sld dL_law_274 rfl v1_1.1 v1_1.2 ?_
  refine E_invVI [vi ((xs ((l3 + 1)).toNat).toInt)] dL_law_275 fX10_wires lL_18 ic_68 rfl (by decide) rfl rfl (Nat.le_of_ble_eq_true rfl) (CI_mono hP (fun r3 h2 hP => ?_))
  obtain ⟨⟨v4_0, v4_1⟩, hP⟩ := hP
  refine E_aload_n 2 2 dL_law_278 rfl rfl ?_
  refine E_aload_n 0 0 dL_law_279 rfl rfl ?_
  refine E_iload_n 3 3 dL_law_280 rfl rfl ?_
  refine E_iconst dL_law_281 (rg_of rfl) ?_
  refine E_iadd dL_law_282 (rgI v4_0) ?_
  refine E_sld dL_law_283 rfl v4_1.1 v4_1.2 ?_
  refine E_invVI [vi ((xs ((l3 + 1)).toNat).toInt)] dL_law_284 fX11_wires lL_22 ic_103 rfl (by decide) rfl rfl (Nat.le_of_ble_eq_true rfl) (CI_mono hP (fun r6 h5 hP => ?_))
  refine E_icmp_eq 1608 dL_law_287 rfl (fun hc => ?_) (fun hc => ?_)
  · replace hP := hP.1 (hc)
    exact hP
  · replace hP := hP.2 (by omega)
    refine E_iconst dL_law_290 (rg_of rfl) ?_
    exact E_retZ dL_law_291 rfl (Or.inl rfl) hP
theorem sL_292 {b L : Nat} {xs : Nat → Int32} (hL : L < 2147483648) {Q : Int → Hp → Prop} {h : Hp} {l3 : Int}
    (hP : (rj (l3 + 1) ∧ ix (l3 + 1) L) ∧
    CI 1 mX10_size [vr 68, vi ((xs ((l3 + 1)).toNat).toInt)] h (fun r3 h2 =>
     (rj (l3 + 1) ∧ ix (l3 + 1) L) ∧
     CI 2 mX11_size [vr 103, vi ((xs ((l3 + 1)).toNat).toInt)] h2 (fun r6 h5 =>
      ((r3 = r6) →
       E 20 (mLaw b L xs) 1608 [(0, vr 130), (1, vr 68), (2, vr 103), (3, vi l3)] [] h5 (qi Q)) ∧
      ((r3 ≠ r6) →
       Q 0 h5)))) :
    E 20 (mLaw b L xs) 292 [(0, vr 130), (1, vr 68), (2, vr 103), (3, vi l3)] [] h (qi Q) := by
  obtain ⟨⟨v1_0, v1_1⟩, hP⟩ := hP
  refine E_aload_n 1 1 dL_law_292 rfl rfl ?_
  refine E_aload_n 0 0 dL_law_293 rfl rfl ?_
  refine E_iload_n 3 3 dL_law_294 rfl rfl ?_
  refine E_iconst dL_law_295 (rg_of rfl) ?_
  refine E_iadd dL_law_296 (rgI v1_0) ?_
  refine E_sld dL_law_297 rfl v1_1.1 v1_1.2 ?_
  refine E_invVI [vi ((xs ((l3 + 1)).toNat).toInt)] dL_law_298 fX10_size lL_23 ic_68 rfl (by decide) rfl rfl (Nat.le_of_ble_eq_true rfl) (CI_mono hP (fun r3 h2 hP => ?_))
  obtain ⟨⟨v4_0, v4_1⟩, hP⟩ := hP
  refine E_aload_n 2 2 dL_law_301 rfl rfl ?_
  refine E_aload_n 0 0 dL_law_302 rfl rfl ?_
  refine E_iload_n 3 3 dL_law_303 rfl rfl ?_
  refine E_iconst dL_law_304 (rg_of rfl) ?_
  refine E_iadd dL_law_305 (rgI v4_0) ?_
  refine E_sld dL_law_306 rfl v4_1.1 v4_1.2 ?_
  refine E_invVI [vi ((xs ((l3 + 1)).toNat).toInt)] dL_law_307 fX11_size lL_26 ic_103 rfl (by decide) rfl rfl (Nat.le_of_ble_eq_true rfl) (CI_mono hP (fun r6 h5 hP => ?_))
  refine E_icmp_eq 1608 dL_law_310 rfl (fun hc => ?_) (fun hc => ?_)
  · replace hP := hP.1 (hc)
    exact hP
  · replace hP := hP.2 (by omega)
    refine E_iconst dL_law_313 (rg_of rfl) ?_
    exact E_retZ dL_law_314 rfl (Or.inl rfl) hP
theorem sL_315 {b L : Nat} {xs : Nat → Int32} (hL : L < 2147483648) {Q : Int → Hp → Prop} {h : Hp} {l3 : Int}
    (hP : (rj (l3 + 1) ∧ ix (l3 + 1) L ∧ rj (l3 + 2) ∧ ix (l3 + 2) L) ∧
    CI 2 mX10_comparator [vr 68, vi ((xs ((l3 + 1)).toNat).toInt), vi ((xs ((l3 + 2)).toNat).toInt)] h (fun r3 h2 =>
     (rj (l3 + 1) ∧ ix (l3 + 1) L ∧ rj (l3 + 2) ∧ ix (l3 + 2) L) ∧
     CI 3 mX11_comparator [vr 103, vi ((xs ((l3 + 1)).toNat).toInt), vi ((xs ((l3 + 2)).toNat).toInt)] h2 (fun r6 h5 =>
      ((r3 = r6) →
       E 20 (mLaw b L xs) 1608 [(0, vr 130), (1, vr 68), (2, vr 103), (3, vi l3)] [] h5 (qi Q)) ∧
      ((r3 ≠ r6) →
       Q 0 h5)))) :
    E 20 (mLaw b L xs) 315 [(0, vr 130), (1, vr 68), (2, vr 103), (3, vi l3)] [] h (qi Q) := by
  obtain ⟨⟨v1_0, v1_1, v1_2, v1_3⟩, hP⟩ := hP
  refine E_aload_n 1 1 dL_law_315 rfl rfl ?_
  refine E_aload_n 0 0 dL_law_316 rfl rfl ?_
  refine E_iload_n 3 3 dL_law_317 rfl rfl ?_
  refine E_iconst dL_law_318 (rg_of rfl) ?_
  refine E_iadd dL_law_319 (rgI v1_0) ?_
  refine E_sld dL_law_320 rfl v1_1.1 v1_1.2 ?_
  refine E_aload_n 0 0 dL_law_321 rfl rfl ?_
  refine E_iload_n 3 3 dL_law_322 rfl rfl ?_
  refine E_iconst dL_law_323 (rg_of rfl) ?_
  refine E_iadd dL_law_324 (rgI v1_2) ?_
  refine E_sld dL_law_325 rfl v1_3.1 v1_3.2 ?_
  refine E_invVI [vi ((xs ((l3 + 1)).toNat).toInt), vi ((xs ((l3 + 2)).toNat).toInt)] dL_law_326 fX10_comparator lL_27 ic_68 rfl (by decide) rfl rfl (Nat.le_of_ble_eq_true rfl) (CI_mono hP (fun r3 h2 hP => ?_))
  obtain ⟨⟨v4_0, v4_1, v4_2, v4_3⟩, hP⟩ := hP
  refine E_aload_n 2 2 dL_law_329 rfl rfl ?_
  refine E_aload_n 0 0 dL_law_330 rfl rfl ?_
  refine E_iload_n 3 3 dL_law_331 rfl rfl ?_
  refine E_iconst dL_law_332 (rg_of rfl) ?_
  refine E_iadd dL_law_333 (rgI v4_0) ?_
  refine E_sld dL_law_334 rfl v4_1.1 v4_1.2 ?_
  refine E_aload_n 0 0 dL_law_335 rfl rfl ?_
  refine E_iload_n 3 3 dL_law_336 rfl rfl ?_
  refine E_iconst dL_law_337 (rg_of rfl) ?_
  refine E_iadd dL_law_338 (rgI v4_2) ?_
  refine E_sld dL_law_339 rfl v4_3.1 v4_3.2 ?_
  refine E_invVI [vi ((xs ((l3 + 1)).toNat).toInt), vi ((xs ((l3 + 2)).toNat).toInt)] dL_law_340 fX11_comparator lL_30 ic_103 rfl (by decide) rfl rfl (Nat.le_of_ble_eq_true rfl) (CI_mono hP (fun r6 h5 hP => ?_))
  refine E_icmp_eq 1608 dL_law_343 rfl (fun hc => ?_) (fun hc => ?_)
  · replace hP := hP.1 (hc)
    exact hP
  · replace hP := hP.2 (by omega)
    refine E_iconst dL_law_346 (rg_of rfl) ?_
    exact E_retZ dL_law_347 rfl (Or.inl rfl) hP
theorem sL_348 {b L : Nat} {xs : Nat → Int32} (hL : L < 2147483648) {Q : Int → Hp → Prop} {h : Hp} {l3 : Int}
    (hP : (rj (l3 + 1) ∧ ix (l3 + 1) L ∧ rj (l3 + 2) ∧ ix (l3 + 2) L ∧ rj (l3 + 3) ∧ ix (l3 + 3) L) ∧
    CI 7 mX10_add [vr 68, vi ((xs ((l3 + 1)).toNat).toInt), vi ((xs ((l3 + 2)).toNat).toInt), vi ((xs ((l3 + 3)).toNat).toInt)] h (fun r3 h2 =>
     (rj (l3 + 1) ∧ ix (l3 + 1) L ∧ rj (l3 + 2) ∧ ix (l3 + 2) L ∧ rj (l3 + 3) ∧ ix (l3 + 3) L) ∧
     CI 3 mX11_add [vr 103, vi ((xs ((l3 + 1)).toNat).toInt), vi ((xs ((l3 + 2)).toNat).toInt), vi ((xs ((l3 + 3)).toNat).toInt)] h2 (fun r6 h5 =>
      ((r3 = r6) →
       E 20 (mLaw b L xs) 1608 [(0, vr 130), (1, vr 68), (2, vr 103), (3, vi l3)] [] h5 (qi Q)) ∧
      ((r3 ≠ r6) →
       Q 0 h5)))) :
    E 20 (mLaw b L xs) 348 [(0, vr 130), (1, vr 68), (2, vr 103), (3, vi l3)] [] h (qi Q) := by
  obtain ⟨⟨v1_0, v1_1, v1_2, v1_3, v1_4, v1_5⟩, hP⟩ := hP
  refine E_aload_n 1 1 dL_law_348 rfl rfl ?_
  refine E_aload_n 0 0 dL_law_349 rfl rfl ?_
  refine E_iload_n 3 3 dL_law_350 rfl rfl ?_
  refine E_iconst dL_law_351 (rg_of rfl) ?_
  refine E_iadd dL_law_352 (rgI v1_0) ?_
  refine E_sld dL_law_353 rfl v1_1.1 v1_1.2 ?_
  refine E_aload_n 0 0 dL_law_354 rfl rfl ?_
  refine E_iload_n 3 3 dL_law_355 rfl rfl ?_
  refine E_iconst dL_law_356 (rg_of rfl) ?_
  refine E_iadd dL_law_357 (rgI v1_2) ?_
  refine E_sld dL_law_358 rfl v1_3.1 v1_3.2 ?_
  refine E_aload_n 0 0 dL_law_359 rfl rfl ?_
  refine E_iload_n 3 3 dL_law_360 rfl rfl ?_
  refine E_iconst dL_law_361 (rg_of rfl) ?_
  refine E_iadd dL_law_362 (rgI v1_4) ?_
  refine E_sld dL_law_363 rfl v1_5.1 v1_5.2 ?_
  refine E_invVI [vi ((xs ((l3 + 1)).toNat).toInt), vi ((xs ((l3 + 2)).toNat).toInt), vi ((xs ((l3 + 3)).toNat).toInt)] dL_law_364 fX10_add lL_31 ic_68 rfl (by decide) rfl rfl (Nat.le_of_ble_eq_true rfl) (CI_mono hP (fun r3 h2 hP => ?_))
  obtain ⟨⟨v4_0, v4_1, v4_2, v4_3, v4_4, v4_5⟩, hP⟩ := hP
  refine E_aload_n 2 2 dL_law_367 rfl rfl ?_
  refine E_aload_n 0 0 dL_law_368 rfl rfl ?_
  refine E_iload_n 3 3 dL_law_369 rfl rfl ?_
  refine E_iconst dL_law_370 (rg_of rfl) ?_
  refine E_iadd dL_law_371 (rgI v4_0) ?_
  refine E_sld dL_law_372 rfl v4_1.1 v4_1.2 ?_
  refine E_aload_n 0 0 dL_law_373 rfl rfl ?_
  refine E_iload_n 3 3 dL_law_374 rfl rfl ?_
  refine E_iconst dL_law_375 (rg_of rfl) ?_
  refine E_iadd dL_law_376 (rgI v4_2) ?_
  refine E_sld dL_law_377 rfl v4_3.1 v4_3.2 ?_
  refine E_aload_n 0 0 dL_law_378 rfl rfl ?_
  refine E_iload_n 3 3 dL_law_379 rfl rfl ?_
  refine E_iconst dL_law_380 (rg_of rfl) ?_
  refine E_iadd dL_law_381 (rgI v4_4) ?_
  refine E_sld dL_law_382 rfl v4_5.1 v4_5.2 ?_
  refine E_invVI [vi ((xs ((l3 + 1)).toNat).toInt), vi ((xs ((l3 + 2)).toNat).toInt), vi ((xs ((l3 + 3)).toNat).toInt)] dL_law_383 fX11_add lL_35 ic_103 rfl (by decide) rfl rfl (Nat.le_of_ble_eq_true rfl) (CI_mono hP (fun r6 h5 hP => ?_))
  refine E_icmp_eq 1608 dL_law_386 rfl (fun hc => ?_) (fun hc => ?_)
  · replace hP := hP.1 (hc)
    exact hP
  · replace hP := hP.2 (by omega)
    refine E_iconst dL_law_389 (rg_of rfl) ?_
    exact E_retZ dL_law_390 rfl (Or.inl rfl) hP
theorem sL_391 {b L : Nat} {xs : Nat → Int32} (hL : L < 2147483648) {Q : Int → Hp → Prop} {h : Hp} {l3 : Int}
    (hP : (rj (l3 + 1) ∧ ix (l3 + 1) L ∧ rj (l3 + 2) ∧ ix (l3 + 2) L ∧ rj (l3 + 3) ∧ ix (l3 + 3) L ∧ rj (l3 + 4) ∧ ix (l3 + 4) L) ∧
    CI 7 mX10_insert [vr 68, vi ((xs ((l3 + 1)).toNat).toInt), vi ((xs ((l3 + 2)).toNat).toInt), vi ((xs ((l3 + 3)).toNat).toInt), vi ((xs ((l3 + 4)).toNat).toInt)] h (fun r3 h2 =>
     (rj (l3 + 1) ∧ ix (l3 + 1) L ∧ rj (l3 + 2) ∧ ix (l3 + 2) L ∧ rj (l3 + 3) ∧ ix (l3 + 3) L ∧ rj (l3 + 4) ∧ ix (l3 + 4) L) ∧
     CI 2 mX11_insert [vr 103, vi ((xs ((l3 + 1)).toNat).toInt), vi ((xs ((l3 + 2)).toNat).toInt), vi ((xs ((l3 + 3)).toNat).toInt), vi ((xs ((l3 + 4)).toNat).toInt)] h2 (fun r6 h5 =>
      ((r3 = r6) →
       E 20 (mLaw b L xs) 1608 [(0, vr 130), (1, vr 68), (2, vr 103), (3, vi l3)] [] h5 (qi Q)) ∧
      ((r3 ≠ r6) →
       Q 0 h5)))) :
    E 20 (mLaw b L xs) 391 [(0, vr 130), (1, vr 68), (2, vr 103), (3, vi l3)] [] h (qi Q) := by
  obtain ⟨⟨v1_0, v1_1, v1_2, v1_3, v1_4, v1_5, v1_6, v1_7⟩, hP⟩ := hP
  refine E_aload_n 1 1 dL_law_391 rfl rfl ?_
  refine E_aload_n 0 0 dL_law_392 rfl rfl ?_
  refine E_iload_n 3 3 dL_law_393 rfl rfl ?_
  refine E_iconst dL_law_394 (rg_of rfl) ?_
  refine E_iadd dL_law_395 (rgI v1_0) ?_
  refine E_sld dL_law_396 rfl v1_1.1 v1_1.2 ?_
  refine E_aload_n 0 0 dL_law_397 rfl rfl ?_
  refine E_iload_n 3 3 dL_law_398 rfl rfl ?_
  refine E_iconst dL_law_399 (rg_of rfl) ?_
  refine E_iadd dL_law_400 (rgI v1_2) ?_
  refine E_sld dL_law_401 rfl v1_3.1 v1_3.2 ?_
  refine E_aload_n 0 0 dL_law_402 rfl rfl ?_
  refine E_iload_n 3 3 dL_law_403 rfl rfl ?_
  refine E_iconst dL_law_404 (rg_of rfl) ?_
  refine E_iadd dL_law_405 (rgI v1_4) ?_
  refine E_sld dL_law_406 rfl v1_5.1 v1_5.2 ?_
  refine E_aload_n 0 0 dL_law_407 rfl rfl ?_
  refine E_iload_n 3 3 dL_law_408 rfl rfl ?_
  refine E_iconst dL_law_409 (rg_of rfl) ?_
  refine E_iadd dL_law_410 (rgI v1_6) ?_
  refine E_sld dL_law_411 rfl v1_7.1 v1_7.2 ?_
  refine E_invVI [vi ((xs ((l3 + 1)).toNat).toInt), vi ((xs ((l3 + 2)).toNat).toInt), vi ((xs ((l3 + 3)).toNat).toInt), vi ((xs ((l3 + 4)).toNat).toInt)] dL_law_412 fX10_insert lL_36 ic_68 rfl (by decide) rfl rfl (Nat.le_of_ble_eq_true rfl) (CI_mono hP (fun r3 h2 hP => ?_))
  obtain ⟨⟨v4_0, v4_1, v4_2, v4_3, v4_4, v4_5, v4_6, v4_7⟩, hP⟩ := hP
  refine E_aload_n 2 2 dL_law_415 rfl rfl ?_
  refine E_aload_n 0 0 dL_law_416 rfl rfl ?_
  refine E_iload_n 3 3 dL_law_417 rfl rfl ?_
  refine E_iconst dL_law_418 (rg_of rfl) ?_
  refine E_iadd dL_law_419 (rgI v4_0) ?_
  refine E_sld dL_law_420 rfl v4_1.1 v4_1.2 ?_
  refine E_aload_n 0 0 dL_law_421 rfl rfl ?_
  refine E_iload_n 3 3 dL_law_422 rfl rfl ?_
  refine E_iconst dL_law_423 (rg_of rfl) ?_
  refine E_iadd dL_law_424 (rgI v4_2) ?_
  refine E_sld dL_law_425 rfl v4_3.1 v4_3.2 ?_
  refine E_aload_n 0 0 dL_law_426 rfl rfl ?_
  refine E_iload_n 3 3 dL_law_427 rfl rfl ?_
  refine E_iconst dL_law_428 (rg_of rfl) ?_
  refine E_iadd dL_law_429 (rgI v4_4) ?_
  refine E_sld dL_law_430 rfl v4_5.1 v4_5.2 ?_
  refine E_aload_n 0 0 dL_law_431 rfl rfl ?_
  refine E_iload_n 3 3 dL_law_432 rfl rfl ?_
  refine E_iconst dL_law_433 (rg_of rfl) ?_
  refine E_iadd dL_law_434 (rgI v4_6) ?_
  refine E_sld dL_law_435 rfl v4_7.1 v4_7.2 ?_
  refine E_invVI [vi ((xs ((l3 + 1)).toNat).toInt), vi ((xs ((l3 + 2)).toNat).toInt), vi ((xs ((l3 + 3)).toNat).toInt), vi ((xs ((l3 + 4)).toNat).toInt)] dL_law_436 fX11_insert lL_40 ic_103 rfl (by decide) rfl rfl (Nat.le_of_ble_eq_true rfl) (CI_mono hP (fun r6 h5 hP => ?_))
  refine E_icmp_eq 1608 dL_law_439 rfl (fun hc => ?_) (fun hc => ?_)
  · replace hP := hP.1 (hc)
    exact hP
  · replace hP := hP.2 (by omega)
    refine E_iconst dL_law_442 (rg_of rfl) ?_
    exact E_retZ dL_law_443 rfl (Or.inl rfl) hP
theorem sL_444 {b L : Nat} {xs : Nat → Int32} (hL : L < 2147483648) {Q : Int → Hp → Prop} {h : Hp} {l3 : Int}
    (hP : (rj (l3 + 1) ∧ ix (l3 + 1) L ∧ rj (l3 + 2) ∧ ix (l3 + 2) L) ∧
    CI 6 mX10_remove [vr 68, vi ((xs ((l3 + 1)).toNat).toInt), vi ((xs ((l3 + 2)).toNat).toInt)] h (fun r3 h2 =>
     (rj (l3 + 1) ∧ ix (l3 + 1) L ∧ rj (l3 + 2) ∧ ix (l3 + 2) L) ∧
     CI 4 mX11_remove [vr 103, vi ((xs ((l3 + 1)).toNat).toInt), vi ((xs ((l3 + 2)).toNat).toInt)] h2 (fun r6 h5 =>
      ((r3 = r6) →
       E 20 (mLaw b L xs) 1608 [(0, vr 130), (1, vr 68), (2, vr 103), (3, vi l3)] [] h5 (qi Q)) ∧
      ((r3 ≠ r6) →
       Q 0 h5)))) :
    E 20 (mLaw b L xs) 444 [(0, vr 130), (1, vr 68), (2, vr 103), (3, vi l3)] [] h (qi Q) := by
  obtain ⟨⟨v1_0, v1_1, v1_2, v1_3⟩, hP⟩ := hP
  refine E_aload_n 1 1 dL_law_444 rfl rfl ?_
  refine E_aload_n 0 0 dL_law_445 rfl rfl ?_
  refine E_iload_n 3 3 dL_law_446 rfl rfl ?_
  refine E_iconst dL_law_447 (rg_of rfl) ?_
  refine E_iadd dL_law_448 (rgI v1_0) ?_
  refine E_sld dL_law_449 rfl v1_1.1 v1_1.2 ?_
  refine E_aload_n 0 0 dL_law_450 rfl rfl ?_
  refine E_iload_n 3 3 dL_law_451 rfl rfl ?_
  refine E_iconst dL_law_452 (rg_of rfl) ?_
  refine E_iadd dL_law_453 (rgI v1_2) ?_
  refine E_sld dL_law_454 rfl v1_3.1 v1_3.2 ?_
  refine E_invVI [vi ((xs ((l3 + 1)).toNat).toInt), vi ((xs ((l3 + 2)).toNat).toInt)] dL_law_455 fX10_remove lL_41 ic_68 rfl (by decide) rfl rfl (Nat.le_of_ble_eq_true rfl) (CI_mono hP (fun r3 h2 hP => ?_))
  obtain ⟨⟨v4_0, v4_1, v4_2, v4_3⟩, hP⟩ := hP
  refine E_aload_n 2 2 dL_law_458 rfl rfl ?_
  refine E_aload_n 0 0 dL_law_459 rfl rfl ?_
  refine E_iload_n 3 3 dL_law_460 rfl rfl ?_
  refine E_iconst dL_law_461 (rg_of rfl) ?_
  refine E_iadd dL_law_462 (rgI v4_0) ?_
  refine E_sld dL_law_463 rfl v4_1.1 v4_1.2 ?_
  refine E_aload_n 0 0 dL_law_464 rfl rfl ?_
  refine E_iload_n 3 3 dL_law_465 rfl rfl ?_
  refine E_iconst dL_law_466 (rg_of rfl) ?_
  refine E_iadd dL_law_467 (rgI v4_2) ?_
  refine E_sld dL_law_468 rfl v4_3.1 v4_3.2 ?_
  refine E_invVI [vi ((xs ((l3 + 1)).toNat).toInt), vi ((xs ((l3 + 2)).toNat).toInt)] dL_law_469 fX11_remove lL_44 ic_103 rfl (by decide) rfl rfl (Nat.le_of_ble_eq_true rfl) (CI_mono hP (fun r6 h5 hP => ?_))
  refine E_icmp_eq 1608 dL_law_472 rfl (fun hc => ?_) (fun hc => ?_)
  · replace hP := hP.1 (hc)
    exact hP
  · replace hP := hP.2 (by omega)
    refine E_iconst dL_law_475 (rg_of rfl) ?_
    exact E_retZ dL_law_476 rfl (Or.inl rfl) hP
theorem sL_477 {b L : Nat} {xs : Nat → Int32} (hL : L < 2147483648) {Q : Int → Hp → Prop} {h : Hp} {l3 : Int}
    (hP : (rj (l3 + 1) ∧ ix (l3 + 1) L ∧ rj (l3 + 2) ∧ ix (l3 + 2) L) ∧
    CI 3 mX10_layer [vr 68, vi ((xs ((l3 + 1)).toNat).toInt), vi ((xs ((l3 + 2)).toNat).toInt)] h (fun r3 h2 =>
     (rj (l3 + 1) ∧ ix (l3 + 1) L ∧ rj (l3 + 2) ∧ ix (l3 + 2) L) ∧
     CI 3 mX11_layer [vr 103, vi ((xs ((l3 + 1)).toNat).toInt), vi ((xs ((l3 + 2)).toNat).toInt)] h2 (fun r6 h5 =>
      ((r3 = r6) →
       E 20 (mLaw b L xs) 1608 [(0, vr 130), (1, vr 68), (2, vr 103), (3, vi l3)] [] h5 (qi Q)) ∧
      ((r3 ≠ r6) →
       Q 0 h5)))) :
    E 20 (mLaw b L xs) 477 [(0, vr 130), (1, vr 68), (2, vr 103), (3, vi l3)] [] h (qi Q) := by
  obtain ⟨⟨v1_0, v1_1, v1_2, v1_3⟩, hP⟩ := hP
  refine E_aload_n 1 1 dL_law_477 rfl rfl ?_
  refine E_aload_n 0 0 dL_law_478 rfl rfl ?_
  refine E_iload_n 3 3 dL_law_479 rfl rfl ?_
  refine E_iconst dL_law_480 (rg_of rfl) ?_
  refine E_iadd dL_law_481 (rgI v1_0) ?_
  refine E_sld dL_law_482 rfl v1_1.1 v1_1.2 ?_
  refine E_aload_n 0 0 dL_law_483 rfl rfl ?_
  refine E_iload_n 3 3 dL_law_484 rfl rfl ?_
  refine E_iconst dL_law_485 (rg_of rfl) ?_
  refine E_iadd dL_law_486 (rgI v1_2) ?_
  refine E_sld dL_law_487 rfl v1_3.1 v1_3.2 ?_
  refine E_invVI [vi ((xs ((l3 + 1)).toNat).toInt), vi ((xs ((l3 + 2)).toNat).toInt)] dL_law_488 fX10_layer lL_45 ic_68 rfl (by decide) rfl rfl (Nat.le_of_ble_eq_true rfl) (CI_mono hP (fun r3 h2 hP => ?_))
  obtain ⟨⟨v4_0, v4_1, v4_2, v4_3⟩, hP⟩ := hP
  refine E_aload_n 2 2 dL_law_491 rfl rfl ?_
  refine E_aload_n 0 0 dL_law_492 rfl rfl ?_
  refine E_iload_n 3 3 dL_law_493 rfl rfl ?_
  refine E_iconst dL_law_494 (rg_of rfl) ?_
  refine E_iadd dL_law_495 (rgI v4_0) ?_
  refine E_sld dL_law_496 rfl v4_1.1 v4_1.2 ?_
  refine E_aload_n 0 0 dL_law_497 rfl rfl ?_
  refine E_iload_n 3 3 dL_law_498 rfl rfl ?_
  refine E_iconst dL_law_499 (rg_of rfl) ?_
  refine E_iadd dL_law_500 (rgI v4_2) ?_
  refine E_sld dL_law_501 rfl v4_3.1 v4_3.2 ?_
  refine E_invVI [vi ((xs ((l3 + 1)).toNat).toInt), vi ((xs ((l3 + 2)).toNat).toInt)] dL_law_502 fX11_layer lL_48 ic_103 rfl (by decide) rfl rfl (Nat.le_of_ble_eq_true rfl) (CI_mono hP (fun r6 h5 hP => ?_))
  refine E_icmp_eq 1608 dL_law_505 rfl (fun hc => ?_) (fun hc => ?_)
  · replace hP := hP.1 (hc)
    exact hP
  · replace hP := hP.2 (by omega)
    refine E_iconst dL_law_508 (rg_of rfl) ?_
    exact E_retZ dL_law_509 rfl (Or.inl rfl) hP
theorem sL_510 {b L : Nat} {xs : Nat → Int32} (hL : L < 2147483648) {Q : Int → Hp → Prop} {h : Hp} {l3 : Int}
    (hP : (rj (l3 + 1) ∧ ix (l3 + 1) L) ∧
    CI 3 mX10_depth [vr 68, vi ((xs ((l3 + 1)).toNat).toInt)] h (fun r3 h2 =>
     (rj (l3 + 1) ∧ ix (l3 + 1) L) ∧
     CI 2 mX11_depth [vr 103, vi ((xs ((l3 + 1)).toNat).toInt)] h2 (fun r6 h5 =>
      ((r3 = r6) →
       E 20 (mLaw b L xs) 1608 [(0, vr 130), (1, vr 68), (2, vr 103), (3, vi l3)] [] h5 (qi Q)) ∧
      ((r3 ≠ r6) →
       Q 0 h5)))) :
    E 20 (mLaw b L xs) 510 [(0, vr 130), (1, vr 68), (2, vr 103), (3, vi l3)] [] h (qi Q) := by
  obtain ⟨⟨v1_0, v1_1⟩, hP⟩ := hP
  refine E_aload_n 1 1 dL_law_510 rfl rfl ?_
  refine E_aload_n 0 0 dL_law_511 rfl rfl ?_
  refine E_iload_n 3 3 dL_law_512 rfl rfl ?_
  refine E_iconst dL_law_513 (rg_of rfl) ?_
  refine E_iadd dL_law_514 (rgI v1_0) ?_
  refine E_sld dL_law_515 rfl v1_1.1 v1_1.2 ?_
  refine E_invVI [vi ((xs ((l3 + 1)).toNat).toInt)] dL_law_516 fX10_depth lL_49 ic_68 rfl (by decide) rfl rfl (Nat.le_of_ble_eq_true rfl) (CI_mono hP (fun r3 h2 hP => ?_))
  obtain ⟨⟨v4_0, v4_1⟩, hP⟩ := hP
  refine E_aload_n 2 2 dL_law_519 rfl rfl ?_
  refine E_aload_n 0 0 dL_law_520 rfl rfl ?_
  refine E_iload_n 3 3 dL_law_521 rfl rfl ?_
  refine E_iconst dL_law_522 (rg_of rfl) ?_
  refine E_iadd dL_law_523 (rgI v4_0) ?_
  refine E_sld dL_law_524 rfl v4_1.1 v4_1.2 ?_
  refine E_invVI [vi ((xs ((l3 + 1)).toNat).toInt)] dL_law_525 fX11_depth lL_52 ic_103 rfl (by decide) rfl rfl (Nat.le_of_ble_eq_true rfl) (CI_mono hP (fun r6 h5 hP => ?_))
  refine E_icmp_eq 1608 dL_law_528 rfl (fun hc => ?_) (fun hc => ?_)
  · replace hP := hP.1 (hc)
    exact hP
  · replace hP := hP.2 (by omega)
    refine E_iconst dL_law_531 (rg_of rfl) ?_
    exact E_retZ dL_law_532 rfl (Or.inl rfl) hP
theorem sL_533 {b L : Nat} {xs : Nat → Int32} (hL : L < 2147483648) {Q : Int → Hp → Prop} {h : Hp} {l3 : Int}
    (hP : (rj (l3 + 1) ∧ ix (l3 + 1) L) ∧
    CI 1 mX10_append [vr 68, vi ((xs ((l3 + 1)).toNat).toInt)] h (fun r3 h2 =>
     (rj (l3 + 1) ∧ ix (l3 + 1) L) ∧
     CI 1 mX11_append [vr 103, vi ((xs ((l3 + 1)).toNat).toInt)] h2 (fun r6 h5 =>
      ((r3 = r6) →
       E 20 (mLaw b L xs) 1608 [(0, vr 130), (1, vr 68), (2, vr 103), (3, vi l3)] [] h5 (qi Q)) ∧
      ((r3 ≠ r6) →
       Q 0 h5)))) :
    E 20 (mLaw b L xs) 533 [(0, vr 130), (1, vr 68), (2, vr 103), (3, vi l3)] [] h (qi Q) := by
  obtain ⟨⟨v1_0, v1_1⟩, hP⟩ := hP
  refine E_aload_n 1 1 dL_law_533 rfl rfl ?_
  refine E_aload_n 0 0 dL_law_534 rfl rfl ?_
  refine E_iload_n 3 3 dL_law_535 rfl rfl ?_
  refine E_iconst dL_law_536 (rg_of rfl) ?_
  refine E_iadd dL_law_537 (rgI v1_0) ?_
  refine E_sld dL_law_538 rfl v1_1.1 v1_1.2 ?_
  refine E_invVI [vi ((xs ((l3 + 1)).toNat).toInt)] dL_law_539 fX10_append lL_53 ic_68 rfl (by decide) rfl rfl (Nat.le_of_ble_eq_true rfl) (CI_mono hP (fun r3 h2 hP => ?_))
  obtain ⟨⟨v4_0, v4_1⟩, hP⟩ := hP
  refine E_aload_n 2 2 dL_law_542 rfl rfl ?_
  refine E_aload_n 0 0 dL_law_543 rfl rfl ?_
  refine E_iload_n 3 3 dL_law_544 rfl rfl ?_
  refine E_iconst dL_law_545 (rg_of rfl) ?_
  refine E_iadd dL_law_546 (rgI v4_0) ?_
  refine E_sld dL_law_547 rfl v4_1.1 v4_1.2 ?_
  refine E_invVI [vi ((xs ((l3 + 1)).toNat).toInt)] dL_law_548 fX11_append lL_56 ic_103 rfl (by decide) rfl rfl (Nat.le_of_ble_eq_true rfl) (CI_mono hP (fun r6 h5 hP => ?_))
  refine E_icmp_eq 1608 dL_law_551 rfl (fun hc => ?_) (fun hc => ?_)
  · replace hP := hP.1 (hc)
    exact hP
  · replace hP := hP.2 (by omega)
    refine E_iconst dL_law_554 (rg_of rfl) ?_
    exact E_retZ dL_law_555 rfl (Or.inl rfl) hP
theorem sL_556 {b L : Nat} {xs : Nat → Int32} (hL : L < 2147483648) {Q : Int → Hp → Prop} {h : Hp} {l3 : Int}
    (hP : CI 1 mX10_clearText [vr 68] h (fun r3 h2 =>
     CI 0 mX11_clearText [vr 103] h2 (fun r6 h5 =>
      ((r3 = r6) →
       E 20 (mLaw b L xs) 1608 [(0, vr 130), (1, vr 68), (2, vr 103), (3, vi l3)] [] h5 (qi Q)) ∧
      ((r3 ≠ r6) →
       Q 0 h5)))) :
    E 20 (mLaw b L xs) 556 [(0, vr 130), (1, vr 68), (2, vr 103), (3, vi l3)] [] h (qi Q) := by
  refine E_aload_n 1 1 dL_law_556 rfl rfl ?_
  refine E_invVI [] dL_law_557 fX10_clearText lL_57 ic_68 rfl (by decide) rfl rfl (Nat.le_of_ble_eq_true rfl) (CI_mono hP (fun r3 h2 hP => ?_))
  refine E_aload_n 2 2 dL_law_560 rfl rfl ?_
  refine E_invVI [] dL_law_561 fX11_clearText lL_61 ic_103 rfl (by decide) rfl rfl (Nat.le_of_ble_eq_true rfl) (CI_mono hP (fun r6 h5 hP => ?_))
  refine E_icmp_eq 1608 dL_law_564 rfl (fun hc => ?_) (fun hc => ?_)
  · replace hP := hP.1 (hc)
    exact hP
  · replace hP := hP.2 (by omega)
    refine E_iconst dL_law_567 (rg_of rfl) ?_
    exact E_retZ dL_law_568 rfl (Or.inl rfl) hP
theorem sL_569 {b L : Nat} {xs : Nat → Int32} (hL : L < 2147483648) {Q : Int → Hp → Prop} {h : Hp} {l3 : Int}
    (hP : (rj (l3 + 1) ∧ ix (l3 + 1) L) ∧
    CI 7 mX10_parse [vr 68, vi ((xs ((l3 + 1)).toNat).toInt)] h (fun r3 h2 =>
     (rj (l3 + 1) ∧ ix (l3 + 1) L) ∧
     CI 2 mX11_parse [vr 103, vi ((xs ((l3 + 1)).toNat).toInt)] h2 (fun r6 h5 =>
      ((r3 = r6) →
       E 20 (mLaw b L xs) 1608 [(0, vr 130), (1, vr 68), (2, vr 103), (3, vi l3)] [] h5 (qi Q)) ∧
      ((r3 ≠ r6) →
       Q 0 h5)))) :
    E 20 (mLaw b L xs) 569 [(0, vr 130), (1, vr 68), (2, vr 103), (3, vi l3)] [] h (qi Q) := by
  obtain ⟨⟨v1_0, v1_1⟩, hP⟩ := hP
  refine E_aload_n 1 1 dL_law_569 rfl rfl ?_
  refine E_aload_n 0 0 dL_law_570 rfl rfl ?_
  refine E_iload_n 3 3 dL_law_571 rfl rfl ?_
  refine E_iconst dL_law_572 (rg_of rfl) ?_
  refine E_iadd dL_law_573 (rgI v1_0) ?_
  refine E_sld dL_law_574 rfl v1_1.1 v1_1.2 ?_
  refine E_invVI [vi ((xs ((l3 + 1)).toNat).toInt)] dL_law_575 fX10_parse lL_62 ic_68 rfl (by decide) rfl rfl (Nat.le_of_ble_eq_true rfl) (CI_mono hP (fun r3 h2 hP => ?_))
  obtain ⟨⟨v4_0, v4_1⟩, hP⟩ := hP
  refine E_aload_n 2 2 dL_law_578 rfl rfl ?_
  refine E_aload_n 0 0 dL_law_579 rfl rfl ?_
  refine E_iload_n 3 3 dL_law_580 rfl rfl ?_
  refine E_iconst dL_law_581 (rg_of rfl) ?_
  refine E_iadd dL_law_582 (rgI v4_0) ?_
  refine E_sld dL_law_583 rfl v4_1.1 v4_1.2 ?_
  refine E_invVI [vi ((xs ((l3 + 1)).toNat).toInt)] dL_law_584 fX11_parse lL_65 ic_103 rfl (by decide) rfl rfl (Nat.le_of_ble_eq_true rfl) (CI_mono hP (fun r6 h5 hP => ?_))
  refine E_icmp_eq 1608 dL_law_587 rfl (fun hc => ?_) (fun hc => ?_)
  · replace hP := hP.1 (hc)
    exact hP
  · replace hP := hP.2 (by omega)
    refine E_iconst dL_law_590 (rg_of rfl) ?_
    exact E_retZ dL_law_591 rfl (Or.inl rfl) hP
theorem sL_592 {b L : Nat} {xs : Nat → Int32} (hL : L < 2147483648) {Q : Int → Hp → Prop} {h : Hp} {l3 : Int}
    (hP : (rj (l3 + 1) ∧ ix (l3 + 1) L ∧ rj (l3 + 2) ∧ ix (l3 + 2) L) ∧
    CI 0 mX10_setKey [vr 68, vi ((xs ((l3 + 1)).toNat).toInt), vi ((xs ((l3 + 2)).toNat).toInt)] h (fun r3 h2 =>
     (rj (l3 + 1) ∧ ix (l3 + 1) L ∧ rj (l3 + 2) ∧ ix (l3 + 2) L) ∧
     CI 1 mX11_setKey [vr 103, vi ((xs ((l3 + 1)).toNat).toInt), vi ((xs ((l3 + 2)).toNat).toInt)] h2 (fun r6 h5 =>
      ((r3 = r6) →
       E 20 (mLaw b L xs) 1608 [(0, vr 130), (1, vr 68), (2, vr 103), (3, vi l3)] [] h5 (qi Q)) ∧
      ((r3 ≠ r6) →
       Q 0 h5)))) :
    E 20 (mLaw b L xs) 592 [(0, vr 130), (1, vr 68), (2, vr 103), (3, vi l3)] [] h (qi Q) := by
  obtain ⟨⟨v1_0, v1_1, v1_2, v1_3⟩, hP⟩ := hP
  refine E_aload_n 1 1 dL_law_592 rfl rfl ?_
  refine E_aload_n 0 0 dL_law_593 rfl rfl ?_
  refine E_iload_n 3 3 dL_law_594 rfl rfl ?_
  refine E_iconst dL_law_595 (rg_of rfl) ?_
  refine E_iadd dL_law_596 (rgI v1_0) ?_
  refine E_sld dL_law_597 rfl v1_1.1 v1_1.2 ?_
  refine E_aload_n 0 0 dL_law_598 rfl rfl ?_
  refine E_iload_n 3 3 dL_law_599 rfl rfl ?_
  refine E_iconst dL_law_600 (rg_of rfl) ?_
  refine E_iadd dL_law_601 (rgI v1_2) ?_
  refine E_sld dL_law_602 rfl v1_3.1 v1_3.2 ?_
  refine E_invVI [vi ((xs ((l3 + 1)).toNat).toInt), vi ((xs ((l3 + 2)).toNat).toInt)] dL_law_603 fX10_setKey lL_66 ic_68 rfl (by decide) rfl rfl (Nat.le_of_ble_eq_true rfl) (CI_mono hP (fun r3 h2 hP => ?_))
  obtain ⟨⟨v4_0, v4_1, v4_2, v4_3⟩, hP⟩ := hP
  refine E_aload_n 2 2 dL_law_606 rfl rfl ?_
  refine E_aload_n 0 0 dL_law_607 rfl rfl ?_
  refine E_iload_n 3 3 dL_law_608 rfl rfl ?_
  refine E_iconst dL_law_609 (rg_of rfl) ?_
  refine E_iadd dL_law_610 (rgI v4_0) ?_
  refine E_sld dL_law_611 rfl v4_1.1 v4_1.2 ?_
  refine E_aload_n 0 0 dL_law_612 rfl rfl ?_
  refine E_iload_n 3 3 dL_law_613 rfl rfl ?_
  refine E_iconst dL_law_614 (rg_of rfl) ?_
  refine E_iadd dL_law_615 (rgI v4_2) ?_
  refine E_sld dL_law_616 rfl v4_3.1 v4_3.2 ?_
  refine E_invVI [vi ((xs ((l3 + 1)).toNat).toInt), vi ((xs ((l3 + 2)).toNat).toInt)] dL_law_617 fX11_setKey lL_69 ic_103 rfl (by decide) rfl rfl (Nat.le_of_ble_eq_true rfl) (CI_mono hP (fun r6 h5 hP => ?_))
  refine E_icmp_eq 1608 dL_law_620 rfl (fun hc => ?_) (fun hc => ?_)
  · replace hP := hP.1 (hc)
    exact hP
  · replace hP := hP.2 (by omega)
    refine E_iconst dL_law_623 (rg_of rfl) ?_
    exact E_retZ dL_law_624 rfl (Or.inl rfl) hP
theorem sL_625 {b L : Nat} {xs : Nat → Int32} (hL : L < 2147483648) {Q : Int → Hp → Prop} {h : Hp} {l3 : Int}
    (hP : (rj (l3 + 1) ∧ ix (l3 + 1) L) ∧
    CI 2 mX10_run [vr 68, vi ((xs ((l3 + 1)).toNat).toInt)] h (fun r3 h2 =>
     (rj (l3 + 1) ∧ ix (l3 + 1) L) ∧
     CI 2 mX11_run [vr 103, vi ((xs ((l3 + 1)).toNat).toInt)] h2 (fun r6 h5 =>
      ((r3 = r6) →
       E 20 (mLaw b L xs) 1608 [(0, vr 130), (1, vr 68), (2, vr 103), (3, vi l3)] [] h5 (qi Q)) ∧
      ((r3 ≠ r6) →
       Q 0 h5)))) :
    E 20 (mLaw b L xs) 625 [(0, vr 130), (1, vr 68), (2, vr 103), (3, vi l3)] [] h (qi Q) := by
  obtain ⟨⟨v1_0, v1_1⟩, hP⟩ := hP
  refine E_aload_n 1 1 dL_law_625 rfl rfl ?_
  refine E_aload_n 0 0 dL_law_626 rfl rfl ?_
  refine E_iload_n 3 3 dL_law_627 rfl rfl ?_
  refine E_iconst dL_law_628 (rg_of rfl) ?_
  refine E_iadd dL_law_629 (rgI v1_0) ?_
  refine E_sld dL_law_630 rfl v1_1.1 v1_1.2 ?_
  refine E_invVI [vi ((xs ((l3 + 1)).toNat).toInt)] dL_law_631 fX10_run lL_70 ic_68 rfl (by decide) rfl rfl (Nat.le_of_ble_eq_true rfl) (CI_mono hP (fun r3 h2 hP => ?_))
  obtain ⟨⟨v4_0, v4_1⟩, hP⟩ := hP
  refine E_aload_n 2 2 dL_law_634 rfl rfl ?_
  refine E_aload_n 0 0 dL_law_635 rfl rfl ?_
  refine E_iload_n 3 3 dL_law_636 rfl rfl ?_
  refine E_iconst dL_law_637 (rg_of rfl) ?_
  refine E_iadd dL_law_638 (rgI v4_0) ?_
  refine E_sld dL_law_639 rfl v4_1.1 v4_1.2 ?_
  refine E_invVI [vi ((xs ((l3 + 1)).toNat).toInt)] dL_law_640 fX11_run lL_73 ic_103 rfl (by decide) rfl rfl (Nat.le_of_ble_eq_true rfl) (CI_mono hP (fun r6 h5 hP => ?_))
  refine E_icmp_eq 1608 dL_law_643 rfl (fun hc => ?_) (fun hc => ?_)
  · replace hP := hP.1 (hc)
    exact hP
  · replace hP := hP.2 (by omega)
    refine E_iconst dL_law_646 (rg_of rfl) ?_
    exact E_retZ dL_law_647 rfl (Or.inl rfl) hP
theorem sL_648 {b L : Nat} {xs : Nat → Int32} (hL : L < 2147483648) {Q : Int → Hp → Prop} {h : Hp} {l3 : Int}
    (hP : (rj (l3 + 1) ∧ ix (l3 + 1) L) ∧
    CI 1 mX10_result [vr 68, vi ((xs ((l3 + 1)).toNat).toInt)] h (fun r3 h2 =>
     (rj (l3 + 1) ∧ ix (l3 + 1) L) ∧
     CI 1 mX11_result [vr 103, vi ((xs ((l3 + 1)).toNat).toInt)] h2 (fun r6 h5 =>
      ((r3 = r6) →
       E 20 (mLaw b L xs) 1608 [(0, vr 130), (1, vr 68), (2, vr 103), (3, vi l3)] [] h5 (qi Q)) ∧
      ((r3 ≠ r6) →
       Q 0 h5)))) :
    E 20 (mLaw b L xs) 648 [(0, vr 130), (1, vr 68), (2, vr 103), (3, vi l3)] [] h (qi Q) := by
  obtain ⟨⟨v1_0, v1_1⟩, hP⟩ := hP
  refine E_aload_n 1 1 dL_law_648 rfl rfl ?_
  refine E_aload_n 0 0 dL_law_649 rfl rfl ?_
  refine E_iload_n 3 3 dL_law_650 rfl rfl ?_
  refine E_iconst dL_law_651 (rg_of rfl) ?_
  refine E_iadd dL_law_652 (rgI v1_0) ?_
  refine E_sld dL_law_653 rfl v1_1.1 v1_1.2 ?_
  refine E_invVI [vi ((xs ((l3 + 1)).toNat).toInt)] dL_law_654 fX10_result lL_74 ic_68 rfl (by decide) rfl rfl (Nat.le_of_ble_eq_true rfl) (CI_mono hP (fun r3 h2 hP => ?_))
  obtain ⟨⟨v4_0, v4_1⟩, hP⟩ := hP
  refine E_aload_n 2 2 dL_law_657 rfl rfl ?_
  refine E_aload_n 0 0 dL_law_658 rfl rfl ?_
  refine E_iload_n 3 3 dL_law_659 rfl rfl ?_
  refine E_iconst dL_law_660 (rg_of rfl) ?_
  refine E_iadd dL_law_661 (rgI v4_0) ?_
  refine E_sld dL_law_662 rfl v4_1.1 v4_1.2 ?_
  refine E_invVI [vi ((xs ((l3 + 1)).toNat).toInt)] dL_law_663 fX11_result lL_77 ic_103 rfl (by decide) rfl rfl (Nat.le_of_ble_eq_true rfl) (CI_mono hP (fun r6 h5 hP => ?_))
  refine E_icmp_eq 1608 dL_law_666 rfl (fun hc => ?_) (fun hc => ?_)
  · replace hP := hP.1 (hc)
    exact hP
  · replace hP := hP.2 (by omega)
    refine E_iconst dL_law_669 (rg_of rfl) ?_
    exact E_retZ dL_law_670 rfl (Or.inl rfl) hP
theorem sL_671 {b L : Nat} {xs : Nat → Int32} (hL : L < 2147483648) {Q : Int → Hp → Prop} {h : Hp} {l3 : Int}
    (hP : (rj (l3 + 1) ∧ ix (l3 + 1) L) ∧
    CI 1 mX10_origin [vr 68, vi ((xs ((l3 + 1)).toNat).toInt)] h (fun r3 h2 =>
     (rj (l3 + 1) ∧ ix (l3 + 1) L) ∧
     CI 1 mX11_origin [vr 103, vi ((xs ((l3 + 1)).toNat).toInt)] h2 (fun r6 h5 =>
      ((r3 = r6) →
       E 20 (mLaw b L xs) 1608 [(0, vr 130), (1, vr 68), (2, vr 103), (3, vi l3)] [] h5 (qi Q)) ∧
      ((r3 ≠ r6) →
       Q 0 h5)))) :
    E 20 (mLaw b L xs) 671 [(0, vr 130), (1, vr 68), (2, vr 103), (3, vi l3)] [] h (qi Q) := by
  obtain ⟨⟨v1_0, v1_1⟩, hP⟩ := hP
  refine E_aload_n 1 1 dL_law_671 rfl rfl ?_
  refine E_aload_n 0 0 dL_law_672 rfl rfl ?_
  refine E_iload_n 3 3 dL_law_673 rfl rfl ?_
  refine E_iconst dL_law_674 (rg_of rfl) ?_
  refine E_iadd dL_law_675 (rgI v1_0) ?_
  refine E_sld dL_law_676 rfl v1_1.1 v1_1.2 ?_
  refine E_invVI [vi ((xs ((l3 + 1)).toNat).toInt)] dL_law_677 fX10_origin lL_78 ic_68 rfl (by decide) rfl rfl (Nat.le_of_ble_eq_true rfl) (CI_mono hP (fun r3 h2 hP => ?_))
  obtain ⟨⟨v4_0, v4_1⟩, hP⟩ := hP
  refine E_aload_n 2 2 dL_law_680 rfl rfl ?_
  refine E_aload_n 0 0 dL_law_681 rfl rfl ?_
  refine E_iload_n 3 3 dL_law_682 rfl rfl ?_
  refine E_iconst dL_law_683 (rg_of rfl) ?_
  refine E_iadd dL_law_684 (rgI v4_0) ?_
  refine E_sld dL_law_685 rfl v4_1.1 v4_1.2 ?_
  refine E_invVI [vi ((xs ((l3 + 1)).toNat).toInt)] dL_law_686 fX11_origin lL_81 ic_103 rfl (by decide) rfl rfl (Nat.le_of_ble_eq_true rfl) (CI_mono hP (fun r6 h5 hP => ?_))
  refine E_icmp_eq 1608 dL_law_689 rfl (fun hc => ?_) (fun hc => ?_)
  · replace hP := hP.1 (hc)
    exact hP
  · replace hP := hP.2 (by omega)
    refine E_iconst dL_law_692 (rg_of rfl) ?_
    exact E_retZ dL_law_693 rfl (Or.inl rfl) hP
theorem sL_694 {b L : Nat} {xs : Nat → Int32} (hL : L < 2147483648) {Q : Int → Hp → Prop} {h : Hp} {l3 : Int}
    (hP : CI 1 mX10_isStable [vr 68] h (fun r3 h2 =>
     CI 0 mX11_isStable [vr 103] h2 (fun r6 h5 =>
      ((r3 = r6) →
       E 20 (mLaw b L xs) 1608 [(0, vr 130), (1, vr 68), (2, vr 103), (3, vi l3)] [] h5 (qi Q)) ∧
      ((r3 ≠ r6) →
       Q 0 h5)))) :
    E 20 (mLaw b L xs) 694 [(0, vr 130), (1, vr 68), (2, vr 103), (3, vi l3)] [] h (qi Q) := by
  refine E_aload_n 1 1 dL_law_694 rfl rfl ?_
  refine E_invVI [] dL_law_695 fX10_isStable lL_82 ic_68 rfl (by decide) rfl rfl (Nat.le_of_ble_eq_true rfl) (CI_mono hP (fun r3 h2 hP => ?_))
  refine E_aload_n 2 2 dL_law_698 rfl rfl ?_
  refine E_invVI [] dL_law_699 fX11_isStable lL_85 ic_103 rfl (by decide) rfl rfl (Nat.le_of_ble_eq_true rfl) (CI_mono hP (fun r6 h5 hP => ?_))
  refine E_icmp_eq 1608 dL_law_702 rfl (fun hc => ?_) (fun hc => ?_)
  · replace hP := hP.1 (hc)
    exact hP
  · replace hP := hP.2 (by omega)
    refine E_iconst dL_law_705 (rg_of rfl) ?_
    exact E_retZ dL_law_706 rfl (Or.inl rfl) hP
theorem sL_707 {b L : Nat} {xs : Nat → Int32} (hL : L < 2147483648) {Q : Int → Hp → Prop} {h : Hp} {l3 : Int}
    (hP : (rj (l3 + 1) ∧ ix (l3 + 1) L) ∧
    CI 4 mX10_outputCount [vr 68, vi ((xs ((l3 + 1)).toNat).toInt)] h (fun r3 h2 =>
     (rj (l3 + 1) ∧ ix (l3 + 1) L) ∧
     CI 2 mX11_outputCount [vr 103, vi ((xs ((l3 + 1)).toNat).toInt)] h2 (fun r6 h5 =>
      ((r3 = r6) →
       E 20 (mLaw b L xs) 1608 [(0, vr 130), (1, vr 68), (2, vr 103), (3, vi l3)] [] h5 (qi Q)) ∧
      ((r3 ≠ r6) →
       Q 0 h5)))) :
    E 20 (mLaw b L xs) 707 [(0, vr 130), (1, vr 68), (2, vr 103), (3, vi l3)] [] h (qi Q) := by
  obtain ⟨⟨v1_0, v1_1⟩, hP⟩ := hP
  refine E_aload_n 1 1 dL_law_707 rfl rfl ?_
  refine E_aload_n 0 0 dL_law_708 rfl rfl ?_
  refine E_iload_n 3 3 dL_law_709 rfl rfl ?_
  refine E_iconst dL_law_710 (rg_of rfl) ?_
  refine E_iadd dL_law_711 (rgI v1_0) ?_
  refine E_sld dL_law_712 rfl v1_1.1 v1_1.2 ?_
  refine E_invVI [vi ((xs ((l3 + 1)).toNat).toInt)] dL_law_713 fX10_outputCount lL_86 ic_68 rfl (by decide) rfl rfl (Nat.le_of_ble_eq_true rfl) (CI_mono hP (fun r3 h2 hP => ?_))
  obtain ⟨⟨v4_0, v4_1⟩, hP⟩ := hP
  refine E_aload_n 2 2 dL_law_716 rfl rfl ?_
  refine E_aload_n 0 0 dL_law_717 rfl rfl ?_
  refine E_iload_n 3 3 dL_law_718 rfl rfl ?_
  refine E_iconst dL_law_719 (rg_of rfl) ?_
  refine E_iadd dL_law_720 (rgI v4_0) ?_
  refine E_sld dL_law_721 rfl v4_1.1 v4_1.2 ?_
  refine E_invVI [vi ((xs ((l3 + 1)).toNat).toInt)] dL_law_722 fX11_outputCount lL_89 ic_103 rfl (by decide) rfl rfl (Nat.le_of_ble_eq_true rfl) (CI_mono hP (fun r6 h5 hP => ?_))
  refine E_icmp_eq 1608 dL_law_725 rfl (fun hc => ?_) (fun hc => ?_)
  · replace hP := hP.1 (hc)
    exact hP
  · replace hP := hP.2 (by omega)
    refine E_iconst dL_law_728 (rg_of rfl) ?_
    exact E_retZ dL_law_729 rfl (Or.inl rfl) hP
theorem sL_730 {b L : Nat} {xs : Nat → Int32} (hL : L < 2147483648) {Q : Int → Hp → Prop} {h : Hp} {l3 : Int}
    (hP : (rj (l3 + 1) ∧ ix (l3 + 1) L ∧ rj (l3 + 2) ∧ ix (l3 + 2) L) ∧
    CI 2 mX10_outputOf [vr 68, vi ((xs ((l3 + 1)).toNat).toInt), vi ((xs ((l3 + 2)).toNat).toInt)] h (fun r3 h2 =>
     (rj (l3 + 1) ∧ ix (l3 + 1) L ∧ rj (l3 + 2) ∧ ix (l3 + 2) L) ∧
     CI 2 mX11_outputOf [vr 103, vi ((xs ((l3 + 1)).toNat).toInt), vi ((xs ((l3 + 2)).toNat).toInt)] h2 (fun r6 h5 =>
      ((r3 = r6) →
       E 20 (mLaw b L xs) 1608 [(0, vr 130), (1, vr 68), (2, vr 103), (3, vi l3)] [] h5 (qi Q)) ∧
      ((r3 ≠ r6) →
       Q 0 h5)))) :
    E 20 (mLaw b L xs) 730 [(0, vr 130), (1, vr 68), (2, vr 103), (3, vi l3)] [] h (qi Q) := by
  obtain ⟨⟨v1_0, v1_1, v1_2, v1_3⟩, hP⟩ := hP
  refine E_aload_n 1 1 dL_law_730 rfl rfl ?_
  refine E_aload_n 0 0 dL_law_731 rfl rfl ?_
  refine E_iload_n 3 3 dL_law_732 rfl rfl ?_
  refine E_iconst dL_law_733 (rg_of rfl) ?_
  refine E_iadd dL_law_734 (rgI v1_0) ?_
  refine E_sld dL_law_735 rfl v1_1.1 v1_1.2 ?_
  refine E_aload_n 0 0 dL_law_736 rfl rfl ?_
  refine E_iload_n 3 3 dL_law_737 rfl rfl ?_
  refine E_iconst dL_law_738 (rg_of rfl) ?_
  refine E_iadd dL_law_739 (rgI v1_2) ?_
  refine E_sld dL_law_740 rfl v1_3.1 v1_3.2 ?_
  refine E_invVI [vi ((xs ((l3 + 1)).toNat).toInt), vi ((xs ((l3 + 2)).toNat).toInt)] dL_law_741 fX10_outputOf lL_90 ic_68 rfl (by decide) rfl rfl (Nat.le_of_ble_eq_true rfl) (CI_mono hP (fun r3 h2 hP => ?_))
  obtain ⟨⟨v4_0, v4_1, v4_2, v4_3⟩, hP⟩ := hP
  refine E_aload_n 2 2 dL_law_744 rfl rfl ?_
  refine E_aload_n 0 0 dL_law_745 rfl rfl ?_
  refine E_iload_n 3 3 dL_law_746 rfl rfl ?_
  refine E_iconst dL_law_747 (rg_of rfl) ?_
  refine E_iadd dL_law_748 (rgI v4_0) ?_
  refine E_sld dL_law_749 rfl v4_1.1 v4_1.2 ?_
  refine E_aload_n 0 0 dL_law_750 rfl rfl ?_
  refine E_iload_n 3 3 dL_law_751 rfl rfl ?_
  refine E_iconst dL_law_752 (rg_of rfl) ?_
  refine E_iadd dL_law_753 (rgI v4_2) ?_
  refine E_sld dL_law_754 rfl v4_3.1 v4_3.2 ?_
  refine E_invVI [vi ((xs ((l3 + 1)).toNat).toInt), vi ((xs ((l3 + 2)).toNat).toInt)] dL_law_755 fX11_outputOf lL_93 ic_103 rfl (by decide) rfl rfl (Nat.le_of_ble_eq_true rfl) (CI_mono hP (fun r6 h5 hP => ?_))
  refine E_icmp_eq 1608 dL_law_758 rfl (fun hc => ?_) (fun hc => ?_)
  · replace hP := hP.1 (hc)
    exact hP
  · replace hP := hP.2 (by omega)
    refine E_iconst dL_law_761 (rg_of rfl) ?_
    exact E_retZ dL_law_762 rfl (Or.inl rfl) hP
theorem sL_763 {b L : Nat} {xs : Nat → Int32} (hL : L < 2147483648) {Q : Int → Hp → Prop} {h : Hp} {l3 : Int}
    (hP : (rj (l3 + 1) ∧ ix (l3 + 1) L) ∧
    CI 4 mX10_isSorter [vr 68, vi ((xs ((l3 + 1)).toNat).toInt)] h (fun r3 h2 =>
     (rj (l3 + 1) ∧ ix (l3 + 1) L) ∧
     CI 2 mX11_isSorter_ [vr 103, vi ((xs ((l3 + 1)).toNat).toInt)] h2 (fun r6 h5 =>
      ((r3 = r6) →
       E 20 (mLaw b L xs) 1608 [(0, vr 130), (1, vr 68), (2, vr 103), (3, vi l3)] [] h5 (qi Q)) ∧
      ((r3 ≠ r6) →
       Q 0 h5)))) :
    E 20 (mLaw b L xs) 763 [(0, vr 130), (1, vr 68), (2, vr 103), (3, vi l3)] [] h (qi Q) := by
  obtain ⟨⟨v1_0, v1_1⟩, hP⟩ := hP
  refine E_aload_n 1 1 dL_law_763 rfl rfl ?_
  refine E_aload_n 0 0 dL_law_764 rfl rfl ?_
  refine E_iload_n 3 3 dL_law_765 rfl rfl ?_
  refine E_iconst dL_law_766 (rg_of rfl) ?_
  refine E_iadd dL_law_767 (rgI v1_0) ?_
  refine E_sld dL_law_768 rfl v1_1.1 v1_1.2 ?_
  refine E_invVI [vi ((xs ((l3 + 1)).toNat).toInt)] dL_law_769 fX10_isSorter lL_94 ic_68 rfl (by decide) rfl rfl (Nat.le_of_ble_eq_true rfl) (CI_mono hP (fun r3 h2 hP => ?_))
  obtain ⟨⟨v4_0, v4_1⟩, hP⟩ := hP
  refine E_aload_n 2 2 dL_law_772 rfl rfl ?_
  refine E_aload_n 0 0 dL_law_773 rfl rfl ?_
  refine E_iload_n 3 3 dL_law_774 rfl rfl ?_
  refine E_iconst dL_law_775 (rg_of rfl) ?_
  refine E_iadd dL_law_776 (rgI v4_0) ?_
  refine E_sld dL_law_777 rfl v4_1.1 v4_1.2 ?_
  refine E_invVI [vi ((xs ((l3 + 1)).toNat).toInt)] dL_law_778 fX11_isSorter_ lL_97 ic_103 rfl (by decide) rfl rfl (Nat.le_of_ble_eq_true rfl) (CI_mono hP (fun r6 h5 hP => ?_))
  refine E_icmp_eq 1608 dL_law_781 rfl (fun hc => ?_) (fun hc => ?_)
  · replace hP := hP.1 (hc)
    exact hP
  · replace hP := hP.2 (by omega)
    refine E_iconst dL_law_784 (rg_of rfl) ?_
    exact E_retZ dL_law_785 rfl (Or.inl rfl) hP
theorem sL_786 {b L : Nat} {xs : Nat → Int32} (hL : L < 2147483648) {Q : Int → Hp → Prop} {h : Hp} {l3 : Int}
    (hP : (rj (l3 + 1) ∧ ix (l3 + 1) L) ∧
    CI 3 mX10_firstFailure [vr 68, vi ((xs ((l3 + 1)).toNat).toInt)] h (fun r3 h2 =>
     (rj (l3 + 1) ∧ ix (l3 + 1) L) ∧
     CI 2 mX11_firstFailure [vr 103, vi ((xs ((l3 + 1)).toNat).toInt)] h2 (fun r6 h5 =>
      ((r3 = r6) →
       E 20 (mLaw b L xs) 1608 [(0, vr 130), (1, vr 68), (2, vr 103), (3, vi l3)] [] h5 (qi Q)) ∧
      ((r3 ≠ r6) →
       Q 0 h5)))) :
    E 20 (mLaw b L xs) 786 [(0, vr 130), (1, vr 68), (2, vr 103), (3, vi l3)] [] h (qi Q) := by
  obtain ⟨⟨v1_0, v1_1⟩, hP⟩ := hP
  refine E_aload_n 1 1 dL_law_786 rfl rfl ?_
  refine E_aload_n 0 0 dL_law_787 rfl rfl ?_
  refine E_iload_n 3 3 dL_law_788 rfl rfl ?_
  refine E_iconst dL_law_789 (rg_of rfl) ?_
  refine E_iadd dL_law_790 (rgI v1_0) ?_
  refine E_sld dL_law_791 rfl v1_1.1 v1_1.2 ?_
  refine E_invVI [vi ((xs ((l3 + 1)).toNat).toInt)] dL_law_792 fX10_firstFailure lL_98 ic_68 rfl (by decide) rfl rfl (Nat.le_of_ble_eq_true rfl) (CI_mono hP (fun r3 h2 hP => ?_))
  obtain ⟨⟨v4_0, v4_1⟩, hP⟩ := hP
  refine E_aload_n 2 2 dL_law_795 rfl rfl ?_
  refine E_aload_n 0 0 dL_law_796 rfl rfl ?_
  refine E_iload_n 3 3 dL_law_797 rfl rfl ?_
  refine E_iconst dL_law_798 (rg_of rfl) ?_
  refine E_iadd dL_law_799 (rgI v4_0) ?_
  refine E_sld dL_law_800 rfl v4_1.1 v4_1.2 ?_
  refine E_invVI [vi ((xs ((l3 + 1)).toNat).toInt)] dL_law_801 fX11_firstFailure lL_101 ic_103 rfl (by decide) rfl rfl (Nat.le_of_ble_eq_true rfl) (CI_mono hP (fun r6 h5 hP => ?_))
  refine E_icmp_eq 1608 dL_law_804 rfl (fun hc => ?_) (fun hc => ?_)
  · replace hP := hP.1 (hc)
    exact hP
  · replace hP := hP.2 (by omega)
    refine E_iconst dL_law_807 (rg_of rfl) ?_
    exact E_retZ dL_law_808 rfl (Or.inl rfl) hP
theorem sL_809 {b L : Nat} {xs : Nat → Int32} (hL : L < 2147483648) {Q : Int → Hp → Prop} {h : Hp} {l3 : Int}
    (hP : (rj (l3 + 1) ∧ ix (l3 + 1) L ∧ rj (l3 + 2) ∧ ix (l3 + 2) L) ∧
    CI 3 mX10_isSelector [vr 68, vi ((xs ((l3 + 1)).toNat).toInt), vi ((xs ((l3 + 2)).toNat).toInt)] h (fun r3 h2 =>
     (rj (l3 + 1) ∧ ix (l3 + 1) L ∧ rj (l3 + 2) ∧ ix (l3 + 2) L) ∧
     CI 2 mX11_isSelector [vr 103, vi ((xs ((l3 + 1)).toNat).toInt), vi ((xs ((l3 + 2)).toNat).toInt)] h2 (fun r6 h5 =>
      ((r3 = r6) →
       E 20 (mLaw b L xs) 1608 [(0, vr 130), (1, vr 68), (2, vr 103), (3, vi l3)] [] h5 (qi Q)) ∧
      ((r3 ≠ r6) →
       Q 0 h5)))) :
    E 20 (mLaw b L xs) 809 [(0, vr 130), (1, vr 68), (2, vr 103), (3, vi l3)] [] h (qi Q) := by
  obtain ⟨⟨v1_0, v1_1, v1_2, v1_3⟩, hP⟩ := hP
  refine E_aload_n 1 1 dL_law_809 rfl rfl ?_
  refine E_aload_n 0 0 dL_law_810 rfl rfl ?_
  refine E_iload_n 3 3 dL_law_811 rfl rfl ?_
  refine E_iconst dL_law_812 (rg_of rfl) ?_
  refine E_iadd dL_law_813 (rgI v1_0) ?_
  refine E_sld dL_law_814 rfl v1_1.1 v1_1.2 ?_
  refine E_aload_n 0 0 dL_law_815 rfl rfl ?_
  refine E_iload_n 3 3 dL_law_816 rfl rfl ?_
  refine E_iconst dL_law_817 (rg_of rfl) ?_
  refine E_iadd dL_law_818 (rgI v1_2) ?_
  refine E_sld dL_law_819 rfl v1_3.1 v1_3.2 ?_
  refine E_invVI [vi ((xs ((l3 + 1)).toNat).toInt), vi ((xs ((l3 + 2)).toNat).toInt)] dL_law_820 fX10_isSelector lL_102 ic_68 rfl (by decide) rfl rfl (Nat.le_of_ble_eq_true rfl) (CI_mono hP (fun r3 h2 hP => ?_))
  obtain ⟨⟨v4_0, v4_1, v4_2, v4_3⟩, hP⟩ := hP
  refine E_aload_n 2 2 dL_law_823 rfl rfl ?_
  refine E_aload_n 0 0 dL_law_824 rfl rfl ?_
  refine E_iload_n 3 3 dL_law_825 rfl rfl ?_
  refine E_iconst dL_law_826 (rg_of rfl) ?_
  refine E_iadd dL_law_827 (rgI v4_0) ?_
  refine E_sld dL_law_828 rfl v4_1.1 v4_1.2 ?_
  refine E_aload_n 0 0 dL_law_829 rfl rfl ?_
  refine E_iload_n 3 3 dL_law_830 rfl rfl ?_
  refine E_iconst dL_law_831 (rg_of rfl) ?_
  refine E_iadd dL_law_832 (rgI v4_2) ?_
  refine E_sld dL_law_833 rfl v4_3.1 v4_3.2 ?_
  refine E_invVI [vi ((xs ((l3 + 1)).toNat).toInt), vi ((xs ((l3 + 2)).toNat).toInt)] dL_law_834 fX11_isSelector lL_105 ic_103 rfl (by decide) rfl rfl (Nat.le_of_ble_eq_true rfl) (CI_mono hP (fun r6 h5 hP => ?_))
  refine E_icmp_eq 1608 dL_law_837 rfl (fun hc => ?_) (fun hc => ?_)
  · replace hP := hP.1 (hc)
    exact hP
  · replace hP := hP.2 (by omega)
    refine E_iconst dL_law_840 (rg_of rfl) ?_
    exact E_retZ dL_law_841 rfl (Or.inl rfl) hP
theorem sL_842 {b L : Nat} {xs : Nat → Int32} (hL : L < 2147483648) {Q : Int → Hp → Prop} {h : Hp} {l3 : Int}
    (hP : (rj (l3 + 1) ∧ ix (l3 + 1) L) ∧
    CI 3 mX10_countSorted [vr 68, vi ((xs ((l3 + 1)).toNat).toInt)] h (fun r3 h2 =>
     (rj (l3 + 1) ∧ ix (l3 + 1) L) ∧
     CI 3 mX11_countSorted [vr 103, vi ((xs ((l3 + 1)).toNat).toInt)] h2 (fun r6 h5 =>
      ((r3 = r6) →
       E 20 (mLaw b L xs) 1608 [(0, vr 130), (1, vr 68), (2, vr 103), (3, vi l3)] [] h5 (qi Q)) ∧
      ((r3 ≠ r6) →
       Q 0 h5)))) :
    E 20 (mLaw b L xs) 842 [(0, vr 130), (1, vr 68), (2, vr 103), (3, vi l3)] [] h (qi Q) := by
  obtain ⟨⟨v1_0, v1_1⟩, hP⟩ := hP
  refine E_aload_n 1 1 dL_law_842 rfl rfl ?_
  refine E_aload_n 0 0 dL_law_843 rfl rfl ?_
  refine E_iload_n 3 3 dL_law_844 rfl rfl ?_
  refine E_iconst dL_law_845 (rg_of rfl) ?_
  refine E_iadd dL_law_846 (rgI v1_0) ?_
  refine E_sld dL_law_847 rfl v1_1.1 v1_1.2 ?_
  refine E_invVI [vi ((xs ((l3 + 1)).toNat).toInt)] dL_law_848 fX10_countSorted lL_106 ic_68 rfl (by decide) rfl rfl (Nat.le_of_ble_eq_true rfl) (CI_mono hP (fun r3 h2 hP => ?_))
  obtain ⟨⟨v4_0, v4_1⟩, hP⟩ := hP
  refine E_aload_n 2 2 dL_law_851 rfl rfl ?_
  refine E_aload_n 0 0 dL_law_852 rfl rfl ?_
  refine E_iload_n 3 3 dL_law_853 rfl rfl ?_
  refine E_iconst dL_law_854 (rg_of rfl) ?_
  refine E_iadd dL_law_855 (rgI v4_0) ?_
  refine E_sld dL_law_856 rfl v4_1.1 v4_1.2 ?_
  refine E_invVI [vi ((xs ((l3 + 1)).toNat).toInt)] dL_law_857 fX11_countSorted lL_109 ic_103 rfl (by decide) rfl rfl (Nat.le_of_ble_eq_true rfl) (CI_mono hP (fun r6 h5 hP => ?_))
  refine E_icmp_eq 1608 dL_law_860 rfl (fun hc => ?_) (fun hc => ?_)
  · replace hP := hP.1 (hc)
    exact hP
  · replace hP := hP.2 (by omega)
    refine E_iconst dL_law_863 (rg_of rfl) ?_
    exact E_retZ dL_law_864 rfl (Or.inl rfl) hP
theorem sL_865 {b L : Nat} {xs : Nat → Int32} (hL : L < 2147483648) {Q : Int → Hp → Prop} {h : Hp} {l3 : Int}
    (hP : (rj (l3 + 1) ∧ ix (l3 + 1) L) ∧
    CI 3 mX10_firstUnsorted [vr 68, vi ((xs ((l3 + 1)).toNat).toInt)] h (fun r3 h2 =>
     (rj (l3 + 1) ∧ ix (l3 + 1) L) ∧
     CI 3 mX11_firstUnsorted [vr 103, vi ((xs ((l3 + 1)).toNat).toInt)] h2 (fun r6 h5 =>
      ((r3 = r6) →
       E 20 (mLaw b L xs) 1608 [(0, vr 130), (1, vr 68), (2, vr 103), (3, vi l3)] [] h5 (qi Q)) ∧
      ((r3 ≠ r6) →
       Q 0 h5)))) :
    E 20 (mLaw b L xs) 865 [(0, vr 130), (1, vr 68), (2, vr 103), (3, vi l3)] [] h (qi Q) := by
  obtain ⟨⟨v1_0, v1_1⟩, hP⟩ := hP
  refine E_aload_n 1 1 dL_law_865 rfl rfl ?_
  refine E_aload_n 0 0 dL_law_866 rfl rfl ?_
  refine E_iload_n 3 3 dL_law_867 rfl rfl ?_
  refine E_iconst dL_law_868 (rg_of rfl) ?_
  refine E_iadd dL_law_869 (rgI v1_0) ?_
  refine E_sld dL_law_870 rfl v1_1.1 v1_1.2 ?_
  refine E_invVI [vi ((xs ((l3 + 1)).toNat).toInt)] dL_law_871 fX10_firstUnsorted lL_110 ic_68 rfl (by decide) rfl rfl (Nat.le_of_ble_eq_true rfl) (CI_mono hP (fun r3 h2 hP => ?_))
  obtain ⟨⟨v4_0, v4_1⟩, hP⟩ := hP
  refine E_aload_n 2 2 dL_law_874 rfl rfl ?_
  refine E_aload_n 0 0 dL_law_875 rfl rfl ?_
  refine E_iload_n 3 3 dL_law_876 rfl rfl ?_
  refine E_iconst dL_law_877 (rg_of rfl) ?_
  refine E_iadd dL_law_878 (rgI v4_0) ?_
  refine E_sld dL_law_879 rfl v4_1.1 v4_1.2 ?_
  refine E_invVI [vi ((xs ((l3 + 1)).toNat).toInt)] dL_law_880 fX11_firstUnsorted lL_113 ic_103 rfl (by decide) rfl rfl (Nat.le_of_ble_eq_true rfl) (CI_mono hP (fun r6 h5 hP => ?_))
  refine E_icmp_eq 1608 dL_law_883 rfl (fun hc => ?_) (fun hc => ?_)
  · replace hP := hP.1 (hc)
    exact hP
  · replace hP := hP.2 (by omega)
    refine E_iconst dL_law_886 (rg_of rfl) ?_
    exact E_retZ dL_law_887 rfl (Or.inl rfl) hP
theorem sL_888 {b L : Nat} {xs : Nat → Int32} (hL : L < 2147483648) {Q : Int → Hp → Prop} {h : Hp} {l3 : Int}
    (hP : (rj (l3 + 1) ∧ ix (l3 + 1) L) ∧
    CL 4 mX10_totalExchanges [vr 68, vi ((xs ((l3 + 1)).toNat).toInt)] h (fun r3 h2 =>
     (rj (l3 + 1) ∧ ix (l3 + 1) L) ∧
     CL 3 mX11_totalExchanges [vr 103, vi ((xs ((l3 + 1)).toNat).toInt)] h2 (fun r6 h5 =>
      (((j_lcmp r3 r6) = 0) →
       E 20 (mLaw b L xs) 1608 [(0, vr 130), (1, vr 68), (2, vr 103), (3, vi l3)] [] h5 (qi Q)) ∧
      (((j_lcmp r3 r6) ≠ 0) →
       Q 0 h5)))) :
    E 20 (mLaw b L xs) 888 [(0, vr 130), (1, vr 68), (2, vr 103), (3, vi l3)] [] h (qi Q) := by
  obtain ⟨⟨v1_0, v1_1⟩, hP⟩ := hP
  refine E_aload_n 1 1 dL_law_888 rfl rfl ?_
  refine E_aload_n 0 0 dL_law_889 rfl rfl ?_
  refine E_iload_n 3 3 dL_law_890 rfl rfl ?_
  refine E_iconst dL_law_891 (rg_of rfl) ?_
  refine E_iadd dL_law_892 (rgI v1_0) ?_
  refine E_sld dL_law_893 rfl v1_1.1 v1_1.2 ?_
  refine E_invVL [vi ((xs ((l3 + 1)).toNat).toInt)] dL_law_894 fX10_totalExchanges lL_114 ic_68 rfl (by decide) rfl rfl (Nat.le_of_ble_eq_true rfl) (CL_mono hP (fun r3 h2 hP => ?_))
  obtain ⟨⟨v4_0, v4_1⟩, hP⟩ := hP
  refine E_aload_n 2 2 dL_law_897 rfl rfl ?_
  refine E_aload_n 0 0 dL_law_898 rfl rfl ?_
  refine E_iload_n 3 3 dL_law_899 rfl rfl ?_
  refine E_iconst dL_law_900 (rg_of rfl) ?_
  refine E_iadd dL_law_901 (rgI v4_0) ?_
  refine E_sld dL_law_902 rfl v4_1.1 v4_1.2 ?_
  refine E_invVL [vi ((xs ((l3 + 1)).toNat).toInt)] dL_law_903 fX11_totalExchanges lL_118 ic_103 rfl (by decide) rfl rfl (Nat.le_of_ble_eq_true rfl) (CL_mono hP (fun r6 h5 hP => ?_))
  refine E_lcmp dL_law_906 ?_
  refine E_if_eq 1608 dL_law_907 rfl (fun hc => ?_) (fun hc => ?_)
  · replace hP := hP.1 (hc)
    exact hP
  · replace hP := hP.2 (by omega)
    refine E_iconst dL_law_910 (rg_of rfl) ?_
    exact E_retZ dL_law_911 rfl (Or.inl rfl) hP
theorem sL_912 {b L : Nat} {xs : Nat → Int32} (hL : L < 2147483648) {Q : Int → Hp → Prop} {h : Hp} {l3 : Int}
    (hP : (rj (l3 + 1) ∧ ix (l3 + 1) L) ∧
    CI 4 mX10_mostExchanges [vr 68, vi ((xs ((l3 + 1)).toNat).toInt)] h (fun r3 h2 =>
     (rj (l3 + 1) ∧ ix (l3 + 1) L) ∧
     CI 3 mX11_mostExchanges [vr 103, vi ((xs ((l3 + 1)).toNat).toInt)] h2 (fun r6 h5 =>
      ((r3 = r6) →
       E 20 (mLaw b L xs) 1608 [(0, vr 130), (1, vr 68), (2, vr 103), (3, vi l3)] [] h5 (qi Q)) ∧
      ((r3 ≠ r6) →
       Q 0 h5)))) :
    E 20 (mLaw b L xs) 912 [(0, vr 130), (1, vr 68), (2, vr 103), (3, vi l3)] [] h (qi Q) := by
  obtain ⟨⟨v1_0, v1_1⟩, hP⟩ := hP
  refine E_aload_n 1 1 dL_law_912 rfl rfl ?_
  refine E_aload_n 0 0 dL_law_913 rfl rfl ?_
  refine E_iload_n 3 3 dL_law_914 rfl rfl ?_
  refine E_iconst dL_law_915 (rg_of rfl) ?_
  refine E_iadd dL_law_916 (rgI v1_0) ?_
  refine E_sld dL_law_917 rfl v1_1.1 v1_1.2 ?_
  refine E_invVI [vi ((xs ((l3 + 1)).toNat).toInt)] dL_law_918 fX10_mostExchanges lL_119 ic_68 rfl (by decide) rfl rfl (Nat.le_of_ble_eq_true rfl) (CI_mono hP (fun r3 h2 hP => ?_))
  obtain ⟨⟨v4_0, v4_1⟩, hP⟩ := hP
  refine E_aload_n 2 2 dL_law_921 rfl rfl ?_
  refine E_aload_n 0 0 dL_law_922 rfl rfl ?_
  refine E_iload_n 3 3 dL_law_923 rfl rfl ?_
  refine E_iconst dL_law_924 (rg_of rfl) ?_
  refine E_iadd dL_law_925 (rgI v4_0) ?_
  refine E_sld dL_law_926 rfl v4_1.1 v4_1.2 ?_
  refine E_invVI [vi ((xs ((l3 + 1)).toNat).toInt)] dL_law_927 fX11_mostExchanges lL_122 ic_103 rfl (by decide) rfl rfl (Nat.le_of_ble_eq_true rfl) (CI_mono hP (fun r6 h5 hP => ?_))
  refine E_icmp_eq 1608 dL_law_930 rfl (fun hc => ?_) (fun hc => ?_)
  · replace hP := hP.1 (hc)
    exact hP
  · replace hP := hP.2 (by omega)
    refine E_iconst dL_law_933 (rg_of rfl) ?_
    exact E_retZ dL_law_934 rfl (Or.inl rfl) hP
theorem sL_935 {b L : Nat} {xs : Nat → Int32} (hL : L < 2147483648) {Q : Int → Hp → Prop} {h : Hp} {l3 : Int}
    (hP : (rj (l3 + 1) ∧ ix (l3 + 1) L ∧ rj (l3 + 2) ∧ ix (l3 + 2) L) ∧
    CI 2 mX10_isRedundant [vr 68, vi ((xs ((l3 + 1)).toNat).toInt), vi ((xs ((l3 + 2)).toNat).toInt)] h (fun r3 h2 =>
     (rj (l3 + 1) ∧ ix (l3 + 1) L ∧ rj (l3 + 2) ∧ ix (l3 + 2) L) ∧
     CI 3 mX11_isRedundant [vr 103, vi ((xs ((l3 + 1)).toNat).toInt), vi ((xs ((l3 + 2)).toNat).toInt)] h2 (fun r6 h5 =>
      ((r3 = r6) →
       E 20 (mLaw b L xs) 1608 [(0, vr 130), (1, vr 68), (2, vr 103), (3, vi l3)] [] h5 (qi Q)) ∧
      ((r3 ≠ r6) →
       Q 0 h5)))) :
    E 20 (mLaw b L xs) 935 [(0, vr 130), (1, vr 68), (2, vr 103), (3, vi l3)] [] h (qi Q) := by
  obtain ⟨⟨v1_0, v1_1, v1_2, v1_3⟩, hP⟩ := hP
  refine E_aload_n 1 1 dL_law_935 rfl rfl ?_
  refine E_aload_n 0 0 dL_law_936 rfl rfl ?_
  refine E_iload_n 3 3 dL_law_937 rfl rfl ?_
  refine E_iconst dL_law_938 (rg_of rfl) ?_
  refine E_iadd dL_law_939 (rgI v1_0) ?_
  refine E_sld dL_law_940 rfl v1_1.1 v1_1.2 ?_
  refine E_aload_n 0 0 dL_law_941 rfl rfl ?_
  refine E_iload_n 3 3 dL_law_942 rfl rfl ?_
  refine E_iconst dL_law_943 (rg_of rfl) ?_
  refine E_iadd dL_law_944 (rgI v1_2) ?_
  refine E_sld dL_law_945 rfl v1_3.1 v1_3.2 ?_
  refine E_invVI [vi ((xs ((l3 + 1)).toNat).toInt), vi ((xs ((l3 + 2)).toNat).toInt)] dL_law_946 fX10_isRedundant lL_123 ic_68 rfl (by decide) rfl rfl (Nat.le_of_ble_eq_true rfl) (CI_mono hP (fun r3 h2 hP => ?_))
  obtain ⟨⟨v4_0, v4_1, v4_2, v4_3⟩, hP⟩ := hP
  refine E_aload_n 2 2 dL_law_949 rfl rfl ?_
  refine E_aload_n 0 0 dL_law_950 rfl rfl ?_
  refine E_iload_n 3 3 dL_law_951 rfl rfl ?_
  refine E_iconst dL_law_952 (rg_of rfl) ?_
  refine E_iadd dL_law_953 (rgI v4_0) ?_
  refine E_sld dL_law_954 rfl v4_1.1 v4_1.2 ?_
  refine E_aload_n 0 0 dL_law_955 rfl rfl ?_
  refine E_iload_n 3 3 dL_law_956 rfl rfl ?_
  refine E_iconst dL_law_957 (rg_of rfl) ?_
  refine E_iadd dL_law_958 (rgI v4_2) ?_
  refine E_sld dL_law_959 rfl v4_3.1 v4_3.2 ?_
  refine E_invVI [vi ((xs ((l3 + 1)).toNat).toInt), vi ((xs ((l3 + 2)).toNat).toInt)] dL_law_960 fX11_isRedundant lL_126 ic_103 rfl (by decide) rfl rfl (Nat.le_of_ble_eq_true rfl) (CI_mono hP (fun r6 h5 hP => ?_))
  refine E_icmp_eq 1608 dL_law_963 rfl (fun hc => ?_) (fun hc => ?_)
  · replace hP := hP.1 (hc)
    exact hP
  · replace hP := hP.2 (by omega)
    refine E_iconst dL_law_966 (rg_of rfl) ?_
    exact E_retZ dL_law_967 rfl (Or.inl rfl) hP
theorem sL_968 {b L : Nat} {xs : Nat → Int32} (hL : L < 2147483648) {Q : Int → Hp → Prop} {h : Hp} {l3 : Int}
    (hP : (rj (l3 + 1) ∧ ix (l3 + 1) L) ∧
    CI 7 mX10_prune [vr 68, vi ((xs ((l3 + 1)).toNat).toInt)] h (fun r3 h2 =>
     (rj (l3 + 1) ∧ ix (l3 + 1) L) ∧
     CI 2 mX11_prune [vr 103, vi ((xs ((l3 + 1)).toNat).toInt)] h2 (fun r6 h5 =>
      ((r3 = r6) →
       E 20 (mLaw b L xs) 1608 [(0, vr 130), (1, vr 68), (2, vr 103), (3, vi l3)] [] h5 (qi Q)) ∧
      ((r3 ≠ r6) →
       Q 0 h5)))) :
    E 20 (mLaw b L xs) 968 [(0, vr 130), (1, vr 68), (2, vr 103), (3, vi l3)] [] h (qi Q) := by
  obtain ⟨⟨v1_0, v1_1⟩, hP⟩ := hP
  refine E_aload_n 1 1 dL_law_968 rfl rfl ?_
  refine E_aload_n 0 0 dL_law_969 rfl rfl ?_
  refine E_iload_n 3 3 dL_law_970 rfl rfl ?_
  refine E_iconst dL_law_971 (rg_of rfl) ?_
  refine E_iadd dL_law_972 (rgI v1_0) ?_
  refine E_sld dL_law_973 rfl v1_1.1 v1_1.2 ?_
  refine E_invVI [vi ((xs ((l3 + 1)).toNat).toInt)] dL_law_974 fX10_prune lL_127 ic_68 rfl (by decide) rfl rfl (Nat.le_of_ble_eq_true rfl) (CI_mono hP (fun r3 h2 hP => ?_))
  obtain ⟨⟨v4_0, v4_1⟩, hP⟩ := hP
  refine E_aload_n 2 2 dL_law_977 rfl rfl ?_
  refine E_aload_n 0 0 dL_law_978 rfl rfl ?_
  refine E_iload_n 3 3 dL_law_979 rfl rfl ?_
  refine E_iconst dL_law_980 (rg_of rfl) ?_
  refine E_iadd dL_law_981 (rgI v4_0) ?_
  refine E_sld dL_law_982 rfl v4_1.1 v4_1.2 ?_
  refine E_invVI [vi ((xs ((l3 + 1)).toNat).toInt)] dL_law_983 fX11_prune lL_130 ic_103 rfl (by decide) rfl rfl (Nat.le_of_ble_eq_true rfl) (CI_mono hP (fun r6 h5 hP => ?_))
  refine E_icmp_eq 1608 dL_law_986 rfl (fun hc => ?_) (fun hc => ?_)
  · replace hP := hP.1 (hc)
    exact hP
  · replace hP := hP.2 (by omega)
    refine E_iconst dL_law_989 (rg_of rfl) ?_
    exact E_retZ dL_law_990 rfl (Or.inl rfl) hP
theorem sL_991 {b L : Nat} {xs : Nat → Int32} (hL : L < 2147483648) {Q : Int → Hp → Prop} {h : Hp} {l3 : Int}
    (hP : (rj (l3 + 1) ∧ ix (l3 + 1) L) ∧
    CI 7 mX10_reduce [vr 68, vi ((xs ((l3 + 1)).toNat).toInt)] h (fun r3 h2 =>
     (rj (l3 + 1) ∧ ix (l3 + 1) L) ∧
     CI 2 mX11_reduce [vr 103, vi ((xs ((l3 + 1)).toNat).toInt)] h2 (fun r6 h5 =>
      ((r3 = r6) →
       E 20 (mLaw b L xs) 1608 [(0, vr 130), (1, vr 68), (2, vr 103), (3, vi l3)] [] h5 (qi Q)) ∧
      ((r3 ≠ r6) →
       Q 0 h5)))) :
    E 20 (mLaw b L xs) 991 [(0, vr 130), (1, vr 68), (2, vr 103), (3, vi l3)] [] h (qi Q) := by
  obtain ⟨⟨v1_0, v1_1⟩, hP⟩ := hP
  refine E_aload_n 1 1 dL_law_991 rfl rfl ?_
  refine E_aload_n 0 0 dL_law_992 rfl rfl ?_
  refine E_iload_n 3 3 dL_law_993 rfl rfl ?_
  refine E_iconst dL_law_994 (rg_of rfl) ?_
  refine E_iadd dL_law_995 (rgI v1_0) ?_
  refine E_sld dL_law_996 rfl v1_1.1 v1_1.2 ?_
  refine E_invVI [vi ((xs ((l3 + 1)).toNat).toInt)] dL_law_997 fX10_reduce lL_131 ic_68 rfl (by decide) rfl rfl (Nat.le_of_ble_eq_true rfl) (CI_mono hP (fun r3 h2 hP => ?_))
  obtain ⟨⟨v4_0, v4_1⟩, hP⟩ := hP
  refine E_aload_n 2 2 dL_law_1000 rfl rfl ?_
  refine E_aload_n 0 0 dL_law_1001 rfl rfl ?_
  refine E_iload_n 3 3 dL_law_1002 rfl rfl ?_
  refine E_iconst dL_law_1003 (rg_of rfl) ?_
  refine E_iadd dL_law_1004 (rgI v4_0) ?_
  refine E_sld dL_law_1005 rfl v4_1.1 v4_1.2 ?_
  refine E_invVI [vi ((xs ((l3 + 1)).toNat).toInt)] dL_law_1006 fX11_reduce lL_134 ic_103 rfl (by decide) rfl rfl (Nat.le_of_ble_eq_true rfl) (CI_mono hP (fun r6 h5 hP => ?_))
  refine E_icmp_eq 1608 dL_law_1009 rfl (fun hc => ?_) (fun hc => ?_)
  · replace hP := hP.1 (hc)
    exact hP
  · replace hP := hP.2 (by omega)
    refine E_iconst dL_law_1012 (rg_of rfl) ?_
    exact E_retZ dL_law_1013 rfl (Or.inl rfl) hP
theorem sL_1014 {b L : Nat} {xs : Nat → Int32} (hL : L < 2147483648) {Q : Int → Hp → Prop} {h : Hp} {l3 : Int}
    (hP : (rj (l3 + 1) ∧ ix (l3 + 1) L) ∧
    CI 6 mX10_standardize [vr 68, vi ((xs ((l3 + 1)).toNat).toInt)] h (fun r3 h2 =>
     (rj (l3 + 1) ∧ ix (l3 + 1) L) ∧
     CI 2 mX11_standardize [vr 103, vi ((xs ((l3 + 1)).toNat).toInt)] h2 (fun r6 h5 =>
      ((r3 = r6) →
       E 20 (mLaw b L xs) 1608 [(0, vr 130), (1, vr 68), (2, vr 103), (3, vi l3)] [] h5 (qi Q)) ∧
      ((r3 ≠ r6) →
       Q 0 h5)))) :
    E 20 (mLaw b L xs) 1014 [(0, vr 130), (1, vr 68), (2, vr 103), (3, vi l3)] [] h (qi Q) := by
  obtain ⟨⟨v1_0, v1_1⟩, hP⟩ := hP
  refine E_aload_n 1 1 dL_law_1014 rfl rfl ?_
  refine E_aload_n 0 0 dL_law_1015 rfl rfl ?_
  refine E_iload_n 3 3 dL_law_1016 rfl rfl ?_
  refine E_iconst dL_law_1017 (rg_of rfl) ?_
  refine E_iadd dL_law_1018 (rgI v1_0) ?_
  refine E_sld dL_law_1019 rfl v1_1.1 v1_1.2 ?_
  refine E_invVI [vi ((xs ((l3 + 1)).toNat).toInt)] dL_law_1020 fX10_standardize lL_135 ic_68 rfl (by decide) rfl rfl (Nat.le_of_ble_eq_true rfl) (CI_mono hP (fun r3 h2 hP => ?_))
  obtain ⟨⟨v4_0, v4_1⟩, hP⟩ := hP
  refine E_aload_n 2 2 dL_law_1023 rfl rfl ?_
  refine E_aload_n 0 0 dL_law_1024 rfl rfl ?_
  refine E_iload_n 3 3 dL_law_1025 rfl rfl ?_
  refine E_iconst dL_law_1026 (rg_of rfl) ?_
  refine E_iadd dL_law_1027 (rgI v4_0) ?_
  refine E_sld dL_law_1028 rfl v4_1.1 v4_1.2 ?_
  refine E_invVI [vi ((xs ((l3 + 1)).toNat).toInt)] dL_law_1029 fX11_standardize lL_138 ic_103 rfl (by decide) rfl rfl (Nat.le_of_ble_eq_true rfl) (CI_mono hP (fun r6 h5 hP => ?_))
  refine E_icmp_eq 1608 dL_law_1032 rfl (fun hc => ?_) (fun hc => ?_)
  · replace hP := hP.1 (hc)
    exact hP
  · replace hP := hP.2 (by omega)
    refine E_iconst dL_law_1035 (rg_of rfl) ?_
    exact E_retZ dL_law_1036 rfl (Or.inl rfl) hP
theorem sL_1037 {b L : Nat} {xs : Nat → Int32} (hL : L < 2147483648) {Q : Int → Hp → Prop} {h : Hp} {l3 : Int}
    (hP : (rj (l3 + 1) ∧ ix (l3 + 1) L) ∧
    CI 6 mX10_mirror [vr 68, vi ((xs ((l3 + 1)).toNat).toInt)] h (fun r3 h2 =>
     (rj (l3 + 1) ∧ ix (l3 + 1) L) ∧
     CI 2 mX11_mirror [vr 103, vi ((xs ((l3 + 1)).toNat).toInt)] h2 (fun r6 h5 =>
      ((r3 = r6) →
       E 20 (mLaw b L xs) 1608 [(0, vr 130), (1, vr 68), (2, vr 103), (3, vi l3)] [] h5 (qi Q)) ∧
      ((r3 ≠ r6) →
       Q 0 h5)))) :
    E 20 (mLaw b L xs) 1037 [(0, vr 130), (1, vr 68), (2, vr 103), (3, vi l3)] [] h (qi Q) := by
  obtain ⟨⟨v1_0, v1_1⟩, hP⟩ := hP
  refine E_aload_n 1 1 dL_law_1037 rfl rfl ?_
  refine E_aload_n 0 0 dL_law_1038 rfl rfl ?_
  refine E_iload_n 3 3 dL_law_1039 rfl rfl ?_
  refine E_iconst dL_law_1040 (rg_of rfl) ?_
  refine E_iadd dL_law_1041 (rgI v1_0) ?_
  refine E_sld dL_law_1042 rfl v1_1.1 v1_1.2 ?_
  refine E_invVI [vi ((xs ((l3 + 1)).toNat).toInt)] dL_law_1043 fX10_mirror lL_139 ic_68 rfl (by decide) rfl rfl (Nat.le_of_ble_eq_true rfl) (CI_mono hP (fun r3 h2 hP => ?_))
  obtain ⟨⟨v4_0, v4_1⟩, hP⟩ := hP
  refine E_aload_n 2 2 dL_law_1046 rfl rfl ?_
  refine E_aload_n 0 0 dL_law_1047 rfl rfl ?_
  refine E_iload_n 3 3 dL_law_1048 rfl rfl ?_
  refine E_iconst dL_law_1049 (rg_of rfl) ?_
  refine E_iadd dL_law_1050 (rgI v4_0) ?_
  refine E_sld dL_law_1051 rfl v4_1.1 v4_1.2 ?_
  refine E_invVI [vi ((xs ((l3 + 1)).toNat).toInt)] dL_law_1052 fX11_mirror lL_142 ic_103 rfl (by decide) rfl rfl (Nat.le_of_ble_eq_true rfl) (CI_mono hP (fun r6 h5 hP => ?_))
  refine E_icmp_eq 1608 dL_law_1055 rfl (fun hc => ?_) (fun hc => ?_)
  · replace hP := hP.1 (hc)
    exact hP
  · replace hP := hP.2 (by omega)
    refine E_iconst dL_law_1058 (rg_of rfl) ?_
    exact E_retZ dL_law_1059 rfl (Or.inl rfl) hP
theorem sL_1060 {b L : Nat} {xs : Nat → Int32} (hL : L < 2147483648) {Q : Int → Hp → Prop} {h : Hp} {l3 : Int}
    (hP : (rj (l3 + 1) ∧ ix (l3 + 1) L ∧ rj (l3 + 2) ∧ ix (l3 + 2) L ∧ rj (l3 + 3) ∧ ix (l3 + 3) L) ∧
    CI 4 mX10_candidate [vr 68, vi ((xs ((l3 + 1)).toNat).toInt), vi ((xs ((l3 + 2)).toNat).toInt), vi ((xs ((l3 + 3)).toNat).toInt)] h (fun r3 h2 =>
     (rj (l3 + 1) ∧ ix (l3 + 1) L ∧ rj (l3 + 2) ∧ ix (l3 + 2) L ∧ rj (l3 + 3) ∧ ix (l3 + 3) L) ∧
     CI 3 mX11_candidate [vr 103, vi ((xs ((l3 + 1)).toNat).toInt), vi ((xs ((l3 + 2)).toNat).toInt), vi ((xs ((l3 + 3)).toNat).toInt)] h2 (fun r6 h5 =>
      ((r3 = r6) →
       E 20 (mLaw b L xs) 1608 [(0, vr 130), (1, vr 68), (2, vr 103), (3, vi l3)] [] h5 (qi Q)) ∧
      ((r3 ≠ r6) →
       Q 0 h5)))) :
    E 20 (mLaw b L xs) 1060 [(0, vr 130), (1, vr 68), (2, vr 103), (3, vi l3)] [] h (qi Q) := by
  obtain ⟨⟨v1_0, v1_1, v1_2, v1_3, v1_4, v1_5⟩, hP⟩ := hP
  refine E_aload_n 1 1 dL_law_1060 rfl rfl ?_
  refine E_aload_n 0 0 dL_law_1061 rfl rfl ?_
  refine E_iload_n 3 3 dL_law_1062 rfl rfl ?_
  refine E_iconst dL_law_1063 (rg_of rfl) ?_
  refine E_iadd dL_law_1064 (rgI v1_0) ?_
  refine E_sld dL_law_1065 rfl v1_1.1 v1_1.2 ?_
  refine E_aload_n 0 0 dL_law_1066 rfl rfl ?_
  refine E_iload_n 3 3 dL_law_1067 rfl rfl ?_
  refine E_iconst dL_law_1068 (rg_of rfl) ?_
  refine E_iadd dL_law_1069 (rgI v1_2) ?_
  refine E_sld dL_law_1070 rfl v1_3.1 v1_3.2 ?_
  refine E_aload_n 0 0 dL_law_1071 rfl rfl ?_
  refine E_iload_n 3 3 dL_law_1072 rfl rfl ?_
  refine E_iconst dL_law_1073 (rg_of rfl) ?_
  refine E_iadd dL_law_1074 (rgI v1_4) ?_
  refine E_sld dL_law_1075 rfl v1_5.1 v1_5.2 ?_
  refine E_invVI [vi ((xs ((l3 + 1)).toNat).toInt), vi ((xs ((l3 + 2)).toNat).toInt), vi ((xs ((l3 + 3)).toNat).toInt)] dL_law_1076 fX10_candidate lL_143 ic_68 rfl (by decide) rfl rfl (Nat.le_of_ble_eq_true rfl) (CI_mono hP (fun r3 h2 hP => ?_))
  obtain ⟨⟨v4_0, v4_1, v4_2, v4_3, v4_4, v4_5⟩, hP⟩ := hP
  refine E_aload_n 2 2 dL_law_1079 rfl rfl ?_
  refine E_aload_n 0 0 dL_law_1080 rfl rfl ?_
  refine E_iload_n 3 3 dL_law_1081 rfl rfl ?_
  refine E_iconst dL_law_1082 (rg_of rfl) ?_
  refine E_iadd dL_law_1083 (rgI v4_0) ?_
  refine E_sld dL_law_1084 rfl v4_1.1 v4_1.2 ?_
  refine E_aload_n 0 0 dL_law_1085 rfl rfl ?_
  refine E_iload_n 3 3 dL_law_1086 rfl rfl ?_
  refine E_iconst dL_law_1087 (rg_of rfl) ?_
  refine E_iadd dL_law_1088 (rgI v4_2) ?_
  refine E_sld dL_law_1089 rfl v4_3.1 v4_3.2 ?_
  refine E_aload_n 0 0 dL_law_1090 rfl rfl ?_
  refine E_iload_n 3 3 dL_law_1091 rfl rfl ?_
  refine E_iconst dL_law_1092 (rg_of rfl) ?_
  refine E_iadd dL_law_1093 (rgI v4_4) ?_
  refine E_sld dL_law_1094 rfl v4_5.1 v4_5.2 ?_
  refine E_invVI [vi ((xs ((l3 + 1)).toNat).toInt), vi ((xs ((l3 + 2)).toNat).toInt), vi ((xs ((l3 + 3)).toNat).toInt)] dL_law_1095 fX11_candidate lL_146 ic_103 rfl (by decide) rfl rfl (Nat.le_of_ble_eq_true rfl) (CI_mono hP (fun r6 h5 hP => ?_))
  refine E_icmp_eq 1608 dL_law_1098 rfl (fun hc => ?_) (fun hc => ?_)
  · replace hP := hP.1 (hc)
    exact hP
  · replace hP := hP.2 (by omega)
    refine E_iconst dL_law_1101 (rg_of rfl) ?_
    exact E_retZ dL_law_1102 rfl (Or.inl rfl) hP
theorem sL_1103 {b L : Nat} {xs : Nat → Int32} (hL : L < 2147483648) {Q : Int → Hp → Prop} {h : Hp} {l3 : Int}
    (hP : (rj (l3 + 1) ∧ ix (l3 + 1) L) ∧
    CI 6 mX10_grow [vr 68, vi ((xs ((l3 + 1)).toNat).toInt)] h (fun r3 h2 =>
     (rj (l3 + 1) ∧ ix (l3 + 1) L) ∧
     CI 3 mX11_grow [vr 103, vi ((xs ((l3 + 1)).toNat).toInt)] h2 (fun r6 h5 =>
      ((r3 = r6) →
       E 20 (mLaw b L xs) 1608 [(0, vr 130), (1, vr 68), (2, vr 103), (3, vi l3)] [] h5 (qi Q)) ∧
      ((r3 ≠ r6) →
       Q 0 h5)))) :
    E 20 (mLaw b L xs) 1103 [(0, vr 130), (1, vr 68), (2, vr 103), (3, vi l3)] [] h (qi Q) := by
  obtain ⟨⟨v1_0, v1_1⟩, hP⟩ := hP
  refine E_aload_n 1 1 dL_law_1103 rfl rfl ?_
  refine E_aload_n 0 0 dL_law_1104 rfl rfl ?_
  refine E_iload_n 3 3 dL_law_1105 rfl rfl ?_
  refine E_iconst dL_law_1106 (rg_of rfl) ?_
  refine E_iadd dL_law_1107 (rgI v1_0) ?_
  refine E_sld dL_law_1108 rfl v1_1.1 v1_1.2 ?_
  refine E_invVI [vi ((xs ((l3 + 1)).toNat).toInt)] dL_law_1109 fX10_grow lL_147 ic_68 rfl (by decide) rfl rfl (Nat.le_of_ble_eq_true rfl) (CI_mono hP (fun r3 h2 hP => ?_))
  obtain ⟨⟨v4_0, v4_1⟩, hP⟩ := hP
  refine E_aload_n 2 2 dL_law_1112 rfl rfl ?_
  refine E_aload_n 0 0 dL_law_1113 rfl rfl ?_
  refine E_iload_n 3 3 dL_law_1114 rfl rfl ?_
  refine E_iconst dL_law_1115 (rg_of rfl) ?_
  refine E_iadd dL_law_1116 (rgI v4_0) ?_
  refine E_sld dL_law_1117 rfl v4_1.1 v4_1.2 ?_
  refine E_invVI [vi ((xs ((l3 + 1)).toNat).toInt)] dL_law_1118 fX11_grow lL_150 ic_103 rfl (by decide) rfl rfl (Nat.le_of_ble_eq_true rfl) (CI_mono hP (fun r6 h5 hP => ?_))
  refine E_icmp_eq 1608 dL_law_1121 rfl (fun hc => ?_) (fun hc => ?_)
  · replace hP := hP.1 (hc)
    exact hP
  · replace hP := hP.2 (by omega)
    refine E_iconst dL_law_1124 (rg_of rfl) ?_
    exact E_retZ dL_law_1125 rfl (Or.inl rfl) hP
theorem sL_1126 {b L : Nat} {xs : Nat → Int32} (hL : L < 2147483648) {Q : Int → Hp → Prop} {h : Hp} {l3 : Int}
    (hP : (rj (l3 + 1) ∧ ix (l3 + 1) L ∧ rj (l3 + 2) ∧ ix (l3 + 2) L) ∧
    CI 5 mX10_missing [vr 68, vi ((xs ((l3 + 1)).toNat).toInt), vi ((xs ((l3 + 2)).toNat).toInt)] h (fun r3 h2 =>
     (rj (l3 + 1) ∧ ix (l3 + 1) L ∧ rj (l3 + 2) ∧ ix (l3 + 2) L) ∧
     CI 3 mX11_missing [vr 103, vi ((xs ((l3 + 1)).toNat).toInt), vi ((xs ((l3 + 2)).toNat).toInt)] h2 (fun r6 h5 =>
      ((r3 = r6) →
       E 20 (mLaw b L xs) 1608 [(0, vr 130), (1, vr 68), (2, vr 103), (3, vi l3)] [] h5 (qi Q)) ∧
      ((r3 ≠ r6) →
       Q 0 h5)))) :
    E 20 (mLaw b L xs) 1126 [(0, vr 130), (1, vr 68), (2, vr 103), (3, vi l3)] [] h (qi Q) := by
  obtain ⟨⟨v1_0, v1_1, v1_2, v1_3⟩, hP⟩ := hP
  refine E_aload_n 1 1 dL_law_1126 rfl rfl ?_
  refine E_aload_n 0 0 dL_law_1127 rfl rfl ?_
  refine E_iload_n 3 3 dL_law_1128 rfl rfl ?_
  refine E_iconst dL_law_1129 (rg_of rfl) ?_
  refine E_iadd dL_law_1130 (rgI v1_0) ?_
  refine E_sld dL_law_1131 rfl v1_1.1 v1_1.2 ?_
  refine E_aload_n 0 0 dL_law_1132 rfl rfl ?_
  refine E_iload_n 3 3 dL_law_1133 rfl rfl ?_
  refine E_iconst dL_law_1134 (rg_of rfl) ?_
  refine E_iadd dL_law_1135 (rgI v1_2) ?_
  refine E_sld dL_law_1136 rfl v1_3.1 v1_3.2 ?_
  refine E_invVI [vi ((xs ((l3 + 1)).toNat).toInt), vi ((xs ((l3 + 2)).toNat).toInt)] dL_law_1137 fX10_missing lL_151 ic_68 rfl (by decide) rfl rfl (Nat.le_of_ble_eq_true rfl) (CI_mono hP (fun r3 h2 hP => ?_))
  obtain ⟨⟨v4_0, v4_1, v4_2, v4_3⟩, hP⟩ := hP
  refine E_aload_n 2 2 dL_law_1140 rfl rfl ?_
  refine E_aload_n 0 0 dL_law_1141 rfl rfl ?_
  refine E_iload_n 3 3 dL_law_1142 rfl rfl ?_
  refine E_iconst dL_law_1143 (rg_of rfl) ?_
  refine E_iadd dL_law_1144 (rgI v4_0) ?_
  refine E_sld dL_law_1145 rfl v4_1.1 v4_1.2 ?_
  refine E_aload_n 0 0 dL_law_1146 rfl rfl ?_
  refine E_iload_n 3 3 dL_law_1147 rfl rfl ?_
  refine E_iconst dL_law_1148 (rg_of rfl) ?_
  refine E_iadd dL_law_1149 (rgI v4_2) ?_
  refine E_sld dL_law_1150 rfl v4_3.1 v4_3.2 ?_
  refine E_invVI [vi ((xs ((l3 + 1)).toNat).toInt), vi ((xs ((l3 + 2)).toNat).toInt)] dL_law_1151 fX11_missing lL_154 ic_103 rfl (by decide) rfl rfl (Nat.le_of_ble_eq_true rfl) (CI_mono hP (fun r6 h5 hP => ?_))
  refine E_icmp_eq 1608 dL_law_1154 rfl (fun hc => ?_) (fun hc => ?_)
  · replace hP := hP.1 (hc)
    exact hP
  · replace hP := hP.2 (by omega)
    refine E_iconst dL_law_1157 (rg_of rfl) ?_
    exact E_retZ dL_law_1158 rfl (Or.inl rfl) hP
theorem sL_1159 {b L : Nat} {xs : Nat → Int32} (hL : L < 2147483648) {Q : Int → Hp → Prop} {h : Hp} {l3 : Int}
    (hP : (rj (l3 + 1) ∧ ix (l3 + 1) L ∧ rj (l3 + 2) ∧ ix (l3 + 2) L) ∧
    CI 4 mX10_sameOutputs [vr 68, vi ((xs ((l3 + 1)).toNat).toInt), vi ((xs ((l3 + 2)).toNat).toInt)] h (fun r3 h2 =>
     (rj (l3 + 1) ∧ ix (l3 + 1) L ∧ rj (l3 + 2) ∧ ix (l3 + 2) L) ∧
     CI 3 mX11_sameOutputs [vr 103, vi ((xs ((l3 + 1)).toNat).toInt), vi ((xs ((l3 + 2)).toNat).toInt)] h2 (fun r6 h5 =>
      ((r3 = r6) →
       E 20 (mLaw b L xs) 1608 [(0, vr 130), (1, vr 68), (2, vr 103), (3, vi l3)] [] h5 (qi Q)) ∧
      ((r3 ≠ r6) →
       Q 0 h5)))) :
    E 20 (mLaw b L xs) 1159 [(0, vr 130), (1, vr 68), (2, vr 103), (3, vi l3)] [] h (qi Q) := by
  obtain ⟨⟨v1_0, v1_1, v1_2, v1_3⟩, hP⟩ := hP
  refine E_aload_n 1 1 dL_law_1159 rfl rfl ?_
  refine E_aload_n 0 0 dL_law_1160 rfl rfl ?_
  refine E_iload_n 3 3 dL_law_1161 rfl rfl ?_
  refine E_iconst dL_law_1162 (rg_of rfl) ?_
  refine E_iadd dL_law_1163 (rgI v1_0) ?_
  refine E_sld dL_law_1164 rfl v1_1.1 v1_1.2 ?_
  refine E_aload_n 0 0 dL_law_1165 rfl rfl ?_
  refine E_iload_n 3 3 dL_law_1166 rfl rfl ?_
  refine E_iconst dL_law_1167 (rg_of rfl) ?_
  refine E_iadd dL_law_1168 (rgI v1_2) ?_
  refine E_sld dL_law_1169 rfl v1_3.1 v1_3.2 ?_
  refine E_invVI [vi ((xs ((l3 + 1)).toNat).toInt), vi ((xs ((l3 + 2)).toNat).toInt)] dL_law_1170 fX10_sameOutputs lL_155 ic_68 rfl (by decide) rfl rfl (Nat.le_of_ble_eq_true rfl) (CI_mono hP (fun r3 h2 hP => ?_))
  obtain ⟨⟨v4_0, v4_1, v4_2, v4_3⟩, hP⟩ := hP
  refine E_aload_n 2 2 dL_law_1173 rfl rfl ?_
  refine E_aload_n 0 0 dL_law_1174 rfl rfl ?_
  refine E_iload_n 3 3 dL_law_1175 rfl rfl ?_
  refine E_iconst dL_law_1176 (rg_of rfl) ?_
  refine E_iadd dL_law_1177 (rgI v4_0) ?_
  refine E_sld dL_law_1178 rfl v4_1.1 v4_1.2 ?_
  refine E_aload_n 0 0 dL_law_1179 rfl rfl ?_
  refine E_iload_n 3 3 dL_law_1180 rfl rfl ?_
  refine E_iconst dL_law_1181 (rg_of rfl) ?_
  refine E_iadd dL_law_1182 (rgI v4_2) ?_
  refine E_sld dL_law_1183 rfl v4_3.1 v4_3.2 ?_
  refine E_invVI [vi ((xs ((l3 + 1)).toNat).toInt), vi ((xs ((l3 + 2)).toNat).toInt)] dL_law_1184 fX11_sameOutputs lL_158 ic_103 rfl (by decide) rfl rfl (Nat.le_of_ble_eq_true rfl) (CI_mono hP (fun r6 h5 hP => ?_))
  refine E_icmp_eq 1608 dL_law_1187 rfl (fun hc => ?_) (fun hc => ?_)
  · replace hP := hP.1 (hc)
    exact hP
  · replace hP := hP.2 (by omega)
    refine E_iconst dL_law_1190 (rg_of rfl) ?_
    exact E_retZ dL_law_1191 rfl (Or.inl rfl) hP
theorem sL_1192 {b L : Nat} {xs : Nat → Int32} (hL : L < 2147483648) {Q : Int → Hp → Prop} {h : Hp} {l3 : Int}
    (hP : (rj (l3 + 1) ∧ ix (l3 + 1) L ∧ rj (l3 + 2) ∧ ix (l3 + 2) L) ∧
    CI 2 mX10_isIsomorphic [vr 68, vi ((xs ((l3 + 1)).toNat).toInt), vi ((xs ((l3 + 2)).toNat).toInt)] h (fun r3 h2 =>
     (rj (l3 + 1) ∧ ix (l3 + 1) L ∧ rj (l3 + 2) ∧ ix (l3 + 2) L) ∧
     CI 3 mX11_isIsomorphic [vr 103, vi ((xs ((l3 + 1)).toNat).toInt), vi ((xs ((l3 + 2)).toNat).toInt)] h2 (fun r6 h5 =>
      ((r3 = r6) →
       E 20 (mLaw b L xs) 1608 [(0, vr 130), (1, vr 68), (2, vr 103), (3, vi l3)] [] h5 (qi Q)) ∧
      ((r3 ≠ r6) →
       Q 0 h5)))) :
    E 20 (mLaw b L xs) 1192 [(0, vr 130), (1, vr 68), (2, vr 103), (3, vi l3)] [] h (qi Q) := by
  obtain ⟨⟨v1_0, v1_1, v1_2, v1_3⟩, hP⟩ := hP
  refine E_aload_n 1 1 dL_law_1192 rfl rfl ?_
  refine E_aload_n 0 0 dL_law_1193 rfl rfl ?_
  refine E_iload_n 3 3 dL_law_1194 rfl rfl ?_
  refine E_iconst dL_law_1195 (rg_of rfl) ?_
  refine E_iadd dL_law_1196 (rgI v1_0) ?_
  refine E_sld dL_law_1197 rfl v1_1.1 v1_1.2 ?_
  refine E_aload_n 0 0 dL_law_1198 rfl rfl ?_
  refine E_iload_n 3 3 dL_law_1199 rfl rfl ?_
  refine E_iconst dL_law_1200 (rg_of rfl) ?_
  refine E_iadd dL_law_1201 (rgI v1_2) ?_
  refine E_sld dL_law_1202 rfl v1_3.1 v1_3.2 ?_
  refine E_invVI [vi ((xs ((l3 + 1)).toNat).toInt), vi ((xs ((l3 + 2)).toNat).toInt)] dL_law_1203 fX10_isIsomorphic lL_159 ic_68 rfl (by decide) rfl rfl (Nat.le_of_ble_eq_true rfl) (CI_mono hP (fun r3 h2 hP => ?_))
  obtain ⟨⟨v4_0, v4_1, v4_2, v4_3⟩, hP⟩ := hP
  refine E_aload_n 2 2 dL_law_1206 rfl rfl ?_
  refine E_aload_n 0 0 dL_law_1207 rfl rfl ?_
  refine E_iload_n 3 3 dL_law_1208 rfl rfl ?_
  refine E_iconst dL_law_1209 (rg_of rfl) ?_
  refine E_iadd dL_law_1210 (rgI v4_0) ?_
  refine E_sld dL_law_1211 rfl v4_1.1 v4_1.2 ?_
  refine E_aload_n 0 0 dL_law_1212 rfl rfl ?_
  refine E_iload_n 3 3 dL_law_1213 rfl rfl ?_
  refine E_iconst dL_law_1214 (rg_of rfl) ?_
  refine E_iadd dL_law_1215 (rgI v4_2) ?_
  refine E_sld dL_law_1216 rfl v4_3.1 v4_3.2 ?_
  refine E_invVI [vi ((xs ((l3 + 1)).toNat).toInt), vi ((xs ((l3 + 2)).toNat).toInt)] dL_law_1217 fX11_isIsomorphic lL_162 ic_103 rfl (by decide) rfl rfl (Nat.le_of_ble_eq_true rfl) (CI_mono hP (fun r6 h5 hP => ?_))
  refine E_icmp_eq 1608 dL_law_1220 rfl (fun hc => ?_) (fun hc => ?_)
  · replace hP := hP.1 (hc)
    exact hP
  · replace hP := hP.2 (by omega)
    refine E_iconst dL_law_1223 (rg_of rfl) ?_
    exact E_retZ dL_law_1224 rfl (Or.inl rfl) hP
theorem sL_1225 {b L : Nat} {xs : Nat → Int32} (hL : L < 2147483648) {Q : Int → Hp → Prop} {h : Hp} {l3 : Int}
    (hP : (rj (l3 + 1) ∧ ix (l3 + 1) L ∧ rj (l3 + 2) ∧ ix (l3 + 2) L) ∧
    CI 14 mX10_subsumes [vr 68, vi ((xs ((l3 + 1)).toNat).toInt), vi ((xs ((l3 + 2)).toNat).toInt)] h (fun r3 h2 =>
     (rj (l3 + 1) ∧ ix (l3 + 1) L ∧ rj (l3 + 2) ∧ ix (l3 + 2) L) ∧
     CI 3 mX11_subsumes [vr 103, vi ((xs ((l3 + 1)).toNat).toInt), vi ((xs ((l3 + 2)).toNat).toInt)] h2 (fun r6 h5 =>
      ((r3 = r6) →
       E 20 (mLaw b L xs) 1608 [(0, vr 130), (1, vr 68), (2, vr 103), (3, vi l3)] [] h5 (qi Q)) ∧
      ((r3 ≠ r6) →
       Q 0 h5)))) :
    E 20 (mLaw b L xs) 1225 [(0, vr 130), (1, vr 68), (2, vr 103), (3, vi l3)] [] h (qi Q) := by
  obtain ⟨⟨v1_0, v1_1, v1_2, v1_3⟩, hP⟩ := hP
  refine E_aload_n 1 1 dL_law_1225 rfl rfl ?_
  refine E_aload_n 0 0 dL_law_1226 rfl rfl ?_
  refine E_iload_n 3 3 dL_law_1227 rfl rfl ?_
  refine E_iconst dL_law_1228 (rg_of rfl) ?_
  refine E_iadd dL_law_1229 (rgI v1_0) ?_
  refine E_sld dL_law_1230 rfl v1_1.1 v1_1.2 ?_
  refine E_aload_n 0 0 dL_law_1231 rfl rfl ?_
  refine E_iload_n 3 3 dL_law_1232 rfl rfl ?_
  refine E_iconst dL_law_1233 (rg_of rfl) ?_
  refine E_iadd dL_law_1234 (rgI v1_2) ?_
  refine E_sld dL_law_1235 rfl v1_3.1 v1_3.2 ?_
  refine E_invVI [vi ((xs ((l3 + 1)).toNat).toInt), vi ((xs ((l3 + 2)).toNat).toInt)] dL_law_1236 fX10_subsumes lL_163 ic_68 rfl (by decide) rfl rfl (Nat.le_of_ble_eq_true rfl) (CI_mono hP (fun r3 h2 hP => ?_))
  obtain ⟨⟨v4_0, v4_1, v4_2, v4_3⟩, hP⟩ := hP
  refine E_aload_n 2 2 dL_law_1239 rfl rfl ?_
  refine E_aload_n 0 0 dL_law_1240 rfl rfl ?_
  refine E_iload_n 3 3 dL_law_1241 rfl rfl ?_
  refine E_iconst dL_law_1242 (rg_of rfl) ?_
  refine E_iadd dL_law_1243 (rgI v4_0) ?_
  refine E_sld dL_law_1244 rfl v4_1.1 v4_1.2 ?_
  refine E_aload_n 0 0 dL_law_1245 rfl rfl ?_
  refine E_iload_n 3 3 dL_law_1246 rfl rfl ?_
  refine E_iconst dL_law_1247 (rg_of rfl) ?_
  refine E_iadd dL_law_1248 (rgI v4_2) ?_
  refine E_sld dL_law_1249 rfl v4_3.1 v4_3.2 ?_
  refine E_invVI [vi ((xs ((l3 + 1)).toNat).toInt), vi ((xs ((l3 + 2)).toNat).toInt)] dL_law_1250 fX11_subsumes lL_166 ic_103 rfl (by decide) rfl rfl (Nat.le_of_ble_eq_true rfl) (CI_mono hP (fun r6 h5 hP => ?_))
  refine E_icmp_eq 1608 dL_law_1253 rfl (fun hc => ?_) (fun hc => ?_)
  · replace hP := hP.1 (hc)
    exact hP
  · replace hP := hP.2 (by omega)
    refine E_iconst dL_law_1256 (rg_of rfl) ?_
    exact E_retZ dL_law_1257 rfl (Or.inl rfl) hP
theorem sL_1258 {b L : Nat} {xs : Nat → Int32} (hL : L < 2147483648) {Q : Int → Hp → Prop} {h : Hp} {l3 : Int}
    (hP : (rj (l3 + 1) ∧ ix (l3 + 1) L ∧ rj (l3 + 2) ∧ ix (l3 + 2) L ∧ rj (l3 + 3) ∧ ix (l3 + 3) L) ∧
    CI 7 mX10_build [vr 68, vi ((xs ((l3 + 1)).toNat).toInt), vi ((xs ((l3 + 2)).toNat).toInt), vi ((xs ((l3 + 3)).toNat).toInt)] h (fun r3 h2 =>
     (rj (l3 + 1) ∧ ix (l3 + 1) L ∧ rj (l3 + 2) ∧ ix (l3 + 2) L ∧ rj (l3 + 3) ∧ ix (l3 + 3) L) ∧
     CI 3 mX11_build [vr 103, vi ((xs ((l3 + 1)).toNat).toInt), vi ((xs ((l3 + 2)).toNat).toInt), vi ((xs ((l3 + 3)).toNat).toInt)] h2 (fun r6 h5 =>
      ((r3 = r6) →
       E 20 (mLaw b L xs) 1608 [(0, vr 130), (1, vr 68), (2, vr 103), (3, vi l3)] [] h5 (qi Q)) ∧
      ((r3 ≠ r6) →
       Q 0 h5)))) :
    E 20 (mLaw b L xs) 1258 [(0, vr 130), (1, vr 68), (2, vr 103), (3, vi l3)] [] h (qi Q) := by
  obtain ⟨⟨v1_0, v1_1, v1_2, v1_3, v1_4, v1_5⟩, hP⟩ := hP
  refine E_aload_n 1 1 dL_law_1258 rfl rfl ?_
  refine E_aload_n 0 0 dL_law_1259 rfl rfl ?_
  refine E_iload_n 3 3 dL_law_1260 rfl rfl ?_
  refine E_iconst dL_law_1261 (rg_of rfl) ?_
  refine E_iadd dL_law_1262 (rgI v1_0) ?_
  refine E_sld dL_law_1263 rfl v1_1.1 v1_1.2 ?_
  refine E_aload_n 0 0 dL_law_1264 rfl rfl ?_
  refine E_iload_n 3 3 dL_law_1265 rfl rfl ?_
  refine E_iconst dL_law_1266 (rg_of rfl) ?_
  refine E_iadd dL_law_1267 (rgI v1_2) ?_
  refine E_sld dL_law_1268 rfl v1_3.1 v1_3.2 ?_
  refine E_aload_n 0 0 dL_law_1269 rfl rfl ?_
  refine E_iload_n 3 3 dL_law_1270 rfl rfl ?_
  refine E_iconst dL_law_1271 (rg_of rfl) ?_
  refine E_iadd dL_law_1272 (rgI v1_4) ?_
  refine E_sld dL_law_1273 rfl v1_5.1 v1_5.2 ?_
  refine E_invVI [vi ((xs ((l3 + 1)).toNat).toInt), vi ((xs ((l3 + 2)).toNat).toInt), vi ((xs ((l3 + 3)).toNat).toInt)] dL_law_1274 fX10_build lL_167 ic_68 rfl (by decide) rfl rfl (Nat.le_of_ble_eq_true rfl) (CI_mono hP (fun r3 h2 hP => ?_))
  obtain ⟨⟨v4_0, v4_1, v4_2, v4_3, v4_4, v4_5⟩, hP⟩ := hP
  refine E_aload_n 2 2 dL_law_1277 rfl rfl ?_
  refine E_aload_n 0 0 dL_law_1278 rfl rfl ?_
  refine E_iload_n 3 3 dL_law_1279 rfl rfl ?_
  refine E_iconst dL_law_1280 (rg_of rfl) ?_
  refine E_iadd dL_law_1281 (rgI v4_0) ?_
  refine E_sld dL_law_1282 rfl v4_1.1 v4_1.2 ?_
  refine E_aload_n 0 0 dL_law_1283 rfl rfl ?_
  refine E_iload_n 3 3 dL_law_1284 rfl rfl ?_
  refine E_iconst dL_law_1285 (rg_of rfl) ?_
  refine E_iadd dL_law_1286 (rgI v4_2) ?_
  refine E_sld dL_law_1287 rfl v4_3.1 v4_3.2 ?_
  refine E_aload_n 0 0 dL_law_1288 rfl rfl ?_
  refine E_iload_n 3 3 dL_law_1289 rfl rfl ?_
  refine E_iconst dL_law_1290 (rg_of rfl) ?_
  refine E_iadd dL_law_1291 (rgI v4_4) ?_
  refine E_sld dL_law_1292 rfl v4_5.1 v4_5.2 ?_
  refine E_invVI [vi ((xs ((l3 + 1)).toNat).toInt), vi ((xs ((l3 + 2)).toNat).toInt), vi ((xs ((l3 + 3)).toNat).toInt)] dL_law_1293 fX11_build lL_170 ic_103 rfl (by decide) rfl rfl (Nat.le_of_ble_eq_true rfl) (CI_mono hP (fun r6 h5 hP => ?_))
  refine E_icmp_eq 1608 dL_law_1296 rfl (fun hc => ?_) (fun hc => ?_)
  · replace hP := hP.1 (hc)
    exact hP
  · replace hP := hP.2 (by omega)
    refine E_iconst dL_law_1299 (rg_of rfl) ?_
    exact E_retZ dL_law_1300 rfl (Or.inl rfl) hP
theorem sL_1301 {b L : Nat} {xs : Nat → Int32} (hL : L < 2147483648) {Q : Int → Hp → Prop} {h : Hp} {l3 : Int}
    (hP : (rj (l3 + 1) ∧ ix (l3 + 1) L ∧ rj (l3 + 2) ∧ ix (l3 + 2) L) ∧
    CI 3 mX10_isMerger [vr 68, vi ((xs ((l3 + 1)).toNat).toInt), vi ((xs ((l3 + 2)).toNat).toInt)] h (fun r3 h2 =>
     (rj (l3 + 1) ∧ ix (l3 + 1) L ∧ rj (l3 + 2) ∧ ix (l3 + 2) L) ∧
     CI 2 mX11_isMerger [vr 103, vi ((xs ((l3 + 1)).toNat).toInt), vi ((xs ((l3 + 2)).toNat).toInt)] h2 (fun r6 h5 =>
      ((r3 = r6) →
       E 20 (mLaw b L xs) 1608 [(0, vr 130), (1, vr 68), (2, vr 103), (3, vi l3)] [] h5 (qi Q)) ∧
      ((r3 ≠ r6) →
       Q 0 h5)))) :
    E 20 (mLaw b L xs) 1301 [(0, vr 130), (1, vr 68), (2, vr 103), (3, vi l3)] [] h (qi Q) := by
  obtain ⟨⟨v1_0, v1_1, v1_2, v1_3⟩, hP⟩ := hP
  refine E_aload_n 1 1 dL_law_1301 rfl rfl ?_
  refine E_aload_n 0 0 dL_law_1302 rfl rfl ?_
  refine E_iload_n 3 3 dL_law_1303 rfl rfl ?_
  refine E_iconst dL_law_1304 (rg_of rfl) ?_
  refine E_iadd dL_law_1305 (rgI v1_0) ?_
  refine E_sld dL_law_1306 rfl v1_1.1 v1_1.2 ?_
  refine E_aload_n 0 0 dL_law_1307 rfl rfl ?_
  refine E_iload_n 3 3 dL_law_1308 rfl rfl ?_
  refine E_iconst dL_law_1309 (rg_of rfl) ?_
  refine E_iadd dL_law_1310 (rgI v1_2) ?_
  refine E_sld dL_law_1311 rfl v1_3.1 v1_3.2 ?_
  refine E_invVI [vi ((xs ((l3 + 1)).toNat).toInt), vi ((xs ((l3 + 2)).toNat).toInt)] dL_law_1312 fX10_isMerger lL_171 ic_68 rfl (by decide) rfl rfl (Nat.le_of_ble_eq_true rfl) (CI_mono hP (fun r3 h2 hP => ?_))
  obtain ⟨⟨v4_0, v4_1, v4_2, v4_3⟩, hP⟩ := hP
  refine E_aload_n 2 2 dL_law_1315 rfl rfl ?_
  refine E_aload_n 0 0 dL_law_1316 rfl rfl ?_
  refine E_iload_n 3 3 dL_law_1317 rfl rfl ?_
  refine E_iconst dL_law_1318 (rg_of rfl) ?_
  refine E_iadd dL_law_1319 (rgI v4_0) ?_
  refine E_sld dL_law_1320 rfl v4_1.1 v4_1.2 ?_
  refine E_aload_n 0 0 dL_law_1321 rfl rfl ?_
  refine E_iload_n 3 3 dL_law_1322 rfl rfl ?_
  refine E_iconst dL_law_1323 (rg_of rfl) ?_
  refine E_iadd dL_law_1324 (rgI v4_2) ?_
  refine E_sld dL_law_1325 rfl v4_3.1 v4_3.2 ?_
  refine E_invVI [vi ((xs ((l3 + 1)).toNat).toInt), vi ((xs ((l3 + 2)).toNat).toInt)] dL_law_1326 fX11_isMerger lL_174 ic_103 rfl (by decide) rfl rfl (Nat.le_of_ble_eq_true rfl) (CI_mono hP (fun r6 h5 hP => ?_))
  refine E_icmp_eq 1608 dL_law_1329 rfl (fun hc => ?_) (fun hc => ?_)
  · replace hP := hP.1 (hc)
    exact hP
  · replace hP := hP.2 (by omega)
    refine E_iconst dL_law_1332 (rg_of rfl) ?_
    exact E_retZ dL_law_1333 rfl (Or.inl rfl) hP
theorem sL_1334 {b L : Nat} {xs : Nat → Int32} (hL : L < 2147483648) {Q : Int → Hp → Prop} {h : Hp} {l3 : Int}
    (hP : (rj (l3 + 1) ∧ ix (l3 + 1) L ∧ rj (l3 + 2) ∧ ix (l3 + 2) L ∧ rj (l3 + 3) ∧ ix (l3 + 3) L) ∧
    CI 7 mX10_concatenate [vr 68, vi ((xs ((l3 + 1)).toNat).toInt), vi ((xs ((l3 + 2)).toNat).toInt), vi ((xs ((l3 + 3)).toNat).toInt)] h (fun r3 h2 =>
     (rj (l3 + 1) ∧ ix (l3 + 1) L ∧ rj (l3 + 2) ∧ ix (l3 + 2) L ∧ rj (l3 + 3) ∧ ix (l3 + 3) L) ∧
     CI 3 mX11_concatenate [vr 103, vi ((xs ((l3 + 1)).toNat).toInt), vi ((xs ((l3 + 2)).toNat).toInt), vi ((xs ((l3 + 3)).toNat).toInt)] h2 (fun r6 h5 =>
      ((r3 = r6) →
       E 20 (mLaw b L xs) 1608 [(0, vr 130), (1, vr 68), (2, vr 103), (3, vi l3)] [] h5 (qi Q)) ∧
      ((r3 ≠ r6) →
       Q 0 h5)))) :
    E 20 (mLaw b L xs) 1334 [(0, vr 130), (1, vr 68), (2, vr 103), (3, vi l3)] [] h (qi Q) := by
  obtain ⟨⟨v1_0, v1_1, v1_2, v1_3, v1_4, v1_5⟩, hP⟩ := hP
  refine E_aload_n 1 1 dL_law_1334 rfl rfl ?_
  refine E_aload_n 0 0 dL_law_1335 rfl rfl ?_
  refine E_iload_n 3 3 dL_law_1336 rfl rfl ?_
  refine E_iconst dL_law_1337 (rg_of rfl) ?_
  refine E_iadd dL_law_1338 (rgI v1_0) ?_
  refine E_sld dL_law_1339 rfl v1_1.1 v1_1.2 ?_
  refine E_aload_n 0 0 dL_law_1340 rfl rfl ?_
  refine E_iload_n 3 3 dL_law_1341 rfl rfl ?_
  refine E_iconst dL_law_1342 (rg_of rfl) ?_
  refine E_iadd dL_law_1343 (rgI v1_2) ?_
  refine E_sld dL_law_1344 rfl v1_3.1 v1_3.2 ?_
  refine E_aload_n 0 0 dL_law_1345 rfl rfl ?_
  refine E_iload_n 3 3 dL_law_1346 rfl rfl ?_
  refine E_iconst dL_law_1347 (rg_of rfl) ?_
  refine E_iadd dL_law_1348 (rgI v1_4) ?_
  refine E_sld dL_law_1349 rfl v1_5.1 v1_5.2 ?_
  refine E_invVI [vi ((xs ((l3 + 1)).toNat).toInt), vi ((xs ((l3 + 2)).toNat).toInt), vi ((xs ((l3 + 3)).toNat).toInt)] dL_law_1350 fX10_concatenate lL_175 ic_68 rfl (by decide) rfl rfl (Nat.le_of_ble_eq_true rfl) (CI_mono hP (fun r3 h2 hP => ?_))
  obtain ⟨⟨v4_0, v4_1, v4_2, v4_3, v4_4, v4_5⟩, hP⟩ := hP
  refine E_aload_n 2 2 dL_law_1353 rfl rfl ?_
  refine E_aload_n 0 0 dL_law_1354 rfl rfl ?_
  refine E_iload_n 3 3 dL_law_1355 rfl rfl ?_
  refine E_iconst dL_law_1356 (rg_of rfl) ?_
  refine E_iadd dL_law_1357 (rgI v4_0) ?_
  refine E_sld dL_law_1358 rfl v4_1.1 v4_1.2 ?_
  refine E_aload_n 0 0 dL_law_1359 rfl rfl ?_
  refine E_iload_n 3 3 dL_law_1360 rfl rfl ?_
  refine E_iconst dL_law_1361 (rg_of rfl) ?_
  refine E_iadd dL_law_1362 (rgI v4_2) ?_
  refine E_sld dL_law_1363 rfl v4_3.1 v4_3.2 ?_
  refine E_aload_n 0 0 dL_law_1364 rfl rfl ?_
  refine E_iload_n 3 3 dL_law_1365 rfl rfl ?_
  refine E_iconst dL_law_1366 (rg_of rfl) ?_
  refine E_iadd dL_law_1367 (rgI v4_4) ?_
  refine E_sld dL_law_1368 rfl v4_5.1 v4_5.2 ?_
  refine E_invVI [vi ((xs ((l3 + 1)).toNat).toInt), vi ((xs ((l3 + 2)).toNat).toInt), vi ((xs ((l3 + 3)).toNat).toInt)] dL_law_1369 fX11_concatenate lL_178 ic_103 rfl (by decide) rfl rfl (Nat.le_of_ble_eq_true rfl) (CI_mono hP (fun r6 h5 hP => ?_))
  refine E_icmp_eq 1608 dL_law_1372 rfl (fun hc => ?_) (fun hc => ?_)
  · replace hP := hP.1 (hc)
    exact hP
  · replace hP := hP.2 (by omega)
    refine E_iconst dL_law_1375 (rg_of rfl) ?_
    exact E_retZ dL_law_1376 rfl (Or.inl rfl) hP
theorem sL_1377 {b L : Nat} {xs : Nat → Int32} (hL : L < 2147483648) {Q : Int → Hp → Prop} {h : Hp} {l3 : Int}
    (hP : (rj (l3 + 1) ∧ ix (l3 + 1) L ∧ rj (l3 + 2) ∧ ix (l3 + 2) L ∧ rj (l3 + 3) ∧ ix (l3 + 3) L) ∧
    CI 7 mX10_beside [vr 68, vi ((xs ((l3 + 1)).toNat).toInt), vi ((xs ((l3 + 2)).toNat).toInt), vi ((xs ((l3 + 3)).toNat).toInt)] h (fun r3 h2 =>
     (rj (l3 + 1) ∧ ix (l3 + 1) L ∧ rj (l3 + 2) ∧ ix (l3 + 2) L ∧ rj (l3 + 3) ∧ ix (l3 + 3) L) ∧
     CI 3 mX11_beside [vr 103, vi ((xs ((l3 + 1)).toNat).toInt), vi ((xs ((l3 + 2)).toNat).toInt), vi ((xs ((l3 + 3)).toNat).toInt)] h2 (fun r6 h5 =>
      ((r3 = r6) →
       E 20 (mLaw b L xs) 1608 [(0, vr 130), (1, vr 68), (2, vr 103), (3, vi l3)] [] h5 (qi Q)) ∧
      ((r3 ≠ r6) →
       Q 0 h5)))) :
    E 20 (mLaw b L xs) 1377 [(0, vr 130), (1, vr 68), (2, vr 103), (3, vi l3)] [] h (qi Q) := by
  obtain ⟨⟨v1_0, v1_1, v1_2, v1_3, v1_4, v1_5⟩, hP⟩ := hP
  refine E_aload_n 1 1 dL_law_1377 rfl rfl ?_
  refine E_aload_n 0 0 dL_law_1378 rfl rfl ?_
  refine E_iload_n 3 3 dL_law_1379 rfl rfl ?_
  refine E_iconst dL_law_1380 (rg_of rfl) ?_
  refine E_iadd dL_law_1381 (rgI v1_0) ?_
  refine E_sld dL_law_1382 rfl v1_1.1 v1_1.2 ?_
  refine E_aload_n 0 0 dL_law_1383 rfl rfl ?_
  refine E_iload_n 3 3 dL_law_1384 rfl rfl ?_
  refine E_iconst dL_law_1385 (rg_of rfl) ?_
  refine E_iadd dL_law_1386 (rgI v1_2) ?_
  refine E_sld dL_law_1387 rfl v1_3.1 v1_3.2 ?_
  refine E_aload_n 0 0 dL_law_1388 rfl rfl ?_
  refine E_iload_n 3 3 dL_law_1389 rfl rfl ?_
  refine E_iconst dL_law_1390 (rg_of rfl) ?_
  refine E_iadd dL_law_1391 (rgI v1_4) ?_
  refine E_sld dL_law_1392 rfl v1_5.1 v1_5.2 ?_
  refine E_invVI [vi ((xs ((l3 + 1)).toNat).toInt), vi ((xs ((l3 + 2)).toNat).toInt), vi ((xs ((l3 + 3)).toNat).toInt)] dL_law_1393 fX10_beside lL_179 ic_68 rfl (by decide) rfl rfl (Nat.le_of_ble_eq_true rfl) (CI_mono hP (fun r3 h2 hP => ?_))
  obtain ⟨⟨v4_0, v4_1, v4_2, v4_3, v4_4, v4_5⟩, hP⟩ := hP
  refine E_aload_n 2 2 dL_law_1396 rfl rfl ?_
  refine E_aload_n 0 0 dL_law_1397 rfl rfl ?_
  refine E_iload_n 3 3 dL_law_1398 rfl rfl ?_
  refine E_iconst dL_law_1399 (rg_of rfl) ?_
  refine E_iadd dL_law_1400 (rgI v4_0) ?_
  refine E_sld dL_law_1401 rfl v4_1.1 v4_1.2 ?_
  refine E_aload_n 0 0 dL_law_1402 rfl rfl ?_
  refine E_iload_n 3 3 dL_law_1403 rfl rfl ?_
  refine E_iconst dL_law_1404 (rg_of rfl) ?_
  refine E_iadd dL_law_1405 (rgI v4_2) ?_
  refine E_sld dL_law_1406 rfl v4_3.1 v4_3.2 ?_
  refine E_aload_n 0 0 dL_law_1407 rfl rfl ?_
  refine E_iload_n 3 3 dL_law_1408 rfl rfl ?_
  refine E_iconst dL_law_1409 (rg_of rfl) ?_
  refine E_iadd dL_law_1410 (rgI v4_4) ?_
  refine E_sld dL_law_1411 rfl v4_5.1 v4_5.2 ?_
  refine E_invVI [vi ((xs ((l3 + 1)).toNat).toInt), vi ((xs ((l3 + 2)).toNat).toInt), vi ((xs ((l3 + 3)).toNat).toInt)] dL_law_1412 fX11_beside lL_182 ic_103 rfl (by decide) rfl rfl (Nat.le_of_ble_eq_true rfl) (CI_mono hP (fun r6 h5 hP => ?_))
  refine E_icmp_eq 1608 dL_law_1415 rfl (fun hc => ?_) (fun hc => ?_)
  · replace hP := hP.1 (hc)
    exact hP
  · replace hP := hP.2 (by omega)
    refine E_iconst dL_law_1418 (rg_of rfl) ?_
    exact E_retZ dL_law_1419 rfl (Or.inl rfl) hP
theorem sL_1420 {b L : Nat} {xs : Nat → Int32} (hL : L < 2147483648) {Q : Int → Hp → Prop} {h : Hp} {l3 : Int}
    (hP : CI 5 mX10_undo [vr 68] h (fun r3 h2 =>
     CI 0 mX11_undo [vr 103] h2 (fun r6 h5 =>
      ((r3 = r6) →
       E 20 (mLaw b L xs) 1608 [(0, vr 130), (1, vr 68), (2, vr 103), (3, vi l3)] [] h5 (qi Q)) ∧
      ((r3 ≠ r6) →
       Q 0 h5)))) :
    E 20 (mLaw b L xs) 1420 [(0, vr 130), (1, vr 68), (2, vr 103), (3, vi l3)] [] h (qi Q) := by
  refine E_aload_n 1 1 dL_law_1420 rfl rfl ?_
  refine E_invVI [] dL_law_1421 fX10_undo lL_183 ic_68 rfl (by decide) rfl rfl (Nat.le_of_ble_eq_true rfl) (CI_mono hP (fun r3 h2 hP => ?_))
  refine E_aload_n 2 2 dL_law_1424 rfl rfl ?_
  refine E_invVI [] dL_law_1425 fX11_undo lL_186 ic_103 rfl (by decide) rfl rfl (Nat.le_of_ble_eq_true rfl) (CI_mono hP (fun r6 h5 hP => ?_))
  refine E_icmp_eq 1608 dL_law_1428 rfl (fun hc => ?_) (fun hc => ?_)
  · replace hP := hP.1 (hc)
    exact hP
  · replace hP := hP.2 (by omega)
    refine E_iconst dL_law_1431 (rg_of rfl) ?_
    exact E_retZ dL_law_1432 rfl (Or.inl rfl) hP
theorem sL_1433 {b L : Nat} {xs : Nat → Int32} (hL : L < 2147483648) {Q : Int → Hp → Prop} {h : Hp} {l3 : Int}
    (hP : (rj (l3 + 1) ∧ ix (l3 + 1) L ∧ rj (l3 + 2) ∧ ix (l3 + 2) L ∧ rj (l3 + 3) ∧ ix (l3 + 3) L ∧ rj (l3 + 4) ∧ ix (l3 + 4) L) ∧
    CI 2 mX10_place [vr 68, vi ((xs ((l3 + 1)).toNat).toInt), vi ((xs ((l3 + 2)).toNat).toInt), vi ((xs ((l3 + 3)).toNat).toInt), vi ((xs ((l3 + 4)).toNat).toInt)] h (fun r3 h2 =>
     (rj (l3 + 1) ∧ ix (l3 + 1) L ∧ rj (l3 + 2) ∧ ix (l3 + 2) L ∧ rj (l3 + 3) ∧ ix (l3 + 3) L ∧ rj (l3 + 4) ∧ ix (l3 + 4) L) ∧
     CI 2 mX11_place [vr 103, vi ((xs ((l3 + 1)).toNat).toInt), vi ((xs ((l3 + 2)).toNat).toInt), vi ((xs ((l3 + 3)).toNat).toInt), vi ((xs ((l3 + 4)).toNat).toInt)] h2 (fun r6 h5 =>
      ((r3 = r6) →
       E 20 (mLaw b L xs) 1608 [(0, vr 130), (1, vr 68), (2, vr 103), (3, vi l3)] [] h5 (qi Q)) ∧
      ((r3 ≠ r6) →
       Q 0 h5)))) :
    E 20 (mLaw b L xs) 1433 [(0, vr 130), (1, vr 68), (2, vr 103), (3, vi l3)] [] h (qi Q) := by
  obtain ⟨⟨v1_0, v1_1, v1_2, v1_3, v1_4, v1_5, v1_6, v1_7⟩, hP⟩ := hP
  refine E_aload_n 1 1 dL_law_1433 rfl rfl ?_
  refine E_aload_n 0 0 dL_law_1434 rfl rfl ?_
  refine E_iload_n 3 3 dL_law_1435 rfl rfl ?_
  refine E_iconst dL_law_1436 (rg_of rfl) ?_
  refine E_iadd dL_law_1437 (rgI v1_0) ?_
  refine E_sld dL_law_1438 rfl v1_1.1 v1_1.2 ?_
  refine E_aload_n 0 0 dL_law_1439 rfl rfl ?_
  refine E_iload_n 3 3 dL_law_1440 rfl rfl ?_
  refine E_iconst dL_law_1441 (rg_of rfl) ?_
  refine E_iadd dL_law_1442 (rgI v1_2) ?_
  refine E_sld dL_law_1443 rfl v1_3.1 v1_3.2 ?_
  refine E_aload_n 0 0 dL_law_1444 rfl rfl ?_
  refine E_iload_n 3 3 dL_law_1445 rfl rfl ?_
  refine E_iconst dL_law_1446 (rg_of rfl) ?_
  refine E_iadd dL_law_1447 (rgI v1_4) ?_
  refine E_sld dL_law_1448 rfl v1_5.1 v1_5.2 ?_
  refine E_aload_n 0 0 dL_law_1449 rfl rfl ?_
  refine E_iload_n 3 3 dL_law_1450 rfl rfl ?_
  refine E_iconst dL_law_1451 (rg_of rfl) ?_
  refine E_iadd dL_law_1452 (rgI v1_6) ?_
  refine E_sld dL_law_1453 rfl v1_7.1 v1_7.2 ?_
  refine E_invVI [vi ((xs ((l3 + 1)).toNat).toInt), vi ((xs ((l3 + 2)).toNat).toInt), vi ((xs ((l3 + 3)).toNat).toInt), vi ((xs ((l3 + 4)).toNat).toInt)] dL_law_1454 fX10_place lL_187 ic_68 rfl (by decide) rfl rfl (Nat.le_of_ble_eq_true rfl) (CI_mono hP (fun r3 h2 hP => ?_))
  obtain ⟨⟨v4_0, v4_1, v4_2, v4_3, v4_4, v4_5, v4_6, v4_7⟩, hP⟩ := hP
  refine E_aload_n 2 2 dL_law_1457 rfl rfl ?_
  refine E_aload_n 0 0 dL_law_1458 rfl rfl ?_
  refine E_iload_n 3 3 dL_law_1459 rfl rfl ?_
  refine E_iconst dL_law_1460 (rg_of rfl) ?_
  refine E_iadd dL_law_1461 (rgI v4_0) ?_
  refine E_sld dL_law_1462 rfl v4_1.1 v4_1.2 ?_
  refine E_aload_n 0 0 dL_law_1463 rfl rfl ?_
  refine E_iload_n 3 3 dL_law_1464 rfl rfl ?_
  refine E_iconst dL_law_1465 (rg_of rfl) ?_
  refine E_iadd dL_law_1466 (rgI v4_2) ?_
  refine E_sld dL_law_1467 rfl v4_3.1 v4_3.2 ?_
  refine E_aload_n 0 0 dL_law_1468 rfl rfl ?_
  refine E_iload_n 3 3 dL_law_1469 rfl rfl ?_
  refine E_iconst dL_law_1470 (rg_of rfl) ?_
  refine E_iadd dL_law_1471 (rgI v4_4) ?_
  refine E_sld dL_law_1472 rfl v4_5.1 v4_5.2 ?_
  refine E_aload_n 0 0 dL_law_1473 rfl rfl ?_
  refine E_iload_n 3 3 dL_law_1474 rfl rfl ?_
  refine E_iconst dL_law_1475 (rg_of rfl) ?_
  refine E_iadd dL_law_1476 (rgI v4_6) ?_
  refine E_sld dL_law_1477 rfl v4_7.1 v4_7.2 ?_
  refine E_invVI [vi ((xs ((l3 + 1)).toNat).toInt), vi ((xs ((l3 + 2)).toNat).toInt), vi ((xs ((l3 + 3)).toNat).toInt), vi ((xs ((l3 + 4)).toNat).toInt)] dL_law_1478 fX11_place lL_190 ic_103 rfl (by decide) rfl rfl (Nat.le_of_ble_eq_true rfl) (CI_mono hP (fun r6 h5 hP => ?_))
  refine E_icmp_eq 1608 dL_law_1481 rfl (fun hc => ?_) (fun hc => ?_)
  · replace hP := hP.1 (hc)
    exact hP
  · replace hP := hP.2 (by omega)
    refine E_iconst dL_law_1484 (rg_of rfl) ?_
    exact E_retZ dL_law_1485 rfl (Or.inl rfl) hP
theorem sL_1486 {b L : Nat} {xs : Nat → Int32} (hL : L < 2147483648) {Q : Int → Hp → Prop} {h : Hp} {l3 : Int}
    (hP : (rj (l3 + 1) ∧ ix (l3 + 1) L) ∧
    CI 1 mX10_discard [vr 68, vi ((xs ((l3 + 1)).toNat).toInt)] h (fun r3 h2 =>
     (rj (l3 + 1) ∧ ix (l3 + 1) L) ∧
     CI 2 mX11_discard [vr 103, vi ((xs ((l3 + 1)).toNat).toInt)] h2 (fun r6 h5 =>
      ((r3 = r6) →
       E 20 (mLaw b L xs) 1608 [(0, vr 130), (1, vr 68), (2, vr 103), (3, vi l3)] [] h5 (qi Q)) ∧
      ((r3 ≠ r6) →
       Q 0 h5)))) :
    E 20 (mLaw b L xs) 1486 [(0, vr 130), (1, vr 68), (2, vr 103), (3, vi l3)] [] h (qi Q) := by
  obtain ⟨⟨v1_0, v1_1⟩, hP⟩ := hP
  refine E_aload_n 1 1 dL_law_1486 rfl rfl ?_
  refine E_aload_n 0 0 dL_law_1487 rfl rfl ?_
  refine E_iload_n 3 3 dL_law_1488 rfl rfl ?_
  refine E_iconst dL_law_1489 (rg_of rfl) ?_
  refine E_iadd dL_law_1490 (rgI v1_0) ?_
  refine E_sld dL_law_1491 rfl v1_1.1 v1_1.2 ?_
  refine E_invVI [vi ((xs ((l3 + 1)).toNat).toInt)] dL_law_1492 fX10_discard lL_191 ic_68 rfl (by decide) rfl rfl (Nat.le_of_ble_eq_true rfl) (CI_mono hP (fun r3 h2 hP => ?_))
  obtain ⟨⟨v4_0, v4_1⟩, hP⟩ := hP
  refine E_aload_n 2 2 dL_law_1495 rfl rfl ?_
  refine E_aload_n 0 0 dL_law_1496 rfl rfl ?_
  refine E_iload_n 3 3 dL_law_1497 rfl rfl ?_
  refine E_iconst dL_law_1498 (rg_of rfl) ?_
  refine E_iadd dL_law_1499 (rgI v4_0) ?_
  refine E_sld dL_law_1500 rfl v4_1.1 v4_1.2 ?_
  refine E_invVI [vi ((xs ((l3 + 1)).toNat).toInt)] dL_law_1501 fX11_discard lL_194 ic_103 rfl (by decide) rfl rfl (Nat.le_of_ble_eq_true rfl) (CI_mono hP (fun r6 h5 hP => ?_))
  refine E_icmp_eq 1608 dL_law_1504 rfl (fun hc => ?_) (fun hc => ?_)
  · replace hP := hP.1 (hc)
    exact hP
  · replace hP := hP.2 (by omega)
    refine E_iconst dL_law_1507 (rg_of rfl) ?_
    exact E_retZ dL_law_1508 rfl (Or.inl rfl) hP
theorem sL_1509 {b L : Nat} {xs : Nat → Int32} (hL : L < 2147483648) {Q : Int → Hp → Prop} {h : Hp} {l3 : Int}
    (hP : (rj (l3 + 1) ∧ ix (l3 + 1) L ∧ rj (l3 + 2) ∧ ix (l3 + 2) L) ∧
    CI 1 mX10_castBlock [vr 68, vi ((xs ((l3 + 1)).toNat).toInt), vi ((xs ((l3 + 2)).toNat).toInt)] h (fun r3 h2 =>
     (rj (l3 + 1) ∧ ix (l3 + 1) L ∧ rj (l3 + 2) ∧ ix (l3 + 2) L) ∧
     CI 2 mX11_castBlock [vr 103, vi ((xs ((l3 + 1)).toNat).toInt), vi ((xs ((l3 + 2)).toNat).toInt)] h2 (fun r6 h5 =>
      ((r3 = r6) →
       E 20 (mLaw b L xs) 1608 [(0, vr 130), (1, vr 68), (2, vr 103), (3, vi l3)] [] h5 (qi Q)) ∧
      ((r3 ≠ r6) →
       Q 0 h5)))) :
    E 20 (mLaw b L xs) 1509 [(0, vr 130), (1, vr 68), (2, vr 103), (3, vi l3)] [] h (qi Q) := by
  obtain ⟨⟨v1_0, v1_1, v1_2, v1_3⟩, hP⟩ := hP
  refine E_aload_n 1 1 dL_law_1509 rfl rfl ?_
  refine E_aload_n 0 0 dL_law_1510 rfl rfl ?_
  refine E_iload_n 3 3 dL_law_1511 rfl rfl ?_
  refine E_iconst dL_law_1512 (rg_of rfl) ?_
  refine E_iadd dL_law_1513 (rgI v1_0) ?_
  refine E_sld dL_law_1514 rfl v1_1.1 v1_1.2 ?_
  refine E_aload_n 0 0 dL_law_1515 rfl rfl ?_
  refine E_iload_n 3 3 dL_law_1516 rfl rfl ?_
  refine E_iconst dL_law_1517 (rg_of rfl) ?_
  refine E_iadd dL_law_1518 (rgI v1_2) ?_
  refine E_sld dL_law_1519 rfl v1_3.1 v1_3.2 ?_
  refine E_invVI [vi ((xs ((l3 + 1)).toNat).toInt), vi ((xs ((l3 + 2)).toNat).toInt)] dL_law_1520 fX10_castBlock lL_195 ic_68 rfl (by decide) rfl rfl (Nat.le_of_ble_eq_true rfl) (CI_mono hP (fun r3 h2 hP => ?_))
  obtain ⟨⟨v4_0, v4_1, v4_2, v4_3⟩, hP⟩ := hP
  refine E_aload_n 2 2 dL_law_1523 rfl rfl ?_
  refine E_aload_n 0 0 dL_law_1524 rfl rfl ?_
  refine E_iload_n 3 3 dL_law_1525 rfl rfl ?_
  refine E_iconst dL_law_1526 (rg_of rfl) ?_
  refine E_iadd dL_law_1527 (rgI v4_0) ?_
  refine E_sld dL_law_1528 rfl v4_1.1 v4_1.2 ?_
  refine E_aload_n 0 0 dL_law_1529 rfl rfl ?_
  refine E_iload_n 3 3 dL_law_1530 rfl rfl ?_
  refine E_iconst dL_law_1531 (rg_of rfl) ?_
  refine E_iadd dL_law_1532 (rgI v4_2) ?_
  refine E_sld dL_law_1533 rfl v4_3.1 v4_3.2 ?_
  refine E_invVI [vi ((xs ((l3 + 1)).toNat).toInt), vi ((xs ((l3 + 2)).toNat).toInt)] dL_law_1534 fX11_castBlock lL_198 ic_103 rfl (by decide) rfl rfl (Nat.le_of_ble_eq_true rfl) (CI_mono hP (fun r6 h5 hP => ?_))
  refine E_icmp_eq 1608 dL_law_1537 rfl (fun hc => ?_) (fun hc => ?_)
  · replace hP := hP.1 (hc)
    exact hP
  · replace hP := hP.2 (by omega)
    refine E_iconst dL_law_1540 (rg_of rfl) ?_
    exact E_retZ dL_law_1541 rfl (Or.inl rfl) hP
theorem sL_1542 {b L : Nat} {xs : Nat → Int32} (hL : L < 2147483648) {Q : Int → Hp → Prop} {h : Hp} {l3 : Int}
    (hP : (rj (l3 + 1) ∧ ix (l3 + 1) L ∧ rj (l3 + 2) ∧ ix (l3 + 2) L) ∧
    CI 7 mX10_blockSize [vr 68, vi ((xs ((l3 + 1)).toNat).toInt), vi ((xs ((l3 + 2)).toNat).toInt)] h (fun r3 h2 =>
     (rj (l3 + 1) ∧ ix (l3 + 1) L ∧ rj (l3 + 2) ∧ ix (l3 + 2) L) ∧
     CI 3 mX11_blockSize [vr 103, vi ((xs ((l3 + 1)).toNat).toInt), vi ((xs ((l3 + 2)).toNat).toInt)] h2 (fun r6 h5 =>
      ((r3 = r6) →
       E 20 (mLaw b L xs) 1608 [(0, vr 130), (1, vr 68), (2, vr 103), (3, vi l3)] [] h5 (qi Q)) ∧
      ((r3 ≠ r6) →
       Q 0 h5)))) :
    E 20 (mLaw b L xs) 1542 [(0, vr 130), (1, vr 68), (2, vr 103), (3, vi l3)] [] h (qi Q) := by
  obtain ⟨⟨v1_0, v1_1, v1_2, v1_3⟩, hP⟩ := hP
  refine E_aload_n 1 1 dL_law_1542 rfl rfl ?_
  refine E_aload_n 0 0 dL_law_1543 rfl rfl ?_
  refine E_iload_n 3 3 dL_law_1544 rfl rfl ?_
  refine E_iconst dL_law_1545 (rg_of rfl) ?_
  refine E_iadd dL_law_1546 (rgI v1_0) ?_
  refine E_sld dL_law_1547 rfl v1_1.1 v1_1.2 ?_
  refine E_aload_n 0 0 dL_law_1548 rfl rfl ?_
  refine E_iload_n 3 3 dL_law_1549 rfl rfl ?_
  refine E_iconst dL_law_1550 (rg_of rfl) ?_
  refine E_iadd dL_law_1551 (rgI v1_2) ?_
  refine E_sld dL_law_1552 rfl v1_3.1 v1_3.2 ?_
  refine E_invVI [vi ((xs ((l3 + 1)).toNat).toInt), vi ((xs ((l3 + 2)).toNat).toInt)] dL_law_1553 fX10_blockSize lL_199 ic_68 rfl (by decide) rfl rfl (Nat.le_of_ble_eq_true rfl) (CI_mono hP (fun r3 h2 hP => ?_))
  obtain ⟨⟨v4_0, v4_1, v4_2, v4_3⟩, hP⟩ := hP
  refine E_aload_n 2 2 dL_law_1556 rfl rfl ?_
  refine E_aload_n 0 0 dL_law_1557 rfl rfl ?_
  refine E_iload_n 3 3 dL_law_1558 rfl rfl ?_
  refine E_iconst dL_law_1559 (rg_of rfl) ?_
  refine E_iadd dL_law_1560 (rgI v4_0) ?_
  refine E_sld dL_law_1561 rfl v4_1.1 v4_1.2 ?_
  refine E_aload_n 0 0 dL_law_1562 rfl rfl ?_
  refine E_iload_n 3 3 dL_law_1563 rfl rfl ?_
  refine E_iconst dL_law_1564 (rg_of rfl) ?_
  refine E_iadd dL_law_1565 (rgI v4_2) ?_
  refine E_sld dL_law_1566 rfl v4_3.1 v4_3.2 ?_
  refine E_invVI [vi ((xs ((l3 + 1)).toNat).toInt), vi ((xs ((l3 + 2)).toNat).toInt)] dL_law_1567 fX11_blockSize lL_202 ic_103 rfl (by decide) rfl rfl (Nat.le_of_ble_eq_true rfl) (CI_mono hP (fun r6 h5 hP => ?_))
  refine E_icmp_eq 1608 dL_law_1570 rfl (fun hc => ?_) (fun hc => ?_)
  · replace hP := hP.1 (hc)
    exact hP
  · replace hP := hP.2 (by omega)
    refine E_iconst dL_law_1573 (rg_of rfl) ?_
    exact E_retZ dL_law_1574 rfl (Or.inl rfl) hP
theorem sL_1575 {b L : Nat} {xs : Nat → Int32} (hL : L < 2147483648) {Q : Int → Hp → Prop} {h : Hp} {l3 : Int}
    (hP : (rj (l3 + 1) ∧ ix (l3 + 1) L ∧ rj (l3 + 2) ∧ ix (l3 + 2) L) ∧
    CI 7 mX10_applyBlock [vr 68, vi ((xs ((l3 + 1)).toNat).toInt), vi ((xs ((l3 + 2)).toNat).toInt)] h (fun r3 h2 =>
     (rj (l3 + 1) ∧ ix (l3 + 1) L ∧ rj (l3 + 2) ∧ ix (l3 + 2) L) ∧
     CI 3 mX11_applyBlock [vr 103, vi ((xs ((l3 + 1)).toNat).toInt), vi ((xs ((l3 + 2)).toNat).toInt)] h2 (fun r6 h5 =>
      ((r3 = r6) →
       E 20 (mLaw b L xs) 1608 [(0, vr 130), (1, vr 68), (2, vr 103), (3, vi l3)] [] h5 (qi Q)) ∧
      ((r3 ≠ r6) →
       Q 0 h5)))) :
    E 20 (mLaw b L xs) 1575 [(0, vr 130), (1, vr 68), (2, vr 103), (3, vi l3)] [] h (qi Q) := by
  obtain ⟨⟨v1_0, v1_1, v1_2, v1_3⟩, hP⟩ := hP
  refine E_aload_n 1 1 dL_law_1575 rfl rfl ?_
  refine E_aload_n 0 0 dL_law_1576 rfl rfl ?_
  refine E_iload_n 3 3 dL_law_1577 rfl rfl ?_
  refine E_iconst dL_law_1578 (rg_of rfl) ?_
  refine E_iadd dL_law_1579 (rgI v1_0) ?_
  refine E_sld dL_law_1580 rfl v1_1.1 v1_1.2 ?_
  refine E_aload_n 0 0 dL_law_1581 rfl rfl ?_
  refine E_iload_n 3 3 dL_law_1582 rfl rfl ?_
  refine E_iconst dL_law_1583 (rg_of rfl) ?_
  refine E_iadd dL_law_1584 (rgI v1_2) ?_
  refine E_sld dL_law_1585 rfl v1_3.1 v1_3.2 ?_
  refine E_invVI [vi ((xs ((l3 + 1)).toNat).toInt), vi ((xs ((l3 + 2)).toNat).toInt)] dL_law_1586 fX10_applyBlock lL_203 ic_68 rfl (by decide) rfl rfl (Nat.le_of_ble_eq_true rfl) (CI_mono hP (fun r3 h2 hP => ?_))
  obtain ⟨⟨v4_0, v4_1, v4_2, v4_3⟩, hP⟩ := hP
  refine E_aload_n 2 2 dL_law_1589 rfl rfl ?_
  refine E_aload_n 0 0 dL_law_1590 rfl rfl ?_
  refine E_iload_n 3 3 dL_law_1591 rfl rfl ?_
  refine E_iconst dL_law_1592 (rg_of rfl) ?_
  refine E_iadd dL_law_1593 (rgI v4_0) ?_
  refine E_sld dL_law_1594 rfl v4_1.1 v4_1.2 ?_
  refine E_aload_n 0 0 dL_law_1595 rfl rfl ?_
  refine E_iload_n 3 3 dL_law_1596 rfl rfl ?_
  refine E_iconst dL_law_1597 (rg_of rfl) ?_
  refine E_iadd dL_law_1598 (rgI v4_2) ?_
  refine E_sld dL_law_1599 rfl v4_3.1 v4_3.2 ?_
  refine E_invVI [vi ((xs ((l3 + 1)).toNat).toInt), vi ((xs ((l3 + 2)).toNat).toInt)] dL_law_1600 fX11_applyBlock lL_206 ic_103 rfl (by decide) rfl rfl (Nat.le_of_ble_eq_true rfl) (CI_mono hP (fun r6 h5 hP => ?_))
  refine E_icmp_eq 1608 dL_law_1603 rfl (fun hc => ?_) (fun hc => ?_)
  · replace hP := hP.1 (hc)
    exact hP
  · replace hP := hP.2 (by omega)
    refine E_iconst dL_law_1606 (rg_of rfl) ?_
    exact E_retZ dL_law_1607 rfl (Or.inl rfl) hP
theorem sL_18 {b L : Nat} {xs : Nat → Int32} (hL : L < 2147483648) {Q : Int → Hp → Prop} {h : Hp} {l3 : Int}
    (hP : (rj ((L : Int) - 5)) ∧
    ((l3 > ((L : Int) - 5)) →
     Q 1 h) ∧
    ((l3 ≤ ((L : Int) - 5)) →
     (ix l3 L) ∧
     ((j_iand (xs (l3).toNat).toInt 63) = 0 →
      E 20 (mLaw b L xs) 236 [(0, vr 130), (1, vr 68), (2, vr 103), (3, vi l3)] [] h (qi Q)) ∧
     ((j_iand (xs (l3).toNat).toInt 63) = 1 →
      E 20 (mLaw b L xs) 269 [(0, vr 130), (1, vr 68), (2, vr 103), (3, vi l3)] [] h (qi Q)) ∧
     ((j_iand (xs (l3).toNat).toInt 63) = 2 →
      E 20 (mLaw b L xs) 292 [(0, vr 130), (1, vr 68), (2, vr 103), (3, vi l3)] [] h (qi Q)) ∧
     ((j_iand (xs (l3).toNat).toInt 63) = 3 →
      E 20 (mLaw b L xs) 315 [(0, vr 130), (1, vr 68), (2, vr 103), (3, vi l3)] [] h (qi Q)) ∧
     ((j_iand (xs (l3).toNat).toInt 63) = 4 →
      E 20 (mLaw b L xs) 348 [(0, vr 130), (1, vr 68), (2, vr 103), (3, vi l3)] [] h (qi Q)) ∧
     ((j_iand (xs (l3).toNat).toInt 63) = 5 →
      E 20 (mLaw b L xs) 391 [(0, vr 130), (1, vr 68), (2, vr 103), (3, vi l3)] [] h (qi Q)) ∧
     ((j_iand (xs (l3).toNat).toInt 63) = 6 →
      E 20 (mLaw b L xs) 444 [(0, vr 130), (1, vr 68), (2, vr 103), (3, vi l3)] [] h (qi Q)) ∧
     ((j_iand (xs (l3).toNat).toInt 63) = 7 →
      E 20 (mLaw b L xs) 477 [(0, vr 130), (1, vr 68), (2, vr 103), (3, vi l3)] [] h (qi Q)) ∧
     ((j_iand (xs (l3).toNat).toInt 63) = 8 →
      E 20 (mLaw b L xs) 510 [(0, vr 130), (1, vr 68), (2, vr 103), (3, vi l3)] [] h (qi Q)) ∧
     ((j_iand (xs (l3).toNat).toInt 63) = 9 →
      E 20 (mLaw b L xs) 533 [(0, vr 130), (1, vr 68), (2, vr 103), (3, vi l3)] [] h (qi Q)) ∧
     ((j_iand (xs (l3).toNat).toInt 63) = 10 →
      E 20 (mLaw b L xs) 556 [(0, vr 130), (1, vr 68), (2, vr 103), (3, vi l3)] [] h (qi Q)) ∧
     ((j_iand (xs (l3).toNat).toInt 63) = 11 →
      E 20 (mLaw b L xs) 569 [(0, vr 130), (1, vr 68), (2, vr 103), (3, vi l3)] [] h (qi Q)) ∧
     ((j_iand (xs (l3).toNat).toInt 63) = 12 →
      E 20 (mLaw b L xs) 592 [(0, vr 130), (1, vr 68), (2, vr 103), (3, vi l3)] [] h (qi Q)) ∧
     ((j_iand (xs (l3).toNat).toInt 63) = 13 →
      E 20 (mLaw b L xs) 625 [(0, vr 130), (1, vr 68), (2, vr 103), (3, vi l3)] [] h (qi Q)) ∧
     ((j_iand (xs (l3).toNat).toInt 63) = 14 →
      E 20 (mLaw b L xs) 648 [(0, vr 130), (1, vr 68), (2, vr 103), (3, vi l3)] [] h (qi Q)) ∧
     ((j_iand (xs (l3).toNat).toInt 63) = 15 →
      E 20 (mLaw b L xs) 671 [(0, vr 130), (1, vr 68), (2, vr 103), (3, vi l3)] [] h (qi Q)) ∧
     ((j_iand (xs (l3).toNat).toInt 63) = 16 →
      E 20 (mLaw b L xs) 694 [(0, vr 130), (1, vr 68), (2, vr 103), (3, vi l3)] [] h (qi Q)) ∧
     ((j_iand (xs (l3).toNat).toInt 63) = 17 →
      E 20 (mLaw b L xs) 707 [(0, vr 130), (1, vr 68), (2, vr 103), (3, vi l3)] [] h (qi Q)) ∧
     ((j_iand (xs (l3).toNat).toInt 63) = 18 →
      E 20 (mLaw b L xs) 730 [(0, vr 130), (1, vr 68), (2, vr 103), (3, vi l3)] [] h (qi Q)) ∧
     ((j_iand (xs (l3).toNat).toInt 63) = 19 →
      E 20 (mLaw b L xs) 763 [(0, vr 130), (1, vr 68), (2, vr 103), (3, vi l3)] [] h (qi Q)) ∧
     ((j_iand (xs (l3).toNat).toInt 63) = 20 →
      E 20 (mLaw b L xs) 786 [(0, vr 130), (1, vr 68), (2, vr 103), (3, vi l3)] [] h (qi Q)) ∧
     ((j_iand (xs (l3).toNat).toInt 63) = 21 →
      E 20 (mLaw b L xs) 809 [(0, vr 130), (1, vr 68), (2, vr 103), (3, vi l3)] [] h (qi Q)) ∧
     ((j_iand (xs (l3).toNat).toInt 63) = 22 →
      E 20 (mLaw b L xs) 842 [(0, vr 130), (1, vr 68), (2, vr 103), (3, vi l3)] [] h (qi Q)) ∧
     ((j_iand (xs (l3).toNat).toInt 63) = 23 →
      E 20 (mLaw b L xs) 865 [(0, vr 130), (1, vr 68), (2, vr 103), (3, vi l3)] [] h (qi Q)) ∧
     ((j_iand (xs (l3).toNat).toInt 63) = 24 →
      E 20 (mLaw b L xs) 888 [(0, vr 130), (1, vr 68), (2, vr 103), (3, vi l3)] [] h (qi Q)) ∧
     ((j_iand (xs (l3).toNat).toInt 63) = 25 →
      E 20 (mLaw b L xs) 912 [(0, vr 130), (1, vr 68), (2, vr 103), (3, vi l3)] [] h (qi Q)) ∧
     ((j_iand (xs (l3).toNat).toInt 63) = 26 →
      E 20 (mLaw b L xs) 935 [(0, vr 130), (1, vr 68), (2, vr 103), (3, vi l3)] [] h (qi Q)) ∧
     ((j_iand (xs (l3).toNat).toInt 63) = 27 →
      E 20 (mLaw b L xs) 968 [(0, vr 130), (1, vr 68), (2, vr 103), (3, vi l3)] [] h (qi Q)) ∧
     ((j_iand (xs (l3).toNat).toInt 63) = 28 →
      E 20 (mLaw b L xs) 991 [(0, vr 130), (1, vr 68), (2, vr 103), (3, vi l3)] [] h (qi Q)) ∧
     ((j_iand (xs (l3).toNat).toInt 63) = 29 →
      E 20 (mLaw b L xs) 1014 [(0, vr 130), (1, vr 68), (2, vr 103), (3, vi l3)] [] h (qi Q)) ∧
     ((j_iand (xs (l3).toNat).toInt 63) = 30 →
      E 20 (mLaw b L xs) 1037 [(0, vr 130), (1, vr 68), (2, vr 103), (3, vi l3)] [] h (qi Q)) ∧
     ((j_iand (xs (l3).toNat).toInt 63) = 31 →
      E 20 (mLaw b L xs) 1060 [(0, vr 130), (1, vr 68), (2, vr 103), (3, vi l3)] [] h (qi Q)) ∧
     ((j_iand (xs (l3).toNat).toInt 63) = 32 →
      E 20 (mLaw b L xs) 1103 [(0, vr 130), (1, vr 68), (2, vr 103), (3, vi l3)] [] h (qi Q)) ∧
     ((j_iand (xs (l3).toNat).toInt 63) = 33 →
      E 20 (mLaw b L xs) 1126 [(0, vr 130), (1, vr 68), (2, vr 103), (3, vi l3)] [] h (qi Q)) ∧
     ((j_iand (xs (l3).toNat).toInt 63) = 34 →
      E 20 (mLaw b L xs) 1159 [(0, vr 130), (1, vr 68), (2, vr 103), (3, vi l3)] [] h (qi Q)) ∧
     ((j_iand (xs (l3).toNat).toInt 63) = 35 →
      E 20 (mLaw b L xs) 1192 [(0, vr 130), (1, vr 68), (2, vr 103), (3, vi l3)] [] h (qi Q)) ∧
     ((j_iand (xs (l3).toNat).toInt 63) = 36 →
      E 20 (mLaw b L xs) 1225 [(0, vr 130), (1, vr 68), (2, vr 103), (3, vi l3)] [] h (qi Q)) ∧
     ((j_iand (xs (l3).toNat).toInt 63) = 37 →
      E 20 (mLaw b L xs) 1258 [(0, vr 130), (1, vr 68), (2, vr 103), (3, vi l3)] [] h (qi Q)) ∧
     ((j_iand (xs (l3).toNat).toInt 63) = 38 →
      E 20 (mLaw b L xs) 1301 [(0, vr 130), (1, vr 68), (2, vr 103), (3, vi l3)] [] h (qi Q)) ∧
     ((j_iand (xs (l3).toNat).toInt 63) = 39 →
      E 20 (mLaw b L xs) 1334 [(0, vr 130), (1, vr 68), (2, vr 103), (3, vi l3)] [] h (qi Q)) ∧
     ((j_iand (xs (l3).toNat).toInt 63) = 40 →
      E 20 (mLaw b L xs) 1377 [(0, vr 130), (1, vr 68), (2, vr 103), (3, vi l3)] [] h (qi Q)) ∧
     ((j_iand (xs (l3).toNat).toInt 63) = 41 →
      E 20 (mLaw b L xs) 1420 [(0, vr 130), (1, vr 68), (2, vr 103), (3, vi l3)] [] h (qi Q)) ∧
     ((j_iand (xs (l3).toNat).toInt 63) = 42 →
      E 20 (mLaw b L xs) 1433 [(0, vr 130), (1, vr 68), (2, vr 103), (3, vi l3)] [] h (qi Q)) ∧
     ((j_iand (xs (l3).toNat).toInt 63) = 43 →
      E 20 (mLaw b L xs) 1486 [(0, vr 130), (1, vr 68), (2, vr 103), (3, vi l3)] [] h (qi Q)) ∧
     ((j_iand (xs (l3).toNat).toInt 63) = 44 →
      E 20 (mLaw b L xs) 1509 [(0, vr 130), (1, vr 68), (2, vr 103), (3, vi l3)] [] h (qi Q)) ∧
     ((j_iand (xs (l3).toNat).toInt 63) = 45 →
      E 20 (mLaw b L xs) 1542 [(0, vr 130), (1, vr 68), (2, vr 103), (3, vi l3)] [] h (qi Q)) ∧
     ((j_iand (xs (l3).toNat).toInt 63) = 46 →
      E 20 (mLaw b L xs) 1575 [(0, vr 130), (1, vr 68), (2, vr 103), (3, vi l3)] [] h (qi Q)) ∧
     ((j_iand (xs (l3).toNat).toInt 63) < 0 ∨ 46 < (j_iand (xs (l3).toNat).toInt 63) →
      E 20 (mLaw b L xs) 1608 [(0, vr 130), (1, vr 68), (2, vr 103), (3, vi l3)] [] h (qi Q)))) :
    E 20 (mLaw b L xs) 18 [(0, vr 130), (1, vr 68), (2, vr 103), (3, vi l3)] [] h (qi Q) := by
  obtain ⟨v1_0, hP⟩ := hP
  refine E_iload_n 3 3 dL_law_18 rfl rfl ?_
  refine E_aload_n 0 0 dL_law_19 rfl rfl ?_
  refine E_slen dL_law_20 rfl hL ?_
  refine E_iconst dL_law_21 (rg_of rfl) ?_
  refine E_isub dL_law_22 (rgI v1_0) ?_
  refine E_icmp_gt 1614 dL_law_23 rfl (fun hc => ?_) (fun hc => ?_)
  · replace hP := hP.1 (hc)
    refine E_iconst dL_law_1614 (rg_of rfl) ?_
    exact E_retZ dL_law_1615 rfl (Or.inr rfl) hP
  · replace hP := hP.2 (by omega)
    obtain ⟨v3_0, hP⟩ := hP
    refine E_aload_n 0 0 dL_law_26 rfl rfl ?_
    refine E_iload_n 3 3 dL_law_27 rfl rfl ?_
    refine E_sld dL_law_28 rfl v3_0.1 v3_0.2 ?_
    refine E_bipush dL_law_29 (by decide) ?_
    refine E_iand dL_law_31 ?_
    rcases (by omega : (j_iand (xs (l3).toNat).toInt 63) = 0 ∨ (j_iand (xs (l3).toNat).toInt 63) = 1 ∨ (j_iand (xs (l3).toNat).toInt 63) = 2 ∨ (j_iand (xs (l3).toNat).toInt 63) = 3 ∨ (j_iand (xs (l3).toNat).toInt 63) = 4 ∨ (j_iand (xs (l3).toNat).toInt 63) = 5 ∨ (j_iand (xs (l3).toNat).toInt 63) = 6 ∨ (j_iand (xs (l3).toNat).toInt 63) = 7 ∨ (j_iand (xs (l3).toNat).toInt 63) = 8 ∨ (j_iand (xs (l3).toNat).toInt 63) = 9 ∨ (j_iand (xs (l3).toNat).toInt 63) = 10 ∨ (j_iand (xs (l3).toNat).toInt 63) = 11 ∨ (j_iand (xs (l3).toNat).toInt 63) = 12 ∨ (j_iand (xs (l3).toNat).toInt 63) = 13 ∨ (j_iand (xs (l3).toNat).toInt 63) = 14 ∨ (j_iand (xs (l3).toNat).toInt 63) = 15 ∨ (j_iand (xs (l3).toNat).toInt 63) = 16 ∨ (j_iand (xs (l3).toNat).toInt 63) = 17 ∨ (j_iand (xs (l3).toNat).toInt 63) = 18 ∨ (j_iand (xs (l3).toNat).toInt 63) = 19 ∨ (j_iand (xs (l3).toNat).toInt 63) = 20 ∨ (j_iand (xs (l3).toNat).toInt 63) = 21 ∨ (j_iand (xs (l3).toNat).toInt 63) = 22 ∨ (j_iand (xs (l3).toNat).toInt 63) = 23 ∨ (j_iand (xs (l3).toNat).toInt 63) = 24 ∨ (j_iand (xs (l3).toNat).toInt 63) = 25 ∨ (j_iand (xs (l3).toNat).toInt 63) = 26 ∨ (j_iand (xs (l3).toNat).toInt 63) = 27 ∨ (j_iand (xs (l3).toNat).toInt 63) = 28 ∨ (j_iand (xs (l3).toNat).toInt 63) = 29 ∨ (j_iand (xs (l3).toNat).toInt 63) = 30 ∨ (j_iand (xs (l3).toNat).toInt 63) = 31 ∨ (j_iand (xs (l3).toNat).toInt 63) = 32 ∨ (j_iand (xs (l3).toNat).toInt 63) = 33 ∨ (j_iand (xs (l3).toNat).toInt 63) = 34 ∨ (j_iand (xs (l3).toNat).toInt 63) = 35 ∨ (j_iand (xs (l3).toNat).toInt 63) = 36 ∨ (j_iand (xs (l3).toNat).toInt 63) = 37 ∨ (j_iand (xs (l3).toNat).toInt 63) = 38 ∨ (j_iand (xs (l3).toNat).toInt 63) = 39 ∨ (j_iand (xs (l3).toNat).toInt 63) = 40 ∨ (j_iand (xs (l3).toNat).toInt 63) = 41 ∨ (j_iand (xs (l3).toNat).toInt 63) = 42 ∨ (j_iand (xs (l3).toNat).toInt 63) = 43 ∨ (j_iand (xs (l3).toNat).toInt 63) = 44 ∨ (j_iand (xs (l3).toNat).toInt 63) = 45 ∨ (j_iand (xs (l3).toNat).toInt 63) = 46 ∨ ((j_iand (xs (l3).toNat).toInt 63) < 0 ∨ 46 < (j_iand (xs (l3).toNat).toInt 63))) with hx | hx | hx | hx | hx | hx | hx | hx | hx | hx | hx | hx | hx | hx | hx | hx | hx | hx | hx | hx | hx | hx | hx | hx | hx | hx | hx | hx | hx | hx | hx | hx | hx | hx | hx | hx | hx | hx | hx | hx | hx | hx | hx | hx | hx | hx | hx | hx
    · replace hP := hP.1 hx
      refine E_tableIn 236 dL_law_32 (by omega) (by omega) (by rw [hx]; rfl) rfl ?_
      exact hP
    · replace hP := hP.2.1 hx
      refine E_tableIn 269 dL_law_32 (by omega) (by omega) (by rw [hx]; rfl) rfl ?_
      exact hP
    · replace hP := hP.2.2.1 hx
      refine E_tableIn 292 dL_law_32 (by omega) (by omega) (by rw [hx]; rfl) rfl ?_
      exact hP
    · replace hP := hP.2.2.2.1 hx
      refine E_tableIn 315 dL_law_32 (by omega) (by omega) (by rw [hx]; rfl) rfl ?_
      exact hP
    · replace hP := hP.2.2.2.2.1 hx
      refine E_tableIn 348 dL_law_32 (by omega) (by omega) (by rw [hx]; rfl) rfl ?_
      exact hP
    · replace hP := hP.2.2.2.2.2.1 hx
      refine E_tableIn 391 dL_law_32 (by omega) (by omega) (by rw [hx]; rfl) rfl ?_
      exact hP
    · replace hP := hP.2.2.2.2.2.2.1 hx
      refine E_tableIn 444 dL_law_32 (by omega) (by omega) (by rw [hx]; rfl) rfl ?_
      exact hP
    · replace hP := hP.2.2.2.2.2.2.2.1 hx
      refine E_tableIn 477 dL_law_32 (by omega) (by omega) (by rw [hx]; rfl) rfl ?_
      exact hP
    · replace hP := hP.2.2.2.2.2.2.2.2.1 hx
      refine E_tableIn 510 dL_law_32 (by omega) (by omega) (by rw [hx]; rfl) rfl ?_
      exact hP
    · replace hP := hP.2.2.2.2.2.2.2.2.2.1 hx
      refine E_tableIn 533 dL_law_32 (by omega) (by omega) (by rw [hx]; rfl) rfl ?_
      exact hP
    · replace hP := hP.2.2.2.2.2.2.2.2.2.2.1 hx
      refine E_tableIn 556 dL_law_32 (by omega) (by omega) (by rw [hx]; rfl) rfl ?_
      exact hP
    · replace hP := hP.2.2.2.2.2.2.2.2.2.2.2.1 hx
      refine E_tableIn 569 dL_law_32 (by omega) (by omega) (by rw [hx]; rfl) rfl ?_
      exact hP
    · replace hP := hP.2.2.2.2.2.2.2.2.2.2.2.2.1 hx
      refine E_tableIn 592 dL_law_32 (by omega) (by omega) (by rw [hx]; rfl) rfl ?_
      exact hP
    · replace hP := hP.2.2.2.2.2.2.2.2.2.2.2.2.2.1 hx
      refine E_tableIn 625 dL_law_32 (by omega) (by omega) (by rw [hx]; rfl) rfl ?_
      exact hP
    · replace hP := hP.2.2.2.2.2.2.2.2.2.2.2.2.2.2.1 hx
      refine E_tableIn 648 dL_law_32 (by omega) (by omega) (by rw [hx]; rfl) rfl ?_
      exact hP
    · replace hP := hP.2.2.2.2.2.2.2.2.2.2.2.2.2.2.2.1 hx
      refine E_tableIn 671 dL_law_32 (by omega) (by omega) (by rw [hx]; rfl) rfl ?_
      exact hP
    · replace hP := hP.2.2.2.2.2.2.2.2.2.2.2.2.2.2.2.2.1 hx
      refine E_tableIn 694 dL_law_32 (by omega) (by omega) (by rw [hx]; rfl) rfl ?_
      exact hP
    · replace hP := hP.2.2.2.2.2.2.2.2.2.2.2.2.2.2.2.2.2.1 hx
      refine E_tableIn 707 dL_law_32 (by omega) (by omega) (by rw [hx]; rfl) rfl ?_
      exact hP
    · replace hP := hP.2.2.2.2.2.2.2.2.2.2.2.2.2.2.2.2.2.2.1 hx
      refine E_tableIn 730 dL_law_32 (by omega) (by omega) (by rw [hx]; rfl) rfl ?_
      exact hP
    · replace hP := hP.2.2.2.2.2.2.2.2.2.2.2.2.2.2.2.2.2.2.2.1 hx
      refine E_tableIn 763 dL_law_32 (by omega) (by omega) (by rw [hx]; rfl) rfl ?_
      exact hP
    · replace hP := hP.2.2.2.2.2.2.2.2.2.2.2.2.2.2.2.2.2.2.2.2.1 hx
      refine E_tableIn 786 dL_law_32 (by omega) (by omega) (by rw [hx]; rfl) rfl ?_
      exact hP
    · replace hP := hP.2.2.2.2.2.2.2.2.2.2.2.2.2.2.2.2.2.2.2.2.2.1 hx
      refine E_tableIn 809 dL_law_32 (by omega) (by omega) (by rw [hx]; rfl) rfl ?_
      exact hP
    · replace hP := hP.2.2.2.2.2.2.2.2.2.2.2.2.2.2.2.2.2.2.2.2.2.2.1 hx
      refine E_tableIn 842 dL_law_32 (by omega) (by omega) (by rw [hx]; rfl) rfl ?_
      exact hP
    · replace hP := hP.2.2.2.2.2.2.2.2.2.2.2.2.2.2.2.2.2.2.2.2.2.2.2.1 hx
      refine E_tableIn 865 dL_law_32 (by omega) (by omega) (by rw [hx]; rfl) rfl ?_
      exact hP
    · replace hP := hP.2.2.2.2.2.2.2.2.2.2.2.2.2.2.2.2.2.2.2.2.2.2.2.2.1 hx
      refine E_tableIn 888 dL_law_32 (by omega) (by omega) (by rw [hx]; rfl) rfl ?_
      exact hP
    · replace hP := hP.2.2.2.2.2.2.2.2.2.2.2.2.2.2.2.2.2.2.2.2.2.2.2.2.2.1 hx
      refine E_tableIn 912 dL_law_32 (by omega) (by omega) (by rw [hx]; rfl) rfl ?_
      exact hP
    · replace hP := hP.2.2.2.2.2.2.2.2.2.2.2.2.2.2.2.2.2.2.2.2.2.2.2.2.2.2.1 hx
      refine E_tableIn 935 dL_law_32 (by omega) (by omega) (by rw [hx]; rfl) rfl ?_
      exact hP
    · replace hP := hP.2.2.2.2.2.2.2.2.2.2.2.2.2.2.2.2.2.2.2.2.2.2.2.2.2.2.2.1 hx
      refine E_tableIn 968 dL_law_32 (by omega) (by omega) (by rw [hx]; rfl) rfl ?_
      exact hP
    · replace hP := hP.2.2.2.2.2.2.2.2.2.2.2.2.2.2.2.2.2.2.2.2.2.2.2.2.2.2.2.2.1 hx
      refine E_tableIn 991 dL_law_32 (by omega) (by omega) (by rw [hx]; rfl) rfl ?_
      exact hP
    · replace hP := hP.2.2.2.2.2.2.2.2.2.2.2.2.2.2.2.2.2.2.2.2.2.2.2.2.2.2.2.2.2.1 hx
      refine E_tableIn 1014 dL_law_32 (by omega) (by omega) (by rw [hx]; rfl) rfl ?_
      exact hP
    · replace hP := hP.2.2.2.2.2.2.2.2.2.2.2.2.2.2.2.2.2.2.2.2.2.2.2.2.2.2.2.2.2.2.1 hx
      refine E_tableIn 1037 dL_law_32 (by omega) (by omega) (by rw [hx]; rfl) rfl ?_
      exact hP
    · replace hP := hP.2.2.2.2.2.2.2.2.2.2.2.2.2.2.2.2.2.2.2.2.2.2.2.2.2.2.2.2.2.2.2.1 hx
      refine E_tableIn 1060 dL_law_32 (by omega) (by omega) (by rw [hx]; rfl) rfl ?_
      exact hP
    · replace hP := hP.2.2.2.2.2.2.2.2.2.2.2.2.2.2.2.2.2.2.2.2.2.2.2.2.2.2.2.2.2.2.2.2.1 hx
      refine E_tableIn 1103 dL_law_32 (by omega) (by omega) (by rw [hx]; rfl) rfl ?_
      exact hP
    · replace hP := hP.2.2.2.2.2.2.2.2.2.2.2.2.2.2.2.2.2.2.2.2.2.2.2.2.2.2.2.2.2.2.2.2.2.1 hx
      refine E_tableIn 1126 dL_law_32 (by omega) (by omega) (by rw [hx]; rfl) rfl ?_
      exact hP
    · replace hP := hP.2.2.2.2.2.2.2.2.2.2.2.2.2.2.2.2.2.2.2.2.2.2.2.2.2.2.2.2.2.2.2.2.2.2.1 hx
      refine E_tableIn 1159 dL_law_32 (by omega) (by omega) (by rw [hx]; rfl) rfl ?_
      exact hP
    · replace hP := hP.2.2.2.2.2.2.2.2.2.2.2.2.2.2.2.2.2.2.2.2.2.2.2.2.2.2.2.2.2.2.2.2.2.2.2.1 hx
      refine E_tableIn 1192 dL_law_32 (by omega) (by omega) (by rw [hx]; rfl) rfl ?_
      exact hP
    · replace hP := hP.2.2.2.2.2.2.2.2.2.2.2.2.2.2.2.2.2.2.2.2.2.2.2.2.2.2.2.2.2.2.2.2.2.2.2.2.1 hx
      refine E_tableIn 1225 dL_law_32 (by omega) (by omega) (by rw [hx]; rfl) rfl ?_
      exact hP
    · replace hP := hP.2.2.2.2.2.2.2.2.2.2.2.2.2.2.2.2.2.2.2.2.2.2.2.2.2.2.2.2.2.2.2.2.2.2.2.2.2.1 hx
      refine E_tableIn 1258 dL_law_32 (by omega) (by omega) (by rw [hx]; rfl) rfl ?_
      exact hP
    · replace hP := hP.2.2.2.2.2.2.2.2.2.2.2.2.2.2.2.2.2.2.2.2.2.2.2.2.2.2.2.2.2.2.2.2.2.2.2.2.2.2.1 hx
      refine E_tableIn 1301 dL_law_32 (by omega) (by omega) (by rw [hx]; rfl) rfl ?_
      exact hP
    · replace hP := hP.2.2.2.2.2.2.2.2.2.2.2.2.2.2.2.2.2.2.2.2.2.2.2.2.2.2.2.2.2.2.2.2.2.2.2.2.2.2.2.1 hx
      refine E_tableIn 1334 dL_law_32 (by omega) (by omega) (by rw [hx]; rfl) rfl ?_
      exact hP
    · replace hP := hP.2.2.2.2.2.2.2.2.2.2.2.2.2.2.2.2.2.2.2.2.2.2.2.2.2.2.2.2.2.2.2.2.2.2.2.2.2.2.2.2.1 hx
      refine E_tableIn 1377 dL_law_32 (by omega) (by omega) (by rw [hx]; rfl) rfl ?_
      exact hP
    · replace hP := hP.2.2.2.2.2.2.2.2.2.2.2.2.2.2.2.2.2.2.2.2.2.2.2.2.2.2.2.2.2.2.2.2.2.2.2.2.2.2.2.2.2.1 hx
      refine E_tableIn 1420 dL_law_32 (by omega) (by omega) (by rw [hx]; rfl) rfl ?_
      exact hP
    · replace hP := hP.2.2.2.2.2.2.2.2.2.2.2.2.2.2.2.2.2.2.2.2.2.2.2.2.2.2.2.2.2.2.2.2.2.2.2.2.2.2.2.2.2.2.1 hx
      refine E_tableIn 1433 dL_law_32 (by omega) (by omega) (by rw [hx]; rfl) rfl ?_
      exact hP
    · replace hP := hP.2.2.2.2.2.2.2.2.2.2.2.2.2.2.2.2.2.2.2.2.2.2.2.2.2.2.2.2.2.2.2.2.2.2.2.2.2.2.2.2.2.2.2.1 hx
      refine E_tableIn 1486 dL_law_32 (by omega) (by omega) (by rw [hx]; rfl) rfl ?_
      exact hP
    · replace hP := hP.2.2.2.2.2.2.2.2.2.2.2.2.2.2.2.2.2.2.2.2.2.2.2.2.2.2.2.2.2.2.2.2.2.2.2.2.2.2.2.2.2.2.2.2.1 hx
      refine E_tableIn 1509 dL_law_32 (by omega) (by omega) (by rw [hx]; rfl) rfl ?_
      exact hP
    · replace hP := hP.2.2.2.2.2.2.2.2.2.2.2.2.2.2.2.2.2.2.2.2.2.2.2.2.2.2.2.2.2.2.2.2.2.2.2.2.2.2.2.2.2.2.2.2.2.1 hx
      refine E_tableIn 1542 dL_law_32 (by omega) (by omega) (by rw [hx]; rfl) rfl ?_
      exact hP
    · replace hP := hP.2.2.2.2.2.2.2.2.2.2.2.2.2.2.2.2.2.2.2.2.2.2.2.2.2.2.2.2.2.2.2.2.2.2.2.2.2.2.2.2.2.2.2.2.2.2.1 hx
      refine E_tableIn 1575 dL_law_32 (by omega) (by omega) (by rw [hx]; rfl) rfl ?_
      exact hP
    · replace hP := hP.2.2.2.2.2.2.2.2.2.2.2.2.2.2.2.2.2.2.2.2.2.2.2.2.2.2.2.2.2.2.2.2.2.2.2.2.2.2.2.2.2.2.2.2.2.2.2 hx
      refine E_tableOut 1608 dL_law_32 hx rfl ?_
      exact hP
