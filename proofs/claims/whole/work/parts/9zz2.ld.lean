/-! ===== the law's instructions, 1 ===== -/
theorem dl_0 : decode code 0 = .ok (.new 7, 3) := by decide +kernel
theorem dl_3 : decode code 3 = .ok (.dup, 1) := by decide +kernel
theorem dl_4 : decode code 4 = .ok (.invokespecial 9, 3) := by decide +kernel
theorem dl_7 : decode code 7 = .ok (.astore_n 1, 1) := by decide +kernel
theorem dl_8 : decode code 8 = .ok (.new 10, 3) := by decide +kernel
theorem dl_11 : decode code 11 = .ok (.dup, 1) := by decide +kernel
theorem dl_12 : decode code 12 = .ok (.invokespecial 12, 3) := by decide +kernel
theorem dl_15 : decode code 15 = .ok (.astore_n 2, 1) := by decide +kernel
theorem dl_16 : decode code 16 = .ok (.iconst 0, 1) := by decide +kernel
theorem dl_17 : decode code 17 = .ok (.istore_n 3, 1) := by decide +kernel
theorem dl_18 : decode code 18 = .ok (.iload_n 3, 1) := by decide +kernel
theorem dl_19 : decode code 19 = .ok (.aload_n 0, 1) := by decide +kernel
theorem dl_20 : decode code 20 = .ok (.arraylength, 1) := by decide +kernel
theorem dl_21 : decode code 21 = .ok (.bipush 6, 2) := by decide +kernel
theorem dl_23 : decode code 23 = .ok (.isub, 1) := by decide +kernel
theorem dl_24 : decode code 24 = .ok (.if_icmp .gt 1608, 3) := by decide +kernel
theorem dl_27 : decode code 27 = .ok (.aload_n 0, 1) := by decide +kernel
theorem dl_28 : decode code 28 = .ok (.iload_n 3, 1) := by decide +kernel
theorem dl_29 : decode code 29 = .ok (.iaload, 1) := by decide +kernel
theorem dl_30 : decode code 30 = .ok (.bipush 63, 2) := by decide +kernel
theorem dl_32 : decode code 32 = .ok (.iand, 1) := by decide +kernel
theorem dl_33 : decode code 33 = .ok (.tableswitch 1593 0 44 #[195, 258, 281, 304, 337, 370, 403, 436, 469, 512, 535, 558, 581, 604, 637, 660, 693, 726, 769, 802, 825, 869, 902, 935, 968, 981, 1004, 1017, 1030, 1053, 1086, 1109, 1132, 1165, 1198, 1231, 1264, 1297, 1341, 1364, 1407, 1481, 1524, 1547, 1570], 195) := by decide +kernel
theorem dl_228 : decode code 228 = .ok (.aload_n 1, 1) := by decide +kernel
theorem dl_229 : decode code 229 = .ok (.aload_n 0, 1) := by decide +kernel
theorem dl_230 : decode code 230 = .ok (.iload_n 3, 1) := by decide +kernel
theorem dl_231 : decode code 231 = .ok (.iconst 1, 1) := by decide +kernel
theorem dl_232 : decode code 232 = .ok (.iadd, 1) := by decide +kernel
theorem dl_233 : decode code 233 = .ok (.iaload, 1) := by decide +kernel
theorem dl_234 : decode code 234 = .ok (.aload_n 0, 1) := by decide +kernel
theorem dl_235 : decode code 235 = .ok (.iload_n 3, 1) := by decide +kernel
theorem dl_236 : decode code 236 = .ok (.iconst 2, 1) := by decide +kernel
theorem dl_237 : decode code 237 = .ok (.iadd, 1) := by decide +kernel
theorem dl_238 : decode code 238 = .ok (.iaload, 1) := by decide +kernel
theorem dl_239 : decode code 239 = .ok (.aload_n 0, 1) := by decide +kernel
theorem dl_240 : decode code 240 = .ok (.iload_n 3, 1) := by decide +kernel
theorem dl_241 : decode code 241 = .ok (.iconst 3, 1) := by decide +kernel
theorem dl_242 : decode code 242 = .ok (.iadd, 1) := by decide +kernel
theorem dl_243 : decode code 243 = .ok (.iaload, 1) := by decide +kernel
theorem dl_244 : decode code 244 = .ok (.aload_n 0, 1) := by decide +kernel
theorem dl_245 : decode code 245 = .ok (.iload_n 3, 1) := by decide +kernel
theorem dl_246 : decode code 246 = .ok (.iconst 4, 1) := by decide +kernel
theorem dl_247 : decode code 247 = .ok (.iadd, 1) := by decide +kernel
theorem dl_248 : decode code 248 = .ok (.iaload, 1) := by decide +kernel
theorem dl_249 : decode code 249 = .ok (.aload_n 0, 1) := by decide +kernel
theorem dl_250 : decode code 250 = .ok (.iload_n 3, 1) := by decide +kernel
theorem dl_251 : decode code 251 = .ok (.iconst 5, 1) := by decide +kernel
theorem dl_252 : decode code 252 = .ok (.iadd, 1) := by decide +kernel
theorem dl_253 : decode code 253 = .ok (.iaload, 1) := by decide +kernel
theorem dl_254 : decode code 254 = .ok (.invokevirtual 13, 3) := by decide +kernel
theorem dl_257 : decode code 257 = .ok (.aload_n 2, 1) := by decide +kernel
theorem dl_258 : decode code 258 = .ok (.aload_n 0, 1) := by decide +kernel
theorem dl_259 : decode code 259 = .ok (.iload_n 3, 1) := by decide +kernel
theorem dl_260 : decode code 260 = .ok (.iconst 1, 1) := by decide +kernel
theorem dl_261 : decode code 261 = .ok (.iadd, 1) := by decide +kernel
theorem dl_262 : decode code 262 = .ok (.iaload, 1) := by decide +kernel
theorem dl_263 : decode code 263 = .ok (.aload_n 0, 1) := by decide +kernel
theorem dl_264 : decode code 264 = .ok (.iload_n 3, 1) := by decide +kernel
theorem dl_265 : decode code 265 = .ok (.iconst 2, 1) := by decide +kernel
theorem dl_266 : decode code 266 = .ok (.iadd, 1) := by decide +kernel
theorem dl_267 : decode code 267 = .ok (.iaload, 1) := by decide +kernel
theorem dl_268 : decode code 268 = .ok (.aload_n 0, 1) := by decide +kernel
theorem dl_269 : decode code 269 = .ok (.iload_n 3, 1) := by decide +kernel
theorem dl_270 : decode code 270 = .ok (.iconst 3, 1) := by decide +kernel
theorem dl_271 : decode code 271 = .ok (.iadd, 1) := by decide +kernel
theorem dl_272 : decode code 272 = .ok (.iaload, 1) := by decide +kernel
theorem dl_273 : decode code 273 = .ok (.aload_n 0, 1) := by decide +kernel
theorem dl_274 : decode code 274 = .ok (.iload_n 3, 1) := by decide +kernel
theorem dl_275 : decode code 275 = .ok (.iconst 4, 1) := by decide +kernel
theorem dl_276 : decode code 276 = .ok (.iadd, 1) := by decide +kernel
theorem dl_277 : decode code 277 = .ok (.iaload, 1) := by decide +kernel
theorem dl_278 : decode code 278 = .ok (.aload_n 0, 1) := by decide +kernel
theorem dl_279 : decode code 279 = .ok (.iload_n 3, 1) := by decide +kernel
theorem dl_280 : decode code 280 = .ok (.iconst 5, 1) := by decide +kernel
theorem dl_281 : decode code 281 = .ok (.iadd, 1) := by decide +kernel
theorem dl_282 : decode code 282 = .ok (.iaload, 1) := by decide +kernel
theorem dl_283 : decode code 283 = .ok (.invokevirtual 17, 3) := by decide +kernel
theorem dl_286 : decode code 286 = .ok (.if_icmp .eq 1340, 3) := by decide +kernel
theorem dl_289 : decode code 289 = .ok (.iconst 0, 1) := by decide +kernel
theorem dl_290 : decode code 290 = .ok (.ireturn, 1) := by decide +kernel
theorem dl_291 : decode code 291 = .ok (.aload_n 1, 1) := by decide +kernel
theorem dl_292 : decode code 292 = .ok (.aload_n 0, 1) := by decide +kernel
theorem dl_293 : decode code 293 = .ok (.iload_n 3, 1) := by decide +kernel
theorem dl_294 : decode code 294 = .ok (.iconst 1, 1) := by decide +kernel
theorem dl_295 : decode code 295 = .ok (.iadd, 1) := by decide +kernel
theorem dl_296 : decode code 296 = .ok (.iaload, 1) := by decide +kernel
theorem dl_297 : decode code 297 = .ok (.invokevirtual 18, 3) := by decide +kernel
theorem dl_300 : decode code 300 = .ok (.aload_n 2, 1) := by decide +kernel
theorem dl_301 : decode code 301 = .ok (.aload_n 0, 1) := by decide +kernel
theorem dl_302 : decode code 302 = .ok (.iload_n 3, 1) := by decide +kernel
theorem dl_303 : decode code 303 = .ok (.iconst 1, 1) := by decide +kernel
theorem dl_304 : decode code 304 = .ok (.iadd, 1) := by decide +kernel
theorem dl_305 : decode code 305 = .ok (.iaload, 1) := by decide +kernel
theorem dl_306 : decode code 306 = .ok (.invokevirtual 22, 3) := by decide +kernel
theorem dl_309 : decode code 309 = .ok (.if_icmp .eq 1317, 3) := by decide +kernel
theorem dl_312 : decode code 312 = .ok (.iconst 0, 1) := by decide +kernel
theorem dl_313 : decode code 313 = .ok (.ireturn, 1) := by decide +kernel
theorem dl_314 : decode code 314 = .ok (.aload_n 1, 1) := by decide +kernel
theorem dl_315 : decode code 315 = .ok (.aload_n 0, 1) := by decide +kernel
theorem dl_316 : decode code 316 = .ok (.iload_n 3, 1) := by decide +kernel
theorem dl_317 : decode code 317 = .ok (.iconst 1, 1) := by decide +kernel
theorem dl_318 : decode code 318 = .ok (.iadd, 1) := by decide +kernel
theorem dl_319 : decode code 319 = .ok (.iaload, 1) := by decide +kernel
theorem dl_320 : decode code 320 = .ok (.invokevirtual 23, 3) := by decide +kernel
theorem dl_323 : decode code 323 = .ok (.aload_n 2, 1) := by decide +kernel
theorem dl_324 : decode code 324 = .ok (.aload_n 0, 1) := by decide +kernel
theorem dl_325 : decode code 325 = .ok (.iload_n 3, 1) := by decide +kernel
theorem dl_326 : decode code 326 = .ok (.iconst 1, 1) := by decide +kernel
theorem dl_327 : decode code 327 = .ok (.iadd, 1) := by decide +kernel
theorem dl_328 : decode code 328 = .ok (.iaload, 1) := by decide +kernel
theorem dl_329 : decode code 329 = .ok (.invokevirtual 26, 3) := by decide +kernel
theorem dl_332 : decode code 332 = .ok (.if_icmp .eq 1294, 3) := by decide +kernel
theorem dl_335 : decode code 335 = .ok (.iconst 0, 1) := by decide +kernel
theorem dl_336 : decode code 336 = .ok (.ireturn, 1) := by decide +kernel
theorem dl_337 : decode code 337 = .ok (.aload_n 1, 1) := by decide +kernel
theorem dl_338 : decode code 338 = .ok (.aload_n 0, 1) := by decide +kernel
theorem dl_339 : decode code 339 = .ok (.iload_n 3, 1) := by decide +kernel
theorem dl_340 : decode code 340 = .ok (.iconst 1, 1) := by decide +kernel
theorem dl_341 : decode code 341 = .ok (.iadd, 1) := by decide +kernel
theorem dl_342 : decode code 342 = .ok (.iaload, 1) := by decide +kernel
theorem dl_343 : decode code 343 = .ok (.aload_n 0, 1) := by decide +kernel
theorem dl_344 : decode code 344 = .ok (.iload_n 3, 1) := by decide +kernel
theorem dl_345 : decode code 345 = .ok (.iconst 2, 1) := by decide +kernel
theorem dl_346 : decode code 346 = .ok (.iadd, 1) := by decide +kernel
theorem dl_347 : decode code 347 = .ok (.iaload, 1) := by decide +kernel
theorem dl_348 : decode code 348 = .ok (.invokevirtual 27, 3) := by decide +kernel
theorem dl_351 : decode code 351 = .ok (.aload_n 2, 1) := by decide +kernel
theorem dl_352 : decode code 352 = .ok (.aload_n 0, 1) := by decide +kernel
theorem dl_353 : decode code 353 = .ok (.iload_n 3, 1) := by decide +kernel
theorem dl_354 : decode code 354 = .ok (.iconst 1, 1) := by decide +kernel
theorem dl_355 : decode code 355 = .ok (.iadd, 1) := by decide +kernel
theorem dl_356 : decode code 356 = .ok (.iaload, 1) := by decide +kernel
theorem dl_357 : decode code 357 = .ok (.aload_n 0, 1) := by decide +kernel
theorem dl_358 : decode code 358 = .ok (.iload_n 3, 1) := by decide +kernel
theorem dl_359 : decode code 359 = .ok (.iconst 2, 1) := by decide +kernel
theorem dl_360 : decode code 360 = .ok (.iadd, 1) := by decide +kernel
theorem dl_361 : decode code 361 = .ok (.iaload, 1) := by decide +kernel
theorem dl_362 : decode code 362 = .ok (.invokevirtual 31, 3) := by decide +kernel
theorem dl_365 : decode code 365 = .ok (.if_icmp .eq 1261, 3) := by decide +kernel
theorem dl_368 : decode code 368 = .ok (.iconst 0, 1) := by decide +kernel
theorem dl_369 : decode code 369 = .ok (.ireturn, 1) := by decide +kernel
theorem dl_370 : decode code 370 = .ok (.aload_n 1, 1) := by decide +kernel
theorem dl_371 : decode code 371 = .ok (.aload_n 0, 1) := by decide +kernel
theorem dl_372 : decode code 372 = .ok (.iload_n 3, 1) := by decide +kernel
theorem dl_373 : decode code 373 = .ok (.iconst 1, 1) := by decide +kernel
theorem dl_374 : decode code 374 = .ok (.iadd, 1) := by decide +kernel
theorem dl_375 : decode code 375 = .ok (.iaload, 1) := by decide +kernel
theorem dl_376 : decode code 376 = .ok (.aload_n 0, 1) := by decide +kernel
theorem dl_377 : decode code 377 = .ok (.iload_n 3, 1) := by decide +kernel
theorem dl_378 : decode code 378 = .ok (.iconst 2, 1) := by decide +kernel
theorem dl_379 : decode code 379 = .ok (.iadd, 1) := by decide +kernel
theorem dl_380 : decode code 380 = .ok (.iaload, 1) := by decide +kernel
theorem dl_381 : decode code 381 = .ok (.invokevirtual 32, 3) := by decide +kernel
theorem dl_384 : decode code 384 = .ok (.aload_n 2, 1) := by decide +kernel
theorem dl_385 : decode code 385 = .ok (.aload_n 0, 1) := by decide +kernel
theorem dl_386 : decode code 386 = .ok (.iload_n 3, 1) := by decide +kernel
theorem dl_387 : decode code 387 = .ok (.iconst 1, 1) := by decide +kernel
theorem dl_388 : decode code 388 = .ok (.iadd, 1) := by decide +kernel
theorem dl_389 : decode code 389 = .ok (.iaload, 1) := by decide +kernel
theorem dl_390 : decode code 390 = .ok (.aload_n 0, 1) := by decide +kernel
theorem dl_391 : decode code 391 = .ok (.iload_n 3, 1) := by decide +kernel
theorem dl_392 : decode code 392 = .ok (.iconst 2, 1) := by decide +kernel
theorem dl_393 : decode code 393 = .ok (.iadd, 1) := by decide +kernel
theorem dl_394 : decode code 394 = .ok (.iaload, 1) := by decide +kernel
theorem dl_395 : decode code 395 = .ok (.invokevirtual 35, 3) := by decide +kernel
theorem dl_398 : decode code 398 = .ok (.if_icmp .eq 1228, 3) := by decide +kernel
theorem dl_401 : decode code 401 = .ok (.iconst 0, 1) := by decide +kernel
theorem dl_402 : decode code 402 = .ok (.ireturn, 1) := by decide +kernel
theorem dl_403 : decode code 403 = .ok (.aload_n 1, 1) := by decide +kernel
theorem dl_404 : decode code 404 = .ok (.aload_n 0, 1) := by decide +kernel
theorem dl_405 : decode code 405 = .ok (.iload_n 3, 1) := by decide +kernel
theorem dl_406 : decode code 406 = .ok (.iconst 1, 1) := by decide +kernel
theorem dl_407 : decode code 407 = .ok (.iadd, 1) := by decide +kernel
theorem dl_408 : decode code 408 = .ok (.iaload, 1) := by decide +kernel
theorem dl_409 : decode code 409 = .ok (.aload_n 0, 1) := by decide +kernel
theorem dl_410 : decode code 410 = .ok (.iload_n 3, 1) := by decide +kernel
theorem dl_411 : decode code 411 = .ok (.iconst 2, 1) := by decide +kernel
theorem dl_412 : decode code 412 = .ok (.iadd, 1) := by decide +kernel
theorem dl_413 : decode code 413 = .ok (.iaload, 1) := by decide +kernel
theorem dl_414 : decode code 414 = .ok (.invokevirtual 36, 3) := by decide +kernel
theorem dl_417 : decode code 417 = .ok (.aload_n 2, 1) := by decide +kernel
theorem dl_418 : decode code 418 = .ok (.aload_n 0, 1) := by decide +kernel
theorem dl_419 : decode code 419 = .ok (.iload_n 3, 1) := by decide +kernel
theorem dl_420 : decode code 420 = .ok (.iconst 1, 1) := by decide +kernel
theorem dl_421 : decode code 421 = .ok (.iadd, 1) := by decide +kernel
theorem dl_422 : decode code 422 = .ok (.iaload, 1) := by decide +kernel
theorem dl_423 : decode code 423 = .ok (.aload_n 0, 1) := by decide +kernel
theorem dl_424 : decode code 424 = .ok (.iload_n 3, 1) := by decide +kernel
theorem dl_425 : decode code 425 = .ok (.iconst 2, 1) := by decide +kernel
theorem dl_426 : decode code 426 = .ok (.iadd, 1) := by decide +kernel
theorem dl_427 : decode code 427 = .ok (.iaload, 1) := by decide +kernel
theorem dl_428 : decode code 428 = .ok (.invokevirtual 39, 3) := by decide +kernel
theorem dl_431 : decode code 431 = .ok (.if_icmp .eq 1195, 3) := by decide +kernel
theorem dl_434 : decode code 434 = .ok (.iconst 0, 1) := by decide +kernel
theorem dl_435 : decode code 435 = .ok (.ireturn, 1) := by decide +kernel
theorem dl_436 : decode code 436 = .ok (.aload_n 1, 1) := by decide +kernel
theorem dl_437 : decode code 437 = .ok (.aload_n 0, 1) := by decide +kernel
theorem dl_438 : decode code 438 = .ok (.iload_n 3, 1) := by decide +kernel
theorem dl_439 : decode code 439 = .ok (.iconst 1, 1) := by decide +kernel
theorem dl_440 : decode code 440 = .ok (.iadd, 1) := by decide +kernel
theorem dl_441 : decode code 441 = .ok (.iaload, 1) := by decide +kernel
theorem dl_442 : decode code 442 = .ok (.aload_n 0, 1) := by decide +kernel
theorem dl_443 : decode code 443 = .ok (.iload_n 3, 1) := by decide +kernel
theorem dl_444 : decode code 444 = .ok (.iconst 2, 1) := by decide +kernel
theorem dl_445 : decode code 445 = .ok (.iadd, 1) := by decide +kernel
theorem dl_446 : decode code 446 = .ok (.iaload, 1) := by decide +kernel
theorem dl_447 : decode code 447 = .ok (.invokevirtual 40, 3) := by decide +kernel
theorem dl_450 : decode code 450 = .ok (.aload_n 2, 1) := by decide +kernel
theorem dl_451 : decode code 451 = .ok (.aload_n 0, 1) := by decide +kernel
theorem dl_452 : decode code 452 = .ok (.iload_n 3, 1) := by decide +kernel
theorem dl_453 : decode code 453 = .ok (.iconst 1, 1) := by decide +kernel
theorem dl_454 : decode code 454 = .ok (.iadd, 1) := by decide +kernel
theorem dl_455 : decode code 455 = .ok (.iaload, 1) := by decide +kernel
theorem dl_456 : decode code 456 = .ok (.aload_n 0, 1) := by decide +kernel
theorem dl_457 : decode code 457 = .ok (.iload_n 3, 1) := by decide +kernel
theorem dl_458 : decode code 458 = .ok (.iconst 2, 1) := by decide +kernel
theorem dl_459 : decode code 459 = .ok (.iadd, 1) := by decide +kernel
theorem dl_460 : decode code 460 = .ok (.iaload, 1) := by decide +kernel
theorem dl_461 : decode code 461 = .ok (.invokevirtual 43, 3) := by decide +kernel
theorem dl_464 : decode code 464 = .ok (.if_icmp .eq 1162, 3) := by decide +kernel
theorem dl_467 : decode code 467 = .ok (.iconst 0, 1) := by decide +kernel
theorem dl_468 : decode code 468 = .ok (.ireturn, 1) := by decide +kernel
theorem dl_469 : decode code 469 = .ok (.aload_n 1, 1) := by decide +kernel
theorem dl_470 : decode code 470 = .ok (.aload_n 0, 1) := by decide +kernel
theorem dl_471 : decode code 471 = .ok (.iload_n 3, 1) := by decide +kernel
theorem dl_472 : decode code 472 = .ok (.iconst 1, 1) := by decide +kernel
theorem dl_473 : decode code 473 = .ok (.iadd, 1) := by decide +kernel
theorem dl_474 : decode code 474 = .ok (.iaload, 1) := by decide +kernel
theorem dl_475 : decode code 475 = .ok (.aload_n 0, 1) := by decide +kernel
theorem dl_476 : decode code 476 = .ok (.iload_n 3, 1) := by decide +kernel
theorem dl_477 : decode code 477 = .ok (.iconst 2, 1) := by decide +kernel
theorem dl_478 : decode code 478 = .ok (.iadd, 1) := by decide +kernel
theorem dl_479 : decode code 479 = .ok (.iaload, 1) := by decide +kernel
theorem dl_480 : decode code 480 = .ok (.invokevirtual 44, 3) := by decide +kernel
theorem dl_483 : decode code 483 = .ok (.aload_n 2, 1) := by decide +kernel
theorem dl_484 : decode code 484 = .ok (.aload_n 0, 1) := by decide +kernel
theorem dl_485 : decode code 485 = .ok (.iload_n 3, 1) := by decide +kernel
theorem dl_486 : decode code 486 = .ok (.iconst 1, 1) := by decide +kernel
theorem dl_487 : decode code 487 = .ok (.iadd, 1) := by decide +kernel
theorem dl_488 : decode code 488 = .ok (.iaload, 1) := by decide +kernel
theorem dl_489 : decode code 489 = .ok (.aload_n 0, 1) := by decide +kernel
theorem dl_490 : decode code 490 = .ok (.iload_n 3, 1) := by decide +kernel
theorem dl_491 : decode code 491 = .ok (.iconst 2, 1) := by decide +kernel
theorem dl_492 : decode code 492 = .ok (.iadd, 1) := by decide +kernel
theorem dl_493 : decode code 493 = .ok (.iaload, 1) := by decide +kernel
theorem dl_494 : decode code 494 = .ok (.invokevirtual 47, 3) := by decide +kernel
theorem dl_497 : decode code 497 = .ok (.if_icmp .eq 1129, 3) := by decide +kernel
theorem dl_500 : decode code 500 = .ok (.iconst 0, 1) := by decide +kernel
theorem dl_501 : decode code 501 = .ok (.ireturn, 1) := by decide +kernel
theorem dl_502 : decode code 502 = .ok (.aload_n 1, 1) := by decide +kernel
theorem dl_503 : decode code 503 = .ok (.aload_n 0, 1) := by decide +kernel
theorem dl_504 : decode code 504 = .ok (.iload_n 3, 1) := by decide +kernel
theorem dl_505 : decode code 505 = .ok (.iconst 1, 1) := by decide +kernel
theorem dl_506 : decode code 506 = .ok (.iadd, 1) := by decide +kernel
theorem dl_507 : decode code 507 = .ok (.iaload, 1) := by decide +kernel
theorem dl_508 : decode code 508 = .ok (.aload_n 0, 1) := by decide +kernel
theorem dl_509 : decode code 509 = .ok (.iload_n 3, 1) := by decide +kernel
theorem dl_510 : decode code 510 = .ok (.iconst 2, 1) := by decide +kernel
theorem dl_511 : decode code 511 = .ok (.iadd, 1) := by decide +kernel
theorem dl_512 : decode code 512 = .ok (.iaload, 1) := by decide +kernel
theorem dl_513 : decode code 513 = .ok (.aload_n 0, 1) := by decide +kernel
theorem dl_514 : decode code 514 = .ok (.iload_n 3, 1) := by decide +kernel
theorem dl_515 : decode code 515 = .ok (.iconst 3, 1) := by decide +kernel
theorem dl_516 : decode code 516 = .ok (.iadd, 1) := by decide +kernel
theorem dl_517 : decode code 517 = .ok (.iaload, 1) := by decide +kernel
theorem dl_518 : decode code 518 = .ok (.invokevirtual 48, 3) := by decide +kernel
theorem dl_521 : decode code 521 = .ok (.aload_n 2, 1) := by decide +kernel
theorem dl_522 : decode code 522 = .ok (.aload_n 0, 1) := by decide +kernel
theorem dl_523 : decode code 523 = .ok (.iload_n 3, 1) := by decide +kernel
theorem dl_524 : decode code 524 = .ok (.iconst 1, 1) := by decide +kernel
theorem dl_525 : decode code 525 = .ok (.iadd, 1) := by decide +kernel
theorem dl_526 : decode code 526 = .ok (.iaload, 1) := by decide +kernel
theorem dl_527 : decode code 527 = .ok (.aload_n 0, 1) := by decide +kernel
theorem dl_528 : decode code 528 = .ok (.iload_n 3, 1) := by decide +kernel
theorem dl_529 : decode code 529 = .ok (.iconst 2, 1) := by decide +kernel
theorem dl_530 : decode code 530 = .ok (.iadd, 1) := by decide +kernel
theorem dl_531 : decode code 531 = .ok (.iaload, 1) := by decide +kernel
theorem dl_532 : decode code 532 = .ok (.aload_n 0, 1) := by decide +kernel
theorem dl_533 : decode code 533 = .ok (.iload_n 3, 1) := by decide +kernel
theorem dl_534 : decode code 534 = .ok (.iconst 3, 1) := by decide +kernel
theorem dl_535 : decode code 535 = .ok (.iadd, 1) := by decide +kernel
theorem dl_536 : decode code 536 = .ok (.iaload, 1) := by decide +kernel
theorem dl_537 : decode code 537 = .ok (.invokevirtual 52, 3) := by decide +kernel
theorem dl_540 : decode code 540 = .ok (.if_icmp .eq 1086, 3) := by decide +kernel
theorem dl_543 : decode code 543 = .ok (.iconst 0, 1) := by decide +kernel
theorem dl_544 : decode code 544 = .ok (.ireturn, 1) := by decide +kernel
theorem dl_545 : decode code 545 = .ok (.aload_n 1, 1) := by decide +kernel
theorem dl_546 : decode code 546 = .ok (.aload_n 0, 1) := by decide +kernel
theorem dl_547 : decode code 547 = .ok (.iload_n 3, 1) := by decide +kernel
theorem dl_548 : decode code 548 = .ok (.iconst 1, 1) := by decide +kernel
theorem dl_549 : decode code 549 = .ok (.iadd, 1) := by decide +kernel
theorem dl_550 : decode code 550 = .ok (.iaload, 1) := by decide +kernel
theorem dl_551 : decode code 551 = .ok (.invokevirtual 53, 3) := by decide +kernel
theorem dl_554 : decode code 554 = .ok (.aload_n 2, 1) := by decide +kernel
theorem dl_555 : decode code 555 = .ok (.aload_n 0, 1) := by decide +kernel
theorem dl_556 : decode code 556 = .ok (.iload_n 3, 1) := by decide +kernel
theorem dl_557 : decode code 557 = .ok (.iconst 1, 1) := by decide +kernel
theorem dl_558 : decode code 558 = .ok (.iadd, 1) := by decide +kernel
theorem dl_559 : decode code 559 = .ok (.iaload, 1) := by decide +kernel
theorem dl_560 : decode code 560 = .ok (.invokevirtual 56, 3) := by decide +kernel
theorem dl_563 : decode code 563 = .ok (.if_icmp .eq 1063, 3) := by decide +kernel
theorem dl_566 : decode code 566 = .ok (.iconst 0, 1) := by decide +kernel
theorem dl_567 : decode code 567 = .ok (.ireturn, 1) := by decide +kernel
theorem dl_568 : decode code 568 = .ok (.aload_n 1, 1) := by decide +kernel
theorem dl_569 : decode code 569 = .ok (.aload_n 0, 1) := by decide +kernel
theorem dl_570 : decode code 570 = .ok (.iload_n 3, 1) := by decide +kernel
theorem dl_571 : decode code 571 = .ok (.iconst 1, 1) := by decide +kernel
theorem dl_572 : decode code 572 = .ok (.iadd, 1) := by decide +kernel
theorem dl_573 : decode code 573 = .ok (.iaload, 1) := by decide +kernel
theorem dl_574 : decode code 574 = .ok (.invokevirtual 57, 3) := by decide +kernel
theorem dl_577 : decode code 577 = .ok (.aload_n 2, 1) := by decide +kernel
theorem dl_578 : decode code 578 = .ok (.aload_n 0, 1) := by decide +kernel
theorem dl_579 : decode code 579 = .ok (.iload_n 3, 1) := by decide +kernel
theorem dl_580 : decode code 580 = .ok (.iconst 1, 1) := by decide +kernel
theorem dl_581 : decode code 581 = .ok (.iadd, 1) := by decide +kernel
theorem dl_582 : decode code 582 = .ok (.iaload, 1) := by decide +kernel
theorem dl_583 : decode code 583 = .ok (.invokevirtual 60, 3) := by decide +kernel
theorem dl_586 : decode code 586 = .ok (.if_icmp .eq 1040, 3) := by decide +kernel
theorem dl_589 : decode code 589 = .ok (.iconst 0, 1) := by decide +kernel
theorem dl_590 : decode code 590 = .ok (.ireturn, 1) := by decide +kernel
theorem dl_591 : decode code 591 = .ok (.aload_n 1, 1) := by decide +kernel
theorem dl_592 : decode code 592 = .ok (.aload_n 0, 1) := by decide +kernel
theorem dl_593 : decode code 593 = .ok (.iload_n 3, 1) := by decide +kernel
theorem dl_594 : decode code 594 = .ok (.iconst 1, 1) := by decide +kernel
theorem dl_595 : decode code 595 = .ok (.iadd, 1) := by decide +kernel
theorem dl_596 : decode code 596 = .ok (.iaload, 1) := by decide +kernel
theorem dl_597 : decode code 597 = .ok (.invokevirtual 61, 3) := by decide +kernel
theorem dl_600 : decode code 600 = .ok (.aload_n 2, 1) := by decide +kernel
theorem dl_601 : decode code 601 = .ok (.aload_n 0, 1) := by decide +kernel
theorem dl_602 : decode code 602 = .ok (.iload_n 3, 1) := by decide +kernel
theorem dl_603 : decode code 603 = .ok (.iconst 1, 1) := by decide +kernel
theorem dl_604 : decode code 604 = .ok (.iadd, 1) := by decide +kernel
theorem dl_605 : decode code 605 = .ok (.iaload, 1) := by decide +kernel
theorem dl_606 : decode code 606 = .ok (.invokevirtual 64, 3) := by decide +kernel
theorem dl_609 : decode code 609 = .ok (.if_icmp .eq 1017, 3) := by decide +kernel
theorem dl_612 : decode code 612 = .ok (.iconst 0, 1) := by decide +kernel
theorem dl_613 : decode code 613 = .ok (.ireturn, 1) := by decide +kernel
theorem dl_614 : decode code 614 = .ok (.aload_n 1, 1) := by decide +kernel
theorem dl_615 : decode code 615 = .ok (.aload_n 0, 1) := by decide +kernel
theorem dl_616 : decode code 616 = .ok (.iload_n 3, 1) := by decide +kernel
theorem dl_617 : decode code 617 = .ok (.iconst 1, 1) := by decide +kernel
theorem dl_618 : decode code 618 = .ok (.iadd, 1) := by decide +kernel
theorem dl_619 : decode code 619 = .ok (.iaload, 1) := by decide +kernel
theorem dl_620 : decode code 620 = .ok (.invokevirtual 65, 3) := by decide +kernel
theorem dl_623 : decode code 623 = .ok (.aload_n 2, 1) := by decide +kernel
theorem dl_624 : decode code 624 = .ok (.aload_n 0, 1) := by decide +kernel
theorem dl_625 : decode code 625 = .ok (.iload_n 3, 1) := by decide +kernel
theorem dl_626 : decode code 626 = .ok (.iconst 1, 1) := by decide +kernel
theorem dl_627 : decode code 627 = .ok (.iadd, 1) := by decide +kernel
theorem dl_628 : decode code 628 = .ok (.iaload, 1) := by decide +kernel
theorem dl_629 : decode code 629 = .ok (.invokevirtual 68, 3) := by decide +kernel
theorem dl_632 : decode code 632 = .ok (.if_icmp .eq 994, 3) := by decide +kernel
theorem dl_635 : decode code 635 = .ok (.iconst 0, 1) := by decide +kernel
theorem dl_636 : decode code 636 = .ok (.ireturn, 1) := by decide +kernel
theorem dl_637 : decode code 637 = .ok (.aload_n 1, 1) := by decide +kernel
theorem dl_638 : decode code 638 = .ok (.aload_n 0, 1) := by decide +kernel
theorem dl_639 : decode code 639 = .ok (.iload_n 3, 1) := by decide +kernel
theorem dl_640 : decode code 640 = .ok (.iconst 1, 1) := by decide +kernel
theorem dl_641 : decode code 641 = .ok (.iadd, 1) := by decide +kernel
theorem dl_642 : decode code 642 = .ok (.iaload, 1) := by decide +kernel
theorem dl_643 : decode code 643 = .ok (.aload_n 0, 1) := by decide +kernel
theorem dl_644 : decode code 644 = .ok (.iload_n 3, 1) := by decide +kernel
theorem dl_645 : decode code 645 = .ok (.iconst 2, 1) := by decide +kernel
theorem dl_646 : decode code 646 = .ok (.iadd, 1) := by decide +kernel
theorem dl_647 : decode code 647 = .ok (.iaload, 1) := by decide +kernel
theorem dl_648 : decode code 648 = .ok (.invokevirtual 69, 3) := by decide +kernel
theorem dl_651 : decode code 651 = .ok (.aload_n 2, 1) := by decide +kernel
theorem dl_652 : decode code 652 = .ok (.aload_n 0, 1) := by decide +kernel
theorem dl_653 : decode code 653 = .ok (.iload_n 3, 1) := by decide +kernel
theorem dl_654 : decode code 654 = .ok (.iconst 1, 1) := by decide +kernel
theorem dl_655 : decode code 655 = .ok (.iadd, 1) := by decide +kernel
theorem dl_656 : decode code 656 = .ok (.iaload, 1) := by decide +kernel
theorem dl_657 : decode code 657 = .ok (.aload_n 0, 1) := by decide +kernel
theorem dl_658 : decode code 658 = .ok (.iload_n 3, 1) := by decide +kernel
theorem dl_659 : decode code 659 = .ok (.iconst 2, 1) := by decide +kernel
theorem dl_660 : decode code 660 = .ok (.iadd, 1) := by decide +kernel
theorem dl_661 : decode code 661 = .ok (.iaload, 1) := by decide +kernel
theorem dl_662 : decode code 662 = .ok (.invokevirtual 72, 3) := by decide +kernel
theorem dl_665 : decode code 665 = .ok (.if_icmp .eq 961, 3) := by decide +kernel
theorem dl_668 : decode code 668 = .ok (.iconst 0, 1) := by decide +kernel
theorem dl_669 : decode code 669 = .ok (.ireturn, 1) := by decide +kernel
theorem dl_670 : decode code 670 = .ok (.aload_n 1, 1) := by decide +kernel
theorem dl_671 : decode code 671 = .ok (.aload_n 0, 1) := by decide +kernel
theorem dl_672 : decode code 672 = .ok (.iload_n 3, 1) := by decide +kernel
