/-! ===== the 45 calls of the law ===== -/
section LC
variable {l : Launch} {D : va_G} {cA : Nat → ClassId} {ad : Nat → Nat} {p : Program} {e : Env} {s : State} {m : MethodId} {below : List Frame} {meth : Method} {c : Code} {b L : Nat} {xs : Nat → Int32} {k pc : Nat} {st : List Value} {h : sm_H}
theorem lc_0 (C : lz_C D cA ad p s m meth c b L xs) (hk : k + 6 ≤ L) {n : Nat} (hn : n ≤ 512) (J : JI n h) (G : ∀ h2 : sm_H, JI (n + 1) h2 → lz_G l D cA ad p e s m below meth c b k 1626 [] h2) : lz_G l D cA ad p e s m below meth c b k 228 [] h := by
  obtain ⟨v, h1, h2, e1, e2, J⟩ := j_feed hn J (xs (k + 1)) (xs (k + 2)) (xs (k + 3)) (xs (k + 4)) (xs (k + 5))
  refine lz_x C dl_228 ?_
  refine lz_arg (pc := 229) (j := 1) C hk (by decide) (by decide) dl_229 dl_230 dl_231 dl_232 dl_233 ?_
  refine lz_arg (pc := 234) (j := 2) C hk (by decide) (by decide) dl_234 dl_235 dl_236 dl_237 dl_238 ?_
  refine lz_arg (pc := 239) (j := 3) C hk (by decide) (by decide) dl_239 dl_240 dl_241 dl_242 dl_243 ?_
  refine lz_arg (pc := 244) (j := 4) C hk (by decide) (by decide) dl_244 dl_245 dl_246 dl_247 dl_248 ?_
  refine lz_arg (pc := 249) (j := 5) C hk (by decide) (by decide) dl_249 dl_250 dl_251 dl_252 dl_253 ?_
  refine lz_call (pc := 254) (y := 101) (a := 0) (ci := 11) (as := [.int (xs (k + 1)), .int (xs (k + 2)), .int (xs (k + 3)), .int (xs (k + 4)), .int (xs (k + 5))]) (st := []) C dl_254 e1 rfl mw_619 mw_111 lx_616 ⟨by decide +kernel, by decide +kernel⟩ (by decide +kernel : (parseMethodDescriptor (sm_nm 101).desc).map (fun d => d.parameters.length) = some 5) lx_617 lx_618 rfl kd_0 (by decide) rfl rfl (Nat.le_of_ble_eq_true rfl) (Nat.le_of_ble_eq_true rfl) ?_
  refine lz_m C dl_257 ?_
  refine lz_arg (pc := 258) (j := 1) C hk (by decide) (by decide) dl_258 dl_259 dl_260 dl_261 dl_262 ?_
  refine lz_arg (pc := 263) (j := 2) C hk (by decide) (by decide) dl_263 dl_264 dl_265 dl_266 dl_267 ?_
  refine lz_arg (pc := 268) (j := 3) C hk (by decide) (by decide) dl_268 dl_269 dl_270 dl_271 dl_272 ?_
  refine lz_arg (pc := 273) (j := 4) C hk (by decide) (by decide) dl_273 dl_274 dl_275 dl_276 dl_277 ?_
  refine lz_arg (pc := 278) (j := 5) C hk (by decide) (by decide) dl_278 dl_279 dl_280 dl_281 dl_282 ?_
  refine lz_call (pc := 283) (y := 149) (a := 169) (ci := 12) (as := [.int (xs (k + 1)), .int (xs (k + 2)), .int (xs (k + 3)), .int (xs (k + 4)), .int (xs (k + 5))]) (st := [.int v]) C dl_283 e2 rfl mw_1543 mw_123 lx_1540 ⟨by decide +kernel, by decide +kernel⟩ (by decide +kernel : (parseMethodDescriptor (sm_nm 149).desc).map (fun d => d.parameters.length) = some 5) lx_1541 lx_1542 rfl kd_169 (by decide) rfl rfl (Nat.le_of_ble_eq_true rfl) (Nat.le_of_ble_eq_true rfl) ?_
  exact lz_eq (pc := 286) (tgt := 1626) C dl_286 (by decide) (G h2 J)
theorem lc_1 (C : lz_C D cA ad p s m meth c b L xs) (hk : k + 6 ≤ L) {n : Nat} (hn : n ≤ 512) (J : JI n h) (G : ∀ h2 : sm_H, JI (n + 1) h2 → lz_G l D cA ad p e s m below meth c b k 1626 [] h2) : lz_G l D cA ad p e s m below meth c b k 291 [] h := by
  obtain ⟨v, h1, h2, e1, e2, J⟩ := j_land hn J (xs (k + 1))
  refine lz_x C dl_291 ?_
  refine lz_arg (pc := 292) (j := 1) C hk (by decide) (by decide) dl_292 dl_293 dl_294 dl_295 dl_296 ?_
  refine lz_call (pc := 297) (y := 103) (a := 0) (ci := 11) (as := [.int (xs (k + 1))]) (st := []) C dl_297 e1 rfl mw_627 mw_111 lx_624 ⟨by decide +kernel, by decide +kernel⟩ (by decide +kernel : (parseMethodDescriptor (sm_nm 103).desc).map (fun d => d.parameters.length) = some 1) lx_625 lx_626 rfl kd_0 (by decide) rfl rfl (Nat.le_of_ble_eq_true rfl) (Nat.le_of_ble_eq_true rfl) ?_
  refine lz_m C dl_300 ?_
  refine lz_arg (pc := 301) (j := 1) C hk (by decide) (by decide) dl_301 dl_302 dl_303 dl_304 dl_305 ?_
  refine lz_call (pc := 306) (y := 176) (a := 169) (ci := 12) (as := [.int (xs (k + 1))]) (st := [.int v]) C dl_306 e2 rfl mw_1547 mw_123 lx_1544 ⟨by decide +kernel, by decide +kernel⟩ (by decide +kernel : (parseMethodDescriptor (sm_nm 176).desc).map (fun d => d.parameters.length) = some 1) lx_1545 lx_1546 rfl kd_169 (by decide) rfl rfl (Nat.le_of_ble_eq_true rfl) (Nat.le_of_ble_eq_true rfl) ?_
  exact lz_eq (pc := 309) (tgt := 1626) C dl_309 (by decide) (G h2 J)
theorem lc_2 (C : lz_C D cA ad p s m meth c b L xs) (hk : k + 6 ≤ L) {n : Nat} (hn : n ≤ 512) (J : JI n h) (G : ∀ h2 : sm_H, JI (n + 1) h2 → lz_G l D cA ad p e s m below meth c b k 1626 [] h2) : lz_G l D cA ad p e s m below meth c b k 314 [] h := by
  obtain ⟨v, h1, h2, e1, e2, J⟩ := j_fault hn J (xs (k + 1))
  refine lz_x C dl_314 ?_
  refine lz_arg (pc := 315) (j := 1) C hk (by decide) (by decide) dl_315 dl_316 dl_317 dl_318 dl_319 ?_
  refine lz_call (pc := 320) (y := 104) (a := 0) (ci := 11) (as := [.int (xs (k + 1))]) (st := []) C dl_320 e1 rfl mw_884 mw_111 lx_881 ⟨by decide +kernel, by decide +kernel⟩ (by decide +kernel : (parseMethodDescriptor (sm_nm 104).desc).map (fun d => d.parameters.length) = some 1) lx_882 lx_883 rfl kd_0 (by decide) rfl rfl (Nat.le_of_ble_eq_true rfl) (Nat.le_of_ble_eq_true rfl) ?_
  refine lz_m C dl_323 ?_
  refine lz_arg (pc := 324) (j := 1) C hk (by decide) (by decide) dl_324 dl_325 dl_326 dl_327 dl_328 ?_
  refine lz_call (pc := 329) (y := 177) (a := 169) (ci := 12) (as := [.int (xs (k + 1))]) (st := [.int v]) C dl_329 e2 rfl mw_1660 mw_123 lx_1657 ⟨by decide +kernel, by decide +kernel⟩ (by decide +kernel : (parseMethodDescriptor (sm_nm 177).desc).map (fun d => d.parameters.length) = some 1) lx_1658 lx_1659 rfl kd_169 (by decide) rfl rfl (Nat.le_of_ble_eq_true rfl) (Nat.le_of_ble_eq_true rfl) ?_
  exact lz_eq (pc := 332) (tgt := 1626) C dl_332 (by decide) (G h2 J)
theorem lc_3 (C : lz_C D cA ad p s m meth c b L xs) (hk : k + 6 ≤ L) {n : Nat} (hn : n ≤ 512) (J : JI n h) (G : ∀ h2 : sm_H, JI (n + 1) h2 → lz_G l D cA ad p e s m below meth c b k 1626 [] h2) : lz_G l D cA ad p e s m below meth c b k 337 [] h := by
  obtain ⟨v, h1, h2, e1, e2, J⟩ := j_person hn J (xs (k + 1)) (xs (k + 2))
  refine lz_x C dl_337 ?_
  refine lz_arg (pc := 338) (j := 1) C hk (by decide) (by decide) dl_338 dl_339 dl_340 dl_341 dl_342 ?_
  refine lz_arg (pc := 343) (j := 2) C hk (by decide) (by decide) dl_343 dl_344 dl_345 dl_346 dl_347 ?_
  refine lz_call (pc := 348) (y := 105) (a := 0) (ci := 11) (as := [.int (xs (k + 1)), .int (xs (k + 2))]) (st := []) C dl_348 e1 rfl mw_888 mw_111 lx_885 ⟨by decide +kernel, by decide +kernel⟩ (by decide +kernel : (parseMethodDescriptor (sm_nm 105).desc).map (fun d => d.parameters.length) = some 2) lx_886 lx_887 rfl kd_0 (by decide) rfl rfl (Nat.le_of_ble_eq_true rfl) (Nat.le_of_ble_eq_true rfl) ?_
  refine lz_m C dl_351 ?_
  refine lz_arg (pc := 352) (j := 1) C hk (by decide) (by decide) dl_352 dl_353 dl_354 dl_355 dl_356 ?_
  refine lz_arg (pc := 357) (j := 2) C hk (by decide) (by decide) dl_357 dl_358 dl_359 dl_360 dl_361 ?_
  refine lz_call (pc := 362) (y := 193) (a := 169) (ci := 12) (as := [.int (xs (k + 1)), .int (xs (k + 2))]) (st := [.int v]) C dl_362 e2 rfl mw_1664 mw_123 lx_1661 ⟨by decide +kernel, by decide +kernel⟩ (by decide +kernel : (parseMethodDescriptor (sm_nm 193).desc).map (fun d => d.parameters.length) = some 2) lx_1662 lx_1663 rfl kd_169 (by decide) rfl rfl (Nat.le_of_ble_eq_true rfl) (Nat.le_of_ble_eq_true rfl) ?_
  exact lz_eq (pc := 365) (tgt := 1626) C dl_365 (by decide) (G h2 J)
theorem lc_4 (C : lz_C D cA ad p s m meth c b L xs) (hk : k + 6 ≤ L) {n : Nat} (hn : n ≤ 512) (J : JI n h) (G : ∀ h2 : sm_H, JI (n + 1) h2 → lz_G l D cA ad p e s m below meth c b k 1626 [] h2) : lz_G l D cA ad p e s m below meth c b k 370 [] h := by
  obtain ⟨v, h1, h2, e1, e2, J⟩ := j_road hn J (xs (k + 1)) (xs (k + 2))
  refine lz_x C dl_370 ?_
  refine lz_arg (pc := 371) (j := 1) C hk (by decide) (by decide) dl_371 dl_372 dl_373 dl_374 dl_375 ?_
  refine lz_arg (pc := 376) (j := 2) C hk (by decide) (by decide) dl_376 dl_377 dl_378 dl_379 dl_380 ?_
  refine lz_call (pc := 381) (y := 106) (a := 0) (ci := 11) (as := [.int (xs (k + 1)), .int (xs (k + 2))]) (st := []) C dl_381 e1 rfl mw_896 mw_111 lx_893 ⟨by decide +kernel, by decide +kernel⟩ (by decide +kernel : (parseMethodDescriptor (sm_nm 106).desc).map (fun d => d.parameters.length) = some 2) lx_894 lx_895 rfl kd_0 (by decide) rfl rfl (Nat.le_of_ble_eq_true rfl) (Nat.le_of_ble_eq_true rfl) ?_
  refine lz_m C dl_384 ?_
  refine lz_arg (pc := 385) (j := 1) C hk (by decide) (by decide) dl_385 dl_386 dl_387 dl_388 dl_389 ?_
  refine lz_arg (pc := 390) (j := 2) C hk (by decide) (by decide) dl_390 dl_391 dl_392 dl_393 dl_394 ?_
  refine lz_call (pc := 395) (y := 194) (a := 169) (ci := 12) (as := [.int (xs (k + 1)), .int (xs (k + 2))]) (st := [.int v]) C dl_395 e2 rfl mw_1675 mw_123 lx_1672 ⟨by decide +kernel, by decide +kernel⟩ (by decide +kernel : (parseMethodDescriptor (sm_nm 194).desc).map (fun d => d.parameters.length) = some 2) lx_1673 lx_1674 rfl kd_169 (by decide) rfl rfl (Nat.le_of_ble_eq_true rfl) (Nat.le_of_ble_eq_true rfl) ?_
  exact lz_eq (pc := 398) (tgt := 1626) C dl_398 (by decide) (G h2 J)
theorem lc_5 (C : lz_C D cA ad p s m meth c b L xs) (hk : k + 6 ≤ L) {n : Nat} (hn : n ≤ 512) (J : JI n h) (G : ∀ h2 : sm_H, JI (n + 1) h2 → lz_G l D cA ad p e s m below meth c b k 1626 [] h2) : lz_G l D cA ad p e s m below meth c b k 403 [] h := by
  obtain ⟨v, h1, h2, e1, e2, J⟩ := j_why hn J (xs (k + 1)) (xs (k + 2))
  refine lz_x C dl_403 ?_
  refine lz_arg (pc := 404) (j := 1) C hk (by decide) (by decide) dl_404 dl_405 dl_406 dl_407 dl_408 ?_
  refine lz_arg (pc := 409) (j := 2) C hk (by decide) (by decide) dl_409 dl_410 dl_411 dl_412 dl_413 ?_
  refine lz_call (pc := 414) (y := 107) (a := 0) (ci := 11) (as := [.int (xs (k + 1)), .int (xs (k + 2))]) (st := []) C dl_414 e1 rfl mw_904 mw_111 lx_901 ⟨by decide +kernel, by decide +kernel⟩ (by decide +kernel : (parseMethodDescriptor (sm_nm 107).desc).map (fun d => d.parameters.length) = some 2) lx_902 lx_903 rfl kd_0 (by decide) rfl rfl (Nat.le_of_ble_eq_true rfl) (Nat.le_of_ble_eq_true rfl) ?_
  refine lz_m C dl_417 ?_
  refine lz_arg (pc := 418) (j := 1) C hk (by decide) (by decide) dl_418 dl_419 dl_420 dl_421 dl_422 ?_
  refine lz_arg (pc := 423) (j := 2) C hk (by decide) (by decide) dl_423 dl_424 dl_425 dl_426 dl_427 ?_
  refine lz_call (pc := 428) (y := 195) (a := 169) (ci := 12) (as := [.int (xs (k + 1)), .int (xs (k + 2))]) (st := [.int v]) C dl_428 e2 rfl mw_1684 mw_123 lx_1681 ⟨by decide +kernel, by decide +kernel⟩ (by decide +kernel : (parseMethodDescriptor (sm_nm 195).desc).map (fun d => d.parameters.length) = some 2) lx_1682 lx_1683 rfl kd_169 (by decide) rfl rfl (Nat.le_of_ble_eq_true rfl) (Nat.le_of_ble_eq_true rfl) ?_
  exact lz_eq (pc := 431) (tgt := 1626) C dl_431 (by decide) (G h2 J)
theorem lc_6 (C : lz_C D cA ad p s m meth c b L xs) (hk : k + 6 ≤ L) {n : Nat} (hn : n ≤ 512) (J : JI n h) (G : ∀ h2 : sm_H, JI (n + 1) h2 → lz_G l D cA ad p e s m below meth c b k 1626 [] h2) : lz_G l D cA ad p e s m below meth c b k 436 [] h := by
  obtain ⟨v, h1, h2, e1, e2, J⟩ := j_takes hn J (xs (k + 1)) (xs (k + 2))
  refine lz_x C dl_436 ?_
  refine lz_arg (pc := 437) (j := 1) C hk (by decide) (by decide) dl_437 dl_438 dl_439 dl_440 dl_441 ?_
  refine lz_arg (pc := 442) (j := 2) C hk (by decide) (by decide) dl_442 dl_443 dl_444 dl_445 dl_446 ?_
  refine lz_call (pc := 447) (y := 108) (a := 0) (ci := 11) (as := [.int (xs (k + 1)), .int (xs (k + 2))]) (st := []) C dl_447 e1 rfl mw_947 mw_111 lx_944 ⟨by decide +kernel, by decide +kernel⟩ (by decide +kernel : (parseMethodDescriptor (sm_nm 108).desc).map (fun d => d.parameters.length) = some 2) lx_945 lx_946 rfl kd_0 (by decide) rfl rfl (Nat.le_of_ble_eq_true rfl) (Nat.le_of_ble_eq_true rfl) ?_
  refine lz_m C dl_450 ?_
  refine lz_arg (pc := 451) (j := 1) C hk (by decide) (by decide) dl_451 dl_452 dl_453 dl_454 dl_455 ?_
  refine lz_arg (pc := 456) (j := 2) C hk (by decide) (by decide) dl_456 dl_457 dl_458 dl_459 dl_460 ?_
  refine lz_call (pc := 461) (y := 196) (a := 169) (ci := 12) (as := [.int (xs (k + 1)), .int (xs (k + 2))]) (st := [.int v]) C dl_461 e2 rfl mw_1724 mw_123 lx_1721 ⟨by decide +kernel, by decide +kernel⟩ (by decide +kernel : (parseMethodDescriptor (sm_nm 196).desc).map (fun d => d.parameters.length) = some 2) lx_1722 lx_1723 rfl kd_169 (by decide) rfl rfl (Nat.le_of_ble_eq_true rfl) (Nat.le_of_ble_eq_true rfl) ?_
  exact lz_eq (pc := 464) (tgt := 1626) C dl_464 (by decide) (G h2 J)
theorem lc_7 (C : lz_C D cA ad p s m meth c b L xs) (hk : k + 6 ≤ L) {n : Nat} (hn : n ≤ 512) (J : JI n h) (G : ∀ h2 : sm_H, JI (n + 1) h2 → lz_G l D cA ad p e s m below meth c b k 1626 [] h2) : lz_G l D cA ad p e s m below meth c b k 469 [] h := by
  obtain ⟨v, h1, h2, e1, e2, J⟩ := j_go hn J (xs (k + 1)) (xs (k + 2))
  refine lz_x C dl_469 ?_
  refine lz_arg (pc := 470) (j := 1) C hk (by decide) (by decide) dl_470 dl_471 dl_472 dl_473 dl_474 ?_
  refine lz_arg (pc := 475) (j := 2) C hk (by decide) (by decide) dl_475 dl_476 dl_477 dl_478 dl_479 ?_
  refine lz_call (pc := 480) (y := 109) (a := 0) (ci := 11) (as := [.int (xs (k + 1)), .int (xs (k + 2))]) (st := []) C dl_480 e1 rfl mw_957 mw_111 lx_954 ⟨by decide +kernel, by decide +kernel⟩ (by decide +kernel : (parseMethodDescriptor (sm_nm 109).desc).map (fun d => d.parameters.length) = some 2) lx_955 lx_956 rfl kd_0 (by decide) rfl rfl (Nat.le_of_ble_eq_true rfl) (Nat.le_of_ble_eq_true rfl) ?_
  refine lz_m C dl_483 ?_
  refine lz_arg (pc := 484) (j := 1) C hk (by decide) (by decide) dl_484 dl_485 dl_486 dl_487 dl_488 ?_
  refine lz_arg (pc := 489) (j := 2) C hk (by decide) (by decide) dl_489 dl_490 dl_491 dl_492 dl_493 ?_
  refine lz_call (pc := 494) (y := 206) (a := 169) (ci := 12) (as := [.int (xs (k + 1)), .int (xs (k + 2))]) (st := [.int v]) C dl_494 e2 rfl mw_1732 mw_123 lx_1729 ⟨by decide +kernel, by decide +kernel⟩ (by decide +kernel : (parseMethodDescriptor (sm_nm 206).desc).map (fun d => d.parameters.length) = some 2) lx_1730 lx_1731 rfl kd_169 (by decide) rfl rfl (Nat.le_of_ble_eq_true rfl) (Nat.le_of_ble_eq_true rfl) ?_
  exact lz_eq (pc := 497) (tgt := 1626) C dl_497 (by decide) (G h2 J)
theorem lc_8 (C : lz_C D cA ad p s m meth c b L xs) (hk : k + 6 ≤ L) {n : Nat} (hn : n ≤ 512) (J : JI n h) (G : ∀ h2 : sm_H, JI (n + 1) h2 → lz_G l D cA ad p e s m below meth c b k 1626 [] h2) : lz_G l D cA ad p e s m below meth c b k 502 [] h := by
  obtain ⟨v, h1, h2, e1, e2, J⟩ := j_give hn J (xs (k + 1)) (xs (k + 2)) (xs (k + 3))
  refine lz_x C dl_502 ?_
  refine lz_arg (pc := 503) (j := 1) C hk (by decide) (by decide) dl_503 dl_504 dl_505 dl_506 dl_507 ?_
  refine lz_arg (pc := 508) (j := 2) C hk (by decide) (by decide) dl_508 dl_509 dl_510 dl_511 dl_512 ?_
  refine lz_arg (pc := 513) (j := 3) C hk (by decide) (by decide) dl_513 dl_514 dl_515 dl_516 dl_517 ?_
  refine lz_call (pc := 518) (y := 110) (a := 0) (ci := 11) (as := [.int (xs (k + 1)), .int (xs (k + 2)), .int (xs (k + 3))]) (st := []) C dl_518 e1 rfl mw_977 mw_111 lx_974 ⟨by decide +kernel, by decide +kernel⟩ (by decide +kernel : (parseMethodDescriptor (sm_nm 110).desc).map (fun d => d.parameters.length) = some 3) lx_975 lx_976 rfl kd_0 (by decide) rfl rfl (Nat.le_of_ble_eq_true rfl) (Nat.le_of_ble_eq_true rfl) ?_
  refine lz_m C dl_521 ?_
  refine lz_arg (pc := 522) (j := 1) C hk (by decide) (by decide) dl_522 dl_523 dl_524 dl_525 dl_526 ?_
  refine lz_arg (pc := 527) (j := 2) C hk (by decide) (by decide) dl_527 dl_528 dl_529 dl_530 dl_531 ?_
  refine lz_arg (pc := 532) (j := 3) C hk (by decide) (by decide) dl_532 dl_533 dl_534 dl_535 dl_536 ?_
  refine lz_call (pc := 537) (y := 207) (a := 169) (ci := 12) (as := [.int (xs (k + 1)), .int (xs (k + 2)), .int (xs (k + 3))]) (st := [.int v]) C dl_537 e2 rfl mw_1748 mw_123 lx_1745 ⟨by decide +kernel, by decide +kernel⟩ (by decide +kernel : (parseMethodDescriptor (sm_nm 207).desc).map (fun d => d.parameters.length) = some 3) lx_1746 lx_1747 rfl kd_169 (by decide) rfl rfl (Nat.le_of_ble_eq_true rfl) (Nat.le_of_ble_eq_true rfl) ?_
  exact lz_eq (pc := 540) (tgt := 1626) C dl_540 (by decide) (G h2 J)
theorem lc_9 (C : lz_C D cA ad p s m meth c b L xs) (hk : k + 6 ≤ L) {n : Nat} (hn : n ≤ 512) (J : JI n h) (G : ∀ h2 : sm_H, JI (n + 1) h2 → lz_G l D cA ad p e s m below meth c b k 1626 [] h2) : lz_G l D cA ad p e s m below meth c b k 545 [] h := by
  obtain ⟨v, h1, h2, e1, e2, J⟩ := j_forge hn J (xs (k + 1))
  refine lz_x C dl_545 ?_
  refine lz_arg (pc := 546) (j := 1) C hk (by decide) (by decide) dl_546 dl_547 dl_548 dl_549 dl_550 ?_
  refine lz_call (pc := 551) (y := 111) (a := 0) (ci := 11) (as := [.int (xs (k + 1))]) (st := []) C dl_551 e1 rfl mw_985 mw_111 lx_982 ⟨by decide +kernel, by decide +kernel⟩ (by decide +kernel : (parseMethodDescriptor (sm_nm 111).desc).map (fun d => d.parameters.length) = some 1) lx_983 lx_984 rfl kd_0 (by decide) rfl rfl (Nat.le_of_ble_eq_true rfl) (Nat.le_of_ble_eq_true rfl) ?_
  refine lz_m C dl_554 ?_
  refine lz_arg (pc := 555) (j := 1) C hk (by decide) (by decide) dl_555 dl_556 dl_557 dl_558 dl_559 ?_
  refine lz_call (pc := 560) (y := 208) (a := 169) (ci := 12) (as := [.int (xs (k + 1))]) (st := [.int v]) C dl_560 e2 rfl mw_1765 mw_123 lx_1762 ⟨by decide +kernel, by decide +kernel⟩ (by decide +kernel : (parseMethodDescriptor (sm_nm 208).desc).map (fun d => d.parameters.length) = some 1) lx_1763 lx_1764 rfl kd_169 (by decide) rfl rfl (Nat.le_of_ble_eq_true rfl) (Nat.le_of_ble_eq_true rfl) ?_
  exact lz_eq (pc := 563) (tgt := 1626) C dl_563 (by decide) (G h2 J)
theorem lc_10 (C : lz_C D cA ad p s m meth c b L xs) (hk : k + 6 ≤ L) {n : Nat} (hn : n ≤ 512) (J : JI n h) (G : ∀ h2 : sm_H, JI (n + 1) h2 → lz_G l D cA ad p e s m below meth c b k 1626 [] h2) : lz_G l D cA ad p e s m below meth c b k 568 [] h := by
  obtain ⟨v, h1, h2, e1, e2, J⟩ := j_shut hn J (xs (k + 1))
  refine lz_x C dl_568 ?_
  refine lz_arg (pc := 569) (j := 1) C hk (by decide) (by decide) dl_569 dl_570 dl_571 dl_572 dl_573 ?_
  refine lz_call (pc := 574) (y := 112) (a := 0) (ci := 11) (as := [.int (xs (k + 1))]) (st := []) C dl_574 e1 rfl mw_993 mw_111 lx_990 ⟨by decide +kernel, by decide +kernel⟩ (by decide +kernel : (parseMethodDescriptor (sm_nm 112).desc).map (fun d => d.parameters.length) = some 1) lx_991 lx_992 rfl kd_0 (by decide) rfl rfl (Nat.le_of_ble_eq_true rfl) (Nat.le_of_ble_eq_true rfl) ?_
  refine lz_m C dl_577 ?_
  refine lz_arg (pc := 578) (j := 1) C hk (by decide) (by decide) dl_578 dl_579 dl_580 dl_581 dl_582 ?_
  refine lz_call (pc := 583) (y := 209) (a := 169) (ci := 12) (as := [.int (xs (k + 1))]) (st := [.int v]) C dl_583 e2 rfl mw_1777 mw_123 lx_1774 ⟨by decide +kernel, by decide +kernel⟩ (by decide +kernel : (parseMethodDescriptor (sm_nm 209).desc).map (fun d => d.parameters.length) = some 1) lx_1775 lx_1776 rfl kd_169 (by decide) rfl rfl (Nat.le_of_ble_eq_true rfl) (Nat.le_of_ble_eq_true rfl) ?_
  exact lz_eq (pc := 586) (tgt := 1626) C dl_586 (by decide) (G h2 J)
theorem lc_11 (C : lz_C D cA ad p s m meth c b L xs) (hk : k + 6 ≤ L) {n : Nat} (hn : n ≤ 512) (J : JI n h) (G : ∀ h2 : sm_H, JI (n + 1) h2 → lz_G l D cA ad p e s m below meth c b k 1626 [] h2) : lz_G l D cA ad p e s m below meth c b k 591 [] h := by
  obtain ⟨v, h1, h2, e1, e2, J⟩ := j_days hn J (xs (k + 1))
  refine lz_x C dl_591 ?_
  refine lz_arg (pc := 592) (j := 1) C hk (by decide) (by decide) dl_592 dl_593 dl_594 dl_595 dl_596 ?_
  refine lz_call (pc := 597) (y := 113) (a := 0) (ci := 11) (as := [.int (xs (k + 1))]) (st := []) C dl_597 e1 rfl mw_1001 mw_111 lx_998 ⟨by decide +kernel, by decide +kernel⟩ (by decide +kernel : (parseMethodDescriptor (sm_nm 113).desc).map (fun d => d.parameters.length) = some 1) lx_999 lx_1000 rfl kd_0 (by decide) rfl rfl (Nat.le_of_ble_eq_true rfl) (Nat.le_of_ble_eq_true rfl) ?_
  refine lz_m C dl_600 ?_
  refine lz_arg (pc := 601) (j := 1) C hk (by decide) (by decide) dl_601 dl_602 dl_603 dl_604 dl_605 ?_
  refine lz_call (pc := 606) (y := 210) (a := 169) (ci := 12) (as := [.int (xs (k + 1))]) (st := [.int v]) C dl_606 e2 rfl mw_1781 mw_123 lx_1778 ⟨by decide +kernel, by decide +kernel⟩ (by decide +kernel : (parseMethodDescriptor (sm_nm 210).desc).map (fun d => d.parameters.length) = some 1) lx_1779 lx_1780 rfl kd_169 (by decide) rfl rfl (Nat.le_of_ble_eq_true rfl) (Nat.le_of_ble_eq_true rfl) ?_
  exact lz_eq (pc := 609) (tgt := 1626) C dl_609 (by decide) (G h2 J)
theorem lc_12 (C : lz_C D cA ad p s m meth c b L xs) (hk : k + 6 ≤ L) {n : Nat} (hn : n ≤ 512) (J : JI n h) (G : ∀ h2 : sm_H, JI (n + 1) h2 → lz_G l D cA ad p e s m below meth c b k 1626 [] h2) : lz_G l D cA ad p e s m below meth c b k 614 [] h := by
  obtain ⟨v, h1, h2, e1, e2, J⟩ := j_undo hn J (xs (k + 1))
  refine lz_x C dl_614 ?_
  refine lz_arg (pc := 615) (j := 1) C hk (by decide) (by decide) dl_615 dl_616 dl_617 dl_618 dl_619 ?_
  refine lz_call (pc := 620) (y := 114) (a := 0) (ci := 11) (as := [.int (xs (k + 1))]) (st := []) C dl_620 e1 rfl mw_1009 mw_111 lx_1006 ⟨by decide +kernel, by decide +kernel⟩ (by decide +kernel : (parseMethodDescriptor (sm_nm 114).desc).map (fun d => d.parameters.length) = some 1) lx_1007 lx_1008 rfl kd_0 (by decide) rfl rfl (Nat.le_of_ble_eq_true rfl) (Nat.le_of_ble_eq_true rfl) ?_
  refine lz_m C dl_623 ?_
  refine lz_arg (pc := 624) (j := 1) C hk (by decide) (by decide) dl_624 dl_625 dl_626 dl_627 dl_628 ?_
  refine lz_call (pc := 629) (y := 211) (a := 169) (ci := 12) (as := [.int (xs (k + 1))]) (st := [.int v]) C dl_629 e2 rfl mw_1790 mw_123 lx_1787 ⟨by decide +kernel, by decide +kernel⟩ (by decide +kernel : (parseMethodDescriptor (sm_nm 211).desc).map (fun d => d.parameters.length) = some 1) lx_1788 lx_1789 rfl kd_169 (by decide) rfl rfl (Nat.le_of_ble_eq_true rfl) (Nat.le_of_ble_eq_true rfl) ?_
  exact lz_eq (pc := 632) (tgt := 1626) C dl_632 (by decide) (G h2 J)
theorem lc_13 (C : lz_C D cA ad p s m meth c b L xs) (hk : k + 6 ≤ L) {n : Nat} (hn : n ≤ 512) (J : JI n h) (G : ∀ h2 : sm_H, JI (n + 1) h2 → lz_G l D cA ad p e s m below meth c b k 1626 [] h2) : lz_G l D cA ad p e s m below meth c b k 637 [] h := by
  obtain ⟨v, h1, h2, e1, e2, J⟩ := j_judge hn J (xs (k + 1)) (xs (k + 2))
  refine lz_x C dl_637 ?_
  refine lz_arg (pc := 638) (j := 1) C hk (by decide) (by decide) dl_638 dl_639 dl_640 dl_641 dl_642 ?_
  refine lz_arg (pc := 643) (j := 2) C hk (by decide) (by decide) dl_643 dl_644 dl_645 dl_646 dl_647 ?_
  refine lz_call (pc := 648) (y := 115) (a := 0) (ci := 11) (as := [.int (xs (k + 1)), .int (xs (k + 2))]) (st := []) C dl_648 e1 rfl mw_1017 mw_111 lx_1014 ⟨by decide +kernel, by decide +kernel⟩ (by decide +kernel : (parseMethodDescriptor (sm_nm 115).desc).map (fun d => d.parameters.length) = some 2) lx_1015 lx_1016 rfl kd_0 (by decide) rfl rfl (Nat.le_of_ble_eq_true rfl) (Nat.le_of_ble_eq_true rfl) ?_
  refine lz_m C dl_651 ?_
  refine lz_arg (pc := 652) (j := 1) C hk (by decide) (by decide) dl_652 dl_653 dl_654 dl_655 dl_656 ?_
  refine lz_arg (pc := 657) (j := 2) C hk (by decide) (by decide) dl_657 dl_658 dl_659 dl_660 dl_661 ?_
  refine lz_call (pc := 662) (y := 217) (a := 169) (ci := 12) (as := [.int (xs (k + 1)), .int (xs (k + 2))]) (st := [.int v]) C dl_662 e2 rfl mw_1795 mw_123 lx_1792 ⟨by decide +kernel, by decide +kernel⟩ (by decide +kernel : (parseMethodDescriptor (sm_nm 217).desc).map (fun d => d.parameters.length) = some 2) lx_1793 lx_1794 rfl kd_169 (by decide) rfl rfl (Nat.le_of_ble_eq_true rfl) (Nat.le_of_ble_eq_true rfl) ?_
  exact lz_eq (pc := 665) (tgt := 1626) C dl_665 (by decide) (G h2 J)
theorem lc_14 (C : lz_C D cA ad p s m meth c b L xs) (hk : k + 6 ≤ L) {n : Nat} (hn : n ≤ 512) (J : JI n h) (G : ∀ h2 : sm_H, JI (n + 1) h2 → lz_G l D cA ad p e s m below meth c b k 1626 [] h2) : lz_G l D cA ad p e s m below meth c b k 670 [] h := by
  obtain ⟨v, h1, h2, e1, e2, J⟩ := j_perform hn J (xs (k + 1))
  refine lz_x C dl_670 ?_
  refine lz_arg (pc := 671) (j := 1) C hk (by decide) (by decide) dl_671 dl_672 dl_673 dl_674 dl_675 ?_
  refine lz_call (pc := 676) (y := 116) (a := 0) (ci := 11) (as := [.int (xs (k + 1))]) (st := []) C dl_676 e1 rfl mw_1048 mw_111 lx_1045 ⟨by decide +kernel, by decide +kernel⟩ (by decide +kernel : (parseMethodDescriptor (sm_nm 116).desc).map (fun d => d.parameters.length) = some 1) lx_1046 lx_1047 rfl kd_0 (by decide) rfl rfl (Nat.le_of_ble_eq_true rfl) (Nat.le_of_ble_eq_true rfl) ?_
  refine lz_m C dl_679 ?_
  refine lz_arg (pc := 680) (j := 1) C hk (by decide) (by decide) dl_680 dl_681 dl_682 dl_683 dl_684 ?_
  refine lz_call (pc := 685) (y := 218) (a := 169) (ci := 12) (as := [.int (xs (k + 1))]) (st := [.int v]) C dl_685 e2 rfl mw_1833 mw_123 lx_1830 ⟨by decide +kernel, by decide +kernel⟩ (by decide +kernel : (parseMethodDescriptor (sm_nm 218).desc).map (fun d => d.parameters.length) = some 1) lx_1831 lx_1832 rfl kd_169 (by decide) rfl rfl (Nat.le_of_ble_eq_true rfl) (Nat.le_of_ble_eq_true rfl) ?_
  exact lz_eq (pc := 688) (tgt := 1626) C dl_688 (by decide) (G h2 J)
theorem lc_15 (C : lz_C D cA ad p s m meth c b L xs) (hk : k + 6 ≤ L) {n : Nat} (hn : n ≤ 512) (J : JI n h) (G : ∀ h2 : sm_H, JI (n + 1) h2 → lz_G l D cA ad p e s m below meth c b k 1626 [] h2) : lz_G l D cA ad p e s m below meth c b k 693 [] h := by
  obtain ⟨v, h1, h2, e1, e2, J⟩ := j_year hn J (xs (k + 1)) (xs (k + 2))
  refine lz_x C dl_693 ?_
  refine lz_arg (pc := 694) (j := 1) C hk (by decide) (by decide) dl_694 dl_695 dl_696 dl_697 dl_698 ?_
  refine lz_arg (pc := 699) (j := 2) C hk (by decide) (by decide) dl_699 dl_700 dl_701 dl_702 dl_703 ?_
  refine lz_call (pc := 704) (y := 117) (a := 0) (ci := 11) (as := [.int (xs (k + 1)), .int (xs (k + 2))]) (st := []) C dl_704 e1 rfl mw_1052 mw_111 lx_1049 ⟨by decide +kernel, by decide +kernel⟩ (by decide +kernel : (parseMethodDescriptor (sm_nm 117).desc).map (fun d => d.parameters.length) = some 2) lx_1050 lx_1051 rfl kd_0 (by decide) rfl rfl (Nat.le_of_ble_eq_true rfl) (Nat.le_of_ble_eq_true rfl) ?_
  refine lz_m C dl_707 ?_
  refine lz_arg (pc := 708) (j := 1) C hk (by decide) (by decide) dl_708 dl_709 dl_710 dl_711 dl_712 ?_
  refine lz_arg (pc := 713) (j := 2) C hk (by decide) (by decide) dl_713 dl_714 dl_715 dl_716 dl_717 ?_
  refine lz_call (pc := 718) (y := 221) (a := 169) (ci := 12) (as := [.int (xs (k + 1)), .int (xs (k + 2))]) (st := [.int v]) C dl_718 e2 rfl mw_1837 mw_123 lx_1834 ⟨by decide +kernel, by decide +kernel⟩ (by decide +kernel : (parseMethodDescriptor (sm_nm 221).desc).map (fun d => d.parameters.length) = some 2) lx_1835 lx_1836 rfl kd_169 (by decide) rfl rfl (Nat.le_of_ble_eq_true rfl) (Nat.le_of_ble_eq_true rfl) ?_
  exact lz_eq (pc := 721) (tgt := 1626) C dl_721 (by decide) (G h2 J)
theorem lc_16 (C : lz_C D cA ad p s m meth c b L xs) (hk : k + 6 ≤ L) {n : Nat} (hn : n ≤ 512) (J : JI n h) (G : ∀ h2 : sm_H, JI (n + 1) h2 → lz_G l D cA ad p e s m below meth c b k 1626 [] h2) : lz_G l D cA ad p e s m below meth c b k 726 [] h := by
  obtain ⟨v, h1, h2, e1, e2, J⟩ := j_soonest hn J (xs (k + 1)) (xs (k + 2))
  refine lz_x C dl_726 ?_
  refine lz_arg (pc := 727) (j := 1) C hk (by decide) (by decide) dl_727 dl_728 dl_729 dl_730 dl_731 ?_
  refine lz_arg (pc := 732) (j := 2) C hk (by decide) (by decide) dl_732 dl_733 dl_734 dl_735 dl_736 ?_
  refine lz_call (pc := 737) (y := 118) (a := 0) (ci := 11) (as := [.int (xs (k + 1)), .int (xs (k + 2))]) (st := []) C dl_737 e1 rfl mw_1070 mw_111 lx_1067 ⟨by decide +kernel, by decide +kernel⟩ (by decide +kernel : (parseMethodDescriptor (sm_nm 118).desc).map (fun d => d.parameters.length) = some 2) lx_1068 lx_1069 rfl kd_0 (by decide) rfl rfl (Nat.le_of_ble_eq_true rfl) (Nat.le_of_ble_eq_true rfl) ?_
  refine lz_m C dl_740 ?_
  refine lz_arg (pc := 741) (j := 1) C hk (by decide) (by decide) dl_741 dl_742 dl_743 dl_744 dl_745 ?_
  refine lz_arg (pc := 746) (j := 2) C hk (by decide) (by decide) dl_746 dl_747 dl_748 dl_749 dl_750 ?_
  refine lz_call (pc := 751) (y := 237) (a := 169) (ci := 12) (as := [.int (xs (k + 1)), .int (xs (k + 2))]) (st := [.int v]) C dl_751 e2 rfl mw_1851 mw_123 lx_1848 ⟨by decide +kernel, by decide +kernel⟩ (by decide +kernel : (parseMethodDescriptor (sm_nm 237).desc).map (fun d => d.parameters.length) = some 2) lx_1849 lx_1850 rfl kd_169 (by decide) rfl rfl (Nat.le_of_ble_eq_true rfl) (Nat.le_of_ble_eq_true rfl) ?_
  exact lz_eq (pc := 754) (tgt := 1626) C dl_754 (by decide) (G h2 J)
theorem lc_17 (C : lz_C D cA ad p s m meth c b L xs) (hk : k + 6 ≤ L) {n : Nat} (hn : n ≤ 512) (J : JI n h) (G : ∀ h2 : sm_H, JI (n + 1) h2 → lz_G l D cA ad p e s m below meth c b k 1626 [] h2) : lz_G l D cA ad p e s m below meth c b k 759 [] h := by
  obtain ⟨v, h1, h2, e1, e2, J⟩ := j_way hn J (xs (k + 1)) (xs (k + 2)) (xs (k + 3))
  refine lz_x C dl_759 ?_
  refine lz_arg (pc := 760) (j := 1) C hk (by decide) (by decide) dl_760 dl_761 dl_762 dl_763 dl_764 ?_
  refine lz_arg (pc := 765) (j := 2) C hk (by decide) (by decide) dl_765 dl_766 dl_767 dl_768 dl_769 ?_
  refine lz_arg (pc := 770) (j := 3) C hk (by decide) (by decide) dl_770 dl_771 dl_772 dl_773 dl_774 ?_
  refine lz_call (pc := 775) (y := 119) (a := 0) (ci := 11) (as := [.int (xs (k + 1)), .int (xs (k + 2)), .int (xs (k + 3))]) (st := []) C dl_775 e1 rfl mw_1135 mw_111 lx_1132 ⟨by decide +kernel, by decide +kernel⟩ (by decide +kernel : (parseMethodDescriptor (sm_nm 119).desc).map (fun d => d.parameters.length) = some 3) lx_1133 lx_1134 rfl kd_0 (by decide) rfl rfl (Nat.le_of_ble_eq_true rfl) (Nat.le_of_ble_eq_true rfl) ?_
  refine lz_m C dl_778 ?_
  refine lz_arg (pc := 779) (j := 1) C hk (by decide) (by decide) dl_779 dl_780 dl_781 dl_782 dl_783 ?_
  refine lz_arg (pc := 784) (j := 2) C hk (by decide) (by decide) dl_784 dl_785 dl_786 dl_787 dl_788 ?_
  refine lz_arg (pc := 789) (j := 3) C hk (by decide) (by decide) dl_789 dl_790 dl_791 dl_792 dl_793 ?_
  refine lz_call (pc := 794) (y := 238) (a := 169) (ci := 12) (as := [.int (xs (k + 1)), .int (xs (k + 2)), .int (xs (k + 3))]) (st := [.int v]) C dl_794 e2 rfl mw_1910 mw_123 lx_1907 ⟨by decide +kernel, by decide +kernel⟩ (by decide +kernel : (parseMethodDescriptor (sm_nm 238).desc).map (fun d => d.parameters.length) = some 3) lx_1908 lx_1909 rfl kd_169 (by decide) rfl rfl (Nat.le_of_ble_eq_true rfl) (Nat.le_of_ble_eq_true rfl) ?_
  exact lz_eq (pc := 797) (tgt := 1626) C dl_797 (by decide) (G h2 J)
theorem lc_18 (C : lz_C D cA ad p s m meth c b L xs) (hk : k + 6 ≤ L) {n : Nat} (hn : n ≤ 512) (J : JI n h) (G : ∀ h2 : sm_H, JI (n + 1) h2 → lz_G l D cA ad p e s m below meth c b k 1626 [] h2) : lz_G l D cA ad p e s m below meth c b k 802 [] h := by
  obtain ⟨v, h1, h2, e1, e2, J⟩ := j_left hn J (xs (k + 1)) (xs (k + 2))
  refine lz_x C dl_802 ?_
  refine lz_arg (pc := 803) (j := 1) C hk (by decide) (by decide) dl_803 dl_804 dl_805 dl_806 dl_807 ?_
  refine lz_arg (pc := 808) (j := 2) C hk (by decide) (by decide) dl_808 dl_809 dl_810 dl_811 dl_812 ?_
  refine lz_call (pc := 813) (y := 120) (a := 0) (ci := 11) (as := [.int (xs (k + 1)), .int (xs (k + 2))]) (st := []) C dl_813 e1 rfl mw_1151 mw_111 lx_1148 ⟨by decide +kernel, by decide +kernel⟩ (by decide +kernel : (parseMethodDescriptor (sm_nm 120).desc).map (fun d => d.parameters.length) = some 2) lx_1149 lx_1150 rfl kd_0 (by decide) rfl rfl (Nat.le_of_ble_eq_true rfl) (Nat.le_of_ble_eq_true rfl) ?_
  refine lz_m C dl_816 ?_
  refine lz_arg (pc := 817) (j := 1) C hk (by decide) (by decide) dl_817 dl_818 dl_819 dl_820 dl_821 ?_
  refine lz_arg (pc := 822) (j := 2) C hk (by decide) (by decide) dl_822 dl_823 dl_824 dl_825 dl_826 ?_
  refine lz_call (pc := 827) (y := 239) (a := 169) (ci := 12) (as := [.int (xs (k + 1)), .int (xs (k + 2))]) (st := [.int v]) C dl_827 e2 rfl mw_1922 mw_123 lx_1919 ⟨by decide +kernel, by decide +kernel⟩ (by decide +kernel : (parseMethodDescriptor (sm_nm 239).desc).map (fun d => d.parameters.length) = some 2) lx_1920 lx_1921 rfl kd_169 (by decide) rfl rfl (Nat.le_of_ble_eq_true rfl) (Nat.le_of_ble_eq_true rfl) ?_
  exact lz_eq (pc := 830) (tgt := 1626) C dl_830 (by decide) (G h2 J)
theorem lc_19 (C : lz_C D cA ad p s m meth c b L xs) (hk : k + 6 ≤ L) {n : Nat} (hn : n ≤ 512) (J : JI n h) (G : ∀ h2 : sm_H, JI (n + 1) h2 → lz_G l D cA ad p e s m below meth c b k 1626 [] h2) : lz_G l D cA ad p e s m below meth c b k 835 [] h := by
  obtain ⟨v, h1, h2, e1, e2, J⟩ := j_reach hn J (xs (k + 1))
  refine lz_x C dl_835 ?_
  refine lz_arg (pc := 836) (j := 1) C hk (by decide) (by decide) dl_836 dl_837 dl_838 dl_839 dl_840 ?_
  refine lz_call (pc := 841) (y := 121) (a := 0) (ci := 11) (as := [.int (xs (k + 1))]) (st := []) C dl_841 e1 rfl mw_1159 mw_111 lx_1156 ⟨by decide +kernel, by decide +kernel⟩ (by decide +kernel : (parseMethodDescriptor (sm_nm 121).desc).map (fun d => d.parameters.length) = some 1) lx_1157 lx_1158 rfl kd_0 (by decide) rfl rfl (Nat.le_of_ble_eq_true rfl) (Nat.le_of_ble_eq_true rfl) ?_
  refine lz_m C dl_844 ?_
  refine lz_arg (pc := 845) (j := 1) C hk (by decide) (by decide) dl_845 dl_846 dl_847 dl_848 dl_849 ?_
  refine lz_call (pc := 850) (y := 240) (a := 169) (ci := 12) (as := [.int (xs (k + 1))]) (st := [.int v]) C dl_850 e2 rfl mw_1926 mw_123 lx_1923 ⟨by decide +kernel, by decide +kernel⟩ (by decide +kernel : (parseMethodDescriptor (sm_nm 240).desc).map (fun d => d.parameters.length) = some 1) lx_1924 lx_1925 rfl kd_169 (by decide) rfl rfl (Nat.le_of_ble_eq_true rfl) (Nat.le_of_ble_eq_true rfl) ?_
  exact lz_eq (pc := 853) (tgt := 1626) C dl_853 (by decide) (G h2 J)
theorem lc_20 (C : lz_C D cA ad p s m meth c b L xs) (hk : k + 6 ≤ L) {n : Nat} (hn : n ≤ 512) (J : JI n h) (G : ∀ h2 : sm_H, JI (n + 1) h2 → lz_G l D cA ad p e s m below meth c b k 1626 [] h2) : lz_G l D cA ad p e s m below meth c b k 858 [] h := by
  obtain ⟨v, h1, h2, e1, e2, J⟩ := j_ways hn J (xs (k + 1)) (xs (k + 2)) (xs (k + 3))
  refine lz_x C dl_858 ?_
  refine lz_arg (pc := 859) (j := 1) C hk (by decide) (by decide) dl_859 dl_860 dl_861 dl_862 dl_863 ?_
  refine lz_arg (pc := 864) (j := 2) C hk (by decide) (by decide) dl_864 dl_865 dl_866 dl_867 dl_868 ?_
  refine lz_arg (pc := 869) (j := 3) C hk (by decide) (by decide) dl_869 dl_870 dl_871 dl_872 dl_873 ?_
  refine lz_call (pc := 874) (y := 122) (a := 0) (ci := 11) (as := [.int (xs (k + 1)), .int (xs (k + 2)), .int (xs (k + 3))]) (st := []) C dl_874 e1 rfl mw_1167 mw_111 lx_1164 ⟨by decide +kernel, by decide +kernel⟩ (by decide +kernel : (parseMethodDescriptor (sm_nm 122).desc).map (fun d => d.parameters.length) = some 3) lx_1165 lx_1166 rfl kd_0 (by decide) rfl rfl (Nat.le_of_ble_eq_true rfl) (Nat.le_of_ble_eq_true rfl) ?_
  refine lz_m C dl_877 ?_
  refine lz_arg (pc := 878) (j := 1) C hk (by decide) (by decide) dl_878 dl_879 dl_880 dl_881 dl_882 ?_
  refine lz_arg (pc := 883) (j := 2) C hk (by decide) (by decide) dl_883 dl_884 dl_885 dl_886 dl_887 ?_
  refine lz_arg (pc := 888) (j := 3) C hk (by decide) (by decide) dl_888 dl_889 dl_890 dl_891 dl_892 ?_
  refine lz_call (pc := 893) (y := 241) (a := 169) (ci := 12) (as := [.int (xs (k + 1)), .int (xs (k + 2)), .int (xs (k + 3))]) (st := [.long v]) C dl_893 e2 rfl mw_1930 mw_123 lx_1927 ⟨by decide +kernel, by decide +kernel⟩ (by decide +kernel : (parseMethodDescriptor (sm_nm 241).desc).map (fun d => d.parameters.length) = some 3) lx_1928 lx_1929 rfl kd_169 (by decide) rfl rfl (Nat.le_of_ble_eq_true rfl) (Nat.le_of_ble_eq_true rfl) ?_
  exact lz_leq (pc := 896) (tgt := 1626) C dl_896 dl_897 (by decide) (G h2 J)
theorem lc_21 (C : lz_C D cA ad p s m meth c b L xs) (hk : k + 6 ≤ L) {n : Nat} (hn : n ≤ 512) (J : JI n h) (G : ∀ h2 : sm_H, JI (n + 1) h2 → lz_G l D cA ad p e s m below meth c b k 1626 [] h2) : lz_G l D cA ad p e s m below meth c b k 902 [] h := by
  obtain ⟨v, h1, h2, e1, e2, J⟩ := j_needed hn J (xs (k + 1)) (xs (k + 2))
  refine lz_x C dl_902 ?_
  refine lz_arg (pc := 903) (j := 1) C hk (by decide) (by decide) dl_903 dl_904 dl_905 dl_906 dl_907 ?_
  refine lz_arg (pc := 908) (j := 2) C hk (by decide) (by decide) dl_908 dl_909 dl_910 dl_911 dl_912 ?_
  refine lz_call (pc := 913) (y := 123) (a := 0) (ci := 11) (as := [.int (xs (k + 1)), .int (xs (k + 2))]) (st := []) C dl_913 e1 rfl mw_1185 mw_111 lx_1182 ⟨by decide +kernel, by decide +kernel⟩ (by decide +kernel : (parseMethodDescriptor (sm_nm 123).desc).map (fun d => d.parameters.length) = some 2) lx_1183 lx_1184 rfl kd_0 (by decide) rfl rfl (Nat.le_of_ble_eq_true rfl) (Nat.le_of_ble_eq_true rfl) ?_
  refine lz_m C dl_916 ?_
  refine lz_arg (pc := 917) (j := 1) C hk (by decide) (by decide) dl_917 dl_918 dl_919 dl_920 dl_921 ?_
  refine lz_arg (pc := 922) (j := 2) C hk (by decide) (by decide) dl_922 dl_923 dl_924 dl_925 dl_926 ?_
  refine lz_call (pc := 927) (y := 242) (a := 169) (ci := 12) (as := [.int (xs (k + 1)), .int (xs (k + 2))]) (st := [.int v]) C dl_927 e2 rfl mw_1936 mw_123 lx_1933 ⟨by decide +kernel, by decide +kernel⟩ (by decide +kernel : (parseMethodDescriptor (sm_nm 242).desc).map (fun d => d.parameters.length) = some 2) lx_1934 lx_1935 rfl kd_169 (by decide) rfl rfl (Nat.le_of_ble_eq_true rfl) (Nat.le_of_ble_eq_true rfl) ?_
  exact lz_eq (pc := 930) (tgt := 1626) C dl_930 (by decide) (G h2 J)
theorem lc_22 (C : lz_C D cA ad p s m meth c b L xs) (hk : k + 6 ≤ L) {n : Nat} (hn : n ≤ 512) (J : JI n h) (G : ∀ h2 : sm_H, JI (n + 1) h2 → lz_G l D cA ad p e s m below meth c b k 1626 [] h2) : lz_G l D cA ad p e s m below meth c b k 935 [] h := by
  obtain ⟨v, h1, h2, e1, e2, J⟩ := j_proofs hn J (xs (k + 1)) (xs (k + 2))
  refine lz_x C dl_935 ?_
  refine lz_arg (pc := 936) (j := 1) C hk (by decide) (by decide) dl_936 dl_937 dl_938 dl_939 dl_940 ?_
  refine lz_arg (pc := 941) (j := 2) C hk (by decide) (by decide) dl_941 dl_942 dl_943 dl_944 dl_945 ?_
  refine lz_call (pc := 946) (y := 124) (a := 0) (ci := 11) (as := [.int (xs (k + 1)), .int (xs (k + 2))]) (st := []) C dl_946 e1 rfl mw_1200 mw_111 lx_1197 ⟨by decide +kernel, by decide +kernel⟩ (by decide +kernel : (parseMethodDescriptor (sm_nm 124).desc).map (fun d => d.parameters.length) = some 2) lx_1198 lx_1199 rfl kd_0 (by decide) rfl rfl (Nat.le_of_ble_eq_true rfl) (Nat.le_of_ble_eq_true rfl) ?_
  refine lz_m C dl_949 ?_
  refine lz_arg (pc := 950) (j := 1) C hk (by decide) (by decide) dl_950 dl_951 dl_952 dl_953 dl_954 ?_
  refine lz_arg (pc := 955) (j := 2) C hk (by decide) (by decide) dl_955 dl_956 dl_957 dl_958 dl_959 ?_
  refine lz_call (pc := 960) (y := 243) (a := 169) (ci := 12) (as := [.int (xs (k + 1)), .int (xs (k + 2))]) (st := [.int v]) C dl_960 e2 rfl mw_1940 mw_123 lx_1937 ⟨by decide +kernel, by decide +kernel⟩ (by decide +kernel : (parseMethodDescriptor (sm_nm 243).desc).map (fun d => d.parameters.length) = some 2) lx_1938 lx_1939 rfl kd_169 (by decide) rfl rfl (Nat.le_of_ble_eq_true rfl) (Nat.le_of_ble_eq_true rfl) ?_
  exact lz_eq (pc := 963) (tgt := 1626) C dl_963 (by decide) (G h2 J)
theorem lc_23 (C : lz_C D cA ad p s m meth c b L xs) (hk : k + 6 ≤ L) {n : Nat} (hn : n ≤ 512) (J : JI n h) (G : ∀ h2 : sm_H, JI (n + 1) h2 → lz_G l D cA ad p e s m below meth c b k 1626 [] h2) : lz_G l D cA ad p e s m below meth c b k 968 [] h := by
  obtain ⟨v, h1, h2, e1, e2, J⟩ := j_waives hn J (xs (k + 1)) (xs (k + 2))
  refine lz_x C dl_968 ?_
  refine lz_arg (pc := 969) (j := 1) C hk (by decide) (by decide) dl_969 dl_970 dl_971 dl_972 dl_973 ?_
  refine lz_arg (pc := 974) (j := 2) C hk (by decide) (by decide) dl_974 dl_975 dl_976 dl_977 dl_978 ?_
  refine lz_call (pc := 979) (y := 125) (a := 0) (ci := 11) (as := [.int (xs (k + 1)), .int (xs (k + 2))]) (st := []) C dl_979 e1 rfl mw_1208 mw_111 lx_1205 ⟨by decide +kernel, by decide +kernel⟩ (by decide +kernel : (parseMethodDescriptor (sm_nm 125).desc).map (fun d => d.parameters.length) = some 2) lx_1206 lx_1207 rfl kd_0 (by decide) rfl rfl (Nat.le_of_ble_eq_true rfl) (Nat.le_of_ble_eq_true rfl) ?_
  refine lz_m C dl_982 ?_
  refine lz_arg (pc := 983) (j := 1) C hk (by decide) (by decide) dl_983 dl_984 dl_985 dl_986 dl_987 ?_
  refine lz_arg (pc := 988) (j := 2) C hk (by decide) (by decide) dl_988 dl_989 dl_990 dl_991 dl_992 ?_
  refine lz_call (pc := 993) (y := 244) (a := 169) (ci := 12) (as := [.int (xs (k + 1)), .int (xs (k + 2))]) (st := [.int v]) C dl_993 e2 rfl mw_1944 mw_123 lx_1941 ⟨by decide +kernel, by decide +kernel⟩ (by decide +kernel : (parseMethodDescriptor (sm_nm 244).desc).map (fun d => d.parameters.length) = some 2) lx_1942 lx_1943 rfl kd_169 (by decide) rfl rfl (Nat.le_of_ble_eq_true rfl) (Nat.le_of_ble_eq_true rfl) ?_
  exact lz_eq (pc := 996) (tgt := 1626) C dl_996 (by decide) (G h2 J)
theorem lc_24 (C : lz_C D cA ad p s m meth c b L xs) (hk : k + 6 ≤ L) {n : Nat} (hn : n ≤ 512) (J : JI n h) (G : ∀ h2 : sm_H, JI (n + 1) h2 → lz_G l D cA ad p e s m below meth c b k 1626 [] h2) : lz_G l D cA ad p e s m below meth c b k 1001 [] h := by
  obtain ⟨v, h1, h2, e1, e2, J⟩ := j_inTime hn J 
  refine lz_x C dl_1001 ?_
  refine lz_call (pc := 1002) (y := 126) (a := 0) (ci := 11) (as := []) (st := []) C dl_1002 e1 rfl mw_1217 mw_111 lx_1214 ⟨by decide +kernel, by decide +kernel⟩ (by decide +kernel : (parseMethodDescriptor (sm_nm 126).desc).map (fun d => d.parameters.length) = some 0) lx_1215 lx_1216 rfl kd_0 (by decide) rfl rfl (Nat.le_of_ble_eq_true rfl) (Nat.le_of_ble_eq_true rfl) ?_
  refine lz_m C dl_1005 ?_
  refine lz_call (pc := 1006) (y := 248) (a := 169) (ci := 12) (as := []) (st := [.int v]) C dl_1006 e2 rfl mw_1948 mw_123 lx_1945 ⟨by decide +kernel, by decide +kernel⟩ (by decide +kernel : (parseMethodDescriptor (sm_nm 248).desc).map (fun d => d.parameters.length) = some 0) lx_1946 lx_1947 rfl kd_169 (by decide) rfl rfl (Nat.le_of_ble_eq_true rfl) (Nat.le_of_ble_eq_true rfl) ?_
  exact lz_eq (pc := 1009) (tgt := 1626) C dl_1009 (by decide) (G h2 J)
theorem lc_25 (C : lz_C D cA ad p s m meth c b L xs) (hk : k + 6 ≤ L) {n : Nat} (hn : n ≤ 512) (J : JI n h) (G : ∀ h2 : sm_H, JI (n + 1) h2 → lz_G l D cA ad p e s m below meth c b k 1626 [] h2) : lz_G l D cA ad p e s m below meth c b k 1014 [] h := by
  obtain ⟨v, h1, h2, e1, e2, J⟩ := j_spare hn J (xs (k + 1))
  refine lz_x C dl_1014 ?_
  refine lz_arg (pc := 1015) (j := 1) C hk (by decide) (by decide) dl_1015 dl_1016 dl_1017 dl_1018 dl_1019 ?_
  refine lz_call (pc := 1020) (y := 127) (a := 0) (ci := 11) (as := [.int (xs (k + 1))]) (st := []) C dl_1020 e1 rfl mw_1235 mw_111 lx_1232 ⟨by decide +kernel, by decide +kernel⟩ (by decide +kernel : (parseMethodDescriptor (sm_nm 127).desc).map (fun d => d.parameters.length) = some 1) lx_1233 lx_1234 rfl kd_0 (by decide) rfl rfl (Nat.le_of_ble_eq_true rfl) (Nat.le_of_ble_eq_true rfl) ?_
  refine lz_m C dl_1023 ?_
  refine lz_arg (pc := 1024) (j := 1) C hk (by decide) (by decide) dl_1024 dl_1025 dl_1026 dl_1027 dl_1028 ?_
  refine lz_call (pc := 1029) (y := 249) (a := 169) (ci := 12) (as := [.int (xs (k + 1))]) (st := [.int v]) C dl_1029 e2 rfl mw_1964 mw_123 lx_1961 ⟨by decide +kernel, by decide +kernel⟩ (by decide +kernel : (parseMethodDescriptor (sm_nm 249).desc).map (fun d => d.parameters.length) = some 1) lx_1962 lx_1963 rfl kd_169 (by decide) rfl rfl (Nat.le_of_ble_eq_true rfl) (Nat.le_of_ble_eq_true rfl) ?_
  exact lz_eq (pc := 1032) (tgt := 1626) C dl_1032 (by decide) (G h2 J)
theorem lc_26 (C : lz_C D cA ad p s m meth c b L xs) (hk : k + 6 ≤ L) {n : Nat} (hn : n ≤ 512) (J : JI n h) (G : ∀ h2 : sm_H, JI (n + 1) h2 → lz_G l D cA ad p e s m below meth c b k 1626 [] h2) : lz_G l D cA ad p e s m below meth c b k 1037 [] h := by
  obtain ⟨v, h1, h2, e1, e2, J⟩ := j_helped hn J 
  refine lz_x C dl_1037 ?_
  refine lz_call (pc := 1038) (y := 128) (a := 0) (ci := 11) (as := []) (st := []) C dl_1038 e1 rfl mw_1241 mw_111 lx_1238 ⟨by decide +kernel, by decide +kernel⟩ (by decide +kernel : (parseMethodDescriptor (sm_nm 128).desc).map (fun d => d.parameters.length) = some 0) lx_1239 lx_1240 rfl kd_0 (by decide) rfl rfl (Nat.le_of_ble_eq_true rfl) (Nat.le_of_ble_eq_true rfl) ?_
  refine lz_m C dl_1041 ?_
  refine lz_call (pc := 1042) (y := 250) (a := 169) (ci := 12) (as := []) (st := [.int v]) C dl_1042 e2 rfl mw_1968 mw_123 lx_1965 ⟨by decide +kernel, by decide +kernel⟩ (by decide +kernel : (parseMethodDescriptor (sm_nm 250).desc).map (fun d => d.parameters.length) = some 0) lx_1966 lx_1967 rfl kd_169 (by decide) rfl rfl (Nat.le_of_ble_eq_true rfl) (Nat.le_of_ble_eq_true rfl) ?_
  exact lz_eq (pc := 1045) (tgt := 1626) C dl_1045 (by decide) (G h2 J)
theorem lc_27 (C : lz_C D cA ad p s m meth c b L xs) (hk : k + 6 ≤ L) {n : Nat} (hn : n ≤ 512) (J : JI n h) (G : ∀ h2 : sm_H, JI (n + 1) h2 → lz_G l D cA ad p e s m below meth c b k 1626 [] h2) : lz_G l D cA ad p e s m below meth c b k 1050 [] h := by
  obtain ⟨v, h1, h2, e1, e2, J⟩ := j_worst hn J 
  refine lz_x C dl_1050 ?_
  refine lz_call (pc := 1051) (y := 129) (a := 0) (ci := 11) (as := []) (st := []) C dl_1051 e1 rfl mw_1249 mw_111 lx_1246 ⟨by decide +kernel, by decide +kernel⟩ (by decide +kernel : (parseMethodDescriptor (sm_nm 129).desc).map (fun d => d.parameters.length) = some 0) lx_1247 lx_1248 rfl kd_0 (by decide) rfl rfl (Nat.le_of_ble_eq_true rfl) (Nat.le_of_ble_eq_true rfl) ?_
  refine lz_m C dl_1054 ?_
  refine lz_call (pc := 1055) (y := 251) (a := 169) (ci := 12) (as := []) (st := [.int v]) C dl_1055 e2 rfl mw_1972 mw_123 lx_1969 ⟨by decide +kernel, by decide +kernel⟩ (by decide +kernel : (parseMethodDescriptor (sm_nm 251).desc).map (fun d => d.parameters.length) = some 0) lx_1970 lx_1971 rfl kd_169 (by decide) rfl rfl (Nat.le_of_ble_eq_true rfl) (Nat.le_of_ble_eq_true rfl) ?_
  exact lz_eq (pc := 1058) (tgt := 1626) C dl_1058 (by decide) (G h2 J)
theorem lc_28 (C : lz_C D cA ad p s m meth c b L xs) (hk : k + 6 ≤ L) {n : Nat} (hn : n ≤ 512) (J : JI n h) (G : ∀ h2 : sm_H, JI (n + 1) h2 → lz_G l D cA ad p e s m below meth c b k 1626 [] h2) : lz_G l D cA ad p e s m below meth c b k 1063 [] h := by
  obtain ⟨v, h1, h2, e1, e2, J⟩ := j_loophole hn J (xs (k + 1))
  refine lz_x C dl_1063 ?_
  refine lz_arg (pc := 1064) (j := 1) C hk (by decide) (by decide) dl_1064 dl_1065 dl_1066 dl_1067 dl_1068 ?_
  refine lz_call (pc := 1069) (y := 130) (a := 0) (ci := 11) (as := [.int (xs (k + 1))]) (st := []) C dl_1069 e1 rfl mw_1262 mw_111 lx_1259 ⟨by decide +kernel, by decide +kernel⟩ (by decide +kernel : (parseMethodDescriptor (sm_nm 130).desc).map (fun d => d.parameters.length) = some 1) lx_1260 lx_1261 rfl kd_0 (by decide) rfl rfl (Nat.le_of_ble_eq_true rfl) (Nat.le_of_ble_eq_true rfl) ?_
  refine lz_m C dl_1072 ?_
  refine lz_arg (pc := 1073) (j := 1) C hk (by decide) (by decide) dl_1073 dl_1074 dl_1075 dl_1076 dl_1077 ?_
  refine lz_call (pc := 1078) (y := 253) (a := 169) (ci := 12) (as := [.int (xs (k + 1))]) (st := [.int v]) C dl_1078 e2 rfl mw_1976 mw_123 lx_1973 ⟨by decide +kernel, by decide +kernel⟩ (by decide +kernel : (parseMethodDescriptor (sm_nm 253).desc).map (fun d => d.parameters.length) = some 1) lx_1974 lx_1975 rfl kd_169 (by decide) rfl rfl (Nat.le_of_ble_eq_true rfl) (Nat.le_of_ble_eq_true rfl) ?_
  exact lz_eq (pc := 1081) (tgt := 1626) C dl_1081 (by decide) (G h2 J)
theorem lc_29 (C : lz_C D cA ad p s m meth c b L xs) (hk : k + 6 ≤ L) {n : Nat} (hn : n ≤ 512) (J : JI n h) (G : ∀ h2 : sm_H, JI (n + 1) h2 → lz_G l D cA ad p e s m below meth c b k 1626 [] h2) : lz_G l D cA ad p e s m below meth c b k 1086 [] h := by
  obtain ⟨v, h1, h2, e1, e2, J⟩ := j_loopWay hn J (xs (k + 1)) (xs (k + 2))
  refine lz_x C dl_1086 ?_
  refine lz_arg (pc := 1087) (j := 1) C hk (by decide) (by decide) dl_1087 dl_1088 dl_1089 dl_1090 dl_1091 ?_
  refine lz_arg (pc := 1092) (j := 2) C hk (by decide) (by decide) dl_1092 dl_1093 dl_1094 dl_1095 dl_1096 ?_
  refine lz_call (pc := 1097) (y := 131) (a := 0) (ci := 11) (as := [.int (xs (k + 1)), .int (xs (k + 2))]) (st := []) C dl_1097 e1 rfl mw_1270 mw_111 lx_1267 ⟨by decide +kernel, by decide +kernel⟩ (by decide +kernel : (parseMethodDescriptor (sm_nm 131).desc).map (fun d => d.parameters.length) = some 2) lx_1268 lx_1269 rfl kd_0 (by decide) rfl rfl (Nat.le_of_ble_eq_true rfl) (Nat.le_of_ble_eq_true rfl) ?_
  refine lz_m C dl_1100 ?_
  refine lz_arg (pc := 1101) (j := 1) C hk (by decide) (by decide) dl_1101 dl_1102 dl_1103 dl_1104 dl_1105 ?_
  refine lz_arg (pc := 1106) (j := 2) C hk (by decide) (by decide) dl_1106 dl_1107 dl_1108 dl_1109 dl_1110 ?_
  refine lz_call (pc := 1111) (y := 254) (a := 169) (ci := 12) (as := [.int (xs (k + 1)), .int (xs (k + 2))]) (st := [.int v]) C dl_1111 e2 rfl mw_1984 mw_123 lx_1981 ⟨by decide +kernel, by decide +kernel⟩ (by decide +kernel : (parseMethodDescriptor (sm_nm 254).desc).map (fun d => d.parameters.length) = some 2) lx_1982 lx_1983 rfl kd_169 (by decide) rfl rfl (Nat.le_of_ble_eq_true rfl) (Nat.le_of_ble_eq_true rfl) ?_
  exact lz_eq (pc := 1114) (tgt := 1626) C dl_1114 (by decide) (G h2 J)
theorem lc_30 (C : lz_C D cA ad p s m meth c b L xs) (hk : k + 6 ≤ L) {n : Nat} (hn : n ≤ 512) (J : JI n h) (G : ∀ h2 : sm_H, JI (n + 1) h2 → lz_G l D cA ad p e s m below meth c b k 1626 [] h2) : lz_G l D cA ad p e s m below meth c b k 1119 [] h := by
  obtain ⟨v, h1, h2, e1, e2, J⟩ := j_round hn J (xs (k + 1))
  refine lz_x C dl_1119 ?_
  refine lz_arg (pc := 1120) (j := 1) C hk (by decide) (by decide) dl_1120 dl_1121 dl_1122 dl_1123 dl_1124 ?_
  refine lz_call (pc := 1125) (y := 132) (a := 0) (ci := 11) (as := [.int (xs (k + 1))]) (st := []) C dl_1125 e1 rfl mw_1278 mw_111 lx_1275 ⟨by decide +kernel, by decide +kernel⟩ (by decide +kernel : (parseMethodDescriptor (sm_nm 132).desc).map (fun d => d.parameters.length) = some 1) lx_1276 lx_1277 rfl kd_0 (by decide) rfl rfl (Nat.le_of_ble_eq_true rfl) (Nat.le_of_ble_eq_true rfl) ?_
  refine lz_m C dl_1128 ?_
  refine lz_arg (pc := 1129) (j := 1) C hk (by decide) (by decide) dl_1129 dl_1130 dl_1131 dl_1132 dl_1133 ?_
  refine lz_call (pc := 1134) (y := 255) (a := 169) (ci := 12) (as := [.int (xs (k + 1))]) (st := [.int v]) C dl_1134 e2 rfl mw_1988 mw_123 lx_1985 ⟨by decide +kernel, by decide +kernel⟩ (by decide +kernel : (parseMethodDescriptor (sm_nm 255).desc).map (fun d => d.parameters.length) = some 1) lx_1986 lx_1987 rfl kd_169 (by decide) rfl rfl (Nat.le_of_ble_eq_true rfl) (Nat.le_of_ble_eq_true rfl) ?_
  exact lz_eq (pc := 1137) (tgt := 1626) C dl_1137 (by decide) (G h2 J)
theorem lc_31 (C : lz_C D cA ad p s m meth c b L xs) (hk : k + 6 ≤ L) {n : Nat} (hn : n ≤ 512) (J : JI n h) (G : ∀ h2 : sm_H, JI (n + 1) h2 → lz_G l D cA ad p e s m below meth c b k 1626 [] h2) : lz_G l D cA ad p e s m below meth c b k 1142 [] h := by
  obtain ⟨v, h1, h2, e1, e2, J⟩ := j_crosses hn J (xs (k + 1))
  refine lz_x C dl_1142 ?_
  refine lz_arg (pc := 1143) (j := 1) C hk (by decide) (by decide) dl_1143 dl_1144 dl_1145 dl_1146 dl_1147 ?_
  refine lz_call (pc := 1148) (y := 133) (a := 0) (ci := 11) (as := [.int (xs (k + 1))]) (st := []) C dl_1148 e1 rfl mw_1289 mw_111 lx_1286 ⟨by decide +kernel, by decide +kernel⟩ (by decide +kernel : (parseMethodDescriptor (sm_nm 133).desc).map (fun d => d.parameters.length) = some 1) lx_1287 lx_1288 rfl kd_0 (by decide) rfl rfl (Nat.le_of_ble_eq_true rfl) (Nat.le_of_ble_eq_true rfl) ?_
  refine lz_m C dl_1151 ?_
  refine lz_arg (pc := 1152) (j := 1) C hk (by decide) (by decide) dl_1152 dl_1153 dl_1154 dl_1155 dl_1156 ?_
  refine lz_call (pc := 1157) (y := 256) (a := 169) (ci := 12) (as := [.int (xs (k + 1))]) (st := [.int v]) C dl_1157 e2 rfl mw_1992 mw_123 lx_1989 ⟨by decide +kernel, by decide +kernel⟩ (by decide +kernel : (parseMethodDescriptor (sm_nm 256).desc).map (fun d => d.parameters.length) = some 1) lx_1990 lx_1991 rfl kd_169 (by decide) rfl rfl (Nat.le_of_ble_eq_true rfl) (Nat.le_of_ble_eq_true rfl) ?_
  exact lz_eq (pc := 1160) (tgt := 1626) C dl_1160 (by decide) (G h2 J)
theorem lc_32 (C : lz_C D cA ad p s m meth c b L xs) (hk : k + 6 ≤ L) {n : Nat} (hn : n ≤ 512) (J : JI n h) (G : ∀ h2 : sm_H, JI (n + 1) h2 → lz_G l D cA ad p e s m below meth c b k 1626 [] h2) : lz_G l D cA ad p e s m below meth c b k 1165 [] h := by
  obtain ⟨v, h1, h2, e1, e2, J⟩ := j_meet hn J (xs (k + 1)) (xs (k + 2))
  refine lz_x C dl_1165 ?_
  refine lz_arg (pc := 1166) (j := 1) C hk (by decide) (by decide) dl_1166 dl_1167 dl_1168 dl_1169 dl_1170 ?_
  refine lz_arg (pc := 1171) (j := 2) C hk (by decide) (by decide) dl_1171 dl_1172 dl_1173 dl_1174 dl_1175 ?_
  refine lz_call (pc := 1176) (y := 134) (a := 0) (ci := 11) (as := [.int (xs (k + 1)), .int (xs (k + 2))]) (st := []) C dl_1176 e1 rfl mw_1293 mw_111 lx_1290 ⟨by decide +kernel, by decide +kernel⟩ (by decide +kernel : (parseMethodDescriptor (sm_nm 134).desc).map (fun d => d.parameters.length) = some 2) lx_1291 lx_1292 rfl kd_0 (by decide) rfl rfl (Nat.le_of_ble_eq_true rfl) (Nat.le_of_ble_eq_true rfl) ?_
  refine lz_m C dl_1179 ?_
  refine lz_arg (pc := 1180) (j := 1) C hk (by decide) (by decide) dl_1180 dl_1181 dl_1182 dl_1183 dl_1184 ?_
  refine lz_arg (pc := 1185) (j := 2) C hk (by decide) (by decide) dl_1185 dl_1186 dl_1187 dl_1188 dl_1189 ?_
  refine lz_call (pc := 1190) (y := 258) (a := 169) (ci := 12) (as := [.int (xs (k + 1)), .int (xs (k + 2))]) (st := [.int v]) C dl_1190 e2 rfl mw_1996 mw_123 lx_1993 ⟨by decide +kernel, by decide +kernel⟩ (by decide +kernel : (parseMethodDescriptor (sm_nm 258).desc).map (fun d => d.parameters.length) = some 2) lx_1994 lx_1995 rfl kd_169 (by decide) rfl rfl (Nat.le_of_ble_eq_true rfl) (Nat.le_of_ble_eq_true rfl) ?_
  exact lz_eq (pc := 1193) (tgt := 1626) C dl_1193 (by decide) (G h2 J)
theorem lc_33 (C : lz_C D cA ad p s m meth c b L xs) (hk : k + 6 ≤ L) {n : Nat} (hn : n ≤ 512) (J : JI n h) (G : ∀ h2 : sm_H, JI (n + 1) h2 → lz_G l D cA ad p e s m below meth c b k 1626 [] h2) : lz_G l D cA ad p e s m below meth c b k 1198 [] h := by
  obtain ⟨v, h1, h2, e1, e2, J⟩ := j_meetAt hn J (xs (k + 1)) (xs (k + 2))
  refine lz_x C dl_1198 ?_
  refine lz_arg (pc := 1199) (j := 1) C hk (by decide) (by decide) dl_1199 dl_1200 dl_1201 dl_1202 dl_1203 ?_
  refine lz_arg (pc := 1204) (j := 2) C hk (by decide) (by decide) dl_1204 dl_1205 dl_1206 dl_1207 dl_1208 ?_
  refine lz_call (pc := 1209) (y := 135) (a := 0) (ci := 11) (as := [.int (xs (k + 1)), .int (xs (k + 2))]) (st := []) C dl_1209 e1 rfl mw_1302 mw_111 lx_1299 ⟨by decide +kernel, by decide +kernel⟩ (by decide +kernel : (parseMethodDescriptor (sm_nm 135).desc).map (fun d => d.parameters.length) = some 2) lx_1300 lx_1301 rfl kd_0 (by decide) rfl rfl (Nat.le_of_ble_eq_true rfl) (Nat.le_of_ble_eq_true rfl) ?_
  refine lz_m C dl_1212 ?_
  refine lz_arg (pc := 1213) (j := 1) C hk (by decide) (by decide) dl_1213 dl_1214 dl_1215 dl_1216 dl_1217 ?_
  refine lz_arg (pc := 1218) (j := 2) C hk (by decide) (by decide) dl_1218 dl_1219 dl_1220 dl_1221 dl_1222 ?_
  refine lz_call (pc := 1223) (y := 259) (a := 169) (ci := 12) (as := [.int (xs (k + 1)), .int (xs (k + 2))]) (st := [.int v]) C dl_1223 e2 rfl mw_2004 mw_123 lx_2001 ⟨by decide +kernel, by decide +kernel⟩ (by decide +kernel : (parseMethodDescriptor (sm_nm 259).desc).map (fun d => d.parameters.length) = some 2) lx_2002 lx_2003 rfl kd_169 (by decide) rfl rfl (Nat.le_of_ble_eq_true rfl) (Nat.le_of_ble_eq_true rfl) ?_
  exact lz_eq (pc := 1226) (tgt := 1626) C dl_1226 (by decide) (G h2 J)
theorem lc_34 (C : lz_C D cA ad p s m meth c b L xs) (hk : k + 6 ≤ L) {n : Nat} (hn : n ≤ 512) (J : JI n h) (G : ∀ h2 : sm_H, JI (n + 1) h2 → lz_G l D cA ad p e s m below meth c b k 1626 [] h2) : lz_G l D cA ad p e s m below meth c b k 1231 [] h := by
  obtain ⟨v, h1, h2, e1, e2, J⟩ := j_shoes hn J (xs (k + 1)) (xs (k + 2))
  refine lz_x C dl_1231 ?_
  refine lz_arg (pc := 1232) (j := 1) C hk (by decide) (by decide) dl_1232 dl_1233 dl_1234 dl_1235 dl_1236 ?_
  refine lz_arg (pc := 1237) (j := 2) C hk (by decide) (by decide) dl_1237 dl_1238 dl_1239 dl_1240 dl_1241 ?_
  refine lz_call (pc := 1242) (y := 136) (a := 0) (ci := 11) (as := [.int (xs (k + 1)), .int (xs (k + 2))]) (st := []) C dl_1242 e1 rfl mw_1306 mw_111 lx_1303 ⟨by decide +kernel, by decide +kernel⟩ (by decide +kernel : (parseMethodDescriptor (sm_nm 136).desc).map (fun d => d.parameters.length) = some 2) lx_1304 lx_1305 rfl kd_0 (by decide) rfl rfl (Nat.le_of_ble_eq_true rfl) (Nat.le_of_ble_eq_true rfl) ?_
  refine lz_m C dl_1245 ?_
  refine lz_arg (pc := 1246) (j := 1) C hk (by decide) (by decide) dl_1246 dl_1247 dl_1248 dl_1249 dl_1250 ?_
  refine lz_arg (pc := 1251) (j := 2) C hk (by decide) (by decide) dl_1251 dl_1252 dl_1253 dl_1254 dl_1255 ?_
  refine lz_call (pc := 1256) (y := 263) (a := 169) (ci := 12) (as := [.int (xs (k + 1)), .int (xs (k + 2))]) (st := [.int v]) C dl_1256 e2 rfl mw_2008 mw_123 lx_2005 ⟨by decide +kernel, by decide +kernel⟩ (by decide +kernel : (parseMethodDescriptor (sm_nm 263).desc).map (fun d => d.parameters.length) = some 2) lx_2006 lx_2007 rfl kd_169 (by decide) rfl rfl (Nat.le_of_ble_eq_true rfl) (Nat.le_of_ble_eq_true rfl) ?_
  exact lz_eq (pc := 1259) (tgt := 1626) C dl_1259 (by decide) (G h2 J)
theorem lc_35 (C : lz_C D cA ad p s m meth c b L xs) (hk : k + 6 ≤ L) {n : Nat} (hn : n ≤ 512) (J : JI n h) (G : ∀ h2 : sm_H, JI (n + 1) h2 → lz_G l D cA ad p e s m below meth c b k 1626 [] h2) : lz_G l D cA ad p e s m below meth c b k 1264 [] h := by
  obtain ⟨v, h1, h2, e1, e2, J⟩ := j_sure hn J (xs (k + 1)) (xs (k + 2))
  refine lz_x C dl_1264 ?_
  refine lz_arg (pc := 1265) (j := 1) C hk (by decide) (by decide) dl_1265 dl_1266 dl_1267 dl_1268 dl_1269 ?_
  refine lz_arg (pc := 1270) (j := 2) C hk (by decide) (by decide) dl_1270 dl_1271 dl_1272 dl_1273 dl_1274 ?_
  refine lz_call (pc := 1275) (y := 137) (a := 0) (ci := 11) (as := [.int (xs (k + 1)), .int (xs (k + 2))]) (st := []) C dl_1275 e1 rfl mw_1341 mw_111 lx_1338 ⟨by decide +kernel, by decide +kernel⟩ (by decide +kernel : (parseMethodDescriptor (sm_nm 137).desc).map (fun d => d.parameters.length) = some 2) lx_1339 lx_1340 rfl kd_0 (by decide) rfl rfl (Nat.le_of_ble_eq_true rfl) (Nat.le_of_ble_eq_true rfl) ?_
  refine lz_m C dl_1278 ?_
  refine lz_arg (pc := 1279) (j := 1) C hk (by decide) (by decide) dl_1279 dl_1280 dl_1281 dl_1282 dl_1283 ?_
  refine lz_arg (pc := 1284) (j := 2) C hk (by decide) (by decide) dl_1284 dl_1285 dl_1286 dl_1287 dl_1288 ?_
  refine lz_call (pc := 1289) (y := 264) (a := 169) (ci := 12) (as := [.int (xs (k + 1)), .int (xs (k + 2))]) (st := [.int v]) C dl_1289 e2 rfl mw_2025 mw_123 lx_2022 ⟨by decide +kernel, by decide +kernel⟩ (by decide +kernel : (parseMethodDescriptor (sm_nm 264).desc).map (fun d => d.parameters.length) = some 2) lx_2023 lx_2024 rfl kd_169 (by decide) rfl rfl (Nat.le_of_ble_eq_true rfl) (Nat.le_of_ble_eq_true rfl) ?_
  exact lz_eq (pc := 1292) (tgt := 1626) C dl_1292 (by decide) (G h2 J)
theorem lc_36 (C : lz_C D cA ad p s m meth c b L xs) (hk : k + 6 ≤ L) {n : Nat} (hn : n ≤ 512) (J : JI n h) (G : ∀ h2 : sm_H, JI (n + 1) h2 → lz_G l D cA ad p e s m below meth c b k 1626 [] h2) : lz_G l D cA ad p e s m below meth c b k 1297 [] h := by
  obtain ⟨v, h1, h2, e1, e2, J⟩ := j_ask hn J (xs (k + 1)) (xs (k + 2))
  refine lz_x C dl_1297 ?_
  refine lz_arg (pc := 1298) (j := 1) C hk (by decide) (by decide) dl_1298 dl_1299 dl_1300 dl_1301 dl_1302 ?_
  refine lz_arg (pc := 1303) (j := 2) C hk (by decide) (by decide) dl_1303 dl_1304 dl_1305 dl_1306 dl_1307 ?_
  refine lz_call (pc := 1308) (y := 138) (a := 0) (ci := 11) (as := [.int (xs (k + 1)), .int (xs (k + 2))]) (st := []) C dl_1308 e1 rfl mw_1349 mw_111 lx_1346 ⟨by decide +kernel, by decide +kernel⟩ (by decide +kernel : (parseMethodDescriptor (sm_nm 138).desc).map (fun d => d.parameters.length) = some 2) lx_1347 lx_1348 rfl kd_0 (by decide) rfl rfl (Nat.le_of_ble_eq_true rfl) (Nat.le_of_ble_eq_true rfl) ?_
  refine lz_m C dl_1311 ?_
  refine lz_arg (pc := 1312) (j := 1) C hk (by decide) (by decide) dl_1312 dl_1313 dl_1314 dl_1315 dl_1316 ?_
  refine lz_arg (pc := 1317) (j := 2) C hk (by decide) (by decide) dl_1317 dl_1318 dl_1319 dl_1320 dl_1321 ?_
  refine lz_call (pc := 1322) (y := 265) (a := 169) (ci := 12) (as := [.int (xs (k + 1)), .int (xs (k + 2))]) (st := [.int v]) C dl_1322 e2 rfl mw_2029 mw_123 lx_2026 ⟨by decide +kernel, by decide +kernel⟩ (by decide +kernel : (parseMethodDescriptor (sm_nm 265).desc).map (fun d => d.parameters.length) = some 2) lx_2027 lx_2028 rfl kd_169 (by decide) rfl rfl (Nat.le_of_ble_eq_true rfl) (Nat.le_of_ble_eq_true rfl) ?_
  exact lz_eq (pc := 1325) (tgt := 1626) C dl_1325 (by decide) (G h2 J)
theorem lc_37 (C : lz_C D cA ad p s m meth c b L xs) (hk : k + 6 ≤ L) {n : Nat} (hn : n ≤ 512) (J : JI n h) (G : ∀ h2 : sm_H, JI (n + 1) h2 → lz_G l D cA ad p e s m below meth c b k 1626 [] h2) : lz_G l D cA ad p e s m below meth c b k 1330 [] h := by
  obtain ⟨v, h1, h2, e1, e2, J⟩ := j_dry hn J (xs (k + 1)) (xs (k + 2)) (xs (k + 3))
  refine lz_x C dl_1330 ?_
  refine lz_arg (pc := 1331) (j := 1) C hk (by decide) (by decide) dl_1331 dl_1332 dl_1333 dl_1334 dl_1335 ?_
  refine lz_arg (pc := 1336) (j := 2) C hk (by decide) (by decide) dl_1336 dl_1337 dl_1338 dl_1339 dl_1340 ?_
  refine lz_arg (pc := 1341) (j := 3) C hk (by decide) (by decide) dl_1341 dl_1342 dl_1343 dl_1344 dl_1345 ?_
  refine lz_call (pc := 1346) (y := 139) (a := 0) (ci := 11) (as := [.int (xs (k + 1)), .int (xs (k + 2)), .int (xs (k + 3))]) (st := []) C dl_1346 e1 rfl mw_1359 mw_111 lx_1356 ⟨by decide +kernel, by decide +kernel⟩ (by decide +kernel : (parseMethodDescriptor (sm_nm 139).desc).map (fun d => d.parameters.length) = some 3) lx_1357 lx_1358 rfl kd_0 (by decide) rfl rfl (Nat.le_of_ble_eq_true rfl) (Nat.le_of_ble_eq_true rfl) ?_
  refine lz_m C dl_1349 ?_
  refine lz_arg (pc := 1350) (j := 1) C hk (by decide) (by decide) dl_1350 dl_1351 dl_1352 dl_1353 dl_1354 ?_
  refine lz_arg (pc := 1355) (j := 2) C hk (by decide) (by decide) dl_1355 dl_1356 dl_1357 dl_1358 dl_1359 ?_
  refine lz_arg (pc := 1360) (j := 3) C hk (by decide) (by decide) dl_1360 dl_1361 dl_1362 dl_1363 dl_1364 ?_
  refine lz_call (pc := 1365) (y := 269) (a := 169) (ci := 12) (as := [.int (xs (k + 1)), .int (xs (k + 2)), .int (xs (k + 3))]) (st := [.long v]) C dl_1365 e2 rfl mw_2033 mw_123 lx_2030 ⟨by decide +kernel, by decide +kernel⟩ (by decide +kernel : (parseMethodDescriptor (sm_nm 269).desc).map (fun d => d.parameters.length) = some 3) lx_2031 lx_2032 rfl kd_169 (by decide) rfl rfl (Nat.le_of_ble_eq_true rfl) (Nat.le_of_ble_eq_true rfl) ?_
  exact lz_leq (pc := 1368) (tgt := 1626) C dl_1368 dl_1369 (by decide) (G h2 J)
theorem lc_38 (C : lz_C D cA ad p s m meth c b L xs) (hk : k + 6 ≤ L) {n : Nat} (hn : n ≤ 512) (J : JI n h) (G : ∀ h2 : sm_H, JI (n + 1) h2 → lz_G l D cA ad p e s m below meth c b k 1626 [] h2) : lz_G l D cA ad p e s m below meth c b k 1374 [] h := by
  obtain ⟨v, h1, h2, e1, e2, J⟩ := j_safest hn J (xs (k + 1))
  refine lz_x C dl_1374 ?_
  refine lz_arg (pc := 1375) (j := 1) C hk (by decide) (by decide) dl_1375 dl_1376 dl_1377 dl_1378 dl_1379 ?_
  refine lz_call (pc := 1380) (y := 140) (a := 0) (ci := 11) (as := [.int (xs (k + 1))]) (st := []) C dl_1380 e1 rfl mw_1375 mw_111 lx_1372 ⟨by decide +kernel, by decide +kernel⟩ (by decide +kernel : (parseMethodDescriptor (sm_nm 140).desc).map (fun d => d.parameters.length) = some 1) lx_1373 lx_1374 rfl kd_0 (by decide) rfl rfl (Nat.le_of_ble_eq_true rfl) (Nat.le_of_ble_eq_true rfl) ?_
  refine lz_m C dl_1383 ?_
  refine lz_arg (pc := 1384) (j := 1) C hk (by decide) (by decide) dl_1384 dl_1385 dl_1386 dl_1387 dl_1388 ?_
  refine lz_call (pc := 1389) (y := 270) (a := 169) (ci := 12) (as := [.int (xs (k + 1))]) (st := [.int v]) C dl_1389 e2 rfl mw_2047 mw_123 lx_2044 ⟨by decide +kernel, by decide +kernel⟩ (by decide +kernel : (parseMethodDescriptor (sm_nm 270).desc).map (fun d => d.parameters.length) = some 1) lx_2045 lx_2046 rfl kd_169 (by decide) rfl rfl (Nat.le_of_ble_eq_true rfl) (Nat.le_of_ble_eq_true rfl) ?_
  exact lz_eq (pc := 1392) (tgt := 1626) C dl_1392 (by decide) (G h2 J)
theorem lc_39 (C : lz_C D cA ad p s m meth c b L xs) (hk : k + 6 ≤ L) {n : Nat} (hn : n ≤ 512) (J : JI n h) (G : ∀ h2 : sm_H, JI (n + 1) h2 → lz_G l D cA ad p e s m below meth c b k 1626 [] h2) : lz_G l D cA ad p e s m below meth c b k 1397 [] h := by
  obtain ⟨v, h1, h2, e1, e2, J⟩ := j_numbers hn J (xs (k + 1)) (xs (k + 2)) (xs (k + 3))
  refine lz_x C dl_1397 ?_
  refine lz_arg (pc := 1398) (j := 1) C hk (by decide) (by decide) dl_1398 dl_1399 dl_1400 dl_1401 dl_1402 ?_
  refine lz_arg (pc := 1403) (j := 2) C hk (by decide) (by decide) dl_1403 dl_1404 dl_1405 dl_1406 dl_1407 ?_
  refine lz_arg (pc := 1408) (j := 3) C hk (by decide) (by decide) dl_1408 dl_1409 dl_1410 dl_1411 dl_1412 ?_
  refine lz_call (pc := 1413) (y := 141) (a := 0) (ci := 11) (as := [.int (xs (k + 1)), .int (xs (k + 2)), .int (xs (k + 3))]) (st := []) C dl_1413 e1 rfl mw_1387 mw_111 lx_1384 ⟨by decide +kernel, by decide +kernel⟩ (by decide +kernel : (parseMethodDescriptor (sm_nm 141).desc).map (fun d => d.parameters.length) = some 3) lx_1385 lx_1386 rfl kd_0 (by decide) rfl rfl (Nat.le_of_ble_eq_true rfl) (Nat.le_of_ble_eq_true rfl) ?_
  refine lz_m C dl_1416 ?_
  refine lz_arg (pc := 1417) (j := 1) C hk (by decide) (by decide) dl_1417 dl_1418 dl_1419 dl_1420 dl_1421 ?_
  refine lz_arg (pc := 1422) (j := 2) C hk (by decide) (by decide) dl_1422 dl_1423 dl_1424 dl_1425 dl_1426 ?_
  refine lz_arg (pc := 1427) (j := 3) C hk (by decide) (by decide) dl_1427 dl_1428 dl_1429 dl_1430 dl_1431 ?_
  refine lz_call (pc := 1432) (y := 272) (a := 169) (ci := 12) (as := [.int (xs (k + 1)), .int (xs (k + 2)), .int (xs (k + 3))]) (st := [.int v]) C dl_1432 e2 rfl mw_2051 mw_123 lx_2048 ⟨by decide +kernel, by decide +kernel⟩ (by decide +kernel : (parseMethodDescriptor (sm_nm 272).desc).map (fun d => d.parameters.length) = some 3) lx_2049 lx_2050 rfl kd_169 (by decide) rfl rfl (Nat.le_of_ble_eq_true rfl) (Nat.le_of_ble_eq_true rfl) ?_
  exact lz_eq (pc := 1435) (tgt := 1626) C dl_1435 (by decide) (G h2 J)
theorem lc_40 (C : lz_C D cA ad p s m meth c b L xs) (hk : k + 6 ≤ L) {n : Nat} (hn : n ≤ 512) (J : JI n h) (G : ∀ h2 : sm_H, JI (n + 1) h2 → lz_G l D cA ad p e s m below meth c b k 1626 [] h2) : lz_G l D cA ad p e s m below meth c b k 1440 [] h := by
  obtain ⟨v, h1, h2, e1, e2, J⟩ := j_write hn J (xs (k + 1)) (xs (k + 2)) (lz_w (xs (k + 3)) (xs (k + 4)))
  refine lz_x C dl_1440 ?_
  refine lz_arg (pc := 1441) (j := 1) C hk (by decide) (by decide) dl_1441 dl_1442 dl_1443 dl_1444 dl_1445 ?_
  refine lz_arg (pc := 1446) (j := 2) C hk (by decide) (by decide) dl_1446 dl_1447 dl_1448 dl_1449 dl_1450 ?_
  refine lz_arg (pc := 1451) (j := 3) C hk (by decide) (by decide) dl_1451 dl_1452 dl_1453 dl_1454 dl_1455 ?_
  refine lz_long1 (pc := 1456) C dl_1456 dl_1457 dl_1459 ?_
  refine lz_arg (pc := 1460) (j := 4) C hk (by decide) (by decide) dl_1460 dl_1461 dl_1462 dl_1463 dl_1464 ?_
  refine lz_long2 (pc := 1465) C dl_1465 dl_1466 dl_1469 dl_1470 ?_
  refine lz_call (pc := 1471) (y := 142) (a := 0) (ci := 11) (as := [.int (xs (k + 1)), .int (xs (k + 2)), .long (lz_w (xs (k + 3)) (xs (k + 4)))]) (st := []) C dl_1471 e1 rfl mw_1396 mw_111 lx_1393 ⟨by decide +kernel, by decide +kernel⟩ (by decide +kernel : (parseMethodDescriptor (sm_nm 142).desc).map (fun d => d.parameters.length) = some 3) lx_1394 lx_1395 rfl kd_0 (by decide) rfl rfl (Nat.le_of_ble_eq_true rfl) (Nat.le_of_ble_eq_true rfl) ?_
  refine lz_m C dl_1474 ?_
  refine lz_arg (pc := 1475) (j := 1) C hk (by decide) (by decide) dl_1475 dl_1476 dl_1477 dl_1478 dl_1479 ?_
  refine lz_arg (pc := 1480) (j := 2) C hk (by decide) (by decide) dl_1480 dl_1481 dl_1482 dl_1483 dl_1484 ?_
  refine lz_arg (pc := 1485) (j := 3) C hk (by decide) (by decide) dl_1485 dl_1486 dl_1487 dl_1488 dl_1489 ?_
  refine lz_long1 (pc := 1490) C dl_1490 dl_1491 dl_1493 ?_
  refine lz_arg (pc := 1494) (j := 4) C hk (by decide) (by decide) dl_1494 dl_1495 dl_1496 dl_1497 dl_1498 ?_
  refine lz_long2 (pc := 1499) C dl_1499 dl_1500 dl_1503 dl_1504 ?_
  refine lz_call (pc := 1505) (y := 273) (a := 169) (ci := 12) (as := [.int (xs (k + 1)), .int (xs (k + 2)), .long (lz_w (xs (k + 3)) (xs (k + 4)))]) (st := [.long v]) C dl_1505 e2 rfl mw_2055 mw_123 lx_2052 ⟨by decide +kernel, by decide +kernel⟩ (by decide +kernel : (parseMethodDescriptor (sm_nm 273).desc).map (fun d => d.parameters.length) = some 3) lx_2053 lx_2054 rfl kd_169 (by decide) rfl rfl (Nat.le_of_ble_eq_true rfl) (Nat.le_of_ble_eq_true rfl) ?_
  exact lz_leq (pc := 1508) (tgt := 1626) C dl_1508 dl_1509 (by decide) (G h2 J)
theorem lc_41 (C : lz_C D cA ad p s m meth c b L xs) (hk : k + 6 ≤ L) {n : Nat} (hn : n ≤ 512) (J : JI n h) (G : ∀ h2 : sm_H, JI (n + 1) h2 → lz_G l D cA ad p e s m below meth c b k 1626 [] h2) : lz_G l D cA ad p e s m below meth c b k 1514 [] h := by
  obtain ⟨v, h1, h2, e1, e2, J⟩ := j_lists hn J (xs (k + 1)) (xs (k + 2)) (xs (k + 3))
  refine lz_x C dl_1514 ?_
  refine lz_arg (pc := 1515) (j := 1) C hk (by decide) (by decide) dl_1515 dl_1516 dl_1517 dl_1518 dl_1519 ?_
  refine lz_arg (pc := 1520) (j := 2) C hk (by decide) (by decide) dl_1520 dl_1521 dl_1522 dl_1523 dl_1524 ?_
  refine lz_arg (pc := 1525) (j := 3) C hk (by decide) (by decide) dl_1525 dl_1526 dl_1527 dl_1528 dl_1529 ?_
  refine lz_call (pc := 1530) (y := 143) (a := 0) (ci := 11) (as := [.int (xs (k + 1)), .int (xs (k + 2)), .int (xs (k + 3))]) (st := []) C dl_1530 e1 rfl mw_1406 mw_111 lx_1403 ⟨by decide +kernel, by decide +kernel⟩ (by decide +kernel : (parseMethodDescriptor (sm_nm 143).desc).map (fun d => d.parameters.length) = some 3) lx_1404 lx_1405 rfl kd_0 (by decide) rfl rfl (Nat.le_of_ble_eq_true rfl) (Nat.le_of_ble_eq_true rfl) ?_
  refine lz_m C dl_1533 ?_
  refine lz_arg (pc := 1534) (j := 1) C hk (by decide) (by decide) dl_1534 dl_1535 dl_1536 dl_1537 dl_1538 ?_
  refine lz_arg (pc := 1539) (j := 2) C hk (by decide) (by decide) dl_1539 dl_1540 dl_1541 dl_1542 dl_1543 ?_
  refine lz_arg (pc := 1544) (j := 3) C hk (by decide) (by decide) dl_1544 dl_1545 dl_1546 dl_1547 dl_1548 ?_
  refine lz_call (pc := 1549) (y := 274) (a := 169) (ci := 12) (as := [.int (xs (k + 1)), .int (xs (k + 2)), .int (xs (k + 3))]) (st := [.int v]) C dl_1549 e2 rfl mw_2063 mw_123 lx_2060 ⟨by decide +kernel, by decide +kernel⟩ (by decide +kernel : (parseMethodDescriptor (sm_nm 274).desc).map (fun d => d.parameters.length) = some 3) lx_2061 lx_2062 rfl kd_169 (by decide) rfl rfl (Nat.le_of_ble_eq_true rfl) (Nat.le_of_ble_eq_true rfl) ?_
  exact lz_eq (pc := 1552) (tgt := 1626) C dl_1552 (by decide) (G h2 J)
theorem lc_42 (C : lz_C D cA ad p s m meth c b L xs) (hk : k + 6 ≤ L) {n : Nat} (hn : n ≤ 512) (J : JI n h) (G : ∀ h2 : sm_H, JI (n + 1) h2 → lz_G l D cA ad p e s m below meth c b k 1626 [] h2) : lz_G l D cA ad p e s m below meth c b k 1557 [] h := by
  obtain ⟨v, h1, h2, e1, e2, J⟩ := j_image hn J (xs (k + 1))
  refine lz_x C dl_1557 ?_
  refine lz_arg (pc := 1558) (j := 1) C hk (by decide) (by decide) dl_1558 dl_1559 dl_1560 dl_1561 dl_1562 ?_
  refine lz_call (pc := 1563) (y := 144) (a := 0) (ci := 11) (as := [.int (xs (k + 1))]) (st := []) C dl_1563 e1 rfl mw_1411 mw_111 lx_1408 ⟨by decide +kernel, by decide +kernel⟩ (by decide +kernel : (parseMethodDescriptor (sm_nm 144).desc).map (fun d => d.parameters.length) = some 1) lx_1409 lx_1410 rfl kd_0 (by decide) rfl rfl (Nat.le_of_ble_eq_true rfl) (Nat.le_of_ble_eq_true rfl) ?_
  refine lz_m C dl_1566 ?_
  refine lz_arg (pc := 1567) (j := 1) C hk (by decide) (by decide) dl_1567 dl_1568 dl_1569 dl_1570 dl_1571 ?_
  refine lz_call (pc := 1572) (y := 275) (a := 169) (ci := 12) (as := [.int (xs (k + 1))]) (st := [.int v]) C dl_1572 e2 rfl mw_2067 mw_123 lx_2064 ⟨by decide +kernel, by decide +kernel⟩ (by decide +kernel : (parseMethodDescriptor (sm_nm 275).desc).map (fun d => d.parameters.length) = some 1) lx_2065 lx_2066 rfl kd_169 (by decide) rfl rfl (Nat.le_of_ble_eq_true rfl) (Nat.le_of_ble_eq_true rfl) ?_
  exact lz_eq (pc := 1575) (tgt := 1626) C dl_1575 (by decide) (G h2 J)
theorem lc_43 (C : lz_C D cA ad p s m meth c b L xs) (hk : k + 6 ≤ L) {n : Nat} (hn : n ≤ 512) (J : JI n h) (G : ∀ h2 : sm_H, JI (n + 1) h2 → lz_G l D cA ad p e s m below meth c b k 1626 [] h2) : lz_G l D cA ad p e s m below meth c b k 1580 [] h := by
  obtain ⟨v, h1, h2, e1, e2, J⟩ := j_restore hn J (xs (k + 1))
  refine lz_x C dl_1580 ?_
  refine lz_arg (pc := 1581) (j := 1) C hk (by decide) (by decide) dl_1581 dl_1582 dl_1583 dl_1584 dl_1585 ?_
  refine lz_call (pc := 1586) (y := 145) (a := 0) (ci := 11) (as := [.int (xs (k + 1))]) (st := []) C dl_1586 e1 rfl mw_1415 mw_111 lx_1412 ⟨by decide +kernel, by decide +kernel⟩ (by decide +kernel : (parseMethodDescriptor (sm_nm 145).desc).map (fun d => d.parameters.length) = some 1) lx_1413 lx_1414 rfl kd_0 (by decide) rfl rfl (Nat.le_of_ble_eq_true rfl) (Nat.le_of_ble_eq_true rfl) ?_
  refine lz_m C dl_1589 ?_
  refine lz_arg (pc := 1590) (j := 1) C hk (by decide) (by decide) dl_1590 dl_1591 dl_1592 dl_1593 dl_1594 ?_
  refine lz_call (pc := 1595) (y := 276) (a := 169) (ci := 12) (as := [.int (xs (k + 1))]) (st := [.int v]) C dl_1595 e2 rfl mw_2071 mw_123 lx_2068 ⟨by decide +kernel, by decide +kernel⟩ (by decide +kernel : (parseMethodDescriptor (sm_nm 276).desc).map (fun d => d.parameters.length) = some 1) lx_2069 lx_2070 rfl kd_169 (by decide) rfl rfl (Nat.le_of_ble_eq_true rfl) (Nat.le_of_ble_eq_true rfl) ?_
  exact lz_eq (pc := 1598) (tgt := 1626) C dl_1598 (by decide) (G h2 J)
theorem lc_44 (C : lz_C D cA ad p s m meth c b L xs) (hk : k + 6 ≤ L) {n : Nat} (hn : n ≤ 512) (J : JI n h) (G : ∀ h2 : sm_H, JI (n + 1) h2 → lz_G l D cA ad p e s m below meth c b k 1626 [] h2) : lz_G l D cA ad p e s m below meth c b k 1603 [] h := by
  obtain ⟨v, h1, h2, e1, e2, J⟩ := j_count hn J (xs (k + 1))
  refine lz_x C dl_1603 ?_
  refine lz_arg (pc := 1604) (j := 1) C hk (by decide) (by decide) dl_1604 dl_1605 dl_1606 dl_1607 dl_1608 ?_
  refine lz_call (pc := 1609) (y := 146) (a := 0) (ci := 11) (as := [.int (xs (k + 1))]) (st := []) C dl_1609 e1 rfl mw_1419 mw_111 lx_1416 ⟨by decide +kernel, by decide +kernel⟩ (by decide +kernel : (parseMethodDescriptor (sm_nm 146).desc).map (fun d => d.parameters.length) = some 1) lx_1417 lx_1418 rfl kd_0 (by decide) rfl rfl (Nat.le_of_ble_eq_true rfl) (Nat.le_of_ble_eq_true rfl) ?_
  refine lz_m C dl_1612 ?_
  refine lz_arg (pc := 1613) (j := 1) C hk (by decide) (by decide) dl_1613 dl_1614 dl_1615 dl_1616 dl_1617 ?_
  refine lz_call (pc := 1618) (y := 279) (a := 169) (ci := 12) (as := [.int (xs (k + 1))]) (st := [.int v]) C dl_1618 e2 rfl mw_2075 mw_123 lx_2072 ⟨by decide +kernel, by decide +kernel⟩ (by decide +kernel : (parseMethodDescriptor (sm_nm 279).desc).map (fun d => d.parameters.length) = some 1) lx_2073 lx_2074 rfl kd_169 (by decide) rfl rfl (Nat.le_of_ble_eq_true rfl) (Nat.le_of_ble_eq_true rfl) ?_
  exact lz_eq (pc := 1621) (tgt := 1626) C dl_1621 (by decide) (G h2 J)
end LC
