/-! ===== words, decodings, rows by number (written by program) ===== -/
theorem gw_139 : (.methodLink "BackBridge" 1 ⟨"java/lang/Object", "<init>", "()V"⟩ : Cond) ∈ sm_wl := sn_m (List.mem_of_getElem? (i := 139) (by decide +kernel)) rfl
theorem gw_140 : (.instanceMethod ⟨"java/lang/Object", "<init>", "()V"⟩ : Cond) ∈ sm_wl := sn_m (List.mem_of_getElem? (i := 140) (by decide +kernel)) rfl
set_option maxRecDepth 100000 in
theorem gw_141 : (.code ⟨"java/lang/Object", "<init>", "()V"⟩ ⟨#[0xb1]⟩ 1 none : Cond) ∈ sm_wl := sn_m (List.mem_of_getElem? (i := 141) (by rfl)) rfl
theorem gw_142 : (.classLink "BackBridge" 13 "BackBridge$Land" : Cond) ∈ sm_wl := sn_m (List.mem_of_getElem? (i := 142) (by decide +kernel)) rfl
theorem gw_143 : (.instantiable "BackBridge$Land" 16 : Cond) ∈ sm_wl := sn_m (List.mem_of_getElem? (i := 143) (by decide +kernel)) rfl
theorem gw_145 : (.instanceMethod ⟨"BackBridge$Land", "<init>", "()V"⟩ : Cond) ∈ sm_wl := sn_m (List.mem_of_getElem? (i := 145) (by decide +kernel)) rfl
set_option maxRecDepth 100000 in
theorem gw_146 : (.code ⟨"BackBridge$Land", "<init>", "()V"⟩ prog_5_method_1_code 1 none : Cond) ∈ sm_wl := sn_m (List.mem_of_getElem? (i := 146) (by rfl)) rfl
theorem gw_147 : (.methodLink "BackBridge$Land" 3 ⟨"java/lang/Object", "<init>", "()V"⟩ : Cond) ∈ sm_wl := sn_m (List.mem_of_getElem? (i := 147) (by decide +kernel)) rfl
theorem gw_148 : (.classLink "BackBridge$Land" 43 "BackBridge$Law" : Cond) ∈ sm_wl := sn_m (List.mem_of_getElem? (i := 148) (by decide +kernel)) rfl
theorem gw_149 : (.instantiable "BackBridge$Law" 3 : Cond) ∈ sm_wl := sn_m (List.mem_of_getElem? (i := 149) (by decide +kernel)) rfl
theorem gw_151 : (.instanceMethod ⟨"BackBridge$Law", "<init>", "()V"⟩ : Cond) ∈ sm_wl := sn_m (List.mem_of_getElem? (i := 151) (by decide +kernel)) rfl
set_option maxRecDepth 100000 in
theorem gw_152 : (.code ⟨"BackBridge$Law", "<init>", "()V"⟩ prog_6_method_1_code 1 none : Cond) ∈ sm_wl := sn_m (List.mem_of_getElem? (i := 152) (by rfl)) rfl
theorem gw_153 : (.methodLink "BackBridge$Law" 3 ⟨"java/lang/Object", "<init>", "()V"⟩ : Cond) ∈ sm_wl := sn_m (List.mem_of_getElem? (i := 153) (by decide +kernel)) rfl
theorem gw_167 : (.arrayClass .byte : Cond) ∈ sm_wl := sn_m (List.mem_of_getElem? (i := 167) (by decide +kernel)) rfl
theorem gw_168 : (.arrayClass .int : Cond) ∈ sm_wl := sn_m (List.mem_of_getElem? (i := 168) (by decide +kernel)) rfl
theorem gw_275 : (.classLink "BackBridge" 20 "BackBridge$World" : Cond) ∈ sm_wl := sn_m (List.mem_of_getElem? (i := 275) (by decide +kernel)) rfl
theorem gw_276 : (.instantiable "BackBridge$World" 6 : Cond) ∈ sm_wl := sn_m (List.mem_of_getElem? (i := 276) (by decide +kernel)) rfl
theorem gw_278 : (.instanceMethod ⟨"BackBridge$World", "<init>", "()V"⟩ : Cond) ∈ sm_wl := sn_m (List.mem_of_getElem? (i := 278) (by decide +kernel)) rfl
set_option maxRecDepth 100000 in
theorem gw_279 : (.code ⟨"BackBridge$World", "<init>", "()V"⟩ prog_12_method_1_code 1 none : Cond) ∈ sm_wl := sn_m (List.mem_of_getElem? (i := 279) (by rfl)) rfl
theorem gw_280 : (.methodLink "BackBridge$World" 3 ⟨"java/lang/Object", "<init>", "()V"⟩ : Cond) ∈ sm_wl := sn_m (List.mem_of_getElem? (i := 280) (by decide +kernel)) rfl
theorem gw_322 : (.classLink "BackBridge" 30 "BackBridge$Reader" : Cond) ∈ sm_wl := sn_m (List.mem_of_getElem? (i := 322) (by decide +kernel)) rfl
theorem gw_323 : (.instantiable "BackBridge$Reader" 9 : Cond) ∈ sm_wl := sn_m (List.mem_of_getElem? (i := 323) (by decide +kernel)) rfl
theorem gw_324 : (.methodLink "BackBridge" 32 ⟨"BackBridge$Reader", "<init>", "()V"⟩ : Cond) ∈ sm_wl := sn_m (List.mem_of_getElem? (i := 324) (by decide +kernel)) rfl
theorem gw_325 : (.instanceMethod ⟨"BackBridge$Reader", "<init>", "()V"⟩ : Cond) ∈ sm_wl := sn_m (List.mem_of_getElem? (i := 325) (by decide +kernel)) rfl
set_option maxRecDepth 100000 in
theorem gw_326 : (.code ⟨"BackBridge$Reader", "<init>", "()V"⟩ prog_9_method_1_code 1 none : Cond) ∈ sm_wl := sn_m (List.mem_of_getElem? (i := 326) (by rfl)) rfl
theorem gw_327 : (.methodLink "BackBridge$Reader" 3 ⟨"java/lang/Object", "<init>", "()V"⟩ : Cond) ∈ sm_wl := sn_m (List.mem_of_getElem? (i := 327) (by decide +kernel)) rfl
theorem gw_328 : (.classLink "BackBridge$Reader" 9 "BackBridge$Land" : Cond) ∈ sm_wl := sn_m (List.mem_of_getElem? (i := 328) (by decide +kernel)) rfl
theorem gw_361 : (.classLink "BackBridge" 37 "BackBridge$Laws" : Cond) ∈ sm_wl := sn_m (List.mem_of_getElem? (i := 361) (by decide +kernel)) rfl
theorem gw_362 : (.instantiable "BackBridge$Laws" 3 : Cond) ∈ sm_wl := sn_m (List.mem_of_getElem? (i := 362) (by decide +kernel)) rfl
theorem gw_363 : (.methodLink "BackBridge" 39 ⟨"BackBridge$Laws", "<init>", "(LBackBridge$Land;)V"⟩ : Cond) ∈ sm_wl := sn_m (List.mem_of_getElem? (i := 363) (by decide +kernel)) rfl
theorem gw_364 : (.instanceMethod ⟨"BackBridge$Laws", "<init>", "(LBackBridge$Land;)V"⟩ : Cond) ∈ sm_wl := sn_m (List.mem_of_getElem? (i := 364) (by decide +kernel)) rfl
set_option maxRecDepth 100000 in
theorem gw_365 : (.code ⟨"BackBridge$Laws", "<init>", "(LBackBridge$Land;)V"⟩ prog_7_method_1_code 2 none : Cond) ∈ sm_wl := sn_m (List.mem_of_getElem? (i := 365) (by rfl)) rfl
theorem gw_366 : (.methodLink "BackBridge$Laws" 5 ⟨"java/lang/Object", "<init>", "()V"⟩ : Cond) ∈ sm_wl := sn_m (List.mem_of_getElem? (i := 366) (by decide +kernel)) rfl
theorem gw_377 : (.classLink "BackBridge" 46 "BackBridge$Deeds" : Cond) ∈ sm_wl := sn_m (List.mem_of_getElem? (i := 377) (by decide +kernel)) rfl
theorem gw_378 : (.instantiable "BackBridge$Deeds" 4 : Cond) ∈ sm_wl := sn_m (List.mem_of_getElem? (i := 378) (by decide +kernel)) rfl
theorem gw_379 : (.methodLink "BackBridge" 48 ⟨"BackBridge$Deeds", "<init>", "(LBackBridge$Land;LBackBridge$Laws;)V"⟩ : Cond) ∈ sm_wl := sn_m (List.mem_of_getElem? (i := 379) (by decide +kernel)) rfl
theorem gw_380 : (.instanceMethod ⟨"BackBridge$Deeds", "<init>", "(LBackBridge$Land;LBackBridge$Laws;)V"⟩ : Cond) ∈ sm_wl := sn_m (List.mem_of_getElem? (i := 380) (by decide +kernel)) rfl
set_option maxRecDepth 100000 in
theorem gw_381 : (.code ⟨"BackBridge$Deeds", "<init>", "(LBackBridge$Land;LBackBridge$Laws;)V"⟩ prog_4_method_1_code 3 none : Cond) ∈ sm_wl := sn_m (List.mem_of_getElem? (i := 381) (by rfl)) rfl
theorem gw_382 : (.methodLink "BackBridge$Deeds" 3 ⟨"java/lang/Object", "<init>", "()V"⟩ : Cond) ∈ sm_wl := sn_m (List.mem_of_getElem? (i := 382) (by decide +kernel)) rfl
theorem gw_397 : (.classLink "BackBridge" 55 "BackBridge$Past" : Cond) ∈ sm_wl := sn_m (List.mem_of_getElem? (i := 397) (by decide +kernel)) rfl
theorem gw_398 : (.instantiable "BackBridge$Past" 3 : Cond) ∈ sm_wl := sn_m (List.mem_of_getElem? (i := 398) (by decide +kernel)) rfl
theorem gw_399 : (.methodLink "BackBridge" 57 ⟨"BackBridge$Past", "<init>", "()V"⟩ : Cond) ∈ sm_wl := sn_m (List.mem_of_getElem? (i := 399) (by decide +kernel)) rfl
theorem gw_400 : (.instanceMethod ⟨"BackBridge$Past", "<init>", "()V"⟩ : Cond) ∈ sm_wl := sn_m (List.mem_of_getElem? (i := 400) (by decide +kernel)) rfl
set_option maxRecDepth 100000 in
theorem gw_401 : (.code ⟨"BackBridge$Past", "<init>", "()V"⟩ prog_8_method_1_code 2 none : Cond) ∈ sm_wl := sn_m (List.mem_of_getElem? (i := 401) (by rfl)) rfl
theorem gw_402 : (.methodLink "BackBridge$Past" 1 ⟨"java/lang/Object", "<init>", "()V"⟩ : Cond) ∈ sm_wl := sn_m (List.mem_of_getElem? (i := 402) (by decide +kernel)) rfl
theorem gw_403 : (.classLink "BackBridge$Past" 9 "BackBridge$World" : Cond) ∈ sm_wl := sn_m (List.mem_of_getElem? (i := 403) (by decide +kernel)) rfl
theorem gw_417 : (.classLink "BackBridge" 62 "BackBridge$Search" : Cond) ∈ sm_wl := sn_m (List.mem_of_getElem? (i := 417) (by decide +kernel)) rfl
theorem gw_418 : (.instantiable "BackBridge$Search" 20 : Cond) ∈ sm_wl := sn_m (List.mem_of_getElem? (i := 418) (by decide +kernel)) rfl
theorem gw_419 : (.methodLink "BackBridge" 64 ⟨"BackBridge$Search", "<init>", "(LBackBridge$Land;LBackBridge$Laws;)V"⟩ : Cond) ∈ sm_wl := sn_m (List.mem_of_getElem? (i := 419) (by decide +kernel)) rfl
theorem gw_420 : (.instanceMethod ⟨"BackBridge$Search", "<init>", "(LBackBridge$Land;LBackBridge$Laws;)V"⟩ : Cond) ∈ sm_wl := sn_m (List.mem_of_getElem? (i := 420) (by decide +kernel)) rfl
set_option maxRecDepth 100000 in
theorem gw_421 : (.code ⟨"BackBridge$Search", "<init>", "(LBackBridge$Land;LBackBridge$Laws;)V"⟩ prog_10_method_1_code 3 none : Cond) ∈ sm_wl := sn_m (List.mem_of_getElem? (i := 421) (by rfl)) rfl
theorem gw_422 : (.methodLink "BackBridge$Search" 5 ⟨"java/lang/Object", "<init>", "()V"⟩ : Cond) ∈ sm_wl := sn_m (List.mem_of_getElem? (i := 422) (by decide +kernel)) rfl
theorem gw_423 : (.constant "BackBridge$Search" 11 (61440) : Cond) ∈ sm_wl := sn_m (List.mem_of_getElem? (i := 423) (by decide +kernel)) rfl
theorem gw_424 : (.classLink "BackBridge$Search" 28 "[[J" : Cond) ∈ sm_wl := sn_m (List.mem_of_getElem? (i := 424) (by decide +kernel)) rfl
theorem gw_492 : (.arrayClass .long : Cond) ∈ sm_wl := sn_m (List.mem_of_getElem? (i := 492) (by decide +kernel)) rfl
theorem gw_493 : (.classLink "BackBridge" 69 "BackBridge$Choices" : Cond) ∈ sm_wl := sn_m (List.mem_of_getElem? (i := 493) (by decide +kernel)) rfl
theorem gw_494 : (.instantiable "BackBridge$Choices" 7 : Cond) ∈ sm_wl := sn_m (List.mem_of_getElem? (i := 494) (by decide +kernel)) rfl
theorem gw_495 : (.methodLink "BackBridge" 71 ⟨"BackBridge$Choices", "<init>", "(LBackBridge$Land;LBackBridge$World;LBackBridge$Search;)V"⟩ : Cond) ∈ sm_wl := sn_m (List.mem_of_getElem? (i := 495) (by decide +kernel)) rfl
theorem gw_496 : (.instanceMethod ⟨"BackBridge$Choices", "<init>", "(LBackBridge$Land;LBackBridge$World;LBackBridge$Search;)V"⟩ : Cond) ∈ sm_wl := sn_m (List.mem_of_getElem? (i := 496) (by decide +kernel)) rfl
set_option maxRecDepth 100000 in
theorem gw_497 : (.code ⟨"BackBridge$Choices", "<init>", "(LBackBridge$Land;LBackBridge$World;LBackBridge$Search;)V"⟩ prog_3_method_1_code 4 none : Cond) ∈ sm_wl := sn_m (List.mem_of_getElem? (i := 497) (by rfl)) rfl
theorem gw_498 : (.methodLink "BackBridge$Choices" 3 ⟨"java/lang/Object", "<init>", "()V"⟩ : Cond) ∈ sm_wl := sn_m (List.mem_of_getElem? (i := 498) (by decide +kernel)) rfl
theorem gw_523 : (.classLink "BackBridge" 78 "BackBridge$Trays" : Cond) ∈ sm_wl := sn_m (List.mem_of_getElem? (i := 523) (by decide +kernel)) rfl
theorem gw_524 : (.instantiable "BackBridge$Trays" 3 : Cond) ∈ sm_wl := sn_m (List.mem_of_getElem? (i := 524) (by decide +kernel)) rfl
theorem gw_526 : (.instanceMethod ⟨"BackBridge$Trays", "<init>", "()V"⟩ : Cond) ∈ sm_wl := sn_m (List.mem_of_getElem? (i := 526) (by decide +kernel)) rfl
set_option maxRecDepth 100000 in
theorem gw_527 : (.code ⟨"BackBridge$Trays", "<init>", "()V"⟩ prog_11_method_1_code 1 none : Cond) ∈ sm_wl := sn_m (List.mem_of_getElem? (i := 527) (by rfl)) rfl
theorem gw_528 : (.methodLink "BackBridge$Trays" 3 ⟨"java/lang/Object", "<init>", "()V"⟩ : Cond) ∈ sm_wl := sn_m (List.mem_of_getElem? (i := 528) (by decide +kernel)) rfl
theorem gw_529 : (.classLink "BackBridge$Trays" 11 "[[J" : Cond) ∈ sm_wl := sn_m (List.mem_of_getElem? (i := 529) (by decide +kernel)) rfl
theorem gw_546 : (.classLink "BackBridge" 85 "BackBridge$Answers" : Cond) ∈ sm_wl := sn_m (List.mem_of_getElem? (i := 546) (by decide +kernel)) rfl
theorem gw_547 : (.instantiable "BackBridge$Answers" 4 : Cond) ∈ sm_wl := sn_m (List.mem_of_getElem? (i := 547) (by decide +kernel)) rfl
theorem gw_548 : (.methodLink "BackBridge" 87 ⟨"BackBridge$Answers", "<init>", "(LBackBridge$Land;LBackBridge$World;LBackBridge$Laws;)V"⟩ : Cond) ∈ sm_wl := sn_m (List.mem_of_getElem? (i := 548) (by decide +kernel)) rfl
theorem gw_549 : (.instanceMethod ⟨"BackBridge$Answers", "<init>", "(LBackBridge$Land;LBackBridge$World;LBackBridge$Laws;)V"⟩ : Cond) ∈ sm_wl := sn_m (List.mem_of_getElem? (i := 549) (by decide +kernel)) rfl
set_option maxRecDepth 100000 in
theorem gw_550 : (.code ⟨"BackBridge$Answers", "<init>", "(LBackBridge$Land;LBackBridge$World;LBackBridge$Laws;)V"⟩ prog_2_method_1_code 4 none : Cond) ∈ sm_wl := sn_m (List.mem_of_getElem? (i := 550) (by rfl)) rfl
theorem gw_551 : (.methodLink "BackBridge$Answers" 3 ⟨"java/lang/Object", "<init>", "()V"⟩ : Cond) ∈ sm_wl := sn_m (List.mem_of_getElem? (i := 551) (by decide +kernel)) rfl
theorem gw_1430 : (.methodLink "BackBridgeModel" 7 ⟨"java/lang/Object", "<init>", "()V"⟩ : Cond) ∈ sm_wl := sn_m (List.mem_of_getElem? (i := 1430) (by decide +kernel)) rfl
theorem gw_1431 : (.constant "BackBridgeModel" 42 (61440) : Cond) ∈ sm_wl := sn_m (List.mem_of_getElem? (i := 1431) (by decide +kernel)) rfl
theorem gw_1432 : (.constant "BackBridgeModel" 52 (737280) : Cond) ∈ sm_wl := sn_m (List.mem_of_getElem? (i := 1432) (by decide +kernel)) rfl
theorem gw_1539 : (.arrayClass .boolean : Cond) ∈ sm_wl := sn_m (List.mem_of_getElem? (i := 1539) (by decide +kernel)) rfl
theorem gd_BB_0 : decode prog_1_method_1_code 0 = .ok (.aload_n 0, 1) := by decide +kernel
theorem gd_BB_1 : decode prog_1_method_1_code 1 = .ok (.invokespecial 1, 3) := by decide +kernel
theorem gd_BB_4 : decode prog_1_method_1_code 4 = .ok (.aload_n 0, 1) := by decide +kernel
theorem gd_BB_5 : decode prog_1_method_1_code 5 = .ok (.sipush 900, 3) := by decide +kernel
theorem gd_BB_8 : decode prog_1_method_1_code 8 = .ok (.newarray .byte, 2) := by decide +kernel
theorem gd_BB_10 : decode prog_1_method_1_code 10 = .ok (.putfield 9, 3) := by decide +kernel
theorem gd_BB_13 : decode prog_1_method_1_code 13 = .ok (.aload_n 0, 1) := by decide +kernel
theorem gd_BB_14 : decode prog_1_method_1_code 14 = .ok (.new 13, 3) := by decide +kernel
theorem gd_BB_17 : decode prog_1_method_1_code 17 = .ok (.dup, 1) := by decide +kernel
theorem gd_BB_18 : decode prog_1_method_1_code 18 = .ok (.invokespecial 15, 3) := by decide +kernel
theorem gd_Land_0 : decode prog_5_method_1_code 0 = .ok (.aload_n 0, 1) := by decide +kernel
theorem gd_Land_1 : decode prog_5_method_1_code 1 = .ok (.invokespecial 3, 3) := by decide +kernel
theorem gd_Land_4 : decode prog_5_method_1_code 4 = .ok (.aload_n 0, 1) := by decide +kernel
theorem gd_Land_5 : decode prog_5_method_1_code 5 = .ok (.iconst 2, 1) := by decide +kernel
theorem gd_Land_6 : decode prog_5_method_1_code 6 = .ok (.putfield 9, 3) := by decide +kernel
theorem gd_Land_9 : decode prog_5_method_1_code 9 = .ok (.aload_n 0, 1) := by decide +kernel
theorem gd_Land_10 : decode prog_5_method_1_code 10 = .ok (.bipush 12, 2) := by decide +kernel
theorem gd_Land_12 : decode prog_5_method_1_code 12 = .ok (.newarray .int, 2) := by decide +kernel
theorem gd_Land_14 : decode prog_5_method_1_code 14 = .ok (.putfield 15, 3) := by decide +kernel
theorem gd_Land_17 : decode prog_5_method_1_code 17 = .ok (.aload_n 0, 1) := by decide +kernel
theorem gd_Land_18 : decode prog_5_method_1_code 18 = .ok (.bipush 12, 2) := by decide +kernel
theorem gd_Land_20 : decode prog_5_method_1_code 20 = .ok (.newarray .int, 2) := by decide +kernel
theorem gd_Land_22 : decode prog_5_method_1_code 22 = .ok (.putfield 19, 3) := by decide +kernel
theorem gd_Land_25 : decode prog_5_method_1_code 25 = .ok (.aload_n 0, 1) := by decide +kernel
theorem gd_Land_26 : decode prog_5_method_1_code 26 = .ok (.bipush 12, 2) := by decide +kernel
theorem gd_Land_28 : decode prog_5_method_1_code 28 = .ok (.newarray .int, 2) := by decide +kernel
theorem gd_Land_30 : decode prog_5_method_1_code 30 = .ok (.putfield 22, 3) := by decide +kernel
theorem gd_Land_33 : decode prog_5_method_1_code 33 = .ok (.aload_n 0, 1) := by decide +kernel
theorem gd_Land_34 : decode prog_5_method_1_code 34 = .ok (.bipush 12, 2) := by decide +kernel
theorem gd_Land_36 : decode prog_5_method_1_code 36 = .ok (.newarray .int, 2) := by decide +kernel
theorem gd_Land_38 : decode prog_5_method_1_code 38 = .ok (.putfield 25, 3) := by decide +kernel
theorem gd_Land_41 : decode prog_5_method_1_code 41 = .ok (.aload_n 0, 1) := by decide +kernel
theorem gd_Land_42 : decode prog_5_method_1_code 42 = .ok (.bipush 6, 2) := by decide +kernel
theorem gd_Land_44 : decode prog_5_method_1_code 44 = .ok (.newarray .int, 2) := by decide +kernel
theorem gd_Land_46 : decode prog_5_method_1_code 46 = .ok (.putfield 28, 3) := by decide +kernel
theorem gd_Land_49 : decode prog_5_method_1_code 49 = .ok (.aload_n 0, 1) := by decide +kernel
theorem gd_Land_50 : decode prog_5_method_1_code 50 = .ok (.bipush 6, 2) := by decide +kernel
theorem gd_Land_52 : decode prog_5_method_1_code 52 = .ok (.newarray .int, 2) := by decide +kernel
theorem gd_Land_54 : decode prog_5_method_1_code 54 = .ok (.putfield 31, 3) := by decide +kernel
theorem gd_Land_57 : decode prog_5_method_1_code 57 = .ok (.aload_n 0, 1) := by decide +kernel
theorem gd_Land_58 : decode prog_5_method_1_code 58 = .ok (.bipush 6, 2) := by decide +kernel
theorem gd_Land_60 : decode prog_5_method_1_code 60 = .ok (.newarray .int, 2) := by decide +kernel
theorem gd_Land_62 : decode prog_5_method_1_code 62 = .ok (.putfield 34, 3) := by decide +kernel
theorem gd_Land_65 : decode prog_5_method_1_code 65 = .ok (.aload_n 0, 1) := by decide +kernel
theorem gd_Land_66 : decode prog_5_method_1_code 66 = .ok (.bipush 6, 2) := by decide +kernel
theorem gd_Land_68 : decode prog_5_method_1_code 68 = .ok (.newarray .int, 2) := by decide +kernel
theorem gd_Land_70 : decode prog_5_method_1_code 70 = .ok (.putfield 37, 3) := by decide +kernel
theorem gd_Land_73 : decode prog_5_method_1_code 73 = .ok (.aload_n 0, 1) := by decide +kernel
theorem gd_Land_74 : decode prog_5_method_1_code 74 = .ok (.bipush 6, 2) := by decide +kernel
theorem gd_Land_76 : decode prog_5_method_1_code 76 = .ok (.newarray .int, 2) := by decide +kernel
theorem gd_Land_78 : decode prog_5_method_1_code 78 = .ok (.putfield 40, 3) := by decide +kernel
theorem gd_Land_81 : decode prog_5_method_1_code 81 = .ok (.aload_n 0, 1) := by decide +kernel
theorem gd_Land_82 : decode prog_5_method_1_code 82 = .ok (.new 43, 3) := by decide +kernel
theorem gd_Land_85 : decode prog_5_method_1_code 85 = .ok (.dup, 1) := by decide +kernel
theorem gd_Land_86 : decode prog_5_method_1_code 86 = .ok (.invokespecial 45, 3) := by decide +kernel
theorem gd_Law_0 : decode prog_6_method_1_code 0 = .ok (.aload_n 0, 1) := by decide +kernel
theorem gd_Law_1 : decode prog_6_method_1_code 1 = .ok (.invokespecial 3, 3) := by decide +kernel
theorem gd_Law_4 : decode prog_6_method_1_code 4 = .ok (.aload_n 0, 1) := by decide +kernel
theorem gd_Law_5 : decode prog_6_method_1_code 5 = .ok (.sipush 900, 3) := by decide +kernel
theorem gd_Law_8 : decode prog_6_method_1_code 8 = .ok (.newarray .int, 2) := by decide +kernel
theorem gd_Law_10 : decode prog_6_method_1_code 10 = .ok (.putfield 9, 3) := by decide +kernel
theorem gd_Law_13 : decode prog_6_method_1_code 13 = .ok (.aload_n 0, 1) := by decide +kernel
theorem gd_Law_14 : decode prog_6_method_1_code 14 = .ok (.bipush 64, 2) := by decide +kernel
theorem gd_Law_16 : decode prog_6_method_1_code 16 = .ok (.newarray .int, 2) := by decide +kernel
theorem gd_Law_18 : decode prog_6_method_1_code 18 = .ok (.putfield 15, 3) := by decide +kernel
theorem gd_Law_21 : decode prog_6_method_1_code 21 = .ok (.return_, 1) := by decide +kernel
theorem gd_Land_89 : decode prog_5_method_1_code 89 = .ok (.putfield 46, 3) := by decide +kernel
theorem gd_Land_92 : decode prog_5_method_1_code 92 = .ok (.aload_n 0, 1) := by decide +kernel
theorem gd_Land_93 : decode prog_5_method_1_code 93 = .ok (.new 43, 3) := by decide +kernel
theorem gd_Land_96 : decode prog_5_method_1_code 96 = .ok (.dup, 1) := by decide +kernel
theorem gd_Land_97 : decode prog_5_method_1_code 97 = .ok (.invokespecial 45, 3) := by decide +kernel
theorem gd_Land_100 : decode prog_5_method_1_code 100 = .ok (.putfield 50, 3) := by decide +kernel
theorem gd_Land_103 : decode prog_5_method_1_code 103 = .ok (.return_, 1) := by decide +kernel
theorem gd_BB_21 : decode prog_1_method_1_code 21 = .ok (.putfield 16, 3) := by decide +kernel
theorem gd_BB_24 : decode prog_1_method_1_code 24 = .ok (.aload_n 0, 1) := by decide +kernel
theorem gd_BB_25 : decode prog_1_method_1_code 25 = .ok (.new 20, 3) := by decide +kernel
theorem gd_BB_28 : decode prog_1_method_1_code 28 = .ok (.dup, 1) := by decide +kernel
theorem gd_BB_29 : decode prog_1_method_1_code 29 = .ok (.invokespecial 22, 3) := by decide +kernel
theorem gd_World_0 : decode prog_12_method_1_code 0 = .ok (.aload_n 0, 1) := by decide +kernel
theorem gd_World_1 : decode prog_12_method_1_code 1 = .ok (.invokespecial 3, 3) := by decide +kernel
theorem gd_World_4 : decode prog_12_method_1_code 4 = .ok (.aload_n 0, 1) := by decide +kernel
theorem gd_World_5 : decode prog_12_method_1_code 5 = .ok (.bipush 6, 2) := by decide +kernel
theorem gd_World_7 : decode prog_12_method_1_code 7 = .ok (.newarray .int, 2) := by decide +kernel
theorem gd_World_9 : decode prog_12_method_1_code 9 = .ok (.putfield 9, 3) := by decide +kernel
theorem gd_World_12 : decode prog_12_method_1_code 12 = .ok (.aload_n 0, 1) := by decide +kernel
theorem gd_World_13 : decode prog_12_method_1_code 13 = .ok (.bipush 6, 2) := by decide +kernel
theorem gd_World_15 : decode prog_12_method_1_code 15 = .ok (.newarray .int, 2) := by decide +kernel
theorem gd_World_17 : decode prog_12_method_1_code 17 = .ok (.putfield 15, 3) := by decide +kernel
theorem gd_World_20 : decode prog_12_method_1_code 20 = .ok (.aload_n 0, 1) := by decide +kernel
theorem gd_World_21 : decode prog_12_method_1_code 21 = .ok (.bipush 6, 2) := by decide +kernel
theorem gd_World_23 : decode prog_12_method_1_code 23 = .ok (.newarray .int, 2) := by decide +kernel
theorem gd_World_25 : decode prog_12_method_1_code 25 = .ok (.putfield 18, 3) := by decide +kernel
theorem gd_World_28 : decode prog_12_method_1_code 28 = .ok (.aload_n 0, 1) := by decide +kernel
theorem gd_World_29 : decode prog_12_method_1_code 29 = .ok (.bipush 6, 2) := by decide +kernel
theorem gd_World_31 : decode prog_12_method_1_code 31 = .ok (.newarray .int, 2) := by decide +kernel
theorem gd_World_33 : decode prog_12_method_1_code 33 = .ok (.putfield 21, 3) := by decide +kernel
theorem gd_World_36 : decode prog_12_method_1_code 36 = .ok (.return_, 1) := by decide +kernel
theorem gd_BB_32 : decode prog_1_method_1_code 32 = .ok (.putfield 23, 3) := by decide +kernel
theorem gd_BB_35 : decode prog_1_method_1_code 35 = .ok (.aload_n 0, 1) := by decide +kernel
theorem gd_BB_36 : decode prog_1_method_1_code 36 = .ok (.new 20, 3) := by decide +kernel
theorem gd_BB_39 : decode prog_1_method_1_code 39 = .ok (.dup, 1) := by decide +kernel
theorem gd_BB_40 : decode prog_1_method_1_code 40 = .ok (.invokespecial 22, 3) := by decide +kernel
theorem gd_BB_43 : decode prog_1_method_1_code 43 = .ok (.putfield 27, 3) := by decide +kernel
theorem gd_BB_46 : decode prog_1_method_1_code 46 = .ok (.aload_n 0, 1) := by decide +kernel
theorem gd_BB_47 : decode prog_1_method_1_code 47 = .ok (.new 30, 3) := by decide +kernel
theorem gd_BB_50 : decode prog_1_method_1_code 50 = .ok (.dup, 1) := by decide +kernel
theorem gd_BB_51 : decode prog_1_method_1_code 51 = .ok (.invokespecial 32, 3) := by decide +kernel
theorem gd_Reader_0 : decode prog_9_method_1_code 0 = .ok (.aload_n 0, 1) := by decide +kernel
theorem gd_Reader_1 : decode prog_9_method_1_code 1 = .ok (.invokespecial 3, 3) := by decide +kernel
theorem gd_Reader_4 : decode prog_9_method_1_code 4 = .ok (.aload_n 0, 1) := by decide +kernel
theorem gd_Reader_5 : decode prog_9_method_1_code 5 = .ok (.new 9, 3) := by decide +kernel
theorem gd_Reader_8 : decode prog_9_method_1_code 8 = .ok (.dup, 1) := by decide +kernel
theorem gd_Reader_9 : decode prog_9_method_1_code 9 = .ok (.invokespecial 11, 3) := by decide +kernel
theorem gd_Reader_12 : decode prog_9_method_1_code 12 = .ok (.putfield 12, 3) := by decide +kernel
theorem gd_Reader_15 : decode prog_9_method_1_code 15 = .ok (.aload_n 0, 1) := by decide +kernel
theorem gd_Reader_16 : decode prog_9_method_1_code 16 = .ok (.sipush 901, 3) := by decide +kernel
theorem gd_Reader_19 : decode prog_9_method_1_code 19 = .ok (.newarray .int, 2) := by decide +kernel
theorem gd_Reader_21 : decode prog_9_method_1_code 21 = .ok (.putfield 18, 3) := by decide +kernel
theorem gd_Reader_24 : decode prog_9_method_1_code 24 = .ok (.aload_n 0, 1) := by decide +kernel
theorem gd_Reader_25 : decode prog_9_method_1_code 25 = .ok (.sipush 901, 3) := by decide +kernel
theorem gd_Reader_28 : decode prog_9_method_1_code 28 = .ok (.newarray .int, 2) := by decide +kernel
theorem gd_Reader_30 : decode prog_9_method_1_code 30 = .ok (.putfield 22, 3) := by decide +kernel
theorem gd_Reader_33 : decode prog_9_method_1_code 33 = .ok (.aload_n 0, 1) := by decide +kernel
theorem gd_Reader_34 : decode prog_9_method_1_code 34 = .ok (.sipush 901, 3) := by decide +kernel
theorem gd_Reader_37 : decode prog_9_method_1_code 37 = .ok (.newarray .int, 2) := by decide +kernel
theorem gd_Reader_39 : decode prog_9_method_1_code 39 = .ok (.putfield 25, 3) := by decide +kernel
theorem gd_Reader_42 : decode prog_9_method_1_code 42 = .ok (.aload_n 0, 1) := by decide +kernel
theorem gd_Reader_43 : decode prog_9_method_1_code 43 = .ok (.iconst (-1), 1) := by decide +kernel
theorem gd_Reader_44 : decode prog_9_method_1_code 44 = .ok (.putfield 28, 3) := by decide +kernel
theorem gd_Reader_47 : decode prog_9_method_1_code 47 = .ok (.aload_n 0, 1) := by decide +kernel
theorem gd_Reader_48 : decode prog_9_method_1_code 48 = .ok (.aload_n 0, 1) := by decide +kernel
theorem gd_Reader_49 : decode prog_9_method_1_code 49 = .ok (.getfield 12, 3) := by decide +kernel
theorem gd_Reader_52 : decode prog_9_method_1_code 52 = .ok (.getfield 32, 3) := by decide +kernel
theorem gd_Reader_55 : decode prog_9_method_1_code 55 = .ok (.putfield 36, 3) := by decide +kernel
theorem gd_Reader_58 : decode prog_9_method_1_code 58 = .ok (.return_, 1) := by decide +kernel
theorem gd_BB_54 : decode prog_1_method_1_code 54 = .ok (.putfield 33, 3) := by decide +kernel
theorem gd_BB_57 : decode prog_1_method_1_code 57 = .ok (.aload_n 0, 1) := by decide +kernel
theorem gd_BB_58 : decode prog_1_method_1_code 58 = .ok (.new 37, 3) := by decide +kernel
theorem gd_BB_61 : decode prog_1_method_1_code 61 = .ok (.dup, 1) := by decide +kernel
theorem gd_BB_62 : decode prog_1_method_1_code 62 = .ok (.aload_n 0, 1) := by decide +kernel
theorem gd_BB_63 : decode prog_1_method_1_code 63 = .ok (.getfield 16, 3) := by decide +kernel
theorem gd_BB_66 : decode prog_1_method_1_code 66 = .ok (.invokespecial 39, 3) := by decide +kernel
theorem gd_Laws_0 : decode prog_7_method_1_code 0 = .ok (.aload_n 0, 1) := by decide +kernel
theorem gd_Laws_1 : decode prog_7_method_1_code 1 = .ok (.invokespecial 5, 3) := by decide +kernel
theorem gd_Laws_4 : decode prog_7_method_1_code 4 = .ok (.aload_n 0, 1) := by decide +kernel
theorem gd_Laws_5 : decode prog_7_method_1_code 5 = .ok (.bipush 7, 2) := by decide +kernel
theorem gd_Laws_7 : decode prog_7_method_1_code 7 = .ok (.newarray .int, 2) := by decide +kernel
theorem gd_Laws_9 : decode prog_7_method_1_code 9 = .ok (.putfield 11, 3) := by decide +kernel
theorem gd_Laws_12 : decode prog_7_method_1_code 12 = .ok (.aload_n 0, 1) := by decide +kernel
theorem gd_Laws_13 : decode prog_7_method_1_code 13 = .ok (.sipush 6720, 3) := by decide +kernel
theorem gd_Laws_16 : decode prog_7_method_1_code 16 = .ok (.newarray .int, 2) := by decide +kernel
theorem gd_Laws_18 : decode prog_7_method_1_code 18 = .ok (.putfield 15, 3) := by decide +kernel
theorem gd_Laws_21 : decode prog_7_method_1_code 21 = .ok (.aload_n 0, 1) := by decide +kernel
theorem gd_Laws_22 : decode prog_7_method_1_code 22 = .ok (.aload_n 1, 1) := by decide +kernel
theorem gd_Laws_23 : decode prog_7_method_1_code 23 = .ok (.putfield 18, 3) := by decide +kernel
theorem gd_Laws_26 : decode prog_7_method_1_code 26 = .ok (.return_, 1) := by decide +kernel
theorem gd_BB_69 : decode prog_1_method_1_code 69 = .ok (.putfield 42, 3) := by decide +kernel
theorem gd_BB_72 : decode prog_1_method_1_code 72 = .ok (.aload_n 0, 1) := by decide +kernel
theorem gd_BB_73 : decode prog_1_method_1_code 73 = .ok (.new 46, 3) := by decide +kernel
theorem gd_BB_76 : decode prog_1_method_1_code 76 = .ok (.dup, 1) := by decide +kernel
theorem gd_BB_77 : decode prog_1_method_1_code 77 = .ok (.aload_n 0, 1) := by decide +kernel
theorem gd_BB_78 : decode prog_1_method_1_code 78 = .ok (.getfield 16, 3) := by decide +kernel
theorem gd_BB_81 : decode prog_1_method_1_code 81 = .ok (.aload_n 0, 1) := by decide +kernel
theorem gd_BB_82 : decode prog_1_method_1_code 82 = .ok (.getfield 42, 3) := by decide +kernel
theorem gd_BB_85 : decode prog_1_method_1_code 85 = .ok (.invokespecial 48, 3) := by decide +kernel
theorem gd_Deeds_0 : decode prog_4_method_1_code 0 = .ok (.aload_n 0, 1) := by decide +kernel
theorem gd_Deeds_1 : decode prog_4_method_1_code 1 = .ok (.invokespecial 3, 3) := by decide +kernel
theorem gd_Deeds_4 : decode prog_4_method_1_code 4 = .ok (.aload_n 0, 1) := by decide +kernel
theorem gd_Deeds_5 : decode prog_4_method_1_code 5 = .ok (.aload_n 1, 1) := by decide +kernel
theorem gd_Deeds_6 : decode prog_4_method_1_code 6 = .ok (.putfield 9, 3) := by decide +kernel
theorem gd_Deeds_9 : decode prog_4_method_1_code 9 = .ok (.aload_n 0, 1) := by decide +kernel
theorem gd_Deeds_10 : decode prog_4_method_1_code 10 = .ok (.aload_n 2, 1) := by decide +kernel
theorem gd_Deeds_11 : decode prog_4_method_1_code 11 = .ok (.putfield 15, 3) := by decide +kernel
theorem gd_Deeds_14 : decode prog_4_method_1_code 14 = .ok (.return_, 1) := by decide +kernel
theorem gd_BB_88 : decode prog_1_method_1_code 88 = .ok (.putfield 51, 3) := by decide +kernel
theorem gd_BB_91 : decode prog_1_method_1_code 91 = .ok (.aload_n 0, 1) := by decide +kernel
theorem gd_BB_92 : decode prog_1_method_1_code 92 = .ok (.new 55, 3) := by decide +kernel
theorem gd_BB_95 : decode prog_1_method_1_code 95 = .ok (.dup, 1) := by decide +kernel
theorem gd_BB_96 : decode prog_1_method_1_code 96 = .ok (.invokespecial 57, 3) := by decide +kernel
theorem gd_Past_0 : decode prog_8_method_1_code 0 = .ok (.aload_n 0, 1) := by decide +kernel
theorem gd_Past_1 : decode prog_8_method_1_code 1 = .ok (.invokespecial 1, 3) := by decide +kernel
theorem gd_Past_4 : decode prog_8_method_1_code 4 = .ok (.aload_n 0, 1) := by decide +kernel
theorem gd_Past_5 : decode prog_8_method_1_code 5 = .ok (.bipush 10, 2) := by decide +kernel
theorem gd_Past_7 : decode prog_8_method_1_code 7 = .ok (.anewarray 9, 3) := by decide +kernel
theorem gd_Past_10 : decode prog_8_method_1_code 10 = .ok (.putfield 11, 3) := by decide +kernel
theorem gd_Past_13 : decode prog_8_method_1_code 13 = .ok (.iconst 0, 1) := by decide +kernel
theorem gd_Past_14 : decode prog_8_method_1_code 14 = .ok (.istore_n 1, 1) := by decide +kernel
theorem gd_Past_15 : decode prog_8_method_1_code 15 = .ok (.iload_n 1, 1) := by decide +kernel
theorem gd_Past_16 : decode prog_8_method_1_code 16 = .ok (.bipush 10, 2) := by decide +kernel
theorem gd_Past_18 : decode prog_8_method_1_code 18 = .ok (.if_icmp .ge 22, 3) := by decide +kernel
theorem gd_Past_21 : decode prog_8_method_1_code 21 = .ok (.aload_n 0, 1) := by decide +kernel
theorem gd_Past_22 : decode prog_8_method_1_code 22 = .ok (.getfield 11, 3) := by decide +kernel
theorem gd_Past_25 : decode prog_8_method_1_code 25 = .ok (.iload_n 1, 1) := by decide +kernel
theorem gd_Past_26 : decode prog_8_method_1_code 26 = .ok (.new 9, 3) := by decide +kernel
theorem gd_Past_29 : decode prog_8_method_1_code 29 = .ok (.dup, 1) := by decide +kernel
theorem gd_Past_30 : decode prog_8_method_1_code 30 = .ok (.invokespecial 15, 3) := by decide +kernel
theorem gd_Past_33 : decode prog_8_method_1_code 33 = .ok (.aastore, 1) := by decide +kernel
theorem gd_Past_34 : decode prog_8_method_1_code 34 = .ok (.iinc 1 1, 3) := by decide +kernel
theorem gd_Past_37 : decode prog_8_method_1_code 37 = .ok (.goto (-22), 3) := by decide +kernel
theorem gd_Past_40 : decode prog_8_method_1_code 40 = .ok (.return_, 1) := by decide +kernel
theorem gd_BB_99 : decode prog_1_method_1_code 99 = .ok (.putfield 58, 3) := by decide +kernel
theorem gd_BB_102 : decode prog_1_method_1_code 102 = .ok (.aload_n 0, 1) := by decide +kernel
theorem gd_BB_103 : decode prog_1_method_1_code 103 = .ok (.new 62, 3) := by decide +kernel
theorem gd_BB_106 : decode prog_1_method_1_code 106 = .ok (.dup, 1) := by decide +kernel
theorem gd_BB_107 : decode prog_1_method_1_code 107 = .ok (.aload_n 0, 1) := by decide +kernel
theorem gd_BB_108 : decode prog_1_method_1_code 108 = .ok (.getfield 16, 3) := by decide +kernel
theorem gd_BB_111 : decode prog_1_method_1_code 111 = .ok (.aload_n 0, 1) := by decide +kernel
theorem gd_BB_112 : decode prog_1_method_1_code 112 = .ok (.getfield 42, 3) := by decide +kernel
theorem gd_BB_115 : decode prog_1_method_1_code 115 = .ok (.invokespecial 64, 3) := by decide +kernel
theorem gd_Search_0 : decode prog_10_method_1_code 0 = .ok (.aload_n 0, 1) := by decide +kernel
theorem gd_Search_1 : decode prog_10_method_1_code 1 = .ok (.invokespecial 5, 3) := by decide +kernel
theorem gd_Search_4 : decode prog_10_method_1_code 4 = .ok (.aload_n 0, 1) := by decide +kernel
theorem gd_Search_5 : decode prog_10_method_1_code 5 = .ok (.ldc 11, 2) := by decide +kernel
theorem gd_Search_7 : decode prog_10_method_1_code 7 = .ok (.newarray .int, 2) := by decide +kernel
theorem gd_Search_9 : decode prog_10_method_1_code 9 = .ok (.putfield 12, 3) := by decide +kernel
theorem gd_Search_12 : decode prog_10_method_1_code 12 = .ok (.aload_n 0, 1) := by decide +kernel
theorem gd_Search_13 : decode prog_10_method_1_code 13 = .ok (.sipush 3840, 3) := by decide +kernel
theorem gd_Search_16 : decode prog_10_method_1_code 16 = .ok (.newarray .int, 2) := by decide +kernel
theorem gd_Search_18 : decode prog_10_method_1_code 18 = .ok (.putfield 16, 3) := by decide +kernel
theorem gd_Search_21 : decode prog_10_method_1_code 21 = .ok (.aload_n 0, 1) := by decide +kernel
theorem gd_Search_22 : decode prog_10_method_1_code 22 = .ok (.sipush 10240, 3) := by decide +kernel
theorem gd_Search_25 : decode prog_10_method_1_code 25 = .ok (.newarray .int, 2) := by decide +kernel
theorem gd_Search_27 : decode prog_10_method_1_code 27 = .ok (.putfield 19, 3) := by decide +kernel
theorem gd_Search_30 : decode prog_10_method_1_code 30 = .ok (.aload_n 0, 1) := by decide +kernel
theorem gd_Search_31 : decode prog_10_method_1_code 31 = .ok (.bipush 6, 2) := by decide +kernel
theorem gd_Search_33 : decode prog_10_method_1_code 33 = .ok (.newarray .int, 2) := by decide +kernel
theorem gd_Search_35 : decode prog_10_method_1_code 35 = .ok (.putfield 22, 3) := by decide +kernel
theorem gd_Search_38 : decode prog_10_method_1_code 38 = .ok (.aload_n 0, 1) := by decide +kernel
theorem gd_Search_39 : decode prog_10_method_1_code 39 = .ok (.bipush 96, 2) := by decide +kernel
theorem gd_Search_41 : decode prog_10_method_1_code 41 = .ok (.newarray .int, 2) := by decide +kernel
theorem gd_Search_43 : decode prog_10_method_1_code 43 = .ok (.putfield 25, 3) := by decide +kernel
theorem gd_Search_46 : decode prog_10_method_1_code 46 = .ok (.aload_n 0, 1) := by decide +kernel
theorem gd_Search_47 : decode prog_10_method_1_code 47 = .ok (.iconst 2, 1) := by decide +kernel
theorem gd_Search_48 : decode prog_10_method_1_code 48 = .ok (.sipush 3840, 3) := by decide +kernel
theorem gd_Search_51 : decode prog_10_method_1_code 51 = .ok (.multianewarray 28 2, 4) := by decide +kernel
theorem gd_Search_55 : decode prog_10_method_1_code 55 = .ok (.putfield 30, 3) := by decide +kernel
theorem gd_Search_58 : decode prog_10_method_1_code 58 = .ok (.aload_n 0, 1) := by decide +kernel
theorem gd_Search_59 : decode prog_10_method_1_code 59 = .ok (.aload_n 1, 1) := by decide +kernel
theorem gd_Search_60 : decode prog_10_method_1_code 60 = .ok (.putfield 33, 3) := by decide +kernel
theorem gd_Search_63 : decode prog_10_method_1_code 63 = .ok (.aload_n 0, 1) := by decide +kernel
theorem gd_Search_64 : decode prog_10_method_1_code 64 = .ok (.aload_n 2, 1) := by decide +kernel
theorem gd_Search_65 : decode prog_10_method_1_code 65 = .ok (.putfield 37, 3) := by decide +kernel
theorem gd_Search_68 : decode prog_10_method_1_code 68 = .ok (.return_, 1) := by decide +kernel
theorem gd_BB_118 : decode prog_1_method_1_code 118 = .ok (.putfield 65, 3) := by decide +kernel
theorem gd_BB_121 : decode prog_1_method_1_code 121 = .ok (.aload_n 0, 1) := by decide +kernel
theorem gd_BB_122 : decode prog_1_method_1_code 122 = .ok (.new 69, 3) := by decide +kernel
theorem gd_BB_125 : decode prog_1_method_1_code 125 = .ok (.dup, 1) := by decide +kernel
theorem gd_BB_126 : decode prog_1_method_1_code 126 = .ok (.aload_n 0, 1) := by decide +kernel
theorem gd_BB_127 : decode prog_1_method_1_code 127 = .ok (.getfield 16, 3) := by decide +kernel
theorem gd_BB_130 : decode prog_1_method_1_code 130 = .ok (.aload_n 0, 1) := by decide +kernel
theorem gd_BB_131 : decode prog_1_method_1_code 131 = .ok (.getfield 23, 3) := by decide +kernel
theorem gd_BB_134 : decode prog_1_method_1_code 134 = .ok (.aload_n 0, 1) := by decide +kernel
theorem gd_BB_135 : decode prog_1_method_1_code 135 = .ok (.getfield 65, 3) := by decide +kernel
theorem gd_BB_138 : decode prog_1_method_1_code 138 = .ok (.invokespecial 71, 3) := by decide +kernel
theorem gd_Choices_0 : decode prog_3_method_1_code 0 = .ok (.aload_n 0, 1) := by decide +kernel
theorem gd_Choices_1 : decode prog_3_method_1_code 1 = .ok (.invokespecial 3, 3) := by decide +kernel
theorem gd_Choices_4 : decode prog_3_method_1_code 4 = .ok (.aload_n 0, 1) := by decide +kernel
theorem gd_Choices_5 : decode prog_3_method_1_code 5 = .ok (.bipush 6, 2) := by decide +kernel
theorem gd_Choices_7 : decode prog_3_method_1_code 7 = .ok (.newarray .int, 2) := by decide +kernel
theorem gd_Choices_9 : decode prog_3_method_1_code 9 = .ok (.putfield 9, 3) := by decide +kernel
theorem gd_Choices_12 : decode prog_3_method_1_code 12 = .ok (.aload_n 0, 1) := by decide +kernel
theorem gd_Choices_13 : decode prog_3_method_1_code 13 = .ok (.bipush 6, 2) := by decide +kernel
theorem gd_Choices_15 : decode prog_3_method_1_code 15 = .ok (.newarray .int, 2) := by decide +kernel
theorem gd_Choices_17 : decode prog_3_method_1_code 17 = .ok (.putfield 15, 3) := by decide +kernel
theorem gd_Choices_20 : decode prog_3_method_1_code 20 = .ok (.aload_n 0, 1) := by decide +kernel
theorem gd_Choices_21 : decode prog_3_method_1_code 21 = .ok (.aload_n 1, 1) := by decide +kernel
theorem gd_Choices_22 : decode prog_3_method_1_code 22 = .ok (.putfield 18, 3) := by decide +kernel
theorem gd_Choices_25 : decode prog_3_method_1_code 25 = .ok (.aload_n 0, 1) := by decide +kernel
theorem gd_Choices_26 : decode prog_3_method_1_code 26 = .ok (.aload_n 2, 1) := by decide +kernel
theorem gd_Choices_27 : decode prog_3_method_1_code 27 = .ok (.putfield 22, 3) := by decide +kernel
theorem gd_Choices_30 : decode prog_3_method_1_code 30 = .ok (.aload_n 0, 1) := by decide +kernel
theorem gd_Choices_31 : decode prog_3_method_1_code 31 = .ok (.aload_n 3, 1) := by decide +kernel
theorem gd_Choices_32 : decode prog_3_method_1_code 32 = .ok (.putfield 26, 3) := by decide +kernel
theorem gd_Choices_35 : decode prog_3_method_1_code 35 = .ok (.return_, 1) := by decide +kernel
theorem gd_BB_141 : decode prog_1_method_1_code 141 = .ok (.putfield 74, 3) := by decide +kernel
theorem gd_BB_144 : decode prog_1_method_1_code 144 = .ok (.aload_n 0, 1) := by decide +kernel
theorem gd_BB_145 : decode prog_1_method_1_code 145 = .ok (.new 78, 3) := by decide +kernel
theorem gd_BB_148 : decode prog_1_method_1_code 148 = .ok (.dup, 1) := by decide +kernel
theorem gd_BB_149 : decode prog_1_method_1_code 149 = .ok (.invokespecial 80, 3) := by decide +kernel
theorem gd_Trays_0 : decode prog_11_method_1_code 0 = .ok (.aload_n 0, 1) := by decide +kernel
theorem gd_Trays_1 : decode prog_11_method_1_code 1 = .ok (.invokespecial 3, 3) := by decide +kernel
theorem gd_Trays_4 : decode prog_11_method_1_code 4 = .ok (.aload_n 0, 1) := by decide +kernel
theorem gd_Trays_5 : decode prog_11_method_1_code 5 = .ok (.iconst 4, 1) := by decide +kernel
theorem gd_Trays_6 : decode prog_11_method_1_code 6 = .ok (.bipush 40, 2) := by decide +kernel
theorem gd_Trays_8 : decode prog_11_method_1_code 8 = .ok (.multianewarray 11 2, 4) := by decide +kernel
theorem gd_Trays_12 : decode prog_11_method_1_code 12 = .ok (.putfield 13, 3) := by decide +kernel
theorem gd_Trays_15 : decode prog_11_method_1_code 15 = .ok (.aload_n 0, 1) := by decide +kernel
theorem gd_Trays_16 : decode prog_11_method_1_code 16 = .ok (.iconst 4, 1) := by decide +kernel
theorem gd_Trays_17 : decode prog_11_method_1_code 17 = .ok (.newarray .int, 2) := by decide +kernel
theorem gd_Trays_19 : decode prog_11_method_1_code 19 = .ok (.dup, 1) := by decide +kernel
theorem gd_Trays_20 : decode prog_11_method_1_code 20 = .ok (.iconst 0, 1) := by decide +kernel
theorem gd_Trays_21 : decode prog_11_method_1_code 21 = .ok (.iconst (-1), 1) := by decide +kernel
theorem gd_Trays_22 : decode prog_11_method_1_code 22 = .ok (.iastore, 1) := by decide +kernel
theorem gd_Trays_23 : decode prog_11_method_1_code 23 = .ok (.dup, 1) := by decide +kernel
theorem gd_Trays_24 : decode prog_11_method_1_code 24 = .ok (.iconst 1, 1) := by decide +kernel
theorem gd_Trays_25 : decode prog_11_method_1_code 25 = .ok (.iconst (-1), 1) := by decide +kernel
theorem gd_Trays_26 : decode prog_11_method_1_code 26 = .ok (.iastore, 1) := by decide +kernel
theorem gd_Trays_27 : decode prog_11_method_1_code 27 = .ok (.dup, 1) := by decide +kernel
theorem gd_Trays_28 : decode prog_11_method_1_code 28 = .ok (.iconst 2, 1) := by decide +kernel
theorem gd_Trays_29 : decode prog_11_method_1_code 29 = .ok (.iconst (-1), 1) := by decide +kernel
theorem gd_Trays_30 : decode prog_11_method_1_code 30 = .ok (.iastore, 1) := by decide +kernel
theorem gd_Trays_31 : decode prog_11_method_1_code 31 = .ok (.dup, 1) := by decide +kernel
theorem gd_Trays_32 : decode prog_11_method_1_code 32 = .ok (.iconst 3, 1) := by decide +kernel
theorem gd_Trays_33 : decode prog_11_method_1_code 33 = .ok (.iconst (-1), 1) := by decide +kernel
theorem gd_Trays_34 : decode prog_11_method_1_code 34 = .ok (.iastore, 1) := by decide +kernel
theorem gd_Trays_35 : decode prog_11_method_1_code 35 = .ok (.putfield 16, 3) := by decide +kernel
theorem gd_Trays_38 : decode prog_11_method_1_code 38 = .ok (.aload_n 0, 1) := by decide +kernel
theorem gd_Trays_39 : decode prog_11_method_1_code 39 = .ok (.iconst 4, 1) := by decide +kernel
theorem gd_Trays_40 : decode prog_11_method_1_code 40 = .ok (.newarray .int, 2) := by decide +kernel
theorem gd_Trays_42 : decode prog_11_method_1_code 42 = .ok (.putfield 20, 3) := by decide +kernel
theorem gd_Trays_45 : decode prog_11_method_1_code 45 = .ok (.return_, 1) := by decide +kernel
theorem gd_BB_152 : decode prog_1_method_1_code 152 = .ok (.putfield 81, 3) := by decide +kernel
theorem gd_BB_155 : decode prog_1_method_1_code 155 = .ok (.aload_n 0, 1) := by decide +kernel
theorem gd_BB_156 : decode prog_1_method_1_code 156 = .ok (.new 85, 3) := by decide +kernel
theorem gd_BB_159 : decode prog_1_method_1_code 159 = .ok (.dup, 1) := by decide +kernel
theorem gd_BB_160 : decode prog_1_method_1_code 160 = .ok (.aload_n 0, 1) := by decide +kernel
theorem gd_BB_161 : decode prog_1_method_1_code 161 = .ok (.getfield 16, 3) := by decide +kernel
theorem gd_BB_164 : decode prog_1_method_1_code 164 = .ok (.aload_n 0, 1) := by decide +kernel
theorem gd_BB_165 : decode prog_1_method_1_code 165 = .ok (.getfield 23, 3) := by decide +kernel
theorem gd_BB_168 : decode prog_1_method_1_code 168 = .ok (.aload_n 0, 1) := by decide +kernel
theorem gd_BB_169 : decode prog_1_method_1_code 169 = .ok (.getfield 42, 3) := by decide +kernel
theorem gd_BB_172 : decode prog_1_method_1_code 172 = .ok (.invokespecial 87, 3) := by decide +kernel
theorem gd_Answers_0 : decode prog_2_method_1_code 0 = .ok (.aload_n 0, 1) := by decide +kernel
theorem gd_Answers_1 : decode prog_2_method_1_code 1 = .ok (.invokespecial 3, 3) := by decide +kernel
theorem gd_Answers_4 : decode prog_2_method_1_code 4 = .ok (.aload_n 0, 1) := by decide +kernel
theorem gd_Answers_5 : decode prog_2_method_1_code 5 = .ok (.aload_n 1, 1) := by decide +kernel
theorem gd_Answers_6 : decode prog_2_method_1_code 6 = .ok (.putfield 9, 3) := by decide +kernel
theorem gd_Answers_9 : decode prog_2_method_1_code 9 = .ok (.aload_n 0, 1) := by decide +kernel
theorem gd_Answers_10 : decode prog_2_method_1_code 10 = .ok (.aload_n 2, 1) := by decide +kernel
theorem gd_Answers_11 : decode prog_2_method_1_code 11 = .ok (.putfield 15, 3) := by decide +kernel
theorem gd_Answers_14 : decode prog_2_method_1_code 14 = .ok (.aload_n 0, 1) := by decide +kernel
theorem gd_Answers_15 : decode prog_2_method_1_code 15 = .ok (.aload_n 3, 1) := by decide +kernel
theorem gd_Answers_16 : decode prog_2_method_1_code 16 = .ok (.putfield 19, 3) := by decide +kernel
theorem gd_Answers_19 : decode prog_2_method_1_code 19 = .ok (.return_, 1) := by decide +kernel
theorem gd_BB_175 : decode prog_1_method_1_code 175 = .ok (.putfield 90, 3) := by decide +kernel
theorem gd_BB_178 : decode prog_1_method_1_code 178 = .ok (.aload_n 0, 1) := by decide +kernel
theorem gd_BB_179 : decode prog_1_method_1_code 179 = .ok (.iconst 2, 1) := by decide +kernel
theorem gd_BB_180 : decode prog_1_method_1_code 180 = .ok (.anewarray 13, 3) := by decide +kernel
theorem gd_BB_183 : decode prog_1_method_1_code 183 = .ok (.dup, 1) := by decide +kernel
theorem gd_BB_184 : decode prog_1_method_1_code 184 = .ok (.iconst 0, 1) := by decide +kernel
theorem gd_BB_185 : decode prog_1_method_1_code 185 = .ok (.new 13, 3) := by decide +kernel
theorem gd_BB_188 : decode prog_1_method_1_code 188 = .ok (.dup, 1) := by decide +kernel
theorem gd_BB_189 : decode prog_1_method_1_code 189 = .ok (.invokespecial 15, 3) := by decide +kernel
theorem gd_BB_192 : decode prog_1_method_1_code 192 = .ok (.aastore, 1) := by decide +kernel
theorem gd_BB_193 : decode prog_1_method_1_code 193 = .ok (.dup, 1) := by decide +kernel
theorem gd_BB_194 : decode prog_1_method_1_code 194 = .ok (.iconst 1, 1) := by decide +kernel
theorem gd_BB_195 : decode prog_1_method_1_code 195 = .ok (.new 13, 3) := by decide +kernel
theorem gd_BB_198 : decode prog_1_method_1_code 198 = .ok (.dup, 1) := by decide +kernel
theorem gd_BB_199 : decode prog_1_method_1_code 199 = .ok (.invokespecial 15, 3) := by decide +kernel
theorem gd_BB_202 : decode prog_1_method_1_code 202 = .ok (.aastore, 1) := by decide +kernel
theorem gd_BB_203 : decode prog_1_method_1_code 203 = .ok (.putfield 94, 3) := by decide +kernel
theorem gd_BB_206 : decode prog_1_method_1_code 206 = .ok (.aload_n 0, 1) := by decide +kernel
theorem gd_BB_207 : decode prog_1_method_1_code 207 = .ok (.iconst 2, 1) := by decide +kernel
theorem gd_BB_208 : decode prog_1_method_1_code 208 = .ok (.anewarray 20, 3) := by decide +kernel
theorem gd_BB_211 : decode prog_1_method_1_code 211 = .ok (.dup, 1) := by decide +kernel
theorem gd_BB_212 : decode prog_1_method_1_code 212 = .ok (.iconst 0, 1) := by decide +kernel
theorem gd_BB_213 : decode prog_1_method_1_code 213 = .ok (.new 20, 3) := by decide +kernel
theorem gd_BB_216 : decode prog_1_method_1_code 216 = .ok (.dup, 1) := by decide +kernel
theorem gd_BB_217 : decode prog_1_method_1_code 217 = .ok (.invokespecial 22, 3) := by decide +kernel
theorem gd_BB_220 : decode prog_1_method_1_code 220 = .ok (.aastore, 1) := by decide +kernel
theorem gd_BB_221 : decode prog_1_method_1_code 221 = .ok (.dup, 1) := by decide +kernel
theorem gd_BB_222 : decode prog_1_method_1_code 222 = .ok (.iconst 1, 1) := by decide +kernel
theorem gd_BB_223 : decode prog_1_method_1_code 223 = .ok (.new 20, 3) := by decide +kernel
theorem gd_BB_226 : decode prog_1_method_1_code 226 = .ok (.dup, 1) := by decide +kernel
theorem gd_BB_227 : decode prog_1_method_1_code 227 = .ok (.invokespecial 22, 3) := by decide +kernel
theorem gd_BB_230 : decode prog_1_method_1_code 230 = .ok (.aastore, 1) := by decide +kernel
theorem gd_BB_231 : decode prog_1_method_1_code 231 = .ok (.putfield 98, 3) := by decide +kernel
theorem gd_BB_234 : decode prog_1_method_1_code 234 = .ok (.return_, 1) := by decide +kernel
theorem gd_Model_0 : decode prog_14_method_3_code 0 = .ok (.aload_n 0, 1) := by decide +kernel
theorem gd_Model_1 : decode prog_14_method_3_code 1 = .ok (.invokespecial 7, 3) := by decide +kernel
theorem gd_Model_4 : decode prog_14_method_3_code 4 = .ok (.aload_n 0, 1) := by decide +kernel
theorem gd_Model_5 : decode prog_14_method_3_code 5 = .ok (.sipush 3828, 3) := by decide +kernel
theorem gd_Model_8 : decode prog_14_method_3_code 8 = .ok (.newarray .int, 2) := by decide +kernel
theorem gd_Model_10 : decode prog_14_method_3_code 10 = .ok (.putfield 13, 3) := by decide +kernel
theorem gd_Model_13 : decode prog_14_method_3_code 13 = .ok (.aload_n 0, 1) := by decide +kernel
theorem gd_Model_14 : decode prog_14_method_3_code 14 = .ok (.iconst 2, 1) := by decide +kernel
theorem gd_Model_15 : decode prog_14_method_3_code 15 = .ok (.newarray .boolean, 2) := by decide +kernel
theorem gd_Model_17 : decode prog_14_method_3_code 17 = .ok (.putfield 17, 3) := by decide +kernel
theorem gd_Model_20 : decode prog_14_method_3_code 20 = .ok (.aload_n 0, 1) := by decide +kernel
theorem gd_Model_21 : decode prog_14_method_3_code 21 = .ok (.sipush 900, 3) := by decide +kernel
theorem gd_Model_24 : decode prog_14_method_3_code 24 = .ok (.newarray .int, 2) := by decide +kernel
theorem gd_Model_26 : decode prog_14_method_3_code 26 = .ok (.putfield 21, 3) := by decide +kernel
theorem gd_Model_29 : decode prog_14_method_3_code 29 = .ok (.aload_n 0, 1) := by decide +kernel
theorem gd_Model_30 : decode prog_14_method_3_code 30 = .ok (.sipush 1276, 3) := by decide +kernel
theorem gd_Model_33 : decode prog_14_method_3_code 33 = .ok (.newarray .int, 2) := by decide +kernel
theorem gd_Model_35 : decode prog_14_method_3_code 35 = .ok (.putfield 24, 3) := by decide +kernel
theorem gd_Model_38 : decode prog_14_method_3_code 38 = .ok (.aload_n 0, 1) := by decide +kernel
theorem gd_Model_39 : decode prog_14_method_3_code 39 = .ok (.iconst (-1), 1) := by decide +kernel
theorem gd_Model_40 : decode prog_14_method_3_code 40 = .ok (.putfield 27, 3) := by decide +kernel
theorem gd_Model_43 : decode prog_14_method_3_code 43 = .ok (.aload_n 0, 1) := by decide +kernel
theorem gd_Model_44 : decode prog_14_method_3_code 44 = .ok (.iconst (-1), 1) := by decide +kernel
theorem gd_Model_45 : decode prog_14_method_3_code 45 = .ok (.putfield 30, 3) := by decide +kernel
theorem gd_Model_48 : decode prog_14_method_3_code 48 = .ok (.aload_n 0, 1) := by decide +kernel
theorem gd_Model_49 : decode prog_14_method_3_code 49 = .ok (.sipush 900, 3) := by decide +kernel
theorem gd_Model_52 : decode prog_14_method_3_code 52 = .ok (.newarray .int, 2) := by decide +kernel
theorem gd_Model_54 : decode prog_14_method_3_code 54 = .ok (.putfield 33, 3) := by decide +kernel
theorem gd_Model_57 : decode prog_14_method_3_code 57 = .ok (.aload_n 0, 1) := by decide +kernel
theorem gd_Model_58 : decode prog_14_method_3_code 58 = .ok (.bipush 7, 2) := by decide +kernel
theorem gd_Model_60 : decode prog_14_method_3_code 60 = .ok (.newarray .int, 2) := by decide +kernel
theorem gd_Model_62 : decode prog_14_method_3_code 62 = .ok (.putfield 36, 3) := by decide +kernel
theorem gd_Model_65 : decode prog_14_method_3_code 65 = .ok (.aload_n 0, 1) := by decide +kernel
theorem gd_Model_66 : decode prog_14_method_3_code 66 = .ok (.bipush 26, 2) := by decide +kernel
theorem gd_Model_68 : decode prog_14_method_3_code 68 = .ok (.newarray .int, 2) := by decide +kernel
theorem gd_Model_70 : decode prog_14_method_3_code 70 = .ok (.putfield 39, 3) := by decide +kernel
theorem gd_Model_73 : decode prog_14_method_3_code 73 = .ok (.aload_n 0, 1) := by decide +kernel
theorem gd_Model_74 : decode prog_14_method_3_code 74 = .ok (.ldc 42, 2) := by decide +kernel
theorem gd_Model_76 : decode prog_14_method_3_code 76 = .ok (.newarray .int, 2) := by decide +kernel
theorem gd_Model_78 : decode prog_14_method_3_code 78 = .ok (.putfield 43, 3) := by decide +kernel
theorem gd_Model_81 : decode prog_14_method_3_code 81 = .ok (.aload_n 0, 1) := by decide +kernel
theorem gd_Model_82 : decode prog_14_method_3_code 82 = .ok (.ldc 42, 2) := by decide +kernel
theorem gd_Model_84 : decode prog_14_method_3_code 84 = .ok (.newarray .int, 2) := by decide +kernel
theorem gd_Model_86 : decode prog_14_method_3_code 86 = .ok (.putfield 46, 3) := by decide +kernel
theorem gd_Model_89 : decode prog_14_method_3_code 89 = .ok (.aload_n 0, 1) := by decide +kernel
theorem gd_Model_90 : decode prog_14_method_3_code 90 = .ok (.ldc 42, 2) := by decide +kernel
theorem gd_Model_92 : decode prog_14_method_3_code 92 = .ok (.newarray .int, 2) := by decide +kernel
theorem gd_Model_94 : decode prog_14_method_3_code 94 = .ok (.putfield 49, 3) := by decide +kernel
theorem gd_Model_97 : decode prog_14_method_3_code 97 = .ok (.aload_n 0, 1) := by decide +kernel
theorem gd_Model_98 : decode prog_14_method_3_code 98 = .ok (.ldc 52, 2) := by decide +kernel
theorem gd_Model_100 : decode prog_14_method_3_code 100 = .ok (.newarray .int, 2) := by decide +kernel
theorem gd_Model_102 : decode prog_14_method_3_code 102 = .ok (.putfield 53, 3) := by decide +kernel
theorem gd_Model_105 : decode prog_14_method_3_code 105 = .ok (.aload_n 0, 1) := by decide +kernel
theorem gd_Model_106 : decode prog_14_method_3_code 106 = .ok (.sipush 4000, 3) := by decide +kernel
theorem gd_Model_109 : decode prog_14_method_3_code 109 = .ok (.newarray .int, 2) := by decide +kernel
theorem gd_Model_111 : decode prog_14_method_3_code 111 = .ok (.putfield 56, 3) := by decide +kernel
theorem gd_Model_114 : decode prog_14_method_3_code 114 = .ok (.aload_n 0, 1) := by decide +kernel
theorem gd_Model_115 : decode prog_14_method_3_code 115 = .ok (.sipush 3840, 3) := by decide +kernel
theorem gd_Model_118 : decode prog_14_method_3_code 118 = .ok (.newarray .long, 2) := by decide +kernel
theorem gd_Model_120 : decode prog_14_method_3_code 120 = .ok (.putfield 59, 3) := by decide +kernel
theorem gd_Model_123 : decode prog_14_method_3_code 123 = .ok (.aload_n 0, 1) := by decide +kernel
theorem gd_Model_124 : decode prog_14_method_3_code 124 = .ok (.sipush 3840, 3) := by decide +kernel
theorem gd_Model_127 : decode prog_14_method_3_code 127 = .ok (.newarray .long, 2) := by decide +kernel
theorem gd_Model_129 : decode prog_14_method_3_code 129 = .ok (.putfield 63, 3) := by decide +kernel
theorem gd_Model_132 : decode prog_14_method_3_code 132 = .ok (.aload_n 0, 1) := by decide +kernel
theorem gd_Model_133 : decode prog_14_method_3_code 133 = .ok (.iconst 4, 1) := by decide +kernel
theorem gd_Model_134 : decode prog_14_method_3_code 134 = .ok (.newarray .int, 2) := by decide +kernel
theorem gd_Model_136 : decode prog_14_method_3_code 136 = .ok (.dup, 1) := by decide +kernel
theorem gd_Model_137 : decode prog_14_method_3_code 137 = .ok (.iconst 0, 1) := by decide +kernel
theorem gd_Model_138 : decode prog_14_method_3_code 138 = .ok (.iconst (-1), 1) := by decide +kernel
theorem gd_Model_139 : decode prog_14_method_3_code 139 = .ok (.iastore, 1) := by decide +kernel
theorem gd_Model_140 : decode prog_14_method_3_code 140 = .ok (.dup, 1) := by decide +kernel
theorem gd_Model_141 : decode prog_14_method_3_code 141 = .ok (.iconst 1, 1) := by decide +kernel
theorem gd_Model_142 : decode prog_14_method_3_code 142 = .ok (.iconst (-1), 1) := by decide +kernel
theorem gd_Model_143 : decode prog_14_method_3_code 143 = .ok (.iastore, 1) := by decide +kernel
theorem gd_Model_144 : decode prog_14_method_3_code 144 = .ok (.dup, 1) := by decide +kernel
theorem gd_Model_145 : decode prog_14_method_3_code 145 = .ok (.iconst 2, 1) := by decide +kernel
theorem gd_Model_146 : decode prog_14_method_3_code 146 = .ok (.iconst (-1), 1) := by decide +kernel
theorem gd_Model_147 : decode prog_14_method_3_code 147 = .ok (.iastore, 1) := by decide +kernel
theorem gd_Model_148 : decode prog_14_method_3_code 148 = .ok (.dup, 1) := by decide +kernel
theorem gd_Model_149 : decode prog_14_method_3_code 149 = .ok (.iconst 3, 1) := by decide +kernel
theorem gd_Model_150 : decode prog_14_method_3_code 150 = .ok (.iconst (-1), 1) := by decide +kernel
theorem gd_Model_151 : decode prog_14_method_3_code 151 = .ok (.iastore, 1) := by decide +kernel
theorem gd_Model_152 : decode prog_14_method_3_code 152 = .ok (.putfield 66, 3) := by decide +kernel
theorem gd_Model_155 : decode prog_14_method_3_code 155 = .ok (.aload_n 0, 1) := by decide +kernel
theorem gd_Model_156 : decode prog_14_method_3_code 156 = .ok (.iconst 4, 1) := by decide +kernel
theorem gd_Model_157 : decode prog_14_method_3_code 157 = .ok (.newarray .int, 2) := by decide +kernel
theorem gd_Model_159 : decode prog_14_method_3_code 159 = .ok (.putfield 69, 3) := by decide +kernel
theorem gd_Model_162 : decode prog_14_method_3_code 162 = .ok (.aload_n 0, 1) := by decide +kernel
theorem gd_Model_163 : decode prog_14_method_3_code 163 = .ok (.sipush 160, 3) := by decide +kernel
theorem gd_Model_166 : decode prog_14_method_3_code 166 = .ok (.newarray .long, 2) := by decide +kernel
theorem gd_Model_168 : decode prog_14_method_3_code 168 = .ok (.putfield 72, 3) := by decide +kernel
theorem gd_Model_171 : decode prog_14_method_3_code 171 = .ok (.aload_n 0, 1) := by decide +kernel
theorem gd_Model_172 : decode prog_14_method_3_code 172 = .ok (.getfield 13, 3) := by decide +kernel
theorem gd_Model_175 : decode prog_14_method_3_code 175 = .ok (.invokestatic 75, 3) := by decide +kernel
theorem gd_Model_178 : decode prog_14_method_3_code 178 = .ok (.return_, 1) := by decide +kernel
theorem gp_0 : (parseMethodDescriptor "()V").map (fun d => d.parameters.length) = some 0 := by decide +kernel
theorem gp_Land : (parseMethodDescriptor "(LBackBridge$Land;)V").map (fun d => d.parameters.length) = some 1 := by decide +kernel
theorem gp_LandLaws : (parseMethodDescriptor "(LBackBridge$Land;LBackBridge$Laws;)V").map (fun d => d.parameters.length) = some 2 := by decide +kernel
theorem gp_LandWorldLaws : (parseMethodDescriptor "(LBackBridge$Land;LBackBridge$World;LBackBridge$Laws;)V").map (fun d => d.parameters.length) = some 3 := by decide +kernel
theorem gp_LandWorldSearch : (parseMethodDescriptor "(LBackBridge$Land;LBackBridge$World;LBackBridge$Search;)V").map (fun d => d.parameters.length) = some 3 := by decide +kernel
theorem gf_Answers : ∀ j, j < 4 → defaultValue (t_Answers j) = g_def (sm_fk 0 j)
  | 0, _ => rfl
  | 1, _ => rfl
  | 2, _ => rfl
  | 3, _ => rfl
  | j + 4, h => absurd h (by omega)
theorem gf_Choices : ∀ j, j < 7 → defaultValue (t_Choices j) = g_def (sm_fk 1 j)
  | 0, _ => rfl
  | 1, _ => rfl
  | 2, _ => rfl
  | 3, _ => rfl
  | 4, _ => rfl
  | 5, _ => rfl
  | 6, _ => rfl
  | j + 7, h => absurd h (by omega)
theorem gf_Deeds : ∀ j, j < 4 → defaultValue (t_Deeds j) = g_def (sm_fk 2 j)
  | 0, _ => rfl
  | 1, _ => rfl
  | 2, _ => rfl
  | 3, _ => rfl
  | j + 4, h => absurd h (by omega)
theorem gf_Land : ∀ j, j < 16 → defaultValue (t_Land j) = g_def (sm_fk 3 j)
  | 0, _ => rfl
  | 1, _ => rfl
  | 2, _ => rfl
  | 3, _ => rfl
  | 4, _ => rfl
  | 5, _ => rfl
  | 6, _ => rfl
  | 7, _ => rfl
  | 8, _ => rfl
  | 9, _ => rfl
  | 10, _ => rfl
  | 11, _ => rfl
  | 12, _ => rfl
  | 13, _ => rfl
  | 14, _ => rfl
  | 15, _ => rfl
  | j + 16, h => absurd h (by omega)
theorem gf_Law : ∀ j, j < 3 → defaultValue (t_Law j) = g_def (sm_fk 4 j)
  | 0, _ => rfl
  | 1, _ => rfl
  | 2, _ => rfl
  | j + 3, h => absurd h (by omega)
theorem gf_Laws : ∀ j, j < 3 → defaultValue (t_Laws j) = g_def (sm_fk 5 j)
  | 0, _ => rfl
  | 1, _ => rfl
  | 2, _ => rfl
  | j + 3, h => absurd h (by omega)
theorem gf_Past : ∀ j, j < 3 → defaultValue (t_Past j) = g_def (sm_fk 6 j)
  | 0, _ => rfl
  | 1, _ => rfl
  | 2, _ => rfl
  | j + 3, h => absurd h (by omega)
theorem gf_Reader : ∀ j, j < 9 → defaultValue (t_Reader j) = g_def (sm_fk 7 j)
  | 0, _ => rfl
  | 1, _ => rfl
  | 2, _ => rfl
  | 3, _ => rfl
  | 4, _ => rfl
  | 5, _ => rfl
  | 6, _ => rfl
  | 7, _ => rfl
  | 8, _ => rfl
  | j + 9, h => absurd h (by omega)
theorem gf_Search : ∀ j, j < 20 → defaultValue (t_Search j) = g_def (sm_fk 8 j)
  | 0, _ => rfl
  | 1, _ => rfl
  | 2, _ => rfl
  | 3, _ => rfl
  | 4, _ => rfl
  | 5, _ => rfl
  | 6, _ => rfl
  | 7, _ => rfl
  | 8, _ => rfl
  | 9, _ => rfl
  | 10, _ => rfl
  | 11, _ => rfl
  | 12, _ => rfl
  | 13, _ => rfl
  | 14, _ => rfl
  | 15, _ => rfl
  | 16, _ => rfl
  | 17, _ => rfl
  | 18, _ => rfl
  | 19, _ => rfl
  | j + 20, h => absurd h (by omega)
theorem gf_Trays : ∀ j, j < 3 → defaultValue (t_Trays j) = g_def (sm_fk 9 j)
  | 0, _ => rfl
  | 1, _ => rfl
  | 2, _ => rfl
  | j + 3, h => absurd h (by omega)
theorem gf_World : ∀ j, j < 6 → defaultValue (t_World j) = g_def (sm_fk 10 j)
  | 0, _ => rfl
  | 1, _ => rfl
  | 2, _ => rfl
  | 3, _ => rfl
  | 4, _ => rfl
  | 5, _ => rfl
  | j + 6, h => absurd h (by omega)
theorem gf_BB : ∀ j, j < 16 → defaultValue (t_BB j) = g_def (sm_fk 11 j)
  | 0, _ => rfl
  | 1, _ => rfl
  | 2, _ => rfl
  | 3, _ => rfl
  | 4, _ => rfl
  | 5, _ => rfl
  | 6, _ => rfl
  | 7, _ => rfl
  | 8, _ => rfl
  | 9, _ => rfl
  | 10, _ => rfl
  | 11, _ => rfl
  | 12, _ => rfl
  | 13, _ => rfl
  | 14, _ => rfl
  | 15, _ => rfl
  | j + 16, h => absurd h (by omega)
theorem gf_Model : ∀ j, j < 34 → defaultValue (t_Model j) = g_def (sm_fk 12 j)
  | 0, _ => rfl
  | 1, _ => rfl
  | 2, _ => rfl
  | 3, _ => rfl
  | 4, _ => rfl
  | 5, _ => rfl
  | 6, _ => rfl
  | 7, _ => rfl
  | 8, _ => rfl
  | 9, _ => rfl
  | 10, _ => rfl
  | 11, _ => rfl
  | 12, _ => rfl
  | 13, _ => rfl
  | 14, _ => rfl
  | 15, _ => rfl
  | 16, _ => rfl
  | 17, _ => rfl
  | 18, _ => rfl
  | 19, _ => rfl
  | 20, _ => rfl
  | 21, _ => rfl
  | 22, _ => rfl
  | 23, _ => rfl
  | 24, _ => rfl
  | 25, _ => rfl
  | 26, _ => rfl
  | 27, _ => rfl
  | 28, _ => rfl
  | 29, _ => rfl
  | 30, _ => rfl
  | 31, _ => rfl
  | 32, _ => rfl
  | 33, _ => rfl
  | j + 34, h => absurd h (by omega)
theorem g_k {x a n k : Nat} (h : x = a + n) (e : a + n = k) : x = k := h.trans e
theorem g_lt {x a n c : Nat} (h : x = a + n) (e : c < a + n) : c < x := h ▸ e
section GX
variable {l : Launch} {D : va_G} {cA : Nat → ClassId} {ad : Nat → Nat} {b : Nat} {p : Program} {e : Env} {R : Room} {s : State} {m : MethodId} {args : Array Value} {below : List Frame} {meth : Method} {c : Code} {Q : State → Prop} {cc : ByteArray} {own : String} {nL cells slots pc : Nat} {lv : List (Nat × Value)} {st : List Value} {g : gS} {ini : Bool}
theorem gx_new {kk : Nat} {ci idx : Nat} {C0 : String} {T : u_T} {N : Nat} (C : g_C D cA ad b p R s m args meth c cc own nL ini) (hd : decode cc pc = .ok (.new idx, 3)) (h1 : g.1 = kk) (hc : sm_cls[ci]? = some (C0, T, N)) (hin : ∀ w ∈ u_ws C0 T N, w ∈ sm_wl) (ty : Nat → FieldType) (hty : ∀ k, k < N → parseFieldDescriptor (T k).2.2.1 = some (ty k)) (hN : sm_fn ci = N) (hlink : Cond.classLink own idx C0 ∈ sm_wl) (hinst : Cond.instantiable C0 N ∈ sm_wl) (hini : Cond.initialized C0 ∈ sm_wl) (hdf : ∀ j, j < N → defaultValue (ty j) = g_def (sm_fk ci j)) (hkd : sm_kd kk = 10 + ci) (hk : kk < 187) (hcells : cells + 1 ≤ R.cells) (hslots : slots + N ≤ R.slots) (G : g_G l D cA ad b p e R s m args below meth c Q nL (cells + 1) (slots + N) (pc + 3) lv (.ref (ad kk) :: st) (g_s g 1)) : g_G l D cA ad b p e R s m args below meth c Q nL cells slots pc lv st g := by
  subst h1
  exact gq_new C hd hc hin ty hty hN hlink hinst hini hdf hkd hk hcells hslots G
theorem gx_newa {kk : Nat} {atype : ArrayType} {ty : FieldType} {t : Nat} {v : Int32} {N : Nat} (C : g_C D cA ad b p R s m args meth c cc own nL ini) (hd : decode cc pc = .ok (.newarray atype, 2)) (h1 : g.1 = kk) (hty : newarray.typeOf atype = ty) (harr : Cond.arrayClass ty ∈ sm_wl) (ht : (sm_tys cA)[t]? = some (cA t, ty)) (ht4 : t < 4) (hra : va_RA s (cA t) ty → s.vm.findClass ("[" ++ ty.toString) = some (cA t)) (hdf : defaultValue ty = if t = 3 then .long 0 else .int 0) (hv : ¬ v < 0) (hN : v.toNatClampNeg = N) (hkd : sm_kd kk = t) (hln : sm_ln kk = N) (hk : kk < 187) (hbytes : N * componentBytes ty ≤ 536870912) (hcells : cells + 1 ≤ R.cells) (hslots : slots + N ≤ R.slots) (G : g_G l D cA ad b p e R s m args below meth c Q nL (cells + 1) (slots + N) (pc + 2) lv (.ref (ad kk) :: st) (g_s g 1)) : g_G l D cA ad b p e R s m args below meth c Q nL cells slots pc lv (.int v :: st) g := by
  subst h1
  exact gq_newa C hd hty harr ht ht4 hra hdf hv hN hkd hln hk hbytes hcells hslots G
theorem gx_newq {kk : Nat} {C0 : String} {idx t : Nat} {v : Int32} {N : Nat} (C : g_C D cA ad b p R s m args meth c cc own nL ini) (hd : decode cc pc = .ok (.anewarray idx, 3)) (h1 : g.1 = kk) (hlink : Cond.classLink own idx C0 ∈ sm_wl) (hover : va_AO C0 s) (ht : (sm_tys cA)[t]? = some (cA t, .object C0)) (ht4 : 4 ≤ t ∧ t < 7) (hv : ¬ v < 0) (hN : v.toNatClampNeg = N) (hkd : sm_kd kk = t) (hln : sm_ln kk = N) (hk : kk < 187) (hbytes : N * 4 ≤ 536870912) (hcells : cells + 1 ≤ R.cells) (hslots : slots + N ≤ R.slots) (G : g_G l D cA ad b p e R s m args below meth c Q nL (cells + 1) (slots + N) (pc + 3) lv (.ref (ad kk) :: st) (g_s g 1)) : g_G l D cA ad b p e R s m args below meth c Q nL cells slots pc lv (.int v :: st) g := by
  subst h1
  exact gq_newq C hd hlink hover ht ht4 hv hN hkd hln hk hbytes hcells hslots G
theorem gx_multi {kk : Nat} {idx : Nat} {v0 v1 : Int32} {N0 N1 : Nat} (C : g_C D cA ad b p R s m args meth c cc own nL ini) (hd : decode cc pc = .ok (.multianewarray idx 2, 4)) (h1 : g.1 = kk) (hlink : Cond.classLink own idx "[[J" ∈ sm_wl) (hv0 : ¬ v0 < 0) (hp0 : ¬ v0 = 0) (hv1 : ¬ v1 < 0) (hN0 : v0.toNatClampNeg = N0) (hN1 : v1.toNatClampNeg = N1) (hkd : sm_kd kk = 6) (hln : sm_ln kk = N0) (hin : ∀ j, j < N0 → sm_kd (kk + 1 + j) = 3 ∧ sm_ln (kk + 1 + j) = N1) (hk : kk + 1 + N0 ≤ 187) (hb0 : N0 * 4 ≤ 536870912) (hb1 : N1 * 8 ≤ 536870912) (hcells : cells + (1 + N0) ≤ R.cells) (hslots : slots + (N0 + N0 * N1) ≤ R.slots) (G : g_G l D cA ad b p e R s m args below meth c Q nL (cells + 1 + N0) (slots + N0 + N0 * N1) (pc + 4) lv (.ref (ad kk) :: st) (g_m g N0)) : g_G l D cA ad b p e R s m args below meth c Q nL cells slots pc lv (.int v1 :: .int v0 :: st) g := by
  subst h1
  exact gq_multi C hd hlink hv0 hp0 hv1 hN0 hN1 hkd hln hin hk hb0 hb1 hcells hslots G
end GX
