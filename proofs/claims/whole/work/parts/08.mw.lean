/-! ===== words of the tables (written by program) ===== -/
theorem mw_0 : (.selects "BackBridge" ⟨"BackBridge", "feedOne", "(I)V"⟩ ⟨"BackBridge", "feedOne", "(I)V"⟩ : Cond) ∈ sm_wl := sn_m (List.mem_of_getElem? (i := 0) (by decide +kernel)) rfl
theorem mw_1 : (.selects "BackBridge$Reader" ⟨"BackBridge$Reader", "splitTokens", "([BI)V"⟩ ⟨"BackBridge$Reader", "splitTokens", "([BI)V"⟩ : Cond) ∈ sm_wl := sn_m (List.mem_of_getElem? (i := 1) (by decide +kernel)) rfl
theorem mw_2 : (.selects "BackBridge$Reader" ⟨"BackBridge$Reader", "heading", "()I"⟩ ⟨"BackBridge$Reader", "heading", "()I"⟩ : Cond) ∈ sm_wl := sn_m (List.mem_of_getElem? (i := 2) (by decide +kernel)) rfl
theorem mw_3 : (.selects "BackBridge$Reader" ⟨"BackBridge$Reader", "take", "(I)I"⟩ ⟨"BackBridge$Reader", "take", "(I)I"⟩ : Cond) ∈ sm_wl := sn_m (List.mem_of_getElem? (i := 3) (by decide +kernel)) rfl
theorem mw_4 : (.selects "BackBridge$Reader" ⟨"BackBridge$Reader", "number", "(III)I"⟩ ⟨"BackBridge$Reader", "number", "(III)I"⟩ : Cond) ∈ sm_wl := sn_m (List.mem_of_getElem? (i := 4) (by decide +kernel)) rfl
theorem mw_5 : (.selects "BackBridge$Reader" ⟨"BackBridge$Reader", "line", "()I"⟩ ⟨"BackBridge$Reader", "line", "()I"⟩ : Cond) ∈ sm_wl := sn_m (List.mem_of_getElem? (i := 5) (by decide +kernel)) rfl
theorem mw_6 : (.selects "BackBridge$Reader" ⟨"BackBridge$Reader", "roadLine", "()I"⟩ ⟨"BackBridge$Reader", "roadLine", "()I"⟩ : Cond) ∈ sm_wl := sn_m (List.mem_of_getElem? (i := 6) (by decide +kernel)) rfl
theorem mw_7 : (.selects "BackBridge$Reader" ⟨"BackBridge$Reader", "placeNumber", "(I)I"⟩ ⟨"BackBridge$Reader", "placeNumber", "(I)I"⟩ : Cond) ∈ sm_wl := sn_m (List.mem_of_getElem? (i := 7) (by decide +kernel)) rfl
theorem mw_8 : (.selects "BackBridge$Reader" ⟨"BackBridge$Reader", "flag", "(I)I"⟩ ⟨"BackBridge$Reader", "flag", "(I)I"⟩ : Cond) ∈ sm_wl := sn_m (List.mem_of_getElem? (i := 8) (by decide +kernel)) rfl
theorem mw_9 : (.selects "BackBridge$Reader" ⟨"BackBridge$Reader", "personLine", "()I"⟩ ⟨"BackBridge$Reader", "personLine", "()I"⟩ : Cond) ∈ sm_wl := sn_m (List.mem_of_getElem? (i := 9) (by decide +kernel)) rfl
theorem mw_10 : (.selects "BackBridge$Reader" ⟨"BackBridge$Reader", "mark", "(I)I"⟩ ⟨"BackBridge$Reader", "mark", "(I)I"⟩ : Cond) ∈ sm_wl := sn_m (List.mem_of_getElem? (i := 10) (by decide +kernel)) rfl
theorem mw_11 : (.selects "BackBridge$Reader" ⟨"BackBridge$Reader", "lawBegins", "(LBackBridge$Law;)I"⟩ ⟨"BackBridge$Reader", "lawBegins", "(LBackBridge$Law;)I"⟩ : Cond) ∈ sm_wl := sn_m (List.mem_of_getElem? (i := 11) (by decide +kernel)) rfl
theorem mw_12 : (.selects "BackBridge$Reader" ⟨"BackBridge$Reader", "truth", "(I)I"⟩ ⟨"BackBridge$Reader", "truth", "(I)I"⟩ : Cond) ∈ sm_wl := sn_m (List.mem_of_getElem? (i := 12) (by decide +kernel)) rfl
theorem mw_13 : (.selects "BackBridge$Reader" ⟨"BackBridge$Reader", "unit", "(I)I"⟩ ⟨"BackBridge$Reader", "unit", "(I)I"⟩ : Cond) ∈ sm_wl := sn_m (List.mem_of_getElem? (i := 13) (by decide +kernel)) rfl
theorem mw_14 : (.selects "BackBridge$Reader" ⟨"BackBridge$Reader", "sum", "(I)I"⟩ ⟨"BackBridge$Reader", "sum", "(I)I"⟩ : Cond) ∈ sm_wl := sn_m (List.mem_of_getElem? (i := 14) (by decide +kernel)) rfl
theorem mw_15 : (.selects "BackBridge$Reader" ⟨"BackBridge$Reader", "atom", "(I)I"⟩ ⟨"BackBridge$Reader", "atom", "(I)I"⟩ : Cond) ∈ sm_wl := sn_m (List.mem_of_getElem? (i := 15) (by decide +kernel)) rfl
theorem mw_16 : (.selects "BackBridge$Laws" ⟨"BackBridge$Laws", "tell", "(IIIII)V"⟩ ⟨"BackBridge$Laws", "tell", "(IIIII)V"⟩ : Cond) ∈ sm_wl := sn_m (List.mem_of_getElem? (i := 16) (by decide +kernel)) rfl
theorem mw_17 : (.selects "BackBridge$Deeds" ⟨"BackBridge$Deeds", "tryDeed", "(LBackBridge$World;J)I"⟩ ⟨"BackBridge$Deeds", "tryDeed", "(LBackBridge$World;J)I"⟩ : Cond) ∈ sm_wl := sn_m (List.mem_of_getElem? (i := 17) (by decide +kernel)) rfl
theorem mw_18 : (.selects "BackBridge$Deeds" ⟨"BackBridge$Deeds", "drawDeed", "()I"⟩ ⟨"BackBridge$Deeds", "drawDeed", "()I"⟩ : Cond) ∈ sm_wl := sn_m (List.mem_of_getElem? (i := 18) (by decide +kernel)) rfl
theorem mw_19 : (.selects "BackBridge$Deeds" ⟨"BackBridge$Deeds", "draw", "(I)I"⟩ ⟨"BackBridge$Deeds", "draw", "(I)I"⟩ : Cond) ∈ sm_wl := sn_m (List.mem_of_getElem? (i := 19) (by decide +kernel)) rfl
theorem mw_20 : (.selects "BackBridge$Search" ⟨"BackBridge$Search", "openRow", "(I)V"⟩ ⟨"BackBridge$Search", "openRow", "(I)V"⟩ : Cond) ∈ sm_wl := sn_m (List.mem_of_getElem? (i := 20) (by decide +kernel)) rfl
theorem mw_21 : (.selects "BackBridge$Search" ⟨"BackBridge$Search", "nearest", "(II)I"⟩ ⟨"BackBridge$Search", "nearest", "(II)I"⟩ : Cond) ∈ sm_wl := sn_m (List.mem_of_getElem? (i := 21) (by decide +kernel)) rfl
theorem mw_22 : (.selects "BackBridge$Search" ⟨"BackBridge$Search", "leave", "(I)V"⟩ ⟨"BackBridge$Search", "leave", "(I)V"⟩ : Cond) ∈ sm_wl := sn_m (List.mem_of_getElem? (i := 22) (by decide +kernel)) rfl
theorem mw_23 : (.selects "BackBridge$Search" ⟨"BackBridge$Search", "noteEnd", "(I)V"⟩ ⟨"BackBridge$Search", "noteEnd", "(I)V"⟩ : Cond) ∈ sm_wl := sn_m (List.mem_of_getElem? (i := 23) (by decide +kernel)) rfl
theorem mw_24 : (.selects "BackBridge$Search" ⟨"BackBridge$Search", "isAhead", "(II)Z"⟩ ⟨"BackBridge$Search", "isAhead", "(II)Z"⟩ : Cond) ∈ sm_wl := sn_m (List.mem_of_getElem? (i := 24) (by decide +kernel)) rfl
theorem mw_25 : (.selects "BackBridge$Search" ⟨"BackBridge$Search", "behind", "(II)I"⟩ ⟨"BackBridge$Search", "behind", "(II)I"⟩ : Cond) ∈ sm_wl := sn_m (List.mem_of_getElem? (i := 25) (by decide +kernel)) rfl
theorem mw_26 : (.selects "BackBridge$Search" ⟨"BackBridge$Search", "noteBridge", "(IIII)V"⟩ ⟨"BackBridge$Search", "noteBridge", "(IIII)V"⟩ : Cond) ∈ sm_wl := sn_m (List.mem_of_getElem? (i := 26) (by decide +kernel)) rfl
theorem mw_27 : (.selects "BackBridge$Search" ⟨"BackBridge$Search", "reachState", "(IIII)V"⟩ ⟨"BackBridge$Search", "reachState", "(IIII)V"⟩ : Cond) ∈ sm_wl := sn_m (List.mem_of_getElem? (i := 27) (by decide +kernel)) rfl
theorem mw_28 : (.selects "BackBridge$Search" ⟨"BackBridge$Search", "spellBack", "(I)V"⟩ ⟨"BackBridge$Search", "spellBack", "(I)V"⟩ : Cond) ∈ sm_wl := sn_m (List.mem_of_getElem? (i := 28) (by decide +kernel)) rfl
theorem mw_29 : (.selects "BackBridge$Search" ⟨"BackBridge$Search", "tallyStep", "([J[J)V"⟩ ⟨"BackBridge$Search", "tallyStep", "([J[J)V"⟩ : Cond) ∈ sm_wl := sn_m (List.mem_of_getElem? (i := 29) (by decide +kernel)) rfl
theorem mw_30 : (.selects "BackBridge$Choices" ⟨"BackBridge$Choices", "lateWithout", "(I)I"⟩ ⟨"BackBridge$Choices", "lateWithout", "(I)I"⟩ : Cond) ∈ sm_wl := sn_m (List.mem_of_getElem? (i := 30) (by decide +kernel)) rfl
theorem mw_31 : (.selects "BackBridge$Answers" ⟨"BackBridge$Answers", "isAnswer", "(J)Z"⟩ ⟨"BackBridge$Answers", "isAnswer", "(J)Z"⟩ : Cond) ∈ sm_wl := sn_m (List.mem_of_getElem? (i := 31) (by decide +kernel)) rfl
theorem mw_32 : (.selects "BackBridge$Answers" ⟨"BackBridge$Answers", "setsWith", "(I)J"⟩ ⟨"BackBridge$Answers", "setsWith", "(I)J"⟩ : Cond) ∈ sm_wl := sn_m (List.mem_of_getElem? (i := 32) (by decide +kernel)) rfl
theorem mw_33 : (.selects "BackBridge$Answers" ⟨"BackBridge$Answers", "setsLet", "(III)J"⟩ ⟨"BackBridge$Answers", "setsLet", "(III)J"⟩ : Cond) ∈ sm_wl := sn_m (List.mem_of_getElem? (i := 33) (by decide +kernel)) rfl
theorem mw_34 : (.selects "BackBridgeModel" ⟨"BackBridgeModel", "next", "()V"⟩ ⟨"BackBridgeModel", "next", "()V"⟩ : Cond) ∈ sm_wl := sn_m (List.mem_of_getElem? (i := 34) (by decide +kernel)) rfl
theorem mw_35 : (.selects "BackBridgeModel" ⟨"BackBridgeModel", "see", "(I)I"⟩ ⟨"BackBridgeModel", "see", "(I)I"⟩ : Cond) ∈ sm_wl := sn_m (List.mem_of_getElem? (i := 35) (by decide +kernel)) rfl
theorem mw_36 : (.selects "BackBridgeModel" ⟨"BackBridgeModel", "keyAt", "()I"⟩ ⟨"BackBridgeModel", "keyAt", "()I"⟩ : Cond) ∈ sm_wl := sn_m (List.mem_of_getElem? (i := 36) (by decide +kernel)) rfl
theorem mw_37 : (.selects "BackBridgeModel" ⟨"BackBridgeModel", "eats", "(I)Z"⟩ ⟨"BackBridgeModel", "eats", "(I)Z"⟩ : Cond) ∈ sm_wl := sn_m (List.mem_of_getElem? (i := 37) (by decide +kernel)) rfl
theorem mw_38 : (.selects "BackBridgeModel" ⟨"BackBridgeModel", "is", "(I)Z"⟩ ⟨"BackBridgeModel", "is", "(I)Z"⟩ : Cond) ∈ sm_wl := sn_m (List.mem_of_getElem? (i := 38) (by decide +kernel)) rfl
theorem mw_39 : (.selects "BackBridgeModel" ⟨"BackBridgeModel", "fails", "(I)V"⟩ ⟨"BackBridgeModel", "fails", "(I)V"⟩ : Cond) ∈ sm_wl := sn_m (List.mem_of_getElem? (i := 39) (by decide +kernel)) rfl
theorem mw_40 : (.selects "BackBridgeModel" ⟨"BackBridgeModel", "takesN", "(II)I"⟩ ⟨"BackBridgeModel", "takesN", "(II)I"⟩ : Cond) ∈ sm_wl := sn_m (List.mem_of_getElem? (i := 40) (by decide +kernel)) rfl
theorem mw_41 : (.selects "BackBridgeModel" ⟨"BackBridgeModel", "ends", "()V"⟩ ⟨"BackBridgeModel", "ends", "()V"⟩ : Cond) ∈ sm_wl := sn_m (List.mem_of_getElem? (i := 41) (by decide +kernel)) rfl
theorem mw_42 : (.selects "BackBridgeModel" ⟨"BackBridgeModel", "readLine", "()V"⟩ ⟨"BackBridgeModel", "readLine", "()V"⟩ : Cond) ∈ sm_wl := sn_m (List.mem_of_getElem? (i := 42) (by decide +kernel)) rfl
theorem mw_43 : (.selects "BackBridgeModel" ⟨"BackBridgeModel", "readRoad", "()V"⟩ ⟨"BackBridgeModel", "readRoad", "()V"⟩ : Cond) ∈ sm_wl := sn_m (List.mem_of_getElem? (i := 43) (by decide +kernel)) rfl
theorem mw_44 : (.selects "BackBridgeModel" ⟨"BackBridgeModel", "bridgesIn", "()I"⟩ ⟨"BackBridgeModel", "bridgesIn", "()I"⟩ : Cond) ∈ sm_wl := sn_m (List.mem_of_getElem? (i := 44) (by decide +kernel)) rfl
theorem mw_45 : (.selects "BackBridgeModel" ⟨"BackBridgeModel", "readPerson", "()V"⟩ ⟨"BackBridgeModel", "readPerson", "()V"⟩ : Cond) ∈ sm_wl := sn_m (List.mem_of_getElem? (i := 45) (by decide +kernel)) rfl
theorem mw_46 : (.selects "BackBridgeModel" ⟨"BackBridgeModel", "readMark", "(I)Z"⟩ ⟨"BackBridgeModel", "readMark", "(I)Z"⟩ : Cond) ∈ sm_wl := sn_m (List.mem_of_getElem? (i := 46) (by decide +kernel)) rfl
theorem mw_47 : (.selects "BackBridgeModel" ⟨"BackBridgeModel", "readLaw", "(I)V"⟩ ⟨"BackBridgeModel", "readLaw", "(I)V"⟩ : Cond) ∈ sm_wl := sn_m (List.mem_of_getElem? (i := 47) (by decide +kernel)) rfl
theorem mw_48 : (.selects "BackBridgeModel" ⟨"BackBridgeModel", "readSum", "(I)V"⟩ ⟨"BackBridgeModel", "readSum", "(I)V"⟩ : Cond) ∈ sm_wl := sn_m (List.mem_of_getElem? (i := 48) (by decide +kernel)) rfl
theorem mw_49 : (.selects "BackBridgeModel" ⟨"BackBridgeModel", "readTerm", "(I)V"⟩ ⟨"BackBridgeModel", "readTerm", "(I)V"⟩ : Cond) ∈ sm_wl := sn_m (List.mem_of_getElem? (i := 49) (by decide +kernel)) rfl
theorem mw_50 : (.selects "BackBridgeModel" ⟨"BackBridgeModel", "readAtom", "(I)V"⟩ ⟨"BackBridgeModel", "readAtom", "(I)V"⟩ : Cond) ∈ sm_wl := sn_m (List.mem_of_getElem? (i := 50) (by decide +kernel)) rfl
theorem mw_51 : (.selects "BackBridgeModel" ⟨"BackBridgeModel", "codes", "(I)V"⟩ ⟨"BackBridgeModel", "codes", "(I)V"⟩ : Cond) ∈ sm_wl := sn_m (List.mem_of_getElem? (i := 51) (by decide +kernel)) rfl
theorem mw_52 : (.selects "BackBridgeModel" ⟨"BackBridgeModel", "wordOf", "(I)I"⟩ ⟨"BackBridgeModel", "wordOf", "(I)I"⟩ : Cond) ∈ sm_wl := sn_m (List.mem_of_getElem? (i := 52) (by decide +kernel)) rfl
theorem mw_53 : (.selects "BackBridgeModel" ⟨"BackBridgeModel", "goesIn", "(I)Z"⟩ ⟨"BackBridgeModel", "goesIn", "(I)Z"⟩ : Cond) ∈ sm_wl := sn_m (List.mem_of_getElem? (i := 53) (by decide +kernel)) rfl
theorem mw_54 : (.selects "BackBridgeModel" ⟨"BackBridgeModel", "readTruth", "(I)V"⟩ ⟨"BackBridgeModel", "readTruth", "(I)V"⟩ : Cond) ∈ sm_wl := sn_m (List.mem_of_getElem? (i := 54) (by decide +kernel)) rfl
theorem mw_55 : (.selects "BackBridgeModel" ⟨"BackBridgeModel", "readBoth", "(I)V"⟩ ⟨"BackBridgeModel", "readBoth", "(I)V"⟩ : Cond) ∈ sm_wl := sn_m (List.mem_of_getElem? (i := 55) (by decide +kernel)) rfl
theorem mw_56 : (.selects "BackBridgeModel" ⟨"BackBridgeModel", "readUnit", "(I)V"⟩ ⟨"BackBridgeModel", "readUnit", "(I)V"⟩ : Cond) ∈ sm_wl := sn_m (List.mem_of_getElem? (i := 56) (by decide +kernel)) rfl
theorem mw_57 : (.selects "BackBridgeModel" ⟨"BackBridgeModel", "doesErrand", "(I)V"⟩ ⟨"BackBridgeModel", "doesErrand", "(I)V"⟩ : Cond) ∈ sm_wl := sn_m (List.mem_of_getElem? (i := 57) (by decide +kernel)) rfl
theorem mw_58 : (.selects "BackBridgeModel" ⟨"BackBridgeModel", "isPerson", "(J)Z"⟩ ⟨"BackBridgeModel", "isPerson", "(J)Z"⟩ : Cond) ∈ sm_wl := sn_m (List.mem_of_getElem? (i := 58) (by decide +kernel)) rfl
theorem mw_59 : (.selects "BackBridgeModel" ⟨"BackBridgeModel", "isRoad", "(J)Z"⟩ ⟨"BackBridgeModel", "isRoad", "(J)Z"⟩ : Cond) ∈ sm_wl := sn_m (List.mem_of_getElem? (i := 59) (by decide +kernel)) rfl
theorem mw_60 : (.selects "BackBridgeModel" ⟨"BackBridgeModel", "whyGo", "(JJ)I"⟩ ⟨"BackBridgeModel", "whyGo", "(JJ)I"⟩ : Cond) ∈ sm_wl := sn_m (List.mem_of_getElem? (i := 60) (by decide +kernel)) rfl
theorem mw_61 : (.selects "BackBridgeModel" ⟨"BackBridgeModel", "whyRoad", "(IIIII)I"⟩ ⟨"BackBridgeModel", "whyRoad", "(IIIII)I"⟩ : Cond) ∈ sm_wl := sn_m (List.mem_of_getElem? (i := 61) (by decide +kernel)) rfl
theorem mw_62 : (.selects "BackBridgeModel" ⟨"BackBridgeModel", "leads", "(II)I"⟩ ⟨"BackBridgeModel", "leads", "(II)I"⟩ : Cond) ∈ sm_wl := sn_m (List.mem_of_getElem? (i := 62) (by decide +kernel)) rfl
theorem mw_63 : (.selects "BackBridgeModel" ⟨"BackBridgeModel", "isBridge", "(I)Z"⟩ ⟨"BackBridgeModel", "isBridge", "(I)Z"⟩ : Cond) ∈ sm_wl := sn_m (List.mem_of_getElem? (i := 63) (by decide +kernel)) rfl
theorem mw_64 : (.selects "BackBridgeModel" ⟨"BackBridgeModel", "letsOver", "(IIIII)Z"⟩ ⟨"BackBridgeModel", "letsOver", "(IIIII)Z"⟩ : Cond) ∈ sm_wl := sn_m (List.mem_of_getElem? (i := 64) (by decide +kernel)) rfl
theorem mw_65 : (.selects "BackBridgeModel" ⟨"BackBridgeModel", "reckons", "(IIIIII)I"⟩ ⟨"BackBridgeModel", "reckons", "(IIIIII)I"⟩ : Cond) ∈ sm_wl := sn_m (List.mem_of_getElem? (i := 65) (by decide +kernel)) rfl
theorem mw_66 : (.selects "BackBridgeModel" ⟨"BackBridgeModel", "takesOver", "(IIIII)I"⟩ ⟨"BackBridgeModel", "takesOver", "(IIIII)I"⟩ : Cond) ∈ sm_wl := sn_m (List.mem_of_getElem? (i := 66) (by decide +kernel)) rfl
theorem mw_67 : (.selects "BackBridgeModel" ⟨"BackBridgeModel", "takesNow", "(II)I"⟩ ⟨"BackBridgeModel", "takesNow", "(II)I"⟩ : Cond) ∈ sm_wl := sn_m (List.mem_of_getElem? (i := 67) (by decide +kernel)) rfl
theorem mw_68 : (.selects "BackBridgeModel" ⟨"BackBridgeModel", "keeps", "()V"⟩ ⟨"BackBridgeModel", "keeps", "()V"⟩ : Cond) ∈ sm_wl := sn_m (List.mem_of_getElem? (i := 68) (by decide +kernel)) rfl
theorem mw_69 : (.selects "BackBridgeModel" ⟨"BackBridgeModel", "goes", "(II)V"⟩ ⟨"BackBridgeModel", "goes", "(II)V"⟩ : Cond) ∈ sm_wl := sn_m (List.mem_of_getElem? (i := 69) (by decide +kernel)) rfl
theorem mw_70 : (.selects "BackBridgeModel" ⟨"BackBridgeModel", "notes", "()V"⟩ ⟨"BackBridgeModel", "notes", "()V"⟩ : Cond) ∈ sm_wl := sn_m (List.mem_of_getElem? (i := 70) (by decide +kernel)) rfl
theorem mw_71 : (.selects "BackBridgeModel" ⟨"BackBridgeModel", "whyGive", "(JJJ)I"⟩ ⟨"BackBridgeModel", "whyGive", "(JJJ)I"⟩ : Cond) ∈ sm_wl := sn_m (List.mem_of_getElem? (i := 71) (by decide +kernel)) rfl
theorem mw_72 : (.selects "BackBridgeModel" ⟨"BackBridgeModel", "areTwo", "(JJ)Z"⟩ ⟨"BackBridgeModel", "areTwo", "(JJ)Z"⟩ : Cond) ∈ sm_wl := sn_m (List.mem_of_getElem? (i := 72) (by decide +kernel)) rfl
theorem mw_73 : (.selects "BackBridgeModel" ⟨"BackBridgeModel", "gives", "(III)V"⟩ ⟨"BackBridgeModel", "gives", "(III)V"⟩ : Cond) ∈ sm_wl := sn_m (List.mem_of_getElem? (i := 73) (by decide +kernel)) rfl
theorem mw_74 : (.selects "BackBridgeModel" ⟨"BackBridgeModel", "whyForge", "(J)I"⟩ ⟨"BackBridgeModel", "whyForge", "(J)I"⟩ : Cond) ∈ sm_wl := sn_m (List.mem_of_getElem? (i := 74) (by decide +kernel)) rfl
theorem mw_75 : (.selects "BackBridgeModel" ⟨"BackBridgeModel", "forges", "(I)V"⟩ ⟨"BackBridgeModel", "forges", "(I)V"⟩ : Cond) ∈ sm_wl := sn_m (List.mem_of_getElem? (i := 75) (by decide +kernel)) rfl
theorem mw_76 : (.selects "BackBridgeModel" ⟨"BackBridgeModel", "goesDay", "()V"⟩ ⟨"BackBridgeModel", "goesDay", "()V"⟩ : Cond) ∈ sm_wl := sn_m (List.mem_of_getElem? (i := 76) (by decide +kernel)) rfl
theorem mw_77 : (.selects "BackBridgeModel" ⟨"BackBridgeModel", "noTray", "(I)I"⟩ ⟨"BackBridgeModel", "noTray", "(I)I"⟩ : Cond) ∈ sm_wl := sn_m (List.mem_of_getElem? (i := 77) (by decide +kernel)) rfl
theorem mw_78 : (.selects "BackBridgeModel" ⟨"BackBridgeModel", "tells", "(I)I"⟩ ⟨"BackBridgeModel", "tells", "(I)I"⟩ : Cond) ∈ sm_wl := sn_m (List.mem_of_getElem? (i := 78) (by decide +kernel)) rfl
theorem mw_79 : (.selects "BackBridgeModel" ⟨"BackBridgeModel", "whyNot", "(J)I"⟩ ⟨"BackBridgeModel", "whyNot", "(J)I"⟩ : Cond) ∈ sm_wl := sn_m (List.mem_of_getElem? (i := 79) (by decide +kernel)) rfl
theorem mw_80 : (.selects "BackBridgeModel" ⟨"BackBridgeModel", "does", "(I)V"⟩ ⟨"BackBridgeModel", "does", "(I)V"⟩ : Cond) ∈ sm_wl := sn_m (List.mem_of_getElem? (i := 80) (by decide +kernel)) rfl
theorem mw_81 : (.selects "BackBridgeModel" ⟨"BackBridgeModel", "papersAll", "()I"⟩ ⟨"BackBridgeModel", "papersAll", "()I"⟩ : Cond) ∈ sm_wl := sn_m (List.mem_of_getElem? (i := 81) (by decide +kernel)) rfl
theorem mw_82 : (.selects "BackBridgeModel" ⟨"BackBridgeModel", "isAgain", "()V"⟩ ⟨"BackBridgeModel", "isAgain", "()V"⟩ : Cond) ∈ sm_wl := sn_m (List.mem_of_getElem? (i := 82) (by decide +kernel)) rfl
theorem mw_83 : (.selects "BackBridgeModel" ⟨"BackBridgeModel", "drawn", "()I"⟩ ⟨"BackBridgeModel", "drawn", "()I"⟩ : Cond) ∈ sm_wl := sn_m (List.mem_of_getElem? (i := 83) (by decide +kernel)) rfl
theorem mw_84 : (.selects "BackBridgeModel" ⟨"BackBridgeModel", "draw", "(I)I"⟩ ⟨"BackBridgeModel", "draw", "(I)I"⟩ : Cond) ∈ sm_wl := sn_m (List.mem_of_getElem? (i := 84) (by decide +kernel)) rfl
theorem mw_85 : (.selects "BackBridgeModel" ⟨"BackBridgeModel", "isWay", "(II)Z"⟩ ⟨"BackBridgeModel", "isWay", "(II)Z"⟩ : Cond) ∈ sm_wl := sn_m (List.mem_of_getElem? (i := 85) (by decide +kernel)) rfl
theorem mw_86 : (.selects "BackBridgeModel" ⟨"BackBridgeModel", "isPlace", "(J)Z"⟩ ⟨"BackBridgeModel", "isPlace", "(J)Z"⟩ : Cond) ∈ sm_wl := sn_m (List.mem_of_getElem? (i := 86) (by decide +kernel)) rfl
theorem mw_87 : (.selects "BackBridgeModel" ⟨"BackBridgeModel", "soonestNow", "(II)I"⟩ ⟨"BackBridgeModel", "soonestNow", "(II)I"⟩ : Cond) ∈ sm_wl := sn_m (List.mem_of_getElem? (i := 87) (by decide +kernel)) rfl
theorem mw_88 : (.selects "BackBridgeModel" ⟨"BackBridgeModel", "soonestOf", "(III)I"⟩ ⟨"BackBridgeModel", "soonestOf", "(III)I"⟩ : Cond) ∈ sm_wl := sn_m (List.mem_of_getElem? (i := 88) (by decide +kernel)) rfl
theorem mw_89 : (.selects "BackBridgeModel" ⟨"BackBridgeModel", "laysStands", "(IIZ)V"⟩ ⟨"BackBridgeModel", "laysStands", "(IIZ)V"⟩ : Cond) ∈ sm_wl := sn_m (List.mem_of_getElem? (i := 89) (by decide +kernel)) rfl
theorem mw_90 : (.selects "BackBridgeModel" ⟨"BackBridgeModel", "addsStand", "(I)I"⟩ ⟨"BackBridgeModel", "addsStand", "(I)I"⟩ : Cond) ∈ sm_wl := sn_m (List.mem_of_getElem? (i := 90) (by decide +kernel)) rfl
theorem mw_91 : (.selects "BackBridgeModel" ⟨"BackBridgeModel", "bridgeBit", "(I)I"⟩ ⟨"BackBridgeModel", "bridgeBit", "(I)I"⟩ : Cond) ∈ sm_wl := sn_m (List.mem_of_getElem? (i := 91) (by decide +kernel)) rfl
theorem mw_92 : (.selects "BackBridgeModel" ⟨"BackBridgeModel", "laysStill", "(II)I"⟩ ⟨"BackBridgeModel", "laysStill", "(II)I"⟩ : Cond) ∈ sm_wl := sn_m (List.mem_of_getElem? (i := 92) (by decide +kernel)) rfl
theorem mw_93 : (.selects "BackBridgeModel" ⟨"BackBridgeModel", "isThere", "(III)Z"⟩ ⟨"BackBridgeModel", "isThere", "(III)Z"⟩ : Cond) ∈ sm_wl := sn_m (List.mem_of_getElem? (i := 93) (by decide +kernel)) rfl
theorem mw_94 : (.selects "BackBridgeModel" ⟨"BackBridgeModel", "bridgesMany", "()I"⟩ ⟨"BackBridgeModel", "bridgesMany", "()I"⟩ : Cond) ∈ sm_wl := sn_m (List.mem_of_getElem? (i := 94) (by decide +kernel)) rfl
theorem mw_95 : (.selects "BackBridgeModel" ⟨"BackBridgeModel", "stillBy", "(III)I"⟩ ⟨"BackBridgeModel", "stillBy", "(III)I"⟩ : Cond) ∈ sm_wl := sn_m (List.mem_of_getElem? (i := 95) (by decide +kernel)) rfl
theorem mw_96 : (.selects "BackBridgeModel" ⟨"BackBridgeModel", "isLoop", "(II)Z"⟩ ⟨"BackBridgeModel", "isLoop", "(II)Z"⟩ : Cond) ∈ sm_wl := sn_m (List.mem_of_getElem? (i := 96) (by decide +kernel)) rfl
theorem mw_97 : (.selects "BackBridgeModel" ⟨"BackBridgeModel", "laysWay", "(II)I"⟩ ⟨"BackBridgeModel", "laysWay", "(II)I"⟩ : Cond) ∈ sm_wl := sn_m (List.mem_of_getElem? (i := 97) (by decide +kernel)) rfl
theorem mw_98 : (.selects "BackBridgeModel" ⟨"BackBridgeModel", "laysRoads", "(I)I"⟩ ⟨"BackBridgeModel", "laysRoads", "(I)I"⟩ : Cond) ∈ sm_wl := sn_m (List.mem_of_getElem? (i := 98) (by decide +kernel)) rfl
theorem mw_99 : (.selects "BackBridgeModel" ⟨"BackBridgeModel", "inTimeSet", "()I"⟩ ⟨"BackBridgeModel", "inTimeSet", "()I"⟩ : Cond) ∈ sm_wl := sn_m (List.mem_of_getElem? (i := 99) (by decide +kernel)) rfl
theorem mw_100 : (.selects "BackBridgeModel" ⟨"BackBridgeModel", "isErrand", "(I)Z"⟩ ⟨"BackBridgeModel", "isErrand", "(I)Z"⟩ : Cond) ∈ sm_wl := sn_m (List.mem_of_getElem? (i := 100) (by decide +kernel)) rfl
theorem mw_101 : (.selects "BackBridgeModel" ⟨"BackBridgeModel", "isInTime", "(II)Z"⟩ ⟨"BackBridgeModel", "isInTime", "(II)Z"⟩ : Cond) ∈ sm_wl := sn_m (List.mem_of_getElem? (i := 101) (by decide +kernel)) rfl
theorem mw_102 : (.selects "BackBridgeModel" ⟨"BackBridgeModel", "loopOf", "(I)I"⟩ ⟨"BackBridgeModel", "loopOf", "(I)I"⟩ : Cond) ∈ sm_wl := sn_m (List.mem_of_getElem? (i := 102) (by decide +kernel)) rfl
theorem mw_103 : (.selects "BackBridgeModel" ⟨"BackBridgeModel", "laysMeet", "(II)I"⟩ ⟨"BackBridgeModel", "laysMeet", "(II)I"⟩ : Cond) ∈ sm_wl := sn_m (List.mem_of_getElem? (i := 103) (by decide +kernel)) rfl
theorem mw_104 : (.selects "BackBridgeModel" ⟨"BackBridgeModel", "noAnswers", "(II)I"⟩ ⟨"BackBridgeModel", "noAnswers", "(II)I"⟩ : Cond) ∈ sm_wl := sn_m (List.mem_of_getElem? (i := 104) (by decide +kernel)) rfl
theorem mw_105 : (.selects "BackBridgeModel" ⟨"BackBridgeModel", "fits", "(III)Z"⟩ ⟨"BackBridgeModel", "fits", "(III)Z"⟩ : Cond) ∈ sm_wl := sn_m (List.mem_of_getElem? (i := 105) (by decide +kernel)) rfl
theorem mw_106 : (.selects "BackBridgeModel" ⟨"BackBridgeModel", "isLet", "(IIII)Z"⟩ ⟨"BackBridgeModel", "isLet", "(IIII)Z"⟩ : Cond) ∈ sm_wl := sn_m (List.mem_of_getElem? (i := 106) (by decide +kernel)) rfl
theorem mw_107 : (.selects "BackBridgeModel" ⟨"BackBridgeModel", "dryOf", "(I)J"⟩ ⟨"BackBridgeModel", "dryOf", "(I)J"⟩ : Cond) ∈ sm_wl := sn_m (List.mem_of_getElem? (i := 107) (by decide +kernel)) rfl
theorem mw_108 : (.selects "BackBridgeModel" ⟨"BackBridgeModel", "bridgesSet", "()I"⟩ ⟨"BackBridgeModel", "bridgesSet", "()I"⟩ : Cond) ∈ sm_wl := sn_m (List.mem_of_getElem? (i := 108) (by decide +kernel)) rfl
theorem mw_109 : (.selects "BackBridgeModel" ⟨"BackBridgeModel", "errandsMany", "()I"⟩ ⟨"BackBridgeModel", "errandsMany", "()I"⟩ : Cond) ∈ sm_wl := sn_m (List.mem_of_getElem? (i := 109) (by decide +kernel)) rfl
theorem mw_111 : (.initialized "BackBridge" : Cond) ∈ sm_wl := sn_m (List.mem_of_getElem? (i := 111) (by decide +kernel)) rfl
theorem mw_112 : (.initialized "BackBridge$Land" : Cond) ∈ sm_wl := sn_m (List.mem_of_getElem? (i := 112) (by decide +kernel)) rfl
theorem mw_113 : (.initialized "BackBridge$Law" : Cond) ∈ sm_wl := sn_m (List.mem_of_getElem? (i := 113) (by decide +kernel)) rfl
theorem mw_114 : (.initialized "BackBridge$World" : Cond) ∈ sm_wl := sn_m (List.mem_of_getElem? (i := 114) (by decide +kernel)) rfl
theorem mw_115 : (.initialized "BackBridge$Reader" : Cond) ∈ sm_wl := sn_m (List.mem_of_getElem? (i := 115) (by decide +kernel)) rfl
theorem mw_116 : (.initialized "BackBridge$Laws" : Cond) ∈ sm_wl := sn_m (List.mem_of_getElem? (i := 116) (by decide +kernel)) rfl
theorem mw_117 : (.initialized "BackBridge$Deeds" : Cond) ∈ sm_wl := sn_m (List.mem_of_getElem? (i := 117) (by decide +kernel)) rfl
theorem mw_118 : (.initialized "BackBridge$Past" : Cond) ∈ sm_wl := sn_m (List.mem_of_getElem? (i := 118) (by decide +kernel)) rfl
theorem mw_119 : (.initialized "BackBridge$Search" : Cond) ∈ sm_wl := sn_m (List.mem_of_getElem? (i := 119) (by decide +kernel)) rfl
theorem mw_120 : (.initialized "BackBridge$Choices" : Cond) ∈ sm_wl := sn_m (List.mem_of_getElem? (i := 120) (by decide +kernel)) rfl
theorem mw_121 : (.initialized "BackBridge$Trays" : Cond) ∈ sm_wl := sn_m (List.mem_of_getElem? (i := 121) (by decide +kernel)) rfl
theorem mw_122 : (.initialized "BackBridge$Answers" : Cond) ∈ sm_wl := sn_m (List.mem_of_getElem? (i := 122) (by decide +kernel)) rfl
theorem mw_123 : (.initialized "BackBridgeModel" : Cond) ∈ sm_wl := sn_m (List.mem_of_getElem? (i := 123) (by decide +kernel)) rfl
theorem mw_128 : (.initialized "java/lang/Math" : Cond) ∈ sm_wl := sn_m (List.mem_of_getElem? (i := 128) (by decide +kernel)) rfl
theorem mw_130 : (.initialized "java/lang/Integer" : Cond) ∈ sm_wl := sn_m (List.mem_of_getElem? (i := 130) (by decide +kernel)) rfl
theorem mw_131 : (.initialized "java/lang/System" : Cond) ∈ sm_wl := sn_m (List.mem_of_getElem? (i := 131) (by decide +kernel)) rfl
theorem mw_132 : (.initialized "java/util/Arrays" : Cond) ∈ sm_wl := sn_m (List.mem_of_getElem? (i := 132) (by decide +kernel)) rfl
theorem mw_133 : (.initialized "java/lang/Long" : Cond) ∈ sm_wl := sn_m (List.mem_of_getElem? (i := 133) (by decide +kernel)) rfl
theorem mw_154 : (.fieldLink "BackBridge$Law" 9 "BackBridge$Law" "code" "[I" : Cond) ∈ sm_wl := sn_m (List.mem_of_getElem? (i := 154) (by decide +kernel)) rfl
theorem mw_155 : (.fieldLink "BackBridge$Law" 15 "BackBridge$Law" "stack" "[I" : Cond) ∈ sm_wl := sn_m (List.mem_of_getElem? (i := 155) (by decide +kernel)) rfl
theorem mw_156 : (.fieldLink "BackBridge$Law" 18 "BackBridge$Law" "size" "I" : Cond) ∈ sm_wl := sn_m (List.mem_of_getElem? (i := 156) (by decide +kernel)) rfl
theorem mw_157 : (.fieldLink "BackBridge$Land" 65 "BackBridge$Law" "size" "I" : Cond) ∈ sm_wl := sn_m (List.mem_of_getElem? (i := 157) (by decide +kernel)) rfl
theorem mw_158 : (.fieldLink "BackBridge$Laws" 50 "BackBridge$Law" "size" "I" : Cond) ∈ sm_wl := sn_m (List.mem_of_getElem? (i := 158) (by decide +kernel)) rfl
theorem mw_159 : (.fieldLink "BackBridge$Reader" 208 "BackBridge$Law" "size" "I" : Cond) ∈ sm_wl := sn_m (List.mem_of_getElem? (i := 159) (by decide +kernel)) rfl
theorem mw_169 : (.fieldLink "BackBridge$Land" 9 "BackBridge$Land" "places" "I" : Cond) ∈ sm_wl := sn_m (List.mem_of_getElem? (i := 169) (by decide +kernel)) rfl
theorem mw_170 : (.fieldLink "BackBridge$Answers" 84 "BackBridge$Land" "places" "I" : Cond) ∈ sm_wl := sn_m (List.mem_of_getElem? (i := 170) (by decide +kernel)) rfl
theorem mw_171 : (.fieldLink "BackBridge$Search" 102 "BackBridge$Land" "places" "I" : Cond) ∈ sm_wl := sn_m (List.mem_of_getElem? (i := 171) (by decide +kernel)) rfl
theorem mw_172 : (.fieldLink "BackBridge$Reader" 131 "BackBridge$Land" "places" "I" : Cond) ∈ sm_wl := sn_m (List.mem_of_getElem? (i := 172) (by decide +kernel)) rfl
theorem mw_173 : (.fieldLink "BackBridge$Choices" 116 "BackBridge$Land" "places" "I" : Cond) ∈ sm_wl := sn_m (List.mem_of_getElem? (i := 173) (by decide +kernel)) rfl
theorem mw_174 : (.fieldLink "BackBridge" 390 "BackBridge$Land" "places" "I" : Cond) ∈ sm_wl := sn_m (List.mem_of_getElem? (i := 174) (by decide +kernel)) rfl
theorem mw_175 : (.fieldLink "BackBridge$Land" 53 "BackBridge$Land" "lines" "I" : Cond) ∈ sm_wl := sn_m (List.mem_of_getElem? (i := 175) (by decide +kernel)) rfl
theorem mw_176 : (.fieldLink "BackBridge" 127 "BackBridge$Land" "lines" "I" : Cond) ∈ sm_wl := sn_m (List.mem_of_getElem? (i := 176) (by decide +kernel)) rfl
theorem mw_177 : (.fieldLink "BackBridge$Reader" 140 "BackBridge$Land" "lines" "I" : Cond) ∈ sm_wl := sn_m (List.mem_of_getElem? (i := 177) (by decide +kernel)) rfl
theorem mw_178 : (.fieldLink "BackBridge$Land" 56 "BackBridge$Land" "roads" "I" : Cond) ∈ sm_wl := sn_m (List.mem_of_getElem? (i := 178) (by decide +kernel)) rfl
theorem mw_179 : (.fieldLink "BackBridge$Answers" 73 "BackBridge$Land" "roads" "I" : Cond) ∈ sm_wl := sn_m (List.mem_of_getElem? (i := 179) (by decide +kernel)) rfl
theorem mw_180 : (.fieldLink "BackBridge$Choices" 47 "BackBridge$Land" "roads" "I" : Cond) ∈ sm_wl := sn_m (List.mem_of_getElem? (i := 180) (by decide +kernel)) rfl
theorem mw_181 : (.fieldLink "BackBridge$Search" 117 "BackBridge$Land" "roads" "I" : Cond) ∈ sm_wl := sn_m (List.mem_of_getElem? (i := 181) (by decide +kernel)) rfl
theorem mw_182 : (.fieldLink "BackBridge$Reader" 162 "BackBridge$Land" "roads" "I" : Cond) ∈ sm_wl := sn_m (List.mem_of_getElem? (i := 182) (by decide +kernel)) rfl
theorem mw_183 : (.fieldLink "BackBridge" 393 "BackBridge$Land" "roads" "I" : Cond) ∈ sm_wl := sn_m (List.mem_of_getElem? (i := 183) (by decide +kernel)) rfl
theorem mw_184 : (.fieldLink "BackBridge$Land" 59 "BackBridge$Land" "people" "I" : Cond) ∈ sm_wl := sn_m (List.mem_of_getElem? (i := 184) (by decide +kernel)) rfl
theorem mw_185 : (.fieldLink "BackBridge$World" 37 "BackBridge$Land" "people" "I" : Cond) ∈ sm_wl := sn_m (List.mem_of_getElem? (i := 185) (by decide +kernel)) rfl
theorem mw_186 : (.fieldLink "BackBridge$Deeds" 76 "BackBridge$Land" "people" "I" : Cond) ∈ sm_wl := sn_m (List.mem_of_getElem? (i := 186) (by decide +kernel)) rfl
theorem mw_187 : (.fieldLink "BackBridge$Choices" 98 "BackBridge$Land" "people" "I" : Cond) ∈ sm_wl := sn_m (List.mem_of_getElem? (i := 187) (by decide +kernel)) rfl
theorem mw_188 : (.fieldLink "BackBridge$Reader" 191 "BackBridge$Land" "people" "I" : Cond) ∈ sm_wl := sn_m (List.mem_of_getElem? (i := 188) (by decide +kernel)) rfl
theorem mw_189 : (.fieldLink "BackBridge" 396 "BackBridge$Land" "people" "I" : Cond) ∈ sm_wl := sn_m (List.mem_of_getElem? (i := 189) (by decide +kernel)) rfl
theorem mw_190 : (.fieldLink "BackBridge$Land" 62 "BackBridge$Land" "bridges" "I" : Cond) ∈ sm_wl := sn_m (List.mem_of_getElem? (i := 190) (by decide +kernel)) rfl
theorem mw_191 : (.fieldLink "BackBridge" 177 "BackBridge$Land" "bridges" "I" : Cond) ∈ sm_wl := sn_m (List.mem_of_getElem? (i := 191) (by decide +kernel)) rfl
theorem mw_192 : (.fieldLink "BackBridge$Reader" 183 "BackBridge$Land" "bridges" "I" : Cond) ∈ sm_wl := sn_m (List.mem_of_getElem? (i := 192) (by decide +kernel)) rfl
theorem mw_193 : (.fieldLink "BackBridge$Search" 163 "BackBridge$Land" "bridges" "I" : Cond) ∈ sm_wl := sn_m (List.mem_of_getElem? (i := 193) (by decide +kernel)) rfl
theorem mw_194 : (.fieldLink "BackBridge$Land" 15 "BackBridge$Land" "from" "[I" : Cond) ∈ sm_wl := sn_m (List.mem_of_getElem? (i := 194) (by decide +kernel)) rfl
theorem mw_195 : (.fieldLink "BackBridge$Answers" 90 "BackBridge$Land" "from" "[I" : Cond) ∈ sm_wl := sn_m (List.mem_of_getElem? (i := 195) (by decide +kernel)) rfl
theorem mw_196 : (.fieldLink "BackBridge$Laws" 72 "BackBridge$Land" "from" "[I" : Cond) ∈ sm_wl := sn_m (List.mem_of_getElem? (i := 196) (by decide +kernel)) rfl
theorem mw_197 : (.fieldLink "BackBridge" 168 "BackBridge$Land" "from" "[I" : Cond) ∈ sm_wl := sn_m (List.mem_of_getElem? (i := 197) (by decide +kernel)) rfl
theorem mw_198 : (.fieldLink "BackBridge$Reader" 168 "BackBridge$Land" "from" "[I" : Cond) ∈ sm_wl := sn_m (List.mem_of_getElem? (i := 198) (by decide +kernel)) rfl
theorem mw_199 : (.fieldLink "BackBridge$Land" 19 "BackBridge$Land" "to" "[I" : Cond) ∈ sm_wl := sn_m (List.mem_of_getElem? (i := 199) (by decide +kernel)) rfl
theorem mw_200 : (.fieldLink "BackBridge$Laws" 28 "BackBridge$Land" "to" "[I" : Cond) ∈ sm_wl := sn_m (List.mem_of_getElem? (i := 200) (by decide +kernel)) rfl
theorem mw_201 : (.fieldLink "BackBridge$Answers" 87 "BackBridge$Land" "to" "[I" : Cond) ∈ sm_wl := sn_m (List.mem_of_getElem? (i := 201) (by decide +kernel)) rfl
theorem mw_202 : (.fieldLink "BackBridge" 171 "BackBridge$Land" "to" "[I" : Cond) ∈ sm_wl := sn_m (List.mem_of_getElem? (i := 202) (by decide +kernel)) rfl
theorem mw_203 : (.fieldLink "BackBridge$Reader" 170 "BackBridge$Land" "to" "[I" : Cond) ∈ sm_wl := sn_m (List.mem_of_getElem? (i := 203) (by decide +kernel)) rfl
theorem mw_204 : (.fieldLink "BackBridge$Land" 22 "BackBridge$Land" "length" "[I" : Cond) ∈ sm_wl := sn_m (List.mem_of_getElem? (i := 204) (by decide +kernel)) rfl
theorem mw_205 : (.fieldLink "BackBridge$Deeds" 64 "BackBridge$Land" "length" "[I" : Cond) ∈ sm_wl := sn_m (List.mem_of_getElem? (i := 205) (by decide +kernel)) rfl
theorem mw_206 : (.fieldLink "BackBridge$Search" 123 "BackBridge$Land" "length" "[I" : Cond) ∈ sm_wl := sn_m (List.mem_of_getElem? (i := 206) (by decide +kernel)) rfl
theorem mw_207 : (.fieldLink "BackBridge" 174 "BackBridge$Land" "length" "[I" : Cond) ∈ sm_wl := sn_m (List.mem_of_getElem? (i := 207) (by decide +kernel)) rfl
theorem mw_208 : (.fieldLink "BackBridge$Reader" 172 "BackBridge$Land" "length" "[I" : Cond) ∈ sm_wl := sn_m (List.mem_of_getElem? (i := 208) (by decide +kernel)) rfl
theorem mw_209 : (.fieldLink "BackBridge$Land" 25 "BackBridge$Land" "flood" "[I" : Cond) ∈ sm_wl := sn_m (List.mem_of_getElem? (i := 209) (by decide +kernel)) rfl
theorem mw_210 : (.fieldLink "BackBridge" 180 "BackBridge$Land" "flood" "[I" : Cond) ∈ sm_wl := sn_m (List.mem_of_getElem? (i := 210) (by decide +kernel)) rfl
theorem mw_211 : (.fieldLink "BackBridge$Choices" 129 "BackBridge$Land" "flood" "[I" : Cond) ∈ sm_wl := sn_m (List.mem_of_getElem? (i := 211) (by decide +kernel)) rfl
theorem mw_212 : (.fieldLink "BackBridge$Reader" 174 "BackBridge$Land" "flood" "[I" : Cond) ∈ sm_wl := sn_m (List.mem_of_getElem? (i := 212) (by decide +kernel)) rfl
theorem mw_213 : (.fieldLink "BackBridge$Land" 28 "BackBridge$Land" "at" "[I" : Cond) ∈ sm_wl := sn_m (List.mem_of_getElem? (i := 213) (by decide +kernel)) rfl
theorem mw_214 : (.fieldLink "BackBridge$World" 42 "BackBridge$Land" "at" "[I" : Cond) ∈ sm_wl := sn_m (List.mem_of_getElem? (i := 214) (by decide +kernel)) rfl
theorem mw_215 : (.fieldLink "BackBridge$Reader" 194 "BackBridge$Land" "at" "[I" : Cond) ∈ sm_wl := sn_m (List.mem_of_getElem? (i := 215) (by decide +kernel)) rfl
theorem mw_216 : (.fieldLink "BackBridge$Land" 31 "BackBridge$Land" "born" "[I" : Cond) ∈ sm_wl := sn_m (List.mem_of_getElem? (i := 216) (by decide +kernel)) rfl
theorem mw_217 : (.fieldLink "BackBridge$World" 46 "BackBridge$Land" "born" "[I" : Cond) ∈ sm_wl := sn_m (List.mem_of_getElem? (i := 217) (by decide +kernel)) rfl
theorem mw_218 : (.fieldLink "BackBridge$Answers" 49 "BackBridge$Land" "born" "[I" : Cond) ∈ sm_wl := sn_m (List.mem_of_getElem? (i := 218) (by decide +kernel)) rfl
theorem mw_219 : (.fieldLink "BackBridge$Laws" 69 "BackBridge$Land" "born" "[I" : Cond) ∈ sm_wl := sn_m (List.mem_of_getElem? (i := 219) (by decide +kernel)) rfl
theorem mw_220 : (.fieldLink "BackBridge" 153 "BackBridge$Land" "born" "[I" : Cond) ∈ sm_wl := sn_m (List.mem_of_getElem? (i := 220) (by decide +kernel)) rfl
theorem mw_221 : (.fieldLink "BackBridge$Reader" 196 "BackBridge$Land" "born" "[I" : Cond) ∈ sm_wl := sn_m (List.mem_of_getElem? (i := 221) (by decide +kernel)) rfl
theorem mw_222 : (.fieldLink "BackBridge$Land" 34 "BackBridge$Land" "papers" "[I" : Cond) ∈ sm_wl := sn_m (List.mem_of_getElem? (i := 222) (by decide +kernel)) rfl
theorem mw_223 : (.fieldLink "BackBridge$World" 45 "BackBridge$Land" "papers" "[I" : Cond) ∈ sm_wl := sn_m (List.mem_of_getElem? (i := 223) (by decide +kernel)) rfl
theorem mw_224 : (.fieldLink "BackBridge$Reader" 198 "BackBridge$Land" "papers" "[I" : Cond) ∈ sm_wl := sn_m (List.mem_of_getElem? (i := 224) (by decide +kernel)) rfl
theorem mw_225 : (.fieldLink "BackBridge$Land" 37 "BackBridge$Land" "errand" "[I" : Cond) ∈ sm_wl := sn_m (List.mem_of_getElem? (i := 225) (by decide +kernel)) rfl
theorem mw_226 : (.fieldLink "BackBridge$World" 49 "BackBridge$Land" "errand" "[I" : Cond) ∈ sm_wl := sn_m (List.mem_of_getElem? (i := 226) (by decide +kernel)) rfl
theorem mw_227 : (.fieldLink "BackBridge$Deeds" 67 "BackBridge$Land" "errand" "[I" : Cond) ∈ sm_wl := sn_m (List.mem_of_getElem? (i := 227) (by decide +kernel)) rfl
theorem mw_228 : (.fieldLink "BackBridge$Choices" 74 "BackBridge$Land" "errand" "[I" : Cond) ∈ sm_wl := sn_m (List.mem_of_getElem? (i := 228) (by decide +kernel)) rfl
theorem mw_229 : (.fieldLink "BackBridge" 156 "BackBridge$Land" "errand" "[I" : Cond) ∈ sm_wl := sn_m (List.mem_of_getElem? (i := 229) (by decide +kernel)) rfl
theorem mw_230 : (.fieldLink "BackBridge$Reader" 200 "BackBridge$Land" "errand" "[I" : Cond) ∈ sm_wl := sn_m (List.mem_of_getElem? (i := 230) (by decide +kernel)) rfl
theorem mw_231 : (.fieldLink "BackBridge$Land" 40 "BackBridge$Land" "by" "[I" : Cond) ∈ sm_wl := sn_m (List.mem_of_getElem? (i := 231) (by decide +kernel)) rfl
theorem mw_232 : (.fieldLink "BackBridge$Deeds" 70 "BackBridge$Land" "by" "[I" : Cond) ∈ sm_wl := sn_m (List.mem_of_getElem? (i := 232) (by decide +kernel)) rfl
theorem mw_233 : (.fieldLink "BackBridge" 159 "BackBridge$Land" "by" "[I" : Cond) ∈ sm_wl := sn_m (List.mem_of_getElem? (i := 233) (by decide +kernel)) rfl
theorem mw_234 : (.fieldLink "BackBridge$Choices" 80 "BackBridge$Land" "by" "[I" : Cond) ∈ sm_wl := sn_m (List.mem_of_getElem? (i := 234) (by decide +kernel)) rfl
theorem mw_235 : (.fieldLink "BackBridge$Reader" 203 "BackBridge$Land" "by" "[I" : Cond) ∈ sm_wl := sn_m (List.mem_of_getElem? (i := 235) (by decide +kernel)) rfl
theorem mw_236 : (.fieldLink "BackBridge$Land" 46 "BackBridge$Land" "letsOver" "LBackBridge$Law;" : Cond) ∈ sm_wl := sn_m (List.mem_of_getElem? (i := 236) (by decide +kernel)) rfl
theorem mw_237 : (.fieldLink "BackBridge$Laws" 46 "BackBridge$Land" "letsOver" "LBackBridge$Law;" : Cond) ∈ sm_wl := sn_m (List.mem_of_getElem? (i := 237) (by decide +kernel)) rfl
theorem mw_238 : (.fieldLink "BackBridge$Reader" 149 "BackBridge$Land" "letsOver" "LBackBridge$Law;" : Cond) ∈ sm_wl := sn_m (List.mem_of_getElem? (i := 238) (by decide +kernel)) rfl
theorem mw_239 : (.fieldLink "BackBridge$Reader" 32 "BackBridge$Land" "toll" "LBackBridge$Law;" : Cond) ∈ sm_wl := sn_m (List.mem_of_getElem? (i := 239) (by decide +kernel)) rfl
theorem mw_240 : (.fieldLink "BackBridge$Land" 50 "BackBridge$Land" "toll" "LBackBridge$Law;" : Cond) ∈ sm_wl := sn_m (List.mem_of_getElem? (i := 240) (by decide +kernel)) rfl
theorem mw_241 : (.fieldLink "BackBridge$Laws" 60 "BackBridge$Land" "toll" "LBackBridge$Law;" : Cond) ∈ sm_wl := sn_m (List.mem_of_getElem? (i := 241) (by decide +kernel)) rfl
theorem mw_281 : (.fieldLink "BackBridge$World" 9 "BackBridge$World" "place" "[I" : Cond) ∈ sm_wl := sn_m (List.mem_of_getElem? (i := 281) (by decide +kernel)) rfl
theorem mw_282 : (.fieldLink "BackBridge$Search" 45 "BackBridge$World" "place" "[I" : Cond) ∈ sm_wl := sn_m (List.mem_of_getElem? (i := 282) (by decide +kernel)) rfl
theorem mw_283 : (.fieldLink "BackBridge$Deeds" 28 "BackBridge$World" "place" "[I" : Cond) ∈ sm_wl := sn_m (List.mem_of_getElem? (i := 283) (by decide +kernel)) rfl
theorem mw_284 : (.fieldLink "BackBridge$Answers" 52 "BackBridge$World" "place" "[I" : Cond) ∈ sm_wl := sn_m (List.mem_of_getElem? (i := 284) (by decide +kernel)) rfl
theorem mw_285 : (.fieldLink "BackBridge" 140 "BackBridge$World" "place" "[I" : Cond) ∈ sm_wl := sn_m (List.mem_of_getElem? (i := 285) (by decide +kernel)) rfl
theorem mw_286 : (.fieldLink "BackBridge$World" 15 "BackBridge$World" "day" "[I" : Cond) ∈ sm_wl := sn_m (List.mem_of_getElem? (i := 286) (by decide +kernel)) rfl
theorem mw_287 : (.fieldLink "BackBridge$Deeds" 61 "BackBridge$World" "day" "[I" : Cond) ∈ sm_wl := sn_m (List.mem_of_getElem? (i := 287) (by decide +kernel)) rfl
theorem mw_288 : (.fieldLink "BackBridge" 144 "BackBridge$World" "day" "[I" : Cond) ∈ sm_wl := sn_m (List.mem_of_getElem? (i := 288) (by decide +kernel)) rfl
theorem mw_289 : (.fieldLink "BackBridge$Choices" 83 "BackBridge$World" "day" "[I" : Cond) ∈ sm_wl := sn_m (List.mem_of_getElem? (i := 289) (by decide +kernel)) rfl
theorem mw_290 : (.fieldLink "BackBridge$World" 18 "BackBridge$World" "papers" "[I" : Cond) ∈ sm_wl := sn_m (List.mem_of_getElem? (i := 290) (by decide +kernel)) rfl
theorem mw_291 : (.fieldLink "BackBridge$Search" 58 "BackBridge$World" "papers" "[I" : Cond) ∈ sm_wl := sn_m (List.mem_of_getElem? (i := 291) (by decide +kernel)) rfl
theorem mw_292 : (.fieldLink "BackBridge$Deeds" 48 "BackBridge$World" "papers" "[I" : Cond) ∈ sm_wl := sn_m (List.mem_of_getElem? (i := 292) (by decide +kernel)) rfl
theorem mw_293 : (.fieldLink "BackBridge$Answers" 93 "BackBridge$World" "papers" "[I" : Cond) ∈ sm_wl := sn_m (List.mem_of_getElem? (i := 293) (by decide +kernel)) rfl
theorem mw_294 : (.fieldLink "BackBridge" 147 "BackBridge$World" "papers" "[I" : Cond) ∈ sm_wl := sn_m (List.mem_of_getElem? (i := 294) (by decide +kernel)) rfl
theorem mw_295 : (.fieldLink "BackBridge$Choices" 107 "BackBridge$World" "papers" "[I" : Cond) ∈ sm_wl := sn_m (List.mem_of_getElem? (i := 295) (by decide +kernel)) rfl
theorem mw_296 : (.fieldLink "BackBridge$World" 21 "BackBridge$World" "been" "[I" : Cond) ∈ sm_wl := sn_m (List.mem_of_getElem? (i := 296) (by decide +kernel)) rfl
theorem mw_297 : (.fieldLink "BackBridge$Search" 53 "BackBridge$World" "been" "[I" : Cond) ∈ sm_wl := sn_m (List.mem_of_getElem? (i := 297) (by decide +kernel)) rfl
theorem mw_298 : (.fieldLink "BackBridge$Deeds" 45 "BackBridge$World" "been" "[I" : Cond) ∈ sm_wl := sn_m (List.mem_of_getElem? (i := 298) (by decide +kernel)) rfl
theorem mw_299 : (.fieldLink "BackBridge" 150 "BackBridge$World" "been" "[I" : Cond) ∈ sm_wl := sn_m (List.mem_of_getElem? (i := 299) (by decide +kernel)) rfl
theorem mw_300 : (.fieldLink "BackBridge$World" 24 "BackBridge$World" "done" "I" : Cond) ∈ sm_wl := sn_m (List.mem_of_getElem? (i := 300) (by decide +kernel)) rfl
theorem mw_301 : (.fieldLink "BackBridge$Deeds" 73 "BackBridge$World" "done" "I" : Cond) ∈ sm_wl := sn_m (List.mem_of_getElem? (i := 301) (by decide +kernel)) rfl
theorem mw_302 : (.fieldLink "BackBridge$Choices" 77 "BackBridge$World" "done" "I" : Cond) ∈ sm_wl := sn_m (List.mem_of_getElem? (i := 302) (by decide +kernel)) rfl
theorem mw_303 : (.fieldLink "BackBridge" 162 "BackBridge$World" "done" "I" : Cond) ∈ sm_wl := sn_m (List.mem_of_getElem? (i := 303) (by decide +kernel)) rfl
theorem mw_304 : (.fieldLink "BackBridge$World" 28 "BackBridge$World" "shut" "I" : Cond) ∈ sm_wl := sn_m (List.mem_of_getElem? (i := 304) (by decide +kernel)) rfl
theorem mw_305 : (.fieldLink "BackBridge$Search" 63 "BackBridge$World" "shut" "I" : Cond) ∈ sm_wl := sn_m (List.mem_of_getElem? (i := 305) (by decide +kernel)) rfl
theorem mw_306 : (.fieldLink "BackBridge$Deeds" 38 "BackBridge$World" "shut" "I" : Cond) ∈ sm_wl := sn_m (List.mem_of_getElem? (i := 306) (by decide +kernel)) rfl
theorem mw_307 : (.fieldLink "BackBridge$Choices" 53 "BackBridge$World" "shut" "I" : Cond) ∈ sm_wl := sn_m (List.mem_of_getElem? (i := 307) (by decide +kernel)) rfl
theorem mw_308 : (.fieldLink "BackBridge" 183 "BackBridge$World" "shut" "I" : Cond) ∈ sm_wl := sn_m (List.mem_of_getElem? (i := 308) (by decide +kernel)) rfl
theorem mw_330 : (.fieldLink "BackBridge$Reader" 12 "BackBridge$Reader" "draft" "LBackBridge$Land;" : Cond) ∈ sm_wl := sn_m (List.mem_of_getElem? (i := 330) (by decide +kernel)) rfl
theorem mw_331 : (.fieldLink "BackBridge" 114 "BackBridge$Reader" "draft" "LBackBridge$Land;" : Cond) ∈ sm_wl := sn_m (List.mem_of_getElem? (i := 331) (by decide +kernel)) rfl
theorem mw_332 : (.fieldLink "BackBridge$Reader" 18 "BackBridge$Reader" "kind" "[I" : Cond) ∈ sm_wl := sn_m (List.mem_of_getElem? (i := 332) (by decide +kernel)) rfl
theorem mw_333 : (.fieldLink "BackBridge$Reader" 22 "BackBridge$Reader" "value" "[I" : Cond) ∈ sm_wl := sn_m (List.mem_of_getElem? (i := 333) (by decide +kernel)) rfl
theorem mw_334 : (.fieldLink "BackBridge$Reader" 25 "BackBridge$Reader" "start" "[I" : Cond) ∈ sm_wl := sn_m (List.mem_of_getElem? (i := 334) (by decide +kernel)) rfl
theorem mw_335 : (.fieldLink "BackBridge$Reader" 43 "BackBridge$Reader" "next" "I" : Cond) ∈ sm_wl := sn_m (List.mem_of_getElem? (i := 335) (by decide +kernel)) rfl
theorem mw_336 : (.fieldLink "BackBridge$Reader" 128 "BackBridge$Reader" "got" "I" : Cond) ∈ sm_wl := sn_m (List.mem_of_getElem? (i := 336) (by decide +kernel)) rfl
theorem mw_337 : (.fieldLink "BackBridge$Reader" 36 "BackBridge$Reader" "law" "LBackBridge$Law;" : Cond) ∈ sm_wl := sn_m (List.mem_of_getElem? (i := 337) (by decide +kernel)) rfl
theorem mw_338 : (.fieldLink "BackBridge$Reader" 56 "BackBridge$Reader" "fault" "I" : Cond) ∈ sm_wl := sn_m (List.mem_of_getElem? (i := 338) (by decide +kernel)) rfl
theorem mw_339 : (.fieldLink "BackBridge" 130 "BackBridge$Reader" "fault" "I" : Cond) ∈ sm_wl := sn_m (List.mem_of_getElem? (i := 339) (by decide +kernel)) rfl
theorem mw_340 : (.fieldLink "BackBridge$Reader" 28 "BackBridge$Reader" "faultAt" "I" : Cond) ∈ sm_wl := sn_m (List.mem_of_getElem? (i := 340) (by decide +kernel)) rfl
theorem mw_341 : (.fieldLink "BackBridge" 133 "BackBridge$Reader" "faultAt" "I" : Cond) ∈ sm_wl := sn_m (List.mem_of_getElem? (i := 341) (by decide +kernel)) rfl
theorem mw_367 : (.fieldLink "BackBridge$Laws" 18 "BackBridge$Laws" "land" "LBackBridge$Land;" : Cond) ∈ sm_wl := sn_m (List.mem_of_getElem? (i := 367) (by decide +kernel)) rfl
theorem mw_368 : (.fieldLink "BackBridge$Laws" 11 "BackBridge$Laws" "names" "[I" : Cond) ∈ sm_wl := sn_m (List.mem_of_getElem? (i := 368) (by decide +kernel)) rfl
theorem mw_369 : (.fieldLink "BackBridge$Laws" 15 "BackBridge$Laws" "kept" "[I" : Cond) ∈ sm_wl := sn_m (List.mem_of_getElem? (i := 369) (by decide +kernel)) rfl
theorem mw_383 : (.fieldLink "BackBridge$Deeds" 9 "BackBridge$Deeds" "land" "LBackBridge$Land;" : Cond) ∈ sm_wl := sn_m (List.mem_of_getElem? (i := 383) (by decide +kernel)) rfl
theorem mw_384 : (.fieldLink "BackBridge$Deeds" 15 "BackBridge$Deeds" "laws" "LBackBridge$Laws;" : Cond) ∈ sm_wl := sn_m (List.mem_of_getElem? (i := 384) (by decide +kernel)) rfl
theorem mw_385 : (.fieldLink "BackBridge$Deeds" 101 "BackBridge$Deeds" "stoppedBy" "I" : Cond) ∈ sm_wl := sn_m (List.mem_of_getElem? (i := 385) (by decide +kernel)) rfl
theorem mw_386 : (.fieldLink "BackBridge" 244 "BackBridge$Deeds" "stoppedBy" "I" : Cond) ∈ sm_wl := sn_m (List.mem_of_getElem? (i := 386) (by decide +kernel)) rfl
theorem mw_387 : (.fieldLink "BackBridge$Deeds" 118 "BackBridge$Deeds" "drawn" "I" : Cond) ∈ sm_wl := sn_m (List.mem_of_getElem? (i := 387) (by decide +kernel)) rfl
theorem mw_406 : (.fieldLink "BackBridge$Past" 11 "BackBridge$Past" "kept" "[LBackBridge$World;" : Cond) ∈ sm_wl := sn_m (List.mem_of_getElem? (i := 406) (by decide +kernel)) rfl
theorem mw_407 : (.fieldLink "BackBridge$Past" 16 "BackBridge$Past" "count" "I" : Cond) ∈ sm_wl := sn_m (List.mem_of_getElem? (i := 407) (by decide +kernel)) rfl
theorem mw_408 : (.fieldLink "BackBridge" 225 "BackBridge$Past" "count" "I" : Cond) ∈ sm_wl := sn_m (List.mem_of_getElem? (i := 408) (by decide +kernel)) rfl
theorem mw_409 : (.fieldLink "BackBridge$Past" 20 "BackBridge$Past" "next" "I" : Cond) ∈ sm_wl := sn_m (List.mem_of_getElem? (i := 409) (by decide +kernel)) rfl
theorem mw_426 : (.fieldLink "BackBridge$Search" 33 "BackBridge$Search" "land" "LBackBridge$Land;" : Cond) ∈ sm_wl := sn_m (List.mem_of_getElem? (i := 426) (by decide +kernel)) rfl
theorem mw_427 : (.fieldLink "BackBridge$Search" 37 "BackBridge$Search" "laws" "LBackBridge$Laws;" : Cond) ∈ sm_wl := sn_m (List.mem_of_getElem? (i := 427) (by decide +kernel)) rfl
theorem mw_428 : (.fieldLink "BackBridge$Search" 41 "BackBridge$Search" "who" "I" : Cond) ∈ sm_wl := sn_m (List.mem_of_getElem? (i := 428) (by decide +kernel)) rfl
theorem mw_429 : (.fieldLink "BackBridge$Search" 50 "BackBridge$Search" "at" "I" : Cond) ∈ sm_wl := sn_m (List.mem_of_getElem? (i := 429) (by decide +kernel)) rfl
theorem mw_430 : (.fieldLink "BackBridge$Search" 56 "BackBridge$Search" "been" "I" : Cond) ∈ sm_wl := sn_m (List.mem_of_getElem? (i := 430) (by decide +kernel)) rfl
theorem mw_431 : (.fieldLink "BackBridge$Search" 61 "BackBridge$Search" "papers" "I" : Cond) ∈ sm_wl := sn_m (List.mem_of_getElem? (i := 431) (by decide +kernel)) rfl
theorem mw_432 : (.fieldLink "BackBridge$Choices" 64 "BackBridge$Search" "papers" "I" : Cond) ∈ sm_wl := sn_m (List.mem_of_getElem? (i := 432) (by decide +kernel)) rfl
theorem mw_433 : (.fieldLink "BackBridge$Search" 66 "BackBridge$Search" "closed" "I" : Cond) ∈ sm_wl := sn_m (List.mem_of_getElem? (i := 433) (by decide +kernel)) rfl
theorem mw_434 : (.fieldLink "BackBridge$Choices" 58 "BackBridge$Search" "closed" "I" : Cond) ∈ sm_wl := sn_m (List.mem_of_getElem? (i := 434) (by decide +kernel)) rfl
theorem mw_435 : (.fieldLink "BackBridge$Search" 69 "BackBridge$Search" "waived" "I" : Cond) ∈ sm_wl := sn_m (List.mem_of_getElem? (i := 435) (by decide +kernel)) rfl
theorem mw_436 : (.fieldLink "BackBridge$Choices" 71 "BackBridge$Search" "waived" "I" : Cond) ∈ sm_wl := sn_m (List.mem_of_getElem? (i := 436) (by decide +kernel)) rfl
theorem mw_437 : (.fieldLink "BackBridge$Search" 72 "BackBridge$Search" "masks" "I" : Cond) ∈ sm_wl := sn_m (List.mem_of_getElem? (i := 437) (by decide +kernel)) rfl
theorem mw_438 : (.fieldLink "BackBridge$Search" 12 "BackBridge$Search" "far" "[I" : Cond) ∈ sm_wl := sn_m (List.mem_of_getElem? (i := 438) (by decide +kernel)) rfl
theorem mw_439 : (.fieldLink "BackBridge$Search" 16 "BackBridge$Search" "came" "[I" : Cond) ∈ sm_wl := sn_m (List.mem_of_getElem? (i := 439) (by decide +kernel)) rfl
theorem mw_440 : (.fieldLink "BackBridge$Search" 19 "BackBridge$Search" "seenIn" "[I" : Cond) ∈ sm_wl := sn_m (List.mem_of_getElem? (i := 440) (by decide +kernel)) rfl
theorem mw_441 : (.fieldLink "BackBridge$Search" 75 "BackBridge$Search" "turn" "I" : Cond) ∈ sm_wl := sn_m (List.mem_of_getElem? (i := 441) (by decide +kernel)) rfl
theorem mw_442 : (.fieldLink "BackBridge$Search" 22 "BackBridge$Search" "end" "[I" : Cond) ∈ sm_wl := sn_m (List.mem_of_getElem? (i := 442) (by decide +kernel)) rfl
theorem mw_443 : (.fieldLink "BackBridge$Search" 84 "BackBridge$Search" "crossed" "I" : Cond) ∈ sm_wl := sn_m (List.mem_of_getElem? (i := 443) (by decide +kernel)) rfl
theorem mw_444 : (.fieldLink "BackBridge" 320 "BackBridge$Search" "crossed" "I" : Cond) ∈ sm_wl := sn_m (List.mem_of_getElem? (i := 444) (by decide +kernel)) rfl
theorem mw_445 : (.fieldLink "BackBridge$Search" 88 "BackBridge$Search" "loopDays" "I" : Cond) ∈ sm_wl := sn_m (List.mem_of_getElem? (i := 445) (by decide +kernel)) rfl
theorem mw_446 : (.fieldLink "BackBridge$Search" 91 "BackBridge$Search" "loopEnd" "I" : Cond) ∈ sm_wl := sn_m (List.mem_of_getElem? (i := 446) (by decide +kernel)) rfl
theorem mw_447 : (.fieldLink "BackBridge$Search" 25 "BackBridge$Search" "spelled" "[I" : Cond) ∈ sm_wl := sn_m (List.mem_of_getElem? (i := 447) (by decide +kernel)) rfl
theorem mw_448 : (.fieldLink "BackBridge$Search" 154 "BackBridge$Search" "spelledCount" "I" : Cond) ∈ sm_wl := sn_m (List.mem_of_getElem? (i := 448) (by decide +kernel)) rfl
theorem mw_449 : (.fieldLink "BackBridge" 379 "BackBridge$Search" "spelledCount" "I" : Cond) ∈ sm_wl := sn_m (List.mem_of_getElem? (i := 449) (by decide +kernel)) rfl
theorem mw_450 : (.fieldLink "BackBridge$Search" 30 "BackBridge$Search" "tally" "[[J" : Cond) ∈ sm_wl := sn_m (List.mem_of_getElem? (i := 450) (by decide +kernel)) rfl
theorem mw_499 : (.fieldLink "BackBridge$Choices" 18 "BackBridge$Choices" "land" "LBackBridge$Land;" : Cond) ∈ sm_wl := sn_m (List.mem_of_getElem? (i := 499) (by decide +kernel)) rfl
theorem mw_500 : (.fieldLink "BackBridge$Choices" 22 "BackBridge$Choices" "world" "LBackBridge$World;" : Cond) ∈ sm_wl := sn_m (List.mem_of_getElem? (i := 500) (by decide +kernel)) rfl
theorem mw_501 : (.fieldLink "BackBridge$Choices" 26 "BackBridge$Choices" "search" "LBackBridge$Search;" : Cond) ∈ sm_wl := sn_m (List.mem_of_getElem? (i := 501) (by decide +kernel)) rfl
theorem mw_502 : (.fieldLink "BackBridge$Choices" 9 "BackBridge$Choices" "firstDays" "[I" : Cond) ∈ sm_wl := sn_m (List.mem_of_getElem? (i := 502) (by decide +kernel)) rfl
theorem mw_503 : (.fieldLink "BackBridge$Choices" 15 "BackBridge$Choices" "used" "[I" : Cond) ∈ sm_wl := sn_m (List.mem_of_getElem? (i := 503) (by decide +kernel)) rfl
theorem mw_504 : (.fieldLink "BackBridge$Choices" 122 "BackBridge$Choices" "dryAbove" "J" : Cond) ∈ sm_wl := sn_m (List.mem_of_getElem? (i := 504) (by decide +kernel)) rfl
theorem mw_505 : (.fieldLink "BackBridge" 354 "BackBridge$Choices" "dryAbove" "J" : Cond) ∈ sm_wl := sn_m (List.mem_of_getElem? (i := 505) (by decide +kernel)) rfl
theorem mw_506 : (.fieldLink "BackBridge$Choices" 126 "BackBridge$Choices" "dryBelow" "J" : Cond) ∈ sm_wl := sn_m (List.mem_of_getElem? (i := 506) (by decide +kernel)) rfl
theorem mw_507 : (.fieldLink "BackBridge" 357 "BackBridge$Choices" "dryBelow" "J" : Cond) ∈ sm_wl := sn_m (List.mem_of_getElem? (i := 507) (by decide +kernel)) rfl
theorem mw_530 : (.fieldLink "BackBridge$Trays" 13 "BackBridge$Trays" "number" "[[J" : Cond) ∈ sm_wl := sn_m (List.mem_of_getElem? (i := 530) (by decide +kernel)) rfl
theorem mw_531 : (.fieldLink "BackBridge$Answers" 41 "BackBridge$Trays" "number" "[[J" : Cond) ∈ sm_wl := sn_m (List.mem_of_getElem? (i := 531) (by decide +kernel)) rfl
theorem mw_532 : (.fieldLink "BackBridge$Deeds" 109 "BackBridge$Trays" "number" "[[J" : Cond) ∈ sm_wl := sn_m (List.mem_of_getElem? (i := 532) (by decide +kernel)) rfl
theorem mw_533 : (.fieldLink "BackBridge" 375 "BackBridge$Trays" "number" "[[J" : Cond) ∈ sm_wl := sn_m (List.mem_of_getElem? (i := 533) (by decide +kernel)) rfl
theorem mw_534 : (.fieldLink "BackBridge$Trays" 16 "BackBridge$Trays" "size" "[I" : Cond) ∈ sm_wl := sn_m (List.mem_of_getElem? (i := 534) (by decide +kernel)) rfl
theorem mw_535 : (.fieldLink "BackBridge$Answers" 37 "BackBridge$Trays" "size" "[I" : Cond) ∈ sm_wl := sn_m (List.mem_of_getElem? (i := 535) (by decide +kernel)) rfl
theorem mw_536 : (.fieldLink "BackBridge$Deeds" 104 "BackBridge$Trays" "size" "[I" : Cond) ∈ sm_wl := sn_m (List.mem_of_getElem? (i := 536) (by decide +kernel)) rfl
theorem mw_537 : (.fieldLink "BackBridge" 241 "BackBridge$Trays" "size" "[I" : Cond) ∈ sm_wl := sn_m (List.mem_of_getElem? (i := 537) (by decide +kernel)) rfl
theorem mw_538 : (.fieldLink "BackBridge$Trays" 20 "BackBridge$Trays" "sort" "[I" : Cond) ∈ sm_wl := sn_m (List.mem_of_getElem? (i := 538) (by decide +kernel)) rfl
theorem mw_552 : (.fieldLink "BackBridge$Answers" 9 "BackBridge$Answers" "land" "LBackBridge$Land;" : Cond) ∈ sm_wl := sn_m (List.mem_of_getElem? (i := 552) (by decide +kernel)) rfl
theorem mw_553 : (.fieldLink "BackBridge$Answers" 15 "BackBridge$Answers" "world" "LBackBridge$World;" : Cond) ∈ sm_wl := sn_m (List.mem_of_getElem? (i := 553) (by decide +kernel)) rfl
theorem mw_554 : (.fieldLink "BackBridge$Answers" 19 "BackBridge$Answers" "laws" "LBackBridge$Laws;" : Cond) ∈ sm_wl := sn_m (List.mem_of_getElem? (i := 554) (by decide +kernel)) rfl
theorem mw_555 : (.fieldLink "BackBridge$Answers" 61 "BackBridge$Answers" "sets" "J" : Cond) ∈ sm_wl := sn_m (List.mem_of_getElem? (i := 555) (by decide +kernel)) rfl
theorem mw_556 : (.fieldLink "BackBridge" 330 "BackBridge$Answers" "sets" "J" : Cond) ∈ sm_wl := sn_m (List.mem_of_getElem? (i := 556) (by decide +kernel)) rfl
theorem mw_567 : (.fieldLink "BackBridge" 9 "BackBridge" "tape" "[B" : Cond) ∈ sm_wl := sn_m (List.mem_of_getElem? (i := 567) (by decide +kernel)) rfl
theorem mw_568 : (.fieldLink "BackBridge" 102 "BackBridge" "taped" "I" : Cond) ∈ sm_wl := sn_m (List.mem_of_getElem? (i := 568) (by decide +kernel)) rfl
theorem mw_569 : (.fieldLink "BackBridge" 16 "BackBridge" "land" "LBackBridge$Land;" : Cond) ∈ sm_wl := sn_m (List.mem_of_getElem? (i := 569) (by decide +kernel)) rfl
theorem mw_570 : (.fieldLink "BackBridge" 23 "BackBridge" "world" "LBackBridge$World;" : Cond) ∈ sm_wl := sn_m (List.mem_of_getElem? (i := 570) (by decide +kernel)) rfl
theorem mw_571 : (.fieldLink "BackBridge" 27 "BackBridge" "before" "LBackBridge$World;" : Cond) ∈ sm_wl := sn_m (List.mem_of_getElem? (i := 571) (by decide +kernel)) rfl
theorem mw_572 : (.fieldLink "BackBridge" 33 "BackBridge" "reader" "LBackBridge$Reader;" : Cond) ∈ sm_wl := sn_m (List.mem_of_getElem? (i := 572) (by decide +kernel)) rfl
theorem mw_573 : (.fieldLink "BackBridge" 42 "BackBridge" "laws" "LBackBridge$Laws;" : Cond) ∈ sm_wl := sn_m (List.mem_of_getElem? (i := 573) (by decide +kernel)) rfl
theorem mw_574 : (.fieldLink "BackBridge" 51 "BackBridge" "deeds" "LBackBridge$Deeds;" : Cond) ∈ sm_wl := sn_m (List.mem_of_getElem? (i := 574) (by decide +kernel)) rfl
theorem mw_575 : (.fieldLink "BackBridge" 58 "BackBridge" "past" "LBackBridge$Past;" : Cond) ∈ sm_wl := sn_m (List.mem_of_getElem? (i := 575) (by decide +kernel)) rfl
theorem mw_576 : (.fieldLink "BackBridge" 65 "BackBridge" "search" "LBackBridge$Search;" : Cond) ∈ sm_wl := sn_m (List.mem_of_getElem? (i := 576) (by decide +kernel)) rfl
theorem mw_577 : (.fieldLink "BackBridge" 74 "BackBridge" "choices" "LBackBridge$Choices;" : Cond) ∈ sm_wl := sn_m (List.mem_of_getElem? (i := 577) (by decide +kernel)) rfl
theorem mw_578 : (.fieldLink "BackBridge" 81 "BackBridge" "trays" "LBackBridge$Trays;" : Cond) ∈ sm_wl := sn_m (List.mem_of_getElem? (i := 578) (by decide +kernel)) rfl
theorem mw_579 : (.fieldLink "BackBridge" 90 "BackBridge" "answers" "LBackBridge$Answers;" : Cond) ∈ sm_wl := sn_m (List.mem_of_getElem? (i := 579) (by decide +kernel)) rfl
theorem mw_580 : (.fieldLink "BackBridge" 94 "BackBridge" "imageLands" "[LBackBridge$Land;" : Cond) ∈ sm_wl := sn_m (List.mem_of_getElem? (i := 580) (by decide +kernel)) rfl
theorem mw_581 : (.fieldLink "BackBridge" 98 "BackBridge" "imageWorlds" "[LBackBridge$World;" : Cond) ∈ sm_wl := sn_m (List.mem_of_getElem? (i := 581) (by decide +kernel)) rfl
theorem mw_582 : (.fieldLink "BackBridge" 387 "BackBridge" "imagesMade" "I" : Cond) ∈ sm_wl := sn_m (List.mem_of_getElem? (i := 582) (by decide +kernel)) rfl
set_option maxRecDepth 100000 in
theorem mw_619 : (.code ⟨"BackBridge", "feed", "(IIIII)I"⟩ prog_1_method_2_code 6 (some .int) : Cond) ∈ sm_wl := sn_m (List.mem_of_getElem? (i := 619) (by rfl)) rfl
theorem mw_620 : (.methodLink "BackBridge" 106 ⟨"BackBridge", "feedOne", "(I)V"⟩ : Cond) ∈ sm_wl := sn_m (List.mem_of_getElem? (i := 620) (by decide +kernel)) rfl
theorem mw_622 : (.instanceMethod ⟨"BackBridge", "feedOne", "(I)V"⟩ : Cond) ∈ sm_wl := sn_m (List.mem_of_getElem? (i := 622) (by decide +kernel)) rfl
set_option maxRecDepth 100000 in
theorem mw_623 : (.code ⟨"BackBridge", "feedOne", "(I)V"⟩ prog_1_method_3_code 3 none : Cond) ∈ sm_wl := sn_m (List.mem_of_getElem? (i := 623) (by rfl)) rfl
set_option maxRecDepth 100000 in
theorem mw_627 : (.code ⟨"BackBridge", "land", "(I)I"⟩ prog_1_method_4_code 3 (some .int) : Cond) ∈ sm_wl := sn_m (List.mem_of_getElem? (i := 627) (by rfl)) rfl
theorem mw_628 : (.methodLink "BackBridge" 110 ⟨"BackBridge$Reader", "readLand", "([BI)I"⟩ : Cond) ∈ sm_wl := sn_m (List.mem_of_getElem? (i := 628) (by decide +kernel)) rfl
theorem mw_629 : (.instanceMethod ⟨"BackBridge$Reader", "readLand", "([BI)I"⟩ : Cond) ∈ sm_wl := sn_m (List.mem_of_getElem? (i := 629) (by decide +kernel)) rfl
theorem mw_630 : (.selects "BackBridge$Reader" ⟨"BackBridge$Reader", "readLand", "([BI)I"⟩ ⟨"BackBridge$Reader", "readLand", "([BI)I"⟩ : Cond) ∈ sm_wl := sn_m (List.mem_of_getElem? (i := 630) (by decide +kernel)) rfl
set_option maxRecDepth 100000 in
theorem mw_631 : (.code ⟨"BackBridge$Reader", "readLand", "([BI)I"⟩ prog_9_method_2_code 5 (some .int) : Cond) ∈ sm_wl := sn_m (List.mem_of_getElem? (i := 631) (by rfl)) rfl
theorem mw_632 : (.methodLink "BackBridge$Reader" 39 ⟨"BackBridge$Reader", "splitTokens", "([BI)V"⟩ : Cond) ∈ sm_wl := sn_m (List.mem_of_getElem? (i := 632) (by decide +kernel)) rfl
theorem mw_634 : (.instanceMethod ⟨"BackBridge$Reader", "splitTokens", "([BI)V"⟩ : Cond) ∈ sm_wl := sn_m (List.mem_of_getElem? (i := 634) (by decide +kernel)) rfl
set_option maxRecDepth 100000 in
theorem mw_635 : (.code ⟨"BackBridge$Reader", "splitTokens", "([BI)V"⟩ prog_9_method_3_code 8 none : Cond) ∈ sm_wl := sn_m (List.mem_of_getElem? (i := 635) (by rfl)) rfl
theorem mw_636 : (.methodLink "BackBridge$Reader" 59 ⟨"BackBridge$Reader", "behindToken", "([BII)I"⟩ : Cond) ∈ sm_wl := sn_m (List.mem_of_getElem? (i := 636) (by decide +kernel)) rfl
theorem mw_637 : (.static ⟨"BackBridge$Reader", "behindToken", "([BII)I"⟩ : Cond) ∈ sm_wl := sn_m (List.mem_of_getElem? (i := 637) (by decide +kernel)) rfl
set_option maxRecDepth 100000 in
theorem mw_638 : (.code ⟨"BackBridge$Reader", "behindToken", "([BII)I"⟩ prog_9_method_4_code 6 (some .int) : Cond) ∈ sm_wl := sn_m (List.mem_of_getElem? (i := 638) (by rfl)) rfl
theorem mw_639 : (.methodLink "BackBridge$Reader" 63 ⟨"BackBridge$Reader", "numberIn", "([BII)I"⟩ : Cond) ∈ sm_wl := sn_m (List.mem_of_getElem? (i := 639) (by decide +kernel)) rfl
theorem mw_640 : (.static ⟨"BackBridge$Reader", "numberIn", "([BII)I"⟩ : Cond) ∈ sm_wl := sn_m (List.mem_of_getElem? (i := 640) (by decide +kernel)) rfl
set_option maxRecDepth 100000 in
theorem mw_641 : (.code ⟨"BackBridge$Reader", "numberIn", "([BII)I"⟩ prog_9_method_5_code 5 (some .int) : Cond) ∈ sm_wl := sn_m (List.mem_of_getElem? (i := 641) (by rfl)) rfl
theorem mw_642 : (.methodLink "BackBridge$Reader" 66 ⟨"BackBridge$Reader", "wordIn", "([BII)I"⟩ : Cond) ∈ sm_wl := sn_m (List.mem_of_getElem? (i := 642) (by decide +kernel)) rfl
theorem mw_643 : (.static ⟨"BackBridge$Reader", "wordIn", "([BII)I"⟩ : Cond) ∈ sm_wl := sn_m (List.mem_of_getElem? (i := 643) (by decide +kernel)) rfl
set_option maxRecDepth 100000 in
theorem mw_644 : (.code ⟨"BackBridge$Reader", "wordIn", "([BII)I"⟩ prog_9_method_6_code 7 (some .int) : Cond) ∈ sm_wl := sn_m (List.mem_of_getElem? (i := 644) (by rfl)) rfl
theorem mw_645 : (.methodLink "BackBridge$Reader" 77 ⟨"BackBridge$Reader", "word", "(I)Ljava/lang/String;"⟩ : Cond) ∈ sm_wl := sn_m (List.mem_of_getElem? (i := 645) (by decide +kernel)) rfl
theorem mw_646 : (.static ⟨"BackBridge$Reader", "word", "(I)Ljava/lang/String;"⟩ : Cond) ∈ sm_wl := sn_m (List.mem_of_getElem? (i := 646) (by decide +kernel)) rfl
set_option maxRecDepth 100000 in
theorem mw_647 : (.code ⟨"BackBridge$Reader", "word", "(I)Ljava/lang/String;"⟩ prog_9_method_7_code 1 (some (.object "java/lang/String")) : Cond) ∈ sm_wl := sn_m (List.mem_of_getElem? (i := 647) (by rfl)) rfl
theorem mw_668 : (.methodLink "BackBridge$Reader" 81 ⟨"java/lang/String", "length", "()I"⟩ : Cond) ∈ sm_wl := sn_m (List.mem_of_getElem? (i := 668) (by decide +kernel)) rfl
theorem mw_678 : (.methodLink "BackBridge$Reader" 84 ⟨"java/lang/String", "charAt", "(I)C"⟩ : Cond) ∈ sm_wl := sn_m (List.mem_of_getElem? (i := 678) (by decide +kernel)) rfl
theorem mw_717 : (.methodLink "BackBridge$Reader" 71 ⟨"java/lang/String", "indexOf", "(I)I"⟩ : Cond) ∈ sm_wl := sn_m (List.mem_of_getElem? (i := 717) (by decide +kernel)) rfl
theorem mw_733 : (.static ⟨"java/lang/Math", "max", "(II)I"⟩ : Cond) ∈ sm_wl := sn_m (List.mem_of_getElem? (i := 733) (by decide +kernel)) rfl
set_option maxRecDepth 100000 in
theorem mw_734 : (.code ⟨"java/lang/Math", "max", "(II)I"⟩ prog_18_method_65_code 2 (some .int) : Cond) ∈ sm_wl := sn_m (List.mem_of_getElem? (i := 734) (by rfl)) rfl
theorem mw_736 : (.static ⟨"java/lang/Math", "min", "(II)I"⟩ : Cond) ∈ sm_wl := sn_m (List.mem_of_getElem? (i := 736) (by decide +kernel)) rfl
set_option maxRecDepth 100000 in
theorem mw_737 : (.code ⟨"java/lang/Math", "min", "(II)I"⟩ prog_18_method_69_code 2 (some .int) : Cond) ∈ sm_wl := sn_m (List.mem_of_getElem? (i := 737) (by rfl)) rfl
theorem mw_776 : (.methodLink "BackBridge$Reader" 46 ⟨"BackBridge$Land", "clear", "()V"⟩ : Cond) ∈ sm_wl := sn_m (List.mem_of_getElem? (i := 776) (by decide +kernel)) rfl
theorem mw_777 : (.instanceMethod ⟨"BackBridge$Land", "clear", "()V"⟩ : Cond) ∈ sm_wl := sn_m (List.mem_of_getElem? (i := 777) (by decide +kernel)) rfl
theorem mw_778 : (.selects "BackBridge$Land" ⟨"BackBridge$Land", "clear", "()V"⟩ ⟨"BackBridge$Land", "clear", "()V"⟩ : Cond) ∈ sm_wl := sn_m (List.mem_of_getElem? (i := 778) (by decide +kernel)) rfl
set_option maxRecDepth 100000 in
theorem mw_779 : (.code ⟨"BackBridge$Land", "clear", "()V"⟩ prog_5_method_2_code 1 none : Cond) ∈ sm_wl := sn_m (List.mem_of_getElem? (i := 779) (by rfl)) rfl
theorem mw_780 : (.methodLink "BackBridge$Reader" 49 ⟨"BackBridge$Reader", "heading", "()I"⟩ : Cond) ∈ sm_wl := sn_m (List.mem_of_getElem? (i := 780) (by decide +kernel)) rfl
theorem mw_782 : (.instanceMethod ⟨"BackBridge$Reader", "heading", "()I"⟩ : Cond) ∈ sm_wl := sn_m (List.mem_of_getElem? (i := 782) (by decide +kernel)) rfl
set_option maxRecDepth 100000 in
theorem mw_783 : (.code ⟨"BackBridge$Reader", "heading", "()I"⟩ prog_9_method_11_code 2 (some .int) : Cond) ∈ sm_wl := sn_m (List.mem_of_getElem? (i := 783) (by rfl)) rfl
theorem mw_784 : (.methodLink "BackBridge$Reader" 137 ⟨"BackBridge$Reader", "take", "(I)I"⟩ : Cond) ∈ sm_wl := sn_m (List.mem_of_getElem? (i := 784) (by decide +kernel)) rfl
theorem mw_786 : (.instanceMethod ⟨"BackBridge$Reader", "take", "(I)I"⟩ : Cond) ∈ sm_wl := sn_m (List.mem_of_getElem? (i := 786) (by decide +kernel)) rfl
set_option maxRecDepth 100000 in
theorem mw_787 : (.code ⟨"BackBridge$Reader", "take", "(I)I"⟩ prog_9_method_8_code 2 (some .int) : Cond) ∈ sm_wl := sn_m (List.mem_of_getElem? (i := 787) (by rfl)) rfl
theorem mw_788 : (.methodLink "BackBridge$Reader" 133 ⟨"BackBridge$Reader", "number", "(III)I"⟩ : Cond) ∈ sm_wl := sn_m (List.mem_of_getElem? (i := 788) (by decide +kernel)) rfl
theorem mw_790 : (.instanceMethod ⟨"BackBridge$Reader", "number", "(III)I"⟩ : Cond) ∈ sm_wl := sn_m (List.mem_of_getElem? (i := 790) (by decide +kernel)) rfl
set_option maxRecDepth 100000 in
theorem mw_791 : (.code ⟨"BackBridge$Reader", "number", "(III)I"⟩ prog_9_method_9_code 4 (some .int) : Cond) ∈ sm_wl := sn_m (List.mem_of_getElem? (i := 791) (by rfl)) rfl
theorem mw_792 : (.methodLink "BackBridge$Reader" 53 ⟨"BackBridge$Reader", "line", "()I"⟩ : Cond) ∈ sm_wl := sn_m (List.mem_of_getElem? (i := 792) (by decide +kernel)) rfl
theorem mw_794 : (.instanceMethod ⟨"BackBridge$Reader", "line", "()I"⟩ : Cond) ∈ sm_wl := sn_m (List.mem_of_getElem? (i := 794) (by decide +kernel)) rfl
set_option maxRecDepth 100000 in
theorem mw_795 : (.code ⟨"BackBridge$Reader", "line", "()I"⟩ prog_9_method_12_code 2 (some .int) : Cond) ∈ sm_wl := sn_m (List.mem_of_getElem? (i := 795) (by rfl)) rfl
theorem mw_796 : (.methodLink "BackBridge$Reader" 143 ⟨"BackBridge$Reader", "roadLine", "()I"⟩ : Cond) ∈ sm_wl := sn_m (List.mem_of_getElem? (i := 796) (by decide +kernel)) rfl
theorem mw_798 : (.instanceMethod ⟨"BackBridge$Reader", "roadLine", "()I"⟩ : Cond) ∈ sm_wl := sn_m (List.mem_of_getElem? (i := 798) (by decide +kernel)) rfl
set_option maxRecDepth 100000 in
theorem mw_799 : (.code ⟨"BackBridge$Reader", "roadLine", "()I"⟩ prog_9_method_13_code 4 (some .int) : Cond) ∈ sm_wl := sn_m (List.mem_of_getElem? (i := 799) (by rfl)) rfl
theorem mw_800 : (.methodLink "BackBridge$Reader" 165 ⟨"BackBridge$Reader", "placeNumber", "(I)I"⟩ : Cond) ∈ sm_wl := sn_m (List.mem_of_getElem? (i := 800) (by decide +kernel)) rfl
theorem mw_802 : (.instanceMethod ⟨"BackBridge$Reader", "placeNumber", "(I)I"⟩ : Cond) ∈ sm_wl := sn_m (List.mem_of_getElem? (i := 802) (by decide +kernel)) rfl
set_option maxRecDepth 100000 in
theorem mw_803 : (.code ⟨"BackBridge$Reader", "placeNumber", "(I)I"⟩ prog_9_method_10_code 2 (some .int) : Cond) ∈ sm_wl := sn_m (List.mem_of_getElem? (i := 803) (by rfl)) rfl
theorem mw_804 : (.methodLink "BackBridge$Reader" 176 ⟨"BackBridge$Reader", "flag", "(I)I"⟩ : Cond) ∈ sm_wl := sn_m (List.mem_of_getElem? (i := 804) (by decide +kernel)) rfl
theorem mw_806 : (.instanceMethod ⟨"BackBridge$Reader", "flag", "(I)I"⟩ : Cond) ∈ sm_wl := sn_m (List.mem_of_getElem? (i := 806) (by decide +kernel)) rfl
set_option maxRecDepth 100000 in
theorem mw_807 : (.code ⟨"BackBridge$Reader", "flag", "(I)I"⟩ prog_9_method_14_code 3 (some .int) : Cond) ∈ sm_wl := sn_m (List.mem_of_getElem? (i := 807) (by rfl)) rfl
theorem mw_808 : (.methodLink "BackBridge$Reader" 179 ⟨"BackBridge$Land", "isBridge", "(I)Z"⟩ : Cond) ∈ sm_wl := sn_m (List.mem_of_getElem? (i := 808) (by decide +kernel)) rfl
theorem mw_809 : (.instanceMethod ⟨"BackBridge$Land", "isBridge", "(I)Z"⟩ : Cond) ∈ sm_wl := sn_m (List.mem_of_getElem? (i := 809) (by decide +kernel)) rfl
theorem mw_810 : (.selects "BackBridge$Land" ⟨"BackBridge$Land", "isBridge", "(I)Z"⟩ ⟨"BackBridge$Land", "isBridge", "(I)Z"⟩ : Cond) ∈ sm_wl := sn_m (List.mem_of_getElem? (i := 810) (by decide +kernel)) rfl
set_option maxRecDepth 100000 in
theorem mw_811 : (.code ⟨"BackBridge$Land", "isBridge", "(I)Z"⟩ prog_5_method_7_code 2 (some .boolean) : Cond) ∈ sm_wl := sn_m (List.mem_of_getElem? (i := 811) (by rfl)) rfl
theorem mw_812 : (.methodLink "BackBridge$Reader" 186 ⟨"java/lang/Integer", "bitCount", "(I)I"⟩ : Cond) ∈ sm_wl := sn_m (List.mem_of_getElem? (i := 812) (by decide +kernel)) rfl
theorem mw_813 : (.static ⟨"java/lang/Integer", "bitCount", "(I)I"⟩ : Cond) ∈ sm_wl := sn_m (List.mem_of_getElem? (i := 813) (by decide +kernel)) rfl
set_option maxRecDepth 100000 in
theorem mw_814 : (.code ⟨"java/lang/Integer", "bitCount", "(I)I"⟩ prog_16_method_49_code 1 (some .int) : Cond) ∈ sm_wl := sn_m (List.mem_of_getElem? (i := 814) (by rfl)) rfl
theorem mw_815 : (.constant "java/lang/Integer" 265 (1431655765) : Cond) ∈ sm_wl := sn_m (List.mem_of_getElem? (i := 815) (by decide +kernel)) rfl
theorem mw_816 : (.constant "java/lang/Integer" 266 (858993459) : Cond) ∈ sm_wl := sn_m (List.mem_of_getElem? (i := 816) (by decide +kernel)) rfl
theorem mw_817 : (.constant "java/lang/Integer" 267 (252645135) : Cond) ∈ sm_wl := sn_m (List.mem_of_getElem? (i := 817) (by decide +kernel)) rfl
theorem mw_818 : (.methodLink "BackBridge$Reader" 146 ⟨"BackBridge$Reader", "personLine", "()I"⟩ : Cond) ∈ sm_wl := sn_m (List.mem_of_getElem? (i := 818) (by decide +kernel)) rfl
theorem mw_820 : (.instanceMethod ⟨"BackBridge$Reader", "personLine", "()I"⟩ : Cond) ∈ sm_wl := sn_m (List.mem_of_getElem? (i := 820) (by decide +kernel)) rfl
set_option maxRecDepth 100000 in
theorem mw_821 : (.code ⟨"BackBridge$Reader", "personLine", "()I"⟩ prog_9_method_15_code 4 (some .int) : Cond) ∈ sm_wl := sn_m (List.mem_of_getElem? (i := 821) (by rfl)) rfl
theorem mw_822 : (.methodLink "BackBridge$Reader" 205 ⟨"BackBridge$Reader", "mark", "(I)I"⟩ : Cond) ∈ sm_wl := sn_m (List.mem_of_getElem? (i := 822) (by decide +kernel)) rfl
theorem mw_824 : (.instanceMethod ⟨"BackBridge$Reader", "mark", "(I)I"⟩ : Cond) ∈ sm_wl := sn_m (List.mem_of_getElem? (i := 824) (by decide +kernel)) rfl
set_option maxRecDepth 100000 in
theorem mw_825 : (.code ⟨"BackBridge$Reader", "mark", "(I)I"⟩ prog_9_method_16_code 3 (some .int) : Cond) ∈ sm_wl := sn_m (List.mem_of_getElem? (i := 825) (by rfl)) rfl
theorem mw_826 : (.methodLink "BackBridge$Reader" 152 ⟨"BackBridge$Reader", "lawBegins", "(LBackBridge$Law;)I"⟩ : Cond) ∈ sm_wl := sn_m (List.mem_of_getElem? (i := 826) (by decide +kernel)) rfl
theorem mw_828 : (.instanceMethod ⟨"BackBridge$Reader", "lawBegins", "(LBackBridge$Law;)I"⟩ : Cond) ∈ sm_wl := sn_m (List.mem_of_getElem? (i := 828) (by decide +kernel)) rfl
set_option maxRecDepth 100000 in
theorem mw_829 : (.code ⟨"BackBridge$Reader", "lawBegins", "(LBackBridge$Law;)I"⟩ prog_9_method_17_code 2 (some .int) : Cond) ∈ sm_wl := sn_m (List.mem_of_getElem? (i := 829) (by rfl)) rfl
theorem mw_830 : (.methodLink "BackBridge$Reader" 156 ⟨"BackBridge$Reader", "truth", "(I)I"⟩ : Cond) ∈ sm_wl := sn_m (List.mem_of_getElem? (i := 830) (by decide +kernel)) rfl
theorem mw_832 : (.instanceMethod ⟨"BackBridge$Reader", "truth", "(I)I"⟩ : Cond) ∈ sm_wl := sn_m (List.mem_of_getElem? (i := 832) (by decide +kernel)) rfl
set_option maxRecDepth 100000 in
theorem mw_833 : (.code ⟨"BackBridge$Reader", "truth", "(I)I"⟩ prog_9_method_18_code 6 (some .int) : Cond) ∈ sm_wl := sn_m (List.mem_of_getElem? (i := 833) (by rfl)) rfl
theorem mw_834 : (.methodLink "BackBridge$Reader" 213 ⟨"BackBridge$Reader", "unit", "(I)I"⟩ : Cond) ∈ sm_wl := sn_m (List.mem_of_getElem? (i := 834) (by decide +kernel)) rfl
theorem mw_836 : (.instanceMethod ⟨"BackBridge$Reader", "unit", "(I)I"⟩ : Cond) ∈ sm_wl := sn_m (List.mem_of_getElem? (i := 836) (by decide +kernel)) rfl
set_option maxRecDepth 100000 in
theorem mw_837 : (.code ⟨"BackBridge$Reader", "unit", "(I)I"⟩ prog_9_method_19_code 5 (some .int) : Cond) ∈ sm_wl := sn_m (List.mem_of_getElem? (i := 837) (by rfl)) rfl
theorem mw_838 : (.methodLink "BackBridge$Reader" 216 ⟨"BackBridge$Law", "add", "(I)V"⟩ : Cond) ∈ sm_wl := sn_m (List.mem_of_getElem? (i := 838) (by decide +kernel)) rfl
theorem mw_839 : (.instanceMethod ⟨"BackBridge$Law", "add", "(I)V"⟩ : Cond) ∈ sm_wl := sn_m (List.mem_of_getElem? (i := 839) (by decide +kernel)) rfl
theorem mw_840 : (.selects "BackBridge$Law" ⟨"BackBridge$Law", "add", "(I)V"⟩ ⟨"BackBridge$Law", "add", "(I)V"⟩ : Cond) ∈ sm_wl := sn_m (List.mem_of_getElem? (i := 840) (by decide +kernel)) rfl
set_option maxRecDepth 100000 in
theorem mw_841 : (.code ⟨"BackBridge$Law", "add", "(I)V"⟩ prog_6_method_3_code 2 none : Cond) ∈ sm_wl := sn_m (List.mem_of_getElem? (i := 841) (by rfl)) rfl
theorem mw_842 : (.methodLink "BackBridge$Reader" 159 ⟨"BackBridge$Reader", "sum", "(I)I"⟩ : Cond) ∈ sm_wl := sn_m (List.mem_of_getElem? (i := 842) (by decide +kernel)) rfl
theorem mw_844 : (.instanceMethod ⟨"BackBridge$Reader", "sum", "(I)I"⟩ : Cond) ∈ sm_wl := sn_m (List.mem_of_getElem? (i := 844) (by decide +kernel)) rfl
set_option maxRecDepth 100000 in
theorem mw_845 : (.code ⟨"BackBridge$Reader", "sum", "(I)I"⟩ prog_9_method_21_code 6 (some .int) : Cond) ∈ sm_wl := sn_m (List.mem_of_getElem? (i := 845) (by rfl)) rfl
theorem mw_846 : (.methodLink "BackBridge$Reader" 223 ⟨"BackBridge$Reader", "atom", "(I)I"⟩ : Cond) ∈ sm_wl := sn_m (List.mem_of_getElem? (i := 846) (by decide +kernel)) rfl
theorem mw_848 : (.instanceMethod ⟨"BackBridge$Reader", "atom", "(I)I"⟩ : Cond) ∈ sm_wl := sn_m (List.mem_of_getElem? (i := 848) (by decide +kernel)) rfl
set_option maxRecDepth 100000 in
theorem mw_849 : (.code ⟨"BackBridge$Reader", "atom", "(I)I"⟩ prog_9_method_22_code 4 (some .int) : Cond) ∈ sm_wl := sn_m (List.mem_of_getElem? (i := 849) (by rfl)) rfl
theorem mw_850 : (.methodLink "BackBridge$Reader" 220 ⟨"BackBridge$Reader", "comparison", "(I)I"⟩ : Cond) ∈ sm_wl := sn_m (List.mem_of_getElem? (i := 850) (by decide +kernel)) rfl
theorem mw_851 : (.static ⟨"BackBridge$Reader", "comparison", "(I)I"⟩ : Cond) ∈ sm_wl := sn_m (List.mem_of_getElem? (i := 851) (by decide +kernel)) rfl
set_option maxRecDepth 100000 in
theorem mw_852 : (.code ⟨"BackBridge$Reader", "comparison", "(I)I"⟩ prog_9_method_20_code 1 (some .int) : Cond) ∈ sm_wl := sn_m (List.mem_of_getElem? (i := 852) (by rfl)) rfl
theorem mw_853 : (.methodLink "BackBridge" 117 ⟨"BackBridge$Land", "copyFrom", "(LBackBridge$Land;)V"⟩ : Cond) ∈ sm_wl := sn_m (List.mem_of_getElem? (i := 853) (by decide +kernel)) rfl
theorem mw_854 : (.instanceMethod ⟨"BackBridge$Land", "copyFrom", "(LBackBridge$Land;)V"⟩ : Cond) ∈ sm_wl := sn_m (List.mem_of_getElem? (i := 854) (by decide +kernel)) rfl
theorem mw_855 : (.selects "BackBridge$Land" ⟨"BackBridge$Land", "copyFrom", "(LBackBridge$Land;)V"⟩ ⟨"BackBridge$Land", "copyFrom", "(LBackBridge$Land;)V"⟩ : Cond) ∈ sm_wl := sn_m (List.mem_of_getElem? (i := 855) (by decide +kernel)) rfl
set_option maxRecDepth 100000 in
theorem mw_856 : (.code ⟨"BackBridge$Land", "copyFrom", "(LBackBridge$Land;)V"⟩ prog_5_method_3_code 2 none : Cond) ∈ sm_wl := sn_m (List.mem_of_getElem? (i := 856) (by rfl)) rfl
theorem mw_857 : (.methodLink "BackBridge$Land" 68 ⟨"java/lang/System", "arraycopy", "(Ljava/lang/Object;ILjava/lang/Object;II)V"⟩ : Cond) ∈ sm_wl := sn_m (List.mem_of_getElem? (i := 857) (by decide +kernel)) rfl
theorem mw_858 : (.static ⟨"java/lang/System", "arraycopy", "(Ljava/lang/Object;ILjava/lang/Object;II)V"⟩ : Cond) ∈ sm_wl := sn_m (List.mem_of_getElem? (i := 858) (by decide +kernel)) rfl
theorem mw_859 : (.native ⟨"java/lang/System", "arraycopy", "(Ljava/lang/Object;ILjava/lang/Object;II)V"⟩ : Cond) ∈ sm_wl := sn_m (List.mem_of_getElem? (i := 859) (by decide +kernel)) rfl
theorem mw_860 : (.methodLink "BackBridge$Land" 74 ⟨"BackBridge$Law", "copyLaw", "(LBackBridge$Law;)V"⟩ : Cond) ∈ sm_wl := sn_m (List.mem_of_getElem? (i := 860) (by decide +kernel)) rfl
theorem mw_861 : (.instanceMethod ⟨"BackBridge$Law", "copyLaw", "(LBackBridge$Law;)V"⟩ : Cond) ∈ sm_wl := sn_m (List.mem_of_getElem? (i := 861) (by decide +kernel)) rfl
theorem mw_862 : (.selects "BackBridge$Law" ⟨"BackBridge$Law", "copyLaw", "(LBackBridge$Law;)V"⟩ ⟨"BackBridge$Law", "copyLaw", "(LBackBridge$Law;)V"⟩ : Cond) ∈ sm_wl := sn_m (List.mem_of_getElem? (i := 862) (by decide +kernel)) rfl
set_option maxRecDepth 100000 in
theorem mw_863 : (.code ⟨"BackBridge$Law", "copyLaw", "(LBackBridge$Law;)V"⟩ prog_6_method_2_code 2 none : Cond) ∈ sm_wl := sn_m (List.mem_of_getElem? (i := 863) (by rfl)) rfl
theorem mw_864 : (.methodLink "BackBridge$Law" 22 ⟨"java/lang/System", "arraycopy", "(Ljava/lang/Object;ILjava/lang/Object;II)V"⟩ : Cond) ∈ sm_wl := sn_m (List.mem_of_getElem? (i := 864) (by decide +kernel)) rfl
theorem mw_865 : (.methodLink "BackBridge" 120 ⟨"BackBridge$Laws", "forget", "()V"⟩ : Cond) ∈ sm_wl := sn_m (List.mem_of_getElem? (i := 865) (by decide +kernel)) rfl
theorem mw_866 : (.instanceMethod ⟨"BackBridge$Laws", "forget", "()V"⟩ : Cond) ∈ sm_wl := sn_m (List.mem_of_getElem? (i := 866) (by decide +kernel)) rfl
theorem mw_867 : (.selects "BackBridge$Laws" ⟨"BackBridge$Laws", "forget", "()V"⟩ ⟨"BackBridge$Laws", "forget", "()V"⟩ : Cond) ∈ sm_wl := sn_m (List.mem_of_getElem? (i := 867) (by decide +kernel)) rfl
set_option maxRecDepth 100000 in
theorem mw_868 : (.code ⟨"BackBridge$Laws", "forget", "()V"⟩ prog_7_method_2_code 1 none : Cond) ∈ sm_wl := sn_m (List.mem_of_getElem? (i := 868) (by rfl)) rfl
theorem mw_869 : (.methodLink "BackBridge$Laws" 22 ⟨"java/util/Arrays", "fill", "([II)V"⟩ : Cond) ∈ sm_wl := sn_m (List.mem_of_getElem? (i := 869) (by decide +kernel)) rfl
theorem mw_870 : (.static ⟨"java/util/Arrays", "fill", "([II)V"⟩ : Cond) ∈ sm_wl := sn_m (List.mem_of_getElem? (i := 870) (by decide +kernel)) rfl
set_option maxRecDepth 100000 in
theorem mw_871 : (.code ⟨"java/util/Arrays", "fill", "([II)V"⟩ prog_23_method_103_code 4 none : Cond) ∈ sm_wl := sn_m (List.mem_of_getElem? (i := 871) (by rfl)) rfl
theorem mw_872 : (.methodLink "BackBridge" 123 ⟨"BackBridge$World", "begin", "(LBackBridge$Land;)V"⟩ : Cond) ∈ sm_wl := sn_m (List.mem_of_getElem? (i := 872) (by decide +kernel)) rfl
theorem mw_873 : (.instanceMethod ⟨"BackBridge$World", "begin", "(LBackBridge$Land;)V"⟩ : Cond) ∈ sm_wl := sn_m (List.mem_of_getElem? (i := 873) (by decide +kernel)) rfl
theorem mw_874 : (.selects "BackBridge$World" ⟨"BackBridge$World", "begin", "(LBackBridge$Land;)V"⟩ ⟨"BackBridge$World", "begin", "(LBackBridge$Land;)V"⟩ : Cond) ∈ sm_wl := sn_m (List.mem_of_getElem? (i := 874) (by decide +kernel)) rfl
set_option maxRecDepth 100000 in
theorem mw_875 : (.code ⟨"BackBridge$World", "begin", "(LBackBridge$Land;)V"⟩ prog_12_method_2_code 3 none : Cond) ∈ sm_wl := sn_m (List.mem_of_getElem? (i := 875) (by rfl)) rfl
theorem mw_876 : (.methodLink "BackBridge$World" 31 ⟨"java/util/Arrays", "fill", "([II)V"⟩ : Cond) ∈ sm_wl := sn_m (List.mem_of_getElem? (i := 876) (by decide +kernel)) rfl
theorem mw_877 : (.methodLink "BackBridge" 126 ⟨"BackBridge$Past", "forget", "()V"⟩ : Cond) ∈ sm_wl := sn_m (List.mem_of_getElem? (i := 877) (by decide +kernel)) rfl
theorem mw_878 : (.instanceMethod ⟨"BackBridge$Past", "forget", "()V"⟩ : Cond) ∈ sm_wl := sn_m (List.mem_of_getElem? (i := 878) (by decide +kernel)) rfl
theorem mw_879 : (.selects "BackBridge$Past" ⟨"BackBridge$Past", "forget", "()V"⟩ ⟨"BackBridge$Past", "forget", "()V"⟩ : Cond) ∈ sm_wl := sn_m (List.mem_of_getElem? (i := 879) (by decide +kernel)) rfl
set_option maxRecDepth 100000 in
theorem mw_880 : (.code ⟨"BackBridge$Past", "forget", "()V"⟩ prog_8_method_2_code 1 none : Cond) ∈ sm_wl := sn_m (List.mem_of_getElem? (i := 880) (by rfl)) rfl
set_option maxRecDepth 100000 in
theorem mw_884 : (.code ⟨"BackBridge", "fault", "(I)I"⟩ prog_1_method_5_code 2 (some .int) : Cond) ∈ sm_wl := sn_m (List.mem_of_getElem? (i := 884) (by rfl)) rfl
set_option maxRecDepth 100000 in
theorem mw_888 : (.code ⟨"BackBridge", "person", "(II)I"⟩ prog_1_method_6_code 3 (some .int) : Cond) ∈ sm_wl := sn_m (List.mem_of_getElem? (i := 888) (by rfl)) rfl
theorem mw_889 : (.methodLink "BackBridge" 136 ⟨"BackBridge$Land", "hasPerson", "(I)Z"⟩ : Cond) ∈ sm_wl := sn_m (List.mem_of_getElem? (i := 889) (by decide +kernel)) rfl
theorem mw_890 : (.instanceMethod ⟨"BackBridge$Land", "hasPerson", "(I)Z"⟩ : Cond) ∈ sm_wl := sn_m (List.mem_of_getElem? (i := 890) (by decide +kernel)) rfl
theorem mw_891 : (.selects "BackBridge$Land" ⟨"BackBridge$Land", "hasPerson", "(I)Z"⟩ ⟨"BackBridge$Land", "hasPerson", "(I)Z"⟩ : Cond) ∈ sm_wl := sn_m (List.mem_of_getElem? (i := 891) (by decide +kernel)) rfl
set_option maxRecDepth 100000 in
theorem mw_892 : (.code ⟨"BackBridge$Land", "hasPerson", "(I)Z"⟩ prog_5_method_4_code 2 (some .boolean) : Cond) ∈ sm_wl := sn_m (List.mem_of_getElem? (i := 892) (by rfl)) rfl
set_option maxRecDepth 100000 in
theorem mw_896 : (.code ⟨"BackBridge", "road", "(II)I"⟩ prog_1_method_7_code 3 (some .int) : Cond) ∈ sm_wl := sn_m (List.mem_of_getElem? (i := 896) (by rfl)) rfl
theorem mw_897 : (.methodLink "BackBridge" 165 ⟨"BackBridge$Land", "hasRoad", "(I)Z"⟩ : Cond) ∈ sm_wl := sn_m (List.mem_of_getElem? (i := 897) (by decide +kernel)) rfl
theorem mw_898 : (.instanceMethod ⟨"BackBridge$Land", "hasRoad", "(I)Z"⟩ : Cond) ∈ sm_wl := sn_m (List.mem_of_getElem? (i := 898) (by decide +kernel)) rfl
theorem mw_899 : (.selects "BackBridge$Land" ⟨"BackBridge$Land", "hasRoad", "(I)Z"⟩ ⟨"BackBridge$Land", "hasRoad", "(I)Z"⟩ : Cond) ∈ sm_wl := sn_m (List.mem_of_getElem? (i := 899) (by decide +kernel)) rfl
set_option maxRecDepth 100000 in
theorem mw_900 : (.code ⟨"BackBridge$Land", "hasRoad", "(I)Z"⟩ prog_5_method_5_code 2 (some .boolean) : Cond) ∈ sm_wl := sn_m (List.mem_of_getElem? (i := 900) (by rfl)) rfl
set_option maxRecDepth 100000 in
theorem mw_904 : (.code ⟨"BackBridge", "why", "(II)I"⟩ prog_1_method_8_code 3 (some .int) : Cond) ∈ sm_wl := sn_m (List.mem_of_getElem? (i := 904) (by rfl)) rfl
theorem mw_905 : (.methodLink "BackBridge" 186 ⟨"BackBridge$Deeds", "whyNotGo", "(LBackBridge$World;II)I"⟩ : Cond) ∈ sm_wl := sn_m (List.mem_of_getElem? (i := 905) (by decide +kernel)) rfl
theorem mw_906 : (.instanceMethod ⟨"BackBridge$Deeds", "whyNotGo", "(LBackBridge$World;II)I"⟩ : Cond) ∈ sm_wl := sn_m (List.mem_of_getElem? (i := 906) (by decide +kernel)) rfl
theorem mw_907 : (.selects "BackBridge$Deeds" ⟨"BackBridge$Deeds", "whyNotGo", "(LBackBridge$World;II)I"⟩ ⟨"BackBridge$Deeds", "whyNotGo", "(LBackBridge$World;II)I"⟩ : Cond) ∈ sm_wl := sn_m (List.mem_of_getElem? (i := 907) (by decide +kernel)) rfl
set_option maxRecDepth 100000 in
theorem mw_908 : (.code ⟨"BackBridge$Deeds", "whyNotGo", "(LBackBridge$World;II)I"⟩ prog_4_method_2_code 6 (some .int) : Cond) ∈ sm_wl := sn_m (List.mem_of_getElem? (i := 908) (by rfl)) rfl
theorem mw_909 : (.methodLink "BackBridge$Deeds" 19 ⟨"BackBridge$Land", "hasPerson", "(I)Z"⟩ : Cond) ∈ sm_wl := sn_m (List.mem_of_getElem? (i := 909) (by decide +kernel)) rfl
theorem mw_910 : (.methodLink "BackBridge$Deeds" 25 ⟨"BackBridge$Land", "hasRoad", "(I)Z"⟩ : Cond) ∈ sm_wl := sn_m (List.mem_of_getElem? (i := 910) (by decide +kernel)) rfl
theorem mw_911 : (.methodLink "BackBridge$Deeds" 34 ⟨"BackBridge$Land", "across", "(II)I"⟩ : Cond) ∈ sm_wl := sn_m (List.mem_of_getElem? (i := 911) (by decide +kernel)) rfl
theorem mw_912 : (.instanceMethod ⟨"BackBridge$Land", "across", "(II)I"⟩ : Cond) ∈ sm_wl := sn_m (List.mem_of_getElem? (i := 912) (by decide +kernel)) rfl
theorem mw_913 : (.selects "BackBridge$Land" ⟨"BackBridge$Land", "across", "(II)I"⟩ ⟨"BackBridge$Land", "across", "(II)I"⟩ : Cond) ∈ sm_wl := sn_m (List.mem_of_getElem? (i := 913) (by decide +kernel)) rfl
set_option maxRecDepth 100000 in
theorem mw_914 : (.code ⟨"BackBridge$Land", "across", "(II)I"⟩ prog_5_method_9_code 3 (some .int) : Cond) ∈ sm_wl := sn_m (List.mem_of_getElem? (i := 914) (by rfl)) rfl
theorem mw_915 : (.methodLink "BackBridge$Deeds" 42 ⟨"BackBridge$Land", "isBridge", "(I)Z"⟩ : Cond) ∈ sm_wl := sn_m (List.mem_of_getElem? (i := 915) (by decide +kernel)) rfl
theorem mw_916 : (.methodLink "BackBridge$Deeds" 51 ⟨"BackBridge$Laws", "price", "(IIIII)I"⟩ : Cond) ∈ sm_wl := sn_m (List.mem_of_getElem? (i := 916) (by decide +kernel)) rfl
theorem mw_917 : (.instanceMethod ⟨"BackBridge$Laws", "price", "(IIIII)I"⟩ : Cond) ∈ sm_wl := sn_m (List.mem_of_getElem? (i := 917) (by decide +kernel)) rfl
theorem mw_918 : (.selects "BackBridge$Laws" ⟨"BackBridge$Laws", "price", "(IIIII)I"⟩ ⟨"BackBridge$Laws", "price", "(IIIII)I"⟩ : Cond) ∈ sm_wl := sn_m (List.mem_of_getElem? (i := 918) (by decide +kernel)) rfl
set_option maxRecDepth 100000 in
theorem mw_919 : (.code ⟨"BackBridge$Laws", "price", "(IIIII)I"⟩ prog_7_method_3_code 10 (some .int) : Cond) ∈ sm_wl := sn_m (List.mem_of_getElem? (i := 919) (by rfl)) rfl
theorem mw_920 : (.methodLink "BackBridge$Laws" 33 ⟨"BackBridge$Land", "bridgesBefore", "(I)I"⟩ : Cond) ∈ sm_wl := sn_m (List.mem_of_getElem? (i := 920) (by decide +kernel)) rfl
theorem mw_921 : (.instanceMethod ⟨"BackBridge$Land", "bridgesBefore", "(I)I"⟩ : Cond) ∈ sm_wl := sn_m (List.mem_of_getElem? (i := 921) (by decide +kernel)) rfl
theorem mw_922 : (.selects "BackBridge$Land" ⟨"BackBridge$Land", "bridgesBefore", "(I)I"⟩ ⟨"BackBridge$Land", "bridgesBefore", "(I)I"⟩ : Cond) ∈ sm_wl := sn_m (List.mem_of_getElem? (i := 922) (by decide +kernel)) rfl
set_option maxRecDepth 100000 in
theorem mw_923 : (.code ⟨"BackBridge$Land", "bridgesBefore", "(I)I"⟩ prog_5_method_8_code 2 (some .int) : Cond) ∈ sm_wl := sn_m (List.mem_of_getElem? (i := 923) (by rfl)) rfl
theorem mw_924 : (.methodLink "BackBridge$Land" 78 ⟨"java/lang/Integer", "bitCount", "(I)I"⟩ : Cond) ∈ sm_wl := sn_m (List.mem_of_getElem? (i := 924) (by decide +kernel)) rfl
theorem mw_925 : (.methodLink "BackBridge$Laws" 37 ⟨"java/lang/Integer", "bitCount", "(I)I"⟩ : Cond) ∈ sm_wl := sn_m (List.mem_of_getElem? (i := 925) (by decide +kernel)) rfl
theorem mw_926 : (.methodLink "BackBridge$Laws" 42 ⟨"BackBridge$Laws", "tell", "(IIIII)V"⟩ : Cond) ∈ sm_wl := sn_m (List.mem_of_getElem? (i := 926) (by decide +kernel)) rfl
theorem mw_928 : (.instanceMethod ⟨"BackBridge$Laws", "tell", "(IIIII)V"⟩ : Cond) ∈ sm_wl := sn_m (List.mem_of_getElem? (i := 928) (by decide +kernel)) rfl
set_option maxRecDepth 100000 in
theorem mw_929 : (.code ⟨"BackBridge$Laws", "tell", "(IIIII)V"⟩ prog_7_method_5_code 6 none : Cond) ∈ sm_wl := sn_m (List.mem_of_getElem? (i := 929) (by rfl)) rfl
theorem mw_930 : (.methodLink "BackBridge$Laws" 56 ⟨"BackBridge$Law", "value", "([I)I"⟩ : Cond) ∈ sm_wl := sn_m (List.mem_of_getElem? (i := 930) (by decide +kernel)) rfl
theorem mw_931 : (.instanceMethod ⟨"BackBridge$Law", "value", "([I)I"⟩ : Cond) ∈ sm_wl := sn_m (List.mem_of_getElem? (i := 931) (by decide +kernel)) rfl
theorem mw_932 : (.selects "BackBridge$Law" ⟨"BackBridge$Law", "value", "([I)I"⟩ ⟨"BackBridge$Law", "value", "([I)I"⟩ : Cond) ∈ sm_wl := sn_m (List.mem_of_getElem? (i := 932) (by decide +kernel)) rfl
set_option maxRecDepth 100000 in
theorem mw_933 : (.code ⟨"BackBridge$Law", "value", "([I)I"⟩ prog_6_method_4_code 11 (some .int) : Cond) ∈ sm_wl := sn_m (List.mem_of_getElem? (i := 933) (by rfl)) rfl
theorem mw_934 : (.constantLong "BackBridge$Law" 28 (-1000000) : Cond) ∈ sm_wl := sn_m (List.mem_of_getElem? (i := 934) (by decide +kernel)) rfl
theorem mw_935 : (.constantLong "BackBridge$Law" 30 (1000000) : Cond) ∈ sm_wl := sn_m (List.mem_of_getElem? (i := 935) (by decide +kernel)) rfl
theorem mw_936 : (.methodLink "BackBridge$Law" 32 ⟨"java/lang/Math", "min", "(JJ)J"⟩ : Cond) ∈ sm_wl := sn_m (List.mem_of_getElem? (i := 936) (by decide +kernel)) rfl
theorem mw_937 : (.static ⟨"java/lang/Math", "min", "(JJ)J"⟩ : Cond) ∈ sm_wl := sn_m (List.mem_of_getElem? (i := 937) (by decide +kernel)) rfl
set_option maxRecDepth 100000 in
theorem mw_938 : (.code ⟨"java/lang/Math", "min", "(JJ)J"⟩ prog_18_method_70_code 4 (some .long) : Cond) ∈ sm_wl := sn_m (List.mem_of_getElem? (i := 938) (by rfl)) rfl
theorem mw_939 : (.methodLink "BackBridge$Law" 38 ⟨"java/lang/Math", "max", "(JJ)J"⟩ : Cond) ∈ sm_wl := sn_m (List.mem_of_getElem? (i := 939) (by decide +kernel)) rfl
theorem mw_940 : (.static ⟨"java/lang/Math", "max", "(JJ)J"⟩ : Cond) ∈ sm_wl := sn_m (List.mem_of_getElem? (i := 940) (by decide +kernel)) rfl
set_option maxRecDepth 100000 in
theorem mw_941 : (.code ⟨"java/lang/Math", "max", "(JJ)J"⟩ prog_18_method_66_code 4 (some .long) : Cond) ∈ sm_wl := sn_m (List.mem_of_getElem? (i := 941) (by rfl)) rfl
theorem mw_942 : (.constantLong "BackBridge$Law" 41 (2) : Cond) ∈ sm_wl := sn_m (List.mem_of_getElem? (i := 942) (by decide +kernel)) rfl
theorem mw_943 : (.methodLink "BackBridge$Laws" 63 ⟨"java/lang/Math", "max", "(II)I"⟩ : Cond) ∈ sm_wl := sn_m (List.mem_of_getElem? (i := 943) (by decide +kernel)) rfl
set_option maxRecDepth 100000 in
theorem mw_947 : (.code ⟨"BackBridge", "takes", "(II)I"⟩ prog_1_method_9_code 4 (some .int) : Cond) ∈ sm_wl := sn_m (List.mem_of_getElem? (i := 947) (by rfl)) rfl
theorem mw_948 : (.methodLink "BackBridge" 190 ⟨"BackBridge$Land", "across", "(II)I"⟩ : Cond) ∈ sm_wl := sn_m (List.mem_of_getElem? (i := 948) (by decide +kernel)) rfl
theorem mw_949 : (.methodLink "BackBridge" 194 ⟨"BackBridge$Land", "isBridge", "(I)Z"⟩ : Cond) ∈ sm_wl := sn_m (List.mem_of_getElem? (i := 949) (by decide +kernel)) rfl
theorem mw_950 : (.methodLink "BackBridge" 197 ⟨"BackBridge$Laws", "toll", "(IIIII)I"⟩ : Cond) ∈ sm_wl := sn_m (List.mem_of_getElem? (i := 950) (by decide +kernel)) rfl
theorem mw_951 : (.instanceMethod ⟨"BackBridge$Laws", "toll", "(IIIII)I"⟩ : Cond) ∈ sm_wl := sn_m (List.mem_of_getElem? (i := 951) (by decide +kernel)) rfl
theorem mw_952 : (.selects "BackBridge$Laws" ⟨"BackBridge$Laws", "toll", "(IIIII)I"⟩ ⟨"BackBridge$Laws", "toll", "(IIIII)I"⟩ : Cond) ∈ sm_wl := sn_m (List.mem_of_getElem? (i := 952) (by decide +kernel)) rfl
set_option maxRecDepth 100000 in
theorem mw_953 : (.code ⟨"BackBridge$Laws", "toll", "(IIIII)I"⟩ prog_7_method_4_code 6 (some .int) : Cond) ∈ sm_wl := sn_m (List.mem_of_getElem? (i := 953) (by rfl)) rfl
set_option maxRecDepth 100000 in
theorem mw_957 : (.code ⟨"BackBridge", "go", "(II)I"⟩ prog_1_method_10_code 4 (some .int) : Cond) ∈ sm_wl := sn_m (List.mem_of_getElem? (i := 957) (by rfl)) rfl
theorem mw_958 : (.methodLink "BackBridge" 201 ⟨"BackBridge$World", "copyFrom", "(LBackBridge$World;)V"⟩ : Cond) ∈ sm_wl := sn_m (List.mem_of_getElem? (i := 958) (by decide +kernel)) rfl
theorem mw_959 : (.instanceMethod ⟨"BackBridge$World", "copyFrom", "(LBackBridge$World;)V"⟩ : Cond) ∈ sm_wl := sn_m (List.mem_of_getElem? (i := 959) (by decide +kernel)) rfl
theorem mw_960 : (.selects "BackBridge$World" ⟨"BackBridge$World", "copyFrom", "(LBackBridge$World;)V"⟩ ⟨"BackBridge$World", "copyFrom", "(LBackBridge$World;)V"⟩ : Cond) ∈ sm_wl := sn_m (List.mem_of_getElem? (i := 960) (by decide +kernel)) rfl
set_option maxRecDepth 100000 in
theorem mw_961 : (.code ⟨"BackBridge$World", "copyFrom", "(LBackBridge$World;)V"⟩ prog_12_method_3_code 2 none : Cond) ∈ sm_wl := sn_m (List.mem_of_getElem? (i := 961) (by rfl)) rfl
theorem mw_962 : (.methodLink "BackBridge$World" 52 ⟨"java/lang/System", "arraycopy", "(Ljava/lang/Object;ILjava/lang/Object;II)V"⟩ : Cond) ∈ sm_wl := sn_m (List.mem_of_getElem? (i := 962) (by decide +kernel)) rfl
theorem mw_963 : (.methodLink "BackBridge" 204 ⟨"BackBridge$Deeds", "tryGo", "(LBackBridge$World;II)I"⟩ : Cond) ∈ sm_wl := sn_m (List.mem_of_getElem? (i := 963) (by decide +kernel)) rfl
theorem mw_964 : (.instanceMethod ⟨"BackBridge$Deeds", "tryGo", "(LBackBridge$World;II)I"⟩ : Cond) ∈ sm_wl := sn_m (List.mem_of_getElem? (i := 964) (by decide +kernel)) rfl
theorem mw_965 : (.selects "BackBridge$Deeds" ⟨"BackBridge$Deeds", "tryGo", "(LBackBridge$World;II)I"⟩ ⟨"BackBridge$Deeds", "tryGo", "(LBackBridge$World;II)I"⟩ : Cond) ∈ sm_wl := sn_m (List.mem_of_getElem? (i := 965) (by decide +kernel)) rfl
set_option maxRecDepth 100000 in
theorem mw_966 : (.code ⟨"BackBridge$Deeds", "tryGo", "(LBackBridge$World;II)I"⟩ prog_4_method_3_code 6 (some .int) : Cond) ∈ sm_wl := sn_m (List.mem_of_getElem? (i := 966) (by rfl)) rfl
theorem mw_967 : (.methodLink "BackBridge$Deeds" 57 ⟨"BackBridge$Deeds", "whyNotGo", "(LBackBridge$World;II)I"⟩ : Cond) ∈ sm_wl := sn_m (List.mem_of_getElem? (i := 967) (by decide +kernel)) rfl
theorem mw_968 : (.methodLink "BackBridge" 207 ⟨"BackBridge$Past", "keep", "(LBackBridge$World;)V"⟩ : Cond) ∈ sm_wl := sn_m (List.mem_of_getElem? (i := 968) (by decide +kernel)) rfl
theorem mw_969 : (.instanceMethod ⟨"BackBridge$Past", "keep", "(LBackBridge$World;)V"⟩ : Cond) ∈ sm_wl := sn_m (List.mem_of_getElem? (i := 969) (by decide +kernel)) rfl
theorem mw_970 : (.selects "BackBridge$Past" ⟨"BackBridge$Past", "keep", "(LBackBridge$World;)V"⟩ ⟨"BackBridge$Past", "keep", "(LBackBridge$World;)V"⟩ : Cond) ∈ sm_wl := sn_m (List.mem_of_getElem? (i := 970) (by decide +kernel)) rfl
set_option maxRecDepth 100000 in
theorem mw_971 : (.code ⟨"BackBridge$Past", "keep", "(LBackBridge$World;)V"⟩ prog_8_method_3_code 2 none : Cond) ∈ sm_wl := sn_m (List.mem_of_getElem? (i := 971) (by rfl)) rfl
theorem mw_972 : (.methodLink "BackBridge$Past" 23 ⟨"BackBridge$World", "copyFrom", "(LBackBridge$World;)V"⟩ : Cond) ∈ sm_wl := sn_m (List.mem_of_getElem? (i := 972) (by decide +kernel)) rfl
theorem mw_973 : (.methodLink "BackBridge$Past" 27 ⟨"java/lang/Math", "min", "(II)I"⟩ : Cond) ∈ sm_wl := sn_m (List.mem_of_getElem? (i := 973) (by decide +kernel)) rfl
set_option maxRecDepth 100000 in
theorem mw_977 : (.code ⟨"BackBridge", "give", "(III)I"⟩ prog_1_method_11_code 5 (some .int) : Cond) ∈ sm_wl := sn_m (List.mem_of_getElem? (i := 977) (by rfl)) rfl
theorem mw_978 : (.methodLink "BackBridge" 210 ⟨"BackBridge$Deeds", "tryGive", "(LBackBridge$World;III)I"⟩ : Cond) ∈ sm_wl := sn_m (List.mem_of_getElem? (i := 978) (by decide +kernel)) rfl
theorem mw_979 : (.instanceMethod ⟨"BackBridge$Deeds", "tryGive", "(LBackBridge$World;III)I"⟩ : Cond) ∈ sm_wl := sn_m (List.mem_of_getElem? (i := 979) (by decide +kernel)) rfl
theorem mw_980 : (.selects "BackBridge$Deeds" ⟨"BackBridge$Deeds", "tryGive", "(LBackBridge$World;III)I"⟩ ⟨"BackBridge$Deeds", "tryGive", "(LBackBridge$World;III)I"⟩ : Cond) ∈ sm_wl := sn_m (List.mem_of_getElem? (i := 980) (by decide +kernel)) rfl
set_option maxRecDepth 100000 in
theorem mw_981 : (.code ⟨"BackBridge$Deeds", "tryGive", "(LBackBridge$World;III)I"⟩ prog_4_method_4_code 5 (some .int) : Cond) ∈ sm_wl := sn_m (List.mem_of_getElem? (i := 981) (by rfl)) rfl
set_option maxRecDepth 100000 in
theorem mw_985 : (.code ⟨"BackBridge", "forge", "(I)I"⟩ prog_1_method_12_code 3 (some .int) : Cond) ∈ sm_wl := sn_m (List.mem_of_getElem? (i := 985) (by rfl)) rfl
theorem mw_986 : (.methodLink "BackBridge" 214 ⟨"BackBridge$Deeds", "tryForge", "(LBackBridge$World;I)I"⟩ : Cond) ∈ sm_wl := sn_m (List.mem_of_getElem? (i := 986) (by decide +kernel)) rfl
theorem mw_987 : (.instanceMethod ⟨"BackBridge$Deeds", "tryForge", "(LBackBridge$World;I)I"⟩ : Cond) ∈ sm_wl := sn_m (List.mem_of_getElem? (i := 987) (by decide +kernel)) rfl
theorem mw_988 : (.selects "BackBridge$Deeds" ⟨"BackBridge$Deeds", "tryForge", "(LBackBridge$World;I)I"⟩ ⟨"BackBridge$Deeds", "tryForge", "(LBackBridge$World;I)I"⟩ : Cond) ∈ sm_wl := sn_m (List.mem_of_getElem? (i := 988) (by decide +kernel)) rfl
set_option maxRecDepth 100000 in
theorem mw_989 : (.code ⟨"BackBridge$Deeds", "tryForge", "(LBackBridge$World;I)I"⟩ prog_4_method_5_code 3 (some .int) : Cond) ∈ sm_wl := sn_m (List.mem_of_getElem? (i := 989) (by rfl)) rfl
set_option maxRecDepth 100000 in
theorem mw_993 : (.code ⟨"BackBridge", "shut", "(I)I"⟩ prog_1_method_13_code 3 (some .int) : Cond) ∈ sm_wl := sn_m (List.mem_of_getElem? (i := 993) (by rfl)) rfl
theorem mw_994 : (.methodLink "BackBridge" 218 ⟨"BackBridge$Deeds", "tryShut", "(LBackBridge$World;I)I"⟩ : Cond) ∈ sm_wl := sn_m (List.mem_of_getElem? (i := 994) (by decide +kernel)) rfl
theorem mw_995 : (.instanceMethod ⟨"BackBridge$Deeds", "tryShut", "(LBackBridge$World;I)I"⟩ : Cond) ∈ sm_wl := sn_m (List.mem_of_getElem? (i := 995) (by decide +kernel)) rfl
theorem mw_996 : (.selects "BackBridge$Deeds" ⟨"BackBridge$Deeds", "tryShut", "(LBackBridge$World;I)I"⟩ ⟨"BackBridge$Deeds", "tryShut", "(LBackBridge$World;I)I"⟩ : Cond) ∈ sm_wl := sn_m (List.mem_of_getElem? (i := 996) (by decide +kernel)) rfl
set_option maxRecDepth 100000 in
theorem mw_997 : (.code ⟨"BackBridge$Deeds", "tryShut", "(LBackBridge$World;I)I"⟩ prog_4_method_6_code 3 (some .int) : Cond) ∈ sm_wl := sn_m (List.mem_of_getElem? (i := 997) (by rfl)) rfl
set_option maxRecDepth 100000 in
theorem mw_1001 : (.code ⟨"BackBridge", "days", "(I)I"⟩ prog_1_method_14_code 2 (some .int) : Cond) ∈ sm_wl := sn_m (List.mem_of_getElem? (i := 1001) (by rfl)) rfl
theorem mw_1002 : (.methodLink "BackBridge" 221 ⟨"BackBridge$Deeds", "pass", "(LBackBridge$World;I)V"⟩ : Cond) ∈ sm_wl := sn_m (List.mem_of_getElem? (i := 1002) (by decide +kernel)) rfl
theorem mw_1003 : (.instanceMethod ⟨"BackBridge$Deeds", "pass", "(LBackBridge$World;I)V"⟩ : Cond) ∈ sm_wl := sn_m (List.mem_of_getElem? (i := 1003) (by decide +kernel)) rfl
theorem mw_1004 : (.selects "BackBridge$Deeds" ⟨"BackBridge$Deeds", "pass", "(LBackBridge$World;I)V"⟩ ⟨"BackBridge$Deeds", "pass", "(LBackBridge$World;I)V"⟩ : Cond) ∈ sm_wl := sn_m (List.mem_of_getElem? (i := 1004) (by decide +kernel)) rfl
set_option maxRecDepth 100000 in
theorem mw_1005 : (.code ⟨"BackBridge$Deeds", "pass", "(LBackBridge$World;I)V"⟩ prog_4_method_7_code 4 none : Cond) ∈ sm_wl := sn_m (List.mem_of_getElem? (i := 1005) (by rfl)) rfl
set_option maxRecDepth 100000 in
theorem mw_1009 : (.code ⟨"BackBridge", "undo", "(I)I"⟩ prog_1_method_15_code 2 (some .int) : Cond) ∈ sm_wl := sn_m (List.mem_of_getElem? (i := 1009) (by rfl)) rfl
theorem mw_1010 : (.methodLink "BackBridge" 228 ⟨"BackBridge$Past", "bringBack", "(LBackBridge$World;I)V"⟩ : Cond) ∈ sm_wl := sn_m (List.mem_of_getElem? (i := 1010) (by decide +kernel)) rfl
theorem mw_1011 : (.instanceMethod ⟨"BackBridge$Past", "bringBack", "(LBackBridge$World;I)V"⟩ : Cond) ∈ sm_wl := sn_m (List.mem_of_getElem? (i := 1011) (by decide +kernel)) rfl
theorem mw_1012 : (.selects "BackBridge$Past" ⟨"BackBridge$Past", "bringBack", "(LBackBridge$World;I)V"⟩ ⟨"BackBridge$Past", "bringBack", "(LBackBridge$World;I)V"⟩ : Cond) ∈ sm_wl := sn_m (List.mem_of_getElem? (i := 1012) (by decide +kernel)) rfl
set_option maxRecDepth 100000 in
theorem mw_1013 : (.code ⟨"BackBridge$Past", "bringBack", "(LBackBridge$World;I)V"⟩ prog_8_method_4_code 3 none : Cond) ∈ sm_wl := sn_m (List.mem_of_getElem? (i := 1013) (by rfl)) rfl
set_option maxRecDepth 100000 in
theorem mw_1017 : (.code ⟨"BackBridge", "judge", "(II)I"⟩ prog_1_method_16_code 4 (some .int) : Cond) ∈ sm_wl := sn_m (List.mem_of_getElem? (i := 1017) (by rfl)) rfl
theorem mw_1018 : (.methodLink "BackBridge" 231 ⟨"BackBridge$Trays", "isTray", "(I)Z"⟩ : Cond) ∈ sm_wl := sn_m (List.mem_of_getElem? (i := 1018) (by decide +kernel)) rfl
theorem mw_1019 : (.instanceMethod ⟨"BackBridge$Trays", "isTray", "(I)Z"⟩ : Cond) ∈ sm_wl := sn_m (List.mem_of_getElem? (i := 1019) (by decide +kernel)) rfl
theorem mw_1020 : (.selects "BackBridge$Trays" ⟨"BackBridge$Trays", "isTray", "(I)Z"⟩ ⟨"BackBridge$Trays", "isTray", "(I)Z"⟩ : Cond) ∈ sm_wl := sn_m (List.mem_of_getElem? (i := 1020) (by decide +kernel)) rfl
set_option maxRecDepth 100000 in
theorem mw_1021 : (.code ⟨"BackBridge$Trays", "isTray", "(I)Z"⟩ prog_11_method_2_code 2 (some .boolean) : Cond) ∈ sm_wl := sn_m (List.mem_of_getElem? (i := 1021) (by rfl)) rfl
theorem mw_1022 : (.methodLink "BackBridge" 234 ⟨"BackBridge$Trays", "isMissing", "(I)Z"⟩ : Cond) ∈ sm_wl := sn_m (List.mem_of_getElem? (i := 1022) (by decide +kernel)) rfl
theorem mw_1023 : (.instanceMethod ⟨"BackBridge$Trays", "isMissing", "(I)Z"⟩ : Cond) ∈ sm_wl := sn_m (List.mem_of_getElem? (i := 1023) (by decide +kernel)) rfl
theorem mw_1024 : (.selects "BackBridge$Trays" ⟨"BackBridge$Trays", "isMissing", "(I)Z"⟩ ⟨"BackBridge$Trays", "isMissing", "(I)Z"⟩ : Cond) ∈ sm_wl := sn_m (List.mem_of_getElem? (i := 1024) (by decide +kernel)) rfl
set_option maxRecDepth 100000 in
theorem mw_1025 : (.code ⟨"BackBridge$Trays", "isMissing", "(I)Z"⟩ prog_11_method_3_code 2 (some .boolean) : Cond) ∈ sm_wl := sn_m (List.mem_of_getElem? (i := 1025) (by rfl)) rfl
theorem mw_1026 : (.methodLink "BackBridge" 237 ⟨"BackBridge$Deeds", "doAll", "(LBackBridge$World;LBackBridge$Trays;I)I"⟩ : Cond) ∈ sm_wl := sn_m (List.mem_of_getElem? (i := 1026) (by decide +kernel)) rfl
theorem mw_1027 : (.instanceMethod ⟨"BackBridge$Deeds", "doAll", "(LBackBridge$World;LBackBridge$Trays;I)I"⟩ : Cond) ∈ sm_wl := sn_m (List.mem_of_getElem? (i := 1027) (by decide +kernel)) rfl
theorem mw_1028 : (.selects "BackBridge$Deeds" ⟨"BackBridge$Deeds", "doAll", "(LBackBridge$World;LBackBridge$Trays;I)I"⟩ ⟨"BackBridge$Deeds", "doAll", "(LBackBridge$World;LBackBridge$Trays;I)I"⟩ : Cond) ∈ sm_wl := sn_m (List.mem_of_getElem? (i := 1028) (by decide +kernel)) rfl
set_option maxRecDepth 100000 in
theorem mw_1029 : (.code ⟨"BackBridge$Deeds", "doAll", "(LBackBridge$World;LBackBridge$Trays;I)I"⟩ prog_4_method_9_code 5 (some .int) : Cond) ∈ sm_wl := sn_m (List.mem_of_getElem? (i := 1029) (by rfl)) rfl
theorem mw_1030 : (.methodLink "BackBridge$Deeds" 113 ⟨"BackBridge$Deeds", "tryDeed", "(LBackBridge$World;J)I"⟩ : Cond) ∈ sm_wl := sn_m (List.mem_of_getElem? (i := 1030) (by decide +kernel)) rfl
theorem mw_1032 : (.instanceMethod ⟨"BackBridge$Deeds", "tryDeed", "(LBackBridge$World;J)I"⟩ : Cond) ∈ sm_wl := sn_m (List.mem_of_getElem? (i := 1032) (by decide +kernel)) rfl
set_option maxRecDepth 100000 in
theorem mw_1033 : (.code ⟨"BackBridge$Deeds", "tryDeed", "(LBackBridge$World;J)I"⟩ prog_4_method_8_code 5 (some .int) : Cond) ∈ sm_wl := sn_m (List.mem_of_getElem? (i := 1033) (by rfl)) rfl
theorem mw_1034 : (.constantLong "BackBridge$Deeds" 79 (-1) : Cond) ∈ sm_wl := sn_m (List.mem_of_getElem? (i := 1034) (by decide +kernel)) rfl
theorem mw_1035 : (.methodLink "BackBridge$Deeds" 81 ⟨"BackBridge$Deeds", "pass", "(LBackBridge$World;I)V"⟩ : Cond) ∈ sm_wl := sn_m (List.mem_of_getElem? (i := 1035) (by decide +kernel)) rfl
theorem mw_1036 : (.constantLong "BackBridge$Deeds" 85 (3019) : Cond) ∈ sm_wl := sn_m (List.mem_of_getElem? (i := 1036) (by decide +kernel)) rfl
theorem mw_1037 : (.methodLink "BackBridge$Deeds" 87 ⟨"BackBridge$Deeds", "tryGo", "(LBackBridge$World;II)I"⟩ : Cond) ∈ sm_wl := sn_m (List.mem_of_getElem? (i := 1037) (by decide +kernel)) rfl
theorem mw_1038 : (.methodLink "BackBridge$Deeds" 90 ⟨"BackBridge$Deeds", "tryGive", "(LBackBridge$World;III)I"⟩ : Cond) ∈ sm_wl := sn_m (List.mem_of_getElem? (i := 1038) (by decide +kernel)) rfl
theorem mw_1039 : (.methodLink "BackBridge$Deeds" 94 ⟨"BackBridge$Deeds", "tryForge", "(LBackBridge$World;I)I"⟩ : Cond) ∈ sm_wl := sn_m (List.mem_of_getElem? (i := 1039) (by decide +kernel)) rfl
theorem mw_1040 : (.methodLink "BackBridge$Deeds" 98 ⟨"BackBridge$Deeds", "tryShut", "(LBackBridge$World;I)I"⟩ : Cond) ∈ sm_wl := sn_m (List.mem_of_getElem? (i := 1040) (by decide +kernel)) rfl
theorem mw_1041 : (.methodLink "BackBridge" 247 ⟨"BackBridge$World", "allPapers", "()I"⟩ : Cond) ∈ sm_wl := sn_m (List.mem_of_getElem? (i := 1041) (by decide +kernel)) rfl
theorem mw_1042 : (.instanceMethod ⟨"BackBridge$World", "allPapers", "()I"⟩ : Cond) ∈ sm_wl := sn_m (List.mem_of_getElem? (i := 1042) (by decide +kernel)) rfl
theorem mw_1043 : (.selects "BackBridge$World" ⟨"BackBridge$World", "allPapers", "()I"⟩ ⟨"BackBridge$World", "allPapers", "()I"⟩ : Cond) ∈ sm_wl := sn_m (List.mem_of_getElem? (i := 1043) (by decide +kernel)) rfl
set_option maxRecDepth 100000 in
theorem mw_1044 : (.code ⟨"BackBridge$World", "allPapers", "()I"⟩ prog_12_method_4_code 3 (some .int) : Cond) ∈ sm_wl := sn_m (List.mem_of_getElem? (i := 1044) (by rfl)) rfl
set_option maxRecDepth 100000 in
theorem mw_1048 : (.code ⟨"BackBridge", "perform", "(I)I"⟩ prog_1_method_17_code 3 (some .int) : Cond) ∈ sm_wl := sn_m (List.mem_of_getElem? (i := 1048) (by rfl)) rfl
set_option maxRecDepth 100000 in
theorem mw_1052 : (.code ⟨"BackBridge", "year", "(II)I"⟩ prog_1_method_18_code 4 (some .int) : Cond) ∈ sm_wl := sn_m (List.mem_of_getElem? (i := 1052) (by rfl)) rfl
theorem mw_1053 : (.methodLink "BackBridge" 251 ⟨"BackBridge$Deeds", "liveYear", "(LBackBridge$World;II)I"⟩ : Cond) ∈ sm_wl := sn_m (List.mem_of_getElem? (i := 1053) (by decide +kernel)) rfl
theorem mw_1054 : (.instanceMethod ⟨"BackBridge$Deeds", "liveYear", "(LBackBridge$World;II)I"⟩ : Cond) ∈ sm_wl := sn_m (List.mem_of_getElem? (i := 1054) (by decide +kernel)) rfl
theorem mw_1055 : (.selects "BackBridge$Deeds" ⟨"BackBridge$Deeds", "liveYear", "(LBackBridge$World;II)I"⟩ ⟨"BackBridge$Deeds", "liveYear", "(LBackBridge$World;II)I"⟩ : Cond) ∈ sm_wl := sn_m (List.mem_of_getElem? (i := 1055) (by decide +kernel)) rfl
set_option maxRecDepth 100000 in
theorem mw_1056 : (.code ⟨"BackBridge$Deeds", "liveYear", "(LBackBridge$World;II)I"⟩ prog_4_method_12_code 6 (some .int) : Cond) ∈ sm_wl := sn_m (List.mem_of_getElem? (i := 1056) (by rfl)) rfl
theorem mw_1057 : (.methodLink "BackBridge$Deeds" 130 ⟨"BackBridge$Deeds", "drawDeed", "()I"⟩ : Cond) ∈ sm_wl := sn_m (List.mem_of_getElem? (i := 1057) (by decide +kernel)) rfl
theorem mw_1059 : (.instanceMethod ⟨"BackBridge$Deeds", "drawDeed", "()I"⟩ : Cond) ∈ sm_wl := sn_m (List.mem_of_getElem? (i := 1059) (by decide +kernel)) rfl
set_option maxRecDepth 100000 in
theorem mw_1060 : (.code ⟨"BackBridge$Deeds", "drawDeed", "()I"⟩ prog_4_method_11_code 3 (some .int) : Cond) ∈ sm_wl := sn_m (List.mem_of_getElem? (i := 1060) (by rfl)) rfl
theorem mw_1061 : (.methodLink "BackBridge$Deeds" 126 ⟨"BackBridge$Deeds", "draw", "(I)I"⟩ : Cond) ∈ sm_wl := sn_m (List.mem_of_getElem? (i := 1061) (by decide +kernel)) rfl
theorem mw_1063 : (.instanceMethod ⟨"BackBridge$Deeds", "draw", "(I)I"⟩ : Cond) ∈ sm_wl := sn_m (List.mem_of_getElem? (i := 1063) (by decide +kernel)) rfl
set_option maxRecDepth 100000 in
theorem mw_1064 : (.code ⟨"BackBridge$Deeds", "draw", "(I)I"⟩ prog_4_method_10_code 2 (some .int) : Cond) ∈ sm_wl := sn_m (List.mem_of_getElem? (i := 1064) (by rfl)) rfl
theorem mw_1065 : (.constant "BackBridge$Deeds" 117 (1103515245) : Cond) ∈ sm_wl := sn_m (List.mem_of_getElem? (i := 1065) (by decide +kernel)) rfl
theorem mw_1066 : (.methodLink "BackBridge$Deeds" 121 ⟨"java/lang/Math", "max", "(II)I"⟩ : Cond) ∈ sm_wl := sn_m (List.mem_of_getElem? (i := 1066) (by decide +kernel)) rfl
set_option maxRecDepth 100000 in
theorem mw_1070 : (.code ⟨"BackBridge", "soonest", "(II)I"⟩ prog_1_method_19_code 3 (some .int) : Cond) ∈ sm_wl := sn_m (List.mem_of_getElem? (i := 1070) (by rfl)) rfl
theorem mw_1071 : (.methodLink "BackBridge" 254 ⟨"BackBridge$Land", "hasPlace", "(I)Z"⟩ : Cond) ∈ sm_wl := sn_m (List.mem_of_getElem? (i := 1071) (by decide +kernel)) rfl
theorem mw_1072 : (.instanceMethod ⟨"BackBridge$Land", "hasPlace", "(I)Z"⟩ : Cond) ∈ sm_wl := sn_m (List.mem_of_getElem? (i := 1072) (by decide +kernel)) rfl
theorem mw_1073 : (.selects "BackBridge$Land" ⟨"BackBridge$Land", "hasPlace", "(I)Z"⟩ ⟨"BackBridge$Land", "hasPlace", "(I)Z"⟩ : Cond) ∈ sm_wl := sn_m (List.mem_of_getElem? (i := 1073) (by decide +kernel)) rfl
set_option maxRecDepth 100000 in
theorem mw_1074 : (.code ⟨"BackBridge$Land", "hasPlace", "(I)Z"⟩ prog_5_method_6_code 2 (some .boolean) : Cond) ∈ sm_wl := sn_m (List.mem_of_getElem? (i := 1074) (by rfl)) rfl
theorem mw_1075 : (.methodLink "BackBridge" 257 ⟨"BackBridge$Choices", "seek", "(I)V"⟩ : Cond) ∈ sm_wl := sn_m (List.mem_of_getElem? (i := 1075) (by decide +kernel)) rfl
theorem mw_1076 : (.instanceMethod ⟨"BackBridge$Choices", "seek", "(I)V"⟩ : Cond) ∈ sm_wl := sn_m (List.mem_of_getElem? (i := 1076) (by decide +kernel)) rfl
theorem mw_1077 : (.selects "BackBridge$Choices" ⟨"BackBridge$Choices", "seek", "(I)V"⟩ ⟨"BackBridge$Choices", "seek", "(I)V"⟩ : Cond) ∈ sm_wl := sn_m (List.mem_of_getElem? (i := 1077) (by decide +kernel)) rfl
set_option maxRecDepth 100000 in
theorem mw_1078 : (.code ⟨"BackBridge$Choices", "seek", "(I)V"⟩ prog_3_method_2_code 2 none : Cond) ∈ sm_wl := sn_m (List.mem_of_getElem? (i := 1078) (by rfl)) rfl
theorem mw_1079 : (.methodLink "BackBridge$Choices" 30 ⟨"BackBridge$Search", "startAt", "(LBackBridge$World;I)V"⟩ : Cond) ∈ sm_wl := sn_m (List.mem_of_getElem? (i := 1079) (by decide +kernel)) rfl
theorem mw_1080 : (.instanceMethod ⟨"BackBridge$Search", "startAt", "(LBackBridge$World;I)V"⟩ : Cond) ∈ sm_wl := sn_m (List.mem_of_getElem? (i := 1080) (by decide +kernel)) rfl
theorem mw_1081 : (.selects "BackBridge$Search" ⟨"BackBridge$Search", "startAt", "(LBackBridge$World;I)V"⟩ ⟨"BackBridge$Search", "startAt", "(LBackBridge$World;I)V"⟩ : Cond) ∈ sm_wl := sn_m (List.mem_of_getElem? (i := 1081) (by decide +kernel)) rfl
set_option maxRecDepth 100000 in
theorem mw_1082 : (.code ⟨"BackBridge$Search", "startAt", "(LBackBridge$World;I)V"⟩ prog_10_method_2_code 3 none : Cond) ∈ sm_wl := sn_m (List.mem_of_getElem? (i := 1082) (by rfl)) rfl
theorem mw_1083 : (.methodLink "BackBridge$Choices" 36 ⟨"BackBridge$Search", "spread", "()V"⟩ : Cond) ∈ sm_wl := sn_m (List.mem_of_getElem? (i := 1083) (by decide +kernel)) rfl
theorem mw_1084 : (.instanceMethod ⟨"BackBridge$Search", "spread", "()V"⟩ : Cond) ∈ sm_wl := sn_m (List.mem_of_getElem? (i := 1084) (by decide +kernel)) rfl
theorem mw_1085 : (.selects "BackBridge$Search" ⟨"BackBridge$Search", "spread", "()V"⟩ ⟨"BackBridge$Search", "spread", "()V"⟩ : Cond) ∈ sm_wl := sn_m (List.mem_of_getElem? (i := 1085) (by decide +kernel)) rfl
set_option maxRecDepth 100000 in
theorem mw_1086 : (.code ⟨"BackBridge$Search", "spread", "()V"⟩ prog_10_method_4_code 7 none : Cond) ∈ sm_wl := sn_m (List.mem_of_getElem? (i := 1086) (by rfl)) rfl
theorem mw_1087 : (.methodLink "BackBridge$Search" 78 ⟨"java/util/Arrays", "fill", "([II)V"⟩ : Cond) ∈ sm_wl := sn_m (List.mem_of_getElem? (i := 1087) (by decide +kernel)) rfl
theorem mw_1088 : (.constant "BackBridge$Search" 87 (1000000000) : Cond) ∈ sm_wl := sn_m (List.mem_of_getElem? (i := 1088) (by decide +kernel)) rfl
theorem mw_1089 : (.methodLink "BackBridge$Search" 94 ⟨"BackBridge$Search", "state", "(IIII)I"⟩ : Cond) ∈ sm_wl := sn_m (List.mem_of_getElem? (i := 1089) (by decide +kernel)) rfl
theorem mw_1090 : (.static ⟨"BackBridge$Search", "state", "(IIII)I"⟩ : Cond) ∈ sm_wl := sn_m (List.mem_of_getElem? (i := 1090) (by decide +kernel)) rfl
set_option maxRecDepth 100000 in
theorem mw_1091 : (.code ⟨"BackBridge$Search", "state", "(IIII)I"⟩ prog_10_method_3_code 4 (some .int) : Cond) ∈ sm_wl := sn_m (List.mem_of_getElem? (i := 1091) (by rfl)) rfl
theorem mw_1092 : (.methodLink "BackBridge$Search" 98 ⟨"BackBridge$Search", "openRow", "(I)V"⟩ : Cond) ∈ sm_wl := sn_m (List.mem_of_getElem? (i := 1092) (by decide +kernel)) rfl
theorem mw_1094 : (.instanceMethod ⟨"BackBridge$Search", "openRow", "(I)V"⟩ : Cond) ∈ sm_wl := sn_m (List.mem_of_getElem? (i := 1094) (by decide +kernel)) rfl
set_option maxRecDepth 100000 in
theorem mw_1095 : (.code ⟨"BackBridge$Search", "openRow", "(I)V"⟩ prog_10_method_5_code 3 none : Cond) ∈ sm_wl := sn_m (List.mem_of_getElem? (i := 1095) (by rfl)) rfl
theorem mw_1096 : (.methodLink "BackBridge$Search" 107 ⟨"BackBridge$Search", "nearest", "(II)I"⟩ : Cond) ∈ sm_wl := sn_m (List.mem_of_getElem? (i := 1096) (by decide +kernel)) rfl
theorem mw_1098 : (.instanceMethod ⟨"BackBridge$Search", "nearest", "(II)I"⟩ : Cond) ∈ sm_wl := sn_m (List.mem_of_getElem? (i := 1098) (by decide +kernel)) rfl
set_option maxRecDepth 100000 in
theorem mw_1099 : (.code ⟨"BackBridge$Search", "nearest", "(II)I"⟩ prog_10_method_6_code 6 (some .int) : Cond) ∈ sm_wl := sn_m (List.mem_of_getElem? (i := 1099) (by rfl)) rfl
theorem mw_1100 : (.methodLink "BackBridge$Search" 111 ⟨"BackBridge$Search", "leave", "(I)V"⟩ : Cond) ∈ sm_wl := sn_m (List.mem_of_getElem? (i := 1100) (by decide +kernel)) rfl
theorem mw_1102 : (.instanceMethod ⟨"BackBridge$Search", "leave", "(I)V"⟩ : Cond) ∈ sm_wl := sn_m (List.mem_of_getElem? (i := 1102) (by decide +kernel)) rfl
set_option maxRecDepth 100000 in
theorem mw_1103 : (.code ⟨"BackBridge$Search", "leave", "(I)V"⟩ prog_10_method_7_code 5 none : Cond) ∈ sm_wl := sn_m (List.mem_of_getElem? (i := 1103) (by rfl)) rfl
theorem mw_1104 : (.methodLink "BackBridge$Search" 114 ⟨"BackBridge$Search", "noteEnd", "(I)V"⟩ : Cond) ∈ sm_wl := sn_m (List.mem_of_getElem? (i := 1104) (by decide +kernel)) rfl
theorem mw_1106 : (.instanceMethod ⟨"BackBridge$Search", "noteEnd", "(I)V"⟩ : Cond) ∈ sm_wl := sn_m (List.mem_of_getElem? (i := 1106) (by decide +kernel)) rfl
set_option maxRecDepth 100000 in
theorem mw_1107 : (.code ⟨"BackBridge$Search", "noteEnd", "(I)V"⟩ prog_10_method_11_code 4 none : Cond) ∈ sm_wl := sn_m (List.mem_of_getElem? (i := 1107) (by rfl)) rfl
theorem mw_1108 : (.methodLink "BackBridge$Search" 150 ⟨"BackBridge$Search", "isAhead", "(II)Z"⟩ : Cond) ∈ sm_wl := sn_m (List.mem_of_getElem? (i := 1108) (by decide +kernel)) rfl
theorem mw_1110 : (.instanceMethod ⟨"BackBridge$Search", "isAhead", "(II)Z"⟩ : Cond) ∈ sm_wl := sn_m (List.mem_of_getElem? (i := 1110) (by decide +kernel)) rfl
set_option maxRecDepth 100000 in
theorem mw_1111 : (.code ⟨"BackBridge$Search", "isAhead", "(II)Z"⟩ prog_10_method_10_code 4 (some .boolean) : Cond) ∈ sm_wl := sn_m (List.mem_of_getElem? (i := 1111) (by rfl)) rfl
theorem mw_1112 : (.methodLink "BackBridge$Search" 120 ⟨"BackBridge$Search", "behind", "(II)I"⟩ : Cond) ∈ sm_wl := sn_m (List.mem_of_getElem? (i := 1112) (by decide +kernel)) rfl
theorem mw_1114 : (.instanceMethod ⟨"BackBridge$Search", "behind", "(II)I"⟩ : Cond) ∈ sm_wl := sn_m (List.mem_of_getElem? (i := 1114) (by decide +kernel)) rfl
set_option maxRecDepth 100000 in
theorem mw_1115 : (.code ⟨"BackBridge$Search", "behind", "(II)I"⟩ prog_10_method_8_code 8 (some .int) : Cond) ∈ sm_wl := sn_m (List.mem_of_getElem? (i := 1115) (by rfl)) rfl
theorem mw_1116 : (.methodLink "BackBridge$Search" 137 ⟨"BackBridge$Land", "across", "(II)I"⟩ : Cond) ∈ sm_wl := sn_m (List.mem_of_getElem? (i := 1116) (by decide +kernel)) rfl
theorem mw_1117 : (.methodLink "BackBridge$Search" 126 ⟨"BackBridge$Land", "isBridge", "(I)Z"⟩ : Cond) ∈ sm_wl := sn_m (List.mem_of_getElem? (i := 1117) (by decide +kernel)) rfl
theorem mw_1118 : (.methodLink "BackBridge$Search" 140 ⟨"BackBridge$Laws", "price", "(IIIII)I"⟩ : Cond) ∈ sm_wl := sn_m (List.mem_of_getElem? (i := 1118) (by decide +kernel)) rfl
theorem mw_1119 : (.methodLink "BackBridge$Search" 146 ⟨"BackBridge$Land", "bridgesBefore", "(I)I"⟩ : Cond) ∈ sm_wl := sn_m (List.mem_of_getElem? (i := 1119) (by decide +kernel)) rfl
theorem mw_1120 : (.methodLink "BackBridge$Search" 130 ⟨"BackBridge$Search", "noteBridge", "(IIII)V"⟩ : Cond) ∈ sm_wl := sn_m (List.mem_of_getElem? (i := 1120) (by decide +kernel)) rfl
theorem mw_1122 : (.instanceMethod ⟨"BackBridge$Search", "noteBridge", "(IIII)V"⟩ : Cond) ∈ sm_wl := sn_m (List.mem_of_getElem? (i := 1122) (by decide +kernel)) rfl
set_option maxRecDepth 100000 in
theorem mw_1123 : (.code ⟨"BackBridge$Search", "noteBridge", "(IIII)V"⟩ prog_10_method_12_code 7 none : Cond) ∈ sm_wl := sn_m (List.mem_of_getElem? (i := 1123) (by rfl)) rfl
theorem mw_1124 : (.methodLink "BackBridge$Search" 134 ⟨"BackBridge$Search", "reachState", "(IIII)V"⟩ : Cond) ∈ sm_wl := sn_m (List.mem_of_getElem? (i := 1124) (by decide +kernel)) rfl
theorem mw_1126 : (.instanceMethod ⟨"BackBridge$Search", "reachState", "(IIII)V"⟩ : Cond) ∈ sm_wl := sn_m (List.mem_of_getElem? (i := 1126) (by decide +kernel)) rfl
set_option maxRecDepth 100000 in
theorem mw_1127 : (.code ⟨"BackBridge$Search", "reachState", "(IIII)V"⟩ prog_10_method_9_code 5 none : Cond) ∈ sm_wl := sn_m (List.mem_of_getElem? (i := 1127) (by rfl)) rfl
theorem mw_1128 : (.methodLink "BackBridge" 260 ⟨"BackBridge$Search", "daysTo", "(I)I"⟩ : Cond) ∈ sm_wl := sn_m (List.mem_of_getElem? (i := 1128) (by decide +kernel)) rfl
theorem mw_1129 : (.instanceMethod ⟨"BackBridge$Search", "daysTo", "(I)I"⟩ : Cond) ∈ sm_wl := sn_m (List.mem_of_getElem? (i := 1129) (by decide +kernel)) rfl
theorem mw_1130 : (.selects "BackBridge$Search" ⟨"BackBridge$Search", "daysTo", "(I)I"⟩ ⟨"BackBridge$Search", "daysTo", "(I)I"⟩ : Cond) ∈ sm_wl := sn_m (List.mem_of_getElem? (i := 1130) (by decide +kernel)) rfl
set_option maxRecDepth 100000 in
theorem mw_1131 : (.code ⟨"BackBridge$Search", "daysTo", "(I)I"⟩ prog_10_method_13_code 2 (some .int) : Cond) ∈ sm_wl := sn_m (List.mem_of_getElem? (i := 1131) (by rfl)) rfl
set_option maxRecDepth 100000 in
theorem mw_1135 : (.code ⟨"BackBridge", "way", "(III)I"⟩ prog_1_method_20_code 4 (some .int) : Cond) ∈ sm_wl := sn_m (List.mem_of_getElem? (i := 1135) (by rfl)) rfl
theorem mw_1136 : (.methodLink "BackBridge" 264 ⟨"BackBridge$Search", "spellTo", "(I)V"⟩ : Cond) ∈ sm_wl := sn_m (List.mem_of_getElem? (i := 1136) (by decide +kernel)) rfl
theorem mw_1137 : (.instanceMethod ⟨"BackBridge$Search", "spellTo", "(I)V"⟩ : Cond) ∈ sm_wl := sn_m (List.mem_of_getElem? (i := 1137) (by decide +kernel)) rfl
theorem mw_1138 : (.selects "BackBridge$Search" ⟨"BackBridge$Search", "spellTo", "(I)V"⟩ ⟨"BackBridge$Search", "spellTo", "(I)V"⟩ : Cond) ∈ sm_wl := sn_m (List.mem_of_getElem? (i := 1138) (by decide +kernel)) rfl
set_option maxRecDepth 100000 in
theorem mw_1139 : (.code ⟨"BackBridge$Search", "spellTo", "(I)V"⟩ prog_10_method_17_code 2 none : Cond) ∈ sm_wl := sn_m (List.mem_of_getElem? (i := 1139) (by rfl)) rfl
theorem mw_1140 : (.methodLink "BackBridge$Search" 157 ⟨"BackBridge$Search", "spellBack", "(I)V"⟩ : Cond) ∈ sm_wl := sn_m (List.mem_of_getElem? (i := 1140) (by decide +kernel)) rfl
theorem mw_1142 : (.instanceMethod ⟨"BackBridge$Search", "spellBack", "(I)V"⟩ : Cond) ∈ sm_wl := sn_m (List.mem_of_getElem? (i := 1142) (by decide +kernel)) rfl
set_option maxRecDepth 100000 in
theorem mw_1143 : (.code ⟨"BackBridge$Search", "spellBack", "(I)V"⟩ prog_10_method_19_code 4 none : Cond) ∈ sm_wl := sn_m (List.mem_of_getElem? (i := 1143) (by rfl)) rfl
theorem mw_1144 : (.methodLink "BackBridge" 267 ⟨"BackBridge$Search", "spelledRoad", "(I)I"⟩ : Cond) ∈ sm_wl := sn_m (List.mem_of_getElem? (i := 1144) (by decide +kernel)) rfl
theorem mw_1145 : (.instanceMethod ⟨"BackBridge$Search", "spelledRoad", "(I)I"⟩ : Cond) ∈ sm_wl := sn_m (List.mem_of_getElem? (i := 1145) (by decide +kernel)) rfl
theorem mw_1146 : (.selects "BackBridge$Search" ⟨"BackBridge$Search", "spelledRoad", "(I)I"⟩ ⟨"BackBridge$Search", "spelledRoad", "(I)I"⟩ : Cond) ∈ sm_wl := sn_m (List.mem_of_getElem? (i := 1146) (by decide +kernel)) rfl
set_option maxRecDepth 100000 in
theorem mw_1147 : (.code ⟨"BackBridge$Search", "spelledRoad", "(I)I"⟩ prog_10_method_20_code 2 (some .int) : Cond) ∈ sm_wl := sn_m (List.mem_of_getElem? (i := 1147) (by rfl)) rfl
set_option maxRecDepth 100000 in
theorem mw_1151 : (.code ⟨"BackBridge", "left", "(II)I"⟩ prog_1_method_21_code 3 (some .int) : Cond) ∈ sm_wl := sn_m (List.mem_of_getElem? (i := 1151) (by rfl)) rfl
theorem mw_1152 : (.methodLink "BackBridge" 270 ⟨"BackBridge$Search", "papersBehind", "(I)I"⟩ : Cond) ∈ sm_wl := sn_m (List.mem_of_getElem? (i := 1152) (by decide +kernel)) rfl
theorem mw_1153 : (.instanceMethod ⟨"BackBridge$Search", "papersBehind", "(I)I"⟩ : Cond) ∈ sm_wl := sn_m (List.mem_of_getElem? (i := 1153) (by decide +kernel)) rfl
theorem mw_1154 : (.selects "BackBridge$Search" ⟨"BackBridge$Search", "papersBehind", "(I)I"⟩ ⟨"BackBridge$Search", "papersBehind", "(I)I"⟩ : Cond) ∈ sm_wl := sn_m (List.mem_of_getElem? (i := 1154) (by decide +kernel)) rfl
set_option maxRecDepth 100000 in
theorem mw_1155 : (.code ⟨"BackBridge$Search", "papersBehind", "(I)I"⟩ prog_10_method_14_code 2 (some .int) : Cond) ∈ sm_wl := sn_m (List.mem_of_getElem? (i := 1155) (by rfl)) rfl
set_option maxRecDepth 100000 in
theorem mw_1159 : (.code ⟨"BackBridge", "reach", "(I)I"⟩ prog_1_method_22_code 2 (some .int) : Cond) ∈ sm_wl := sn_m (List.mem_of_getElem? (i := 1159) (by rfl)) rfl
theorem mw_1160 : (.methodLink "BackBridge" 273 ⟨"BackBridge$Search", "reached", "()I"⟩ : Cond) ∈ sm_wl := sn_m (List.mem_of_getElem? (i := 1160) (by decide +kernel)) rfl
theorem mw_1161 : (.instanceMethod ⟨"BackBridge$Search", "reached", "()I"⟩ : Cond) ∈ sm_wl := sn_m (List.mem_of_getElem? (i := 1161) (by decide +kernel)) rfl
theorem mw_1162 : (.selects "BackBridge$Search" ⟨"BackBridge$Search", "reached", "()I"⟩ ⟨"BackBridge$Search", "reached", "()I"⟩ : Cond) ∈ sm_wl := sn_m (List.mem_of_getElem? (i := 1162) (by decide +kernel)) rfl
set_option maxRecDepth 100000 in
theorem mw_1163 : (.code ⟨"BackBridge$Search", "reached", "()I"⟩ prog_10_method_15_code 3 (some .int) : Cond) ∈ sm_wl := sn_m (List.mem_of_getElem? (i := 1163) (by rfl)) rfl
set_option maxRecDepth 100000 in
theorem mw_1167 : (.code ⟨"BackBridge", "ways", "(III)J"⟩ prog_1_method_23_code 4 (some .long) : Cond) ∈ sm_wl := sn_m (List.mem_of_getElem? (i := 1167) (by rfl)) rfl
theorem mw_1168 : (.constantLong "BackBridge" 276 (-2) : Cond) ∈ sm_wl := sn_m (List.mem_of_getElem? (i := 1168) (by decide +kernel)) rfl
theorem mw_1169 : (.constantLong "BackBridge" 278 (-3) : Cond) ∈ sm_wl := sn_m (List.mem_of_getElem? (i := 1169) (by decide +kernel)) rfl
theorem mw_1170 : (.methodLink "BackBridge" 280 ⟨"BackBridge$Search", "startAt", "(LBackBridge$World;I)V"⟩ : Cond) ∈ sm_wl := sn_m (List.mem_of_getElem? (i := 1170) (by decide +kernel)) rfl
theorem mw_1171 : (.methodLink "BackBridge" 283 ⟨"BackBridge$Search", "waysTo", "(II)J"⟩ : Cond) ∈ sm_wl := sn_m (List.mem_of_getElem? (i := 1171) (by decide +kernel)) rfl
theorem mw_1172 : (.instanceMethod ⟨"BackBridge$Search", "waysTo", "(II)J"⟩ : Cond) ∈ sm_wl := sn_m (List.mem_of_getElem? (i := 1172) (by decide +kernel)) rfl
theorem mw_1173 : (.selects "BackBridge$Search" ⟨"BackBridge$Search", "waysTo", "(II)J"⟩ ⟨"BackBridge$Search", "waysTo", "(II)J"⟩ : Cond) ∈ sm_wl := sn_m (List.mem_of_getElem? (i := 1173) (by decide +kernel)) rfl
set_option maxRecDepth 100000 in
theorem mw_1174 : (.code ⟨"BackBridge$Search", "waysTo", "(II)J"⟩ prog_10_method_23_code 6 (some .long) : Cond) ∈ sm_wl := sn_m (List.mem_of_getElem? (i := 1174) (by rfl)) rfl
theorem mw_1175 : (.methodLink "BackBridge$Search" 179 ⟨"java/util/Arrays", "fill", "([JJ)V"⟩ : Cond) ∈ sm_wl := sn_m (List.mem_of_getElem? (i := 1175) (by decide +kernel)) rfl
theorem mw_1176 : (.static ⟨"java/util/Arrays", "fill", "([JJ)V"⟩ : Cond) ∈ sm_wl := sn_m (List.mem_of_getElem? (i := 1176) (by decide +kernel)) rfl
set_option maxRecDepth 100000 in
theorem mw_1177 : (.code ⟨"java/util/Arrays", "fill", "([JJ)V"⟩ prog_23_method_101_code 5 none : Cond) ∈ sm_wl := sn_m (List.mem_of_getElem? (i := 1177) (by rfl)) rfl
theorem mw_1178 : (.methodLink "BackBridge$Search" 182 ⟨"BackBridge$Search", "tallyStep", "([J[J)V"⟩ : Cond) ∈ sm_wl := sn_m (List.mem_of_getElem? (i := 1178) (by decide +kernel)) rfl
theorem mw_1180 : (.instanceMethod ⟨"BackBridge$Search", "tallyStep", "([J[J)V"⟩ : Cond) ∈ sm_wl := sn_m (List.mem_of_getElem? (i := 1180) (by decide +kernel)) rfl
set_option maxRecDepth 100000 in
theorem mw_1181 : (.code ⟨"BackBridge$Search", "tallyStep", "([J[J)V"⟩ prog_10_method_24_code 6 none : Cond) ∈ sm_wl := sn_m (List.mem_of_getElem? (i := 1181) (by rfl)) rfl
set_option maxRecDepth 100000 in
theorem mw_1185 : (.code ⟨"BackBridge", "needed", "(II)I"⟩ prog_1_method_24_code 3 (some .int) : Cond) ∈ sm_wl := sn_m (List.mem_of_getElem? (i := 1185) (by rfl)) rfl
theorem mw_1186 : (.methodLink "BackBridge" 287 ⟨"BackBridge$Choices", "roadsNeeded", "(II)I"⟩ : Cond) ∈ sm_wl := sn_m (List.mem_of_getElem? (i := 1186) (by decide +kernel)) rfl
theorem mw_1187 : (.instanceMethod ⟨"BackBridge$Choices", "roadsNeeded", "(II)I"⟩ : Cond) ∈ sm_wl := sn_m (List.mem_of_getElem? (i := 1187) (by decide +kernel)) rfl
theorem mw_1188 : (.selects "BackBridge$Choices" ⟨"BackBridge$Choices", "roadsNeeded", "(II)I"⟩ ⟨"BackBridge$Choices", "roadsNeeded", "(II)I"⟩ : Cond) ∈ sm_wl := sn_m (List.mem_of_getElem? (i := 1188) (by decide +kernel)) rfl
set_option maxRecDepth 100000 in
theorem mw_1189 : (.code ⟨"BackBridge$Choices", "roadsNeeded", "(II)I"⟩ prog_3_method_3_code 6 (some .int) : Cond) ∈ sm_wl := sn_m (List.mem_of_getElem? (i := 1189) (by rfl)) rfl
theorem mw_1190 : (.methodLink "BackBridge$Choices" 39 ⟨"BackBridge$Choices", "seek", "(I)V"⟩ : Cond) ∈ sm_wl := sn_m (List.mem_of_getElem? (i := 1190) (by decide +kernel)) rfl
theorem mw_1191 : (.methodLink "BackBridge$Choices" 43 ⟨"BackBridge$Search", "roadsTo", "(I)I"⟩ : Cond) ∈ sm_wl := sn_m (List.mem_of_getElem? (i := 1191) (by decide +kernel)) rfl
theorem mw_1192 : (.instanceMethod ⟨"BackBridge$Search", "roadsTo", "(I)I"⟩ : Cond) ∈ sm_wl := sn_m (List.mem_of_getElem? (i := 1192) (by decide +kernel)) rfl
theorem mw_1193 : (.selects "BackBridge$Search" ⟨"BackBridge$Search", "roadsTo", "(I)I"⟩ ⟨"BackBridge$Search", "roadsTo", "(I)I"⟩ : Cond) ∈ sm_wl := sn_m (List.mem_of_getElem? (i := 1193) (by decide +kernel)) rfl
set_option maxRecDepth 100000 in
theorem mw_1194 : (.code ⟨"BackBridge$Search", "roadsTo", "(I)I"⟩ prog_10_method_21_code 4 (some .int) : Cond) ∈ sm_wl := sn_m (List.mem_of_getElem? (i := 1194) (by rfl)) rfl
theorem mw_1195 : (.methodLink "BackBridge$Search" 160 ⟨"BackBridge$Search", "spellTo", "(I)V"⟩ : Cond) ∈ sm_wl := sn_m (List.mem_of_getElem? (i := 1195) (by decide +kernel)) rfl
theorem mw_1196 : (.methodLink "BackBridge$Choices" 61 ⟨"BackBridge$Search", "daysTo", "(I)I"⟩ : Cond) ∈ sm_wl := sn_m (List.mem_of_getElem? (i := 1196) (by decide +kernel)) rfl
set_option maxRecDepth 100000 in
theorem mw_1200 : (.code ⟨"BackBridge", "proofs", "(II)I"⟩ prog_1_method_25_code 3 (some .int) : Cond) ∈ sm_wl := sn_m (List.mem_of_getElem? (i := 1200) (by rfl)) rfl
theorem mw_1201 : (.methodLink "BackBridge" 290 ⟨"BackBridge$Choices", "fewestPapers", "(II)I"⟩ : Cond) ∈ sm_wl := sn_m (List.mem_of_getElem? (i := 1201) (by decide +kernel)) rfl
theorem mw_1202 : (.instanceMethod ⟨"BackBridge$Choices", "fewestPapers", "(II)I"⟩ : Cond) ∈ sm_wl := sn_m (List.mem_of_getElem? (i := 1202) (by decide +kernel)) rfl
theorem mw_1203 : (.selects "BackBridge$Choices" ⟨"BackBridge$Choices", "fewestPapers", "(II)I"⟩ ⟨"BackBridge$Choices", "fewestPapers", "(II)I"⟩ : Cond) ∈ sm_wl := sn_m (List.mem_of_getElem? (i := 1203) (by decide +kernel)) rfl
set_option maxRecDepth 100000 in
theorem mw_1204 : (.code ⟨"BackBridge$Choices", "fewestPapers", "(II)I"⟩ prog_3_method_4_code 4 (some .int) : Cond) ∈ sm_wl := sn_m (List.mem_of_getElem? (i := 1204) (by rfl)) rfl
set_option maxRecDepth 100000 in
theorem mw_1208 : (.code ⟨"BackBridge", "waives", "(II)I"⟩ prog_1_method_26_code 3 (some .int) : Cond) ∈ sm_wl := sn_m (List.mem_of_getElem? (i := 1208) (by rfl)) rfl
theorem mw_1209 : (.methodLink "BackBridge" 293 ⟨"BackBridge$Choices", "bestWaiver", "(II)I"⟩ : Cond) ∈ sm_wl := sn_m (List.mem_of_getElem? (i := 1209) (by decide +kernel)) rfl
theorem mw_1210 : (.instanceMethod ⟨"BackBridge$Choices", "bestWaiver", "(II)I"⟩ : Cond) ∈ sm_wl := sn_m (List.mem_of_getElem? (i := 1210) (by decide +kernel)) rfl
theorem mw_1211 : (.selects "BackBridge$Choices" ⟨"BackBridge$Choices", "bestWaiver", "(II)I"⟩ ⟨"BackBridge$Choices", "bestWaiver", "(II)I"⟩ : Cond) ∈ sm_wl := sn_m (List.mem_of_getElem? (i := 1211) (by decide +kernel)) rfl
set_option maxRecDepth 100000 in
theorem mw_1212 : (.code ⟨"BackBridge$Choices", "bestWaiver", "(II)I"⟩ prog_3_method_5_code 7 (some .int) : Cond) ∈ sm_wl := sn_m (List.mem_of_getElem? (i := 1212) (by rfl)) rfl
theorem mw_1213 : (.methodLink "BackBridge$Choices" 67 ⟨"BackBridge$Land", "isBridge", "(I)Z"⟩ : Cond) ∈ sm_wl := sn_m (List.mem_of_getElem? (i := 1213) (by decide +kernel)) rfl
set_option maxRecDepth 100000 in
theorem mw_1217 : (.code ⟨"BackBridge", "inTime", "()I"⟩ prog_1_method_27_code 1 (some .int) : Cond) ∈ sm_wl := sn_m (List.mem_of_getElem? (i := 1217) (by rfl)) rfl
theorem mw_1218 : (.methodLink "BackBridge" 296 ⟨"BackBridge$Choices", "timely", "()I"⟩ : Cond) ∈ sm_wl := sn_m (List.mem_of_getElem? (i := 1218) (by decide +kernel)) rfl
theorem mw_1219 : (.instanceMethod ⟨"BackBridge$Choices", "timely", "()I"⟩ : Cond) ∈ sm_wl := sn_m (List.mem_of_getElem? (i := 1219) (by decide +kernel)) rfl
theorem mw_1220 : (.selects "BackBridge$Choices" ⟨"BackBridge$Choices", "timely", "()I"⟩ ⟨"BackBridge$Choices", "timely", "()I"⟩ : Cond) ∈ sm_wl := sn_m (List.mem_of_getElem? (i := 1220) (by decide +kernel)) rfl
set_option maxRecDepth 100000 in
theorem mw_1221 : (.code ⟨"BackBridge$Choices", "timely", "()I"⟩ prog_3_method_8_code 3 (some .int) : Cond) ∈ sm_wl := sn_m (List.mem_of_getElem? (i := 1221) (by rfl)) rfl
theorem mw_1222 : (.methodLink "BackBridge$Choices" 92 ⟨"java/util/Arrays", "fill", "([II)V"⟩ : Cond) ∈ sm_wl := sn_m (List.mem_of_getElem? (i := 1222) (by decide +kernel)) rfl
theorem mw_1223 : (.methodLink "BackBridge$Choices" 101 ⟨"BackBridge$Choices", "hasToDo", "(I)Z"⟩ : Cond) ∈ sm_wl := sn_m (List.mem_of_getElem? (i := 1223) (by decide +kernel)) rfl
theorem mw_1224 : (.instanceMethod ⟨"BackBridge$Choices", "hasToDo", "(I)Z"⟩ : Cond) ∈ sm_wl := sn_m (List.mem_of_getElem? (i := 1224) (by decide +kernel)) rfl
theorem mw_1225 : (.selects "BackBridge$Choices" ⟨"BackBridge$Choices", "hasToDo", "(I)Z"⟩ ⟨"BackBridge$Choices", "hasToDo", "(I)Z"⟩ : Cond) ∈ sm_wl := sn_m (List.mem_of_getElem? (i := 1225) (by decide +kernel)) rfl
set_option maxRecDepth 100000 in
theorem mw_1226 : (.code ⟨"BackBridge$Choices", "hasToDo", "(I)Z"⟩ prog_3_method_6_code 2 (some .boolean) : Cond) ∈ sm_wl := sn_m (List.mem_of_getElem? (i := 1226) (by rfl)) rfl
theorem mw_1227 : (.methodLink "BackBridge$Choices" 104 ⟨"BackBridge$Choices", "daysToWait", "(I)I"⟩ : Cond) ∈ sm_wl := sn_m (List.mem_of_getElem? (i := 1227) (by decide +kernel)) rfl
theorem mw_1228 : (.instanceMethod ⟨"BackBridge$Choices", "daysToWait", "(I)I"⟩ : Cond) ∈ sm_wl := sn_m (List.mem_of_getElem? (i := 1228) (by decide +kernel)) rfl
theorem mw_1229 : (.selects "BackBridge$Choices" ⟨"BackBridge$Choices", "daysToWait", "(I)I"⟩ ⟨"BackBridge$Choices", "daysToWait", "(I)I"⟩ : Cond) ∈ sm_wl := sn_m (List.mem_of_getElem? (i := 1229) (by decide +kernel)) rfl
set_option maxRecDepth 100000 in
theorem mw_1230 : (.code ⟨"BackBridge$Choices", "daysToWait", "(I)I"⟩ prog_3_method_7_code 3 (some .int) : Cond) ∈ sm_wl := sn_m (List.mem_of_getElem? (i := 1230) (by rfl)) rfl
theorem mw_1231 : (.methodLink "BackBridge$Choices" 86 ⟨"java/lang/Math", "max", "(II)I"⟩ : Cond) ∈ sm_wl := sn_m (List.mem_of_getElem? (i := 1231) (by decide +kernel)) rfl
set_option maxRecDepth 100000 in
theorem mw_1235 : (.code ⟨"BackBridge", "spare", "(I)I"⟩ prog_1_method_28_code 2 (some .int) : Cond) ∈ sm_wl := sn_m (List.mem_of_getElem? (i := 1235) (by rfl)) rfl
theorem mw_1236 : (.methodLink "BackBridge" 299 ⟨"BackBridge$Choices", "hasToDo", "(I)Z"⟩ : Cond) ∈ sm_wl := sn_m (List.mem_of_getElem? (i := 1236) (by decide +kernel)) rfl
theorem mw_1237 : (.methodLink "BackBridge" 302 ⟨"BackBridge$Choices", "daysToWait", "(I)I"⟩ : Cond) ∈ sm_wl := sn_m (List.mem_of_getElem? (i := 1237) (by decide +kernel)) rfl
set_option maxRecDepth 100000 in
theorem mw_1241 : (.code ⟨"BackBridge", "helped", "()I"⟩ prog_1_method_29_code 1 (some .int) : Cond) ∈ sm_wl := sn_m (List.mem_of_getElem? (i := 1241) (by rfl)) rfl
theorem mw_1242 : (.methodLink "BackBridge" 305 ⟨"BackBridge$Choices", "firstHelped", "()I"⟩ : Cond) ∈ sm_wl := sn_m (List.mem_of_getElem? (i := 1242) (by decide +kernel)) rfl
theorem mw_1243 : (.instanceMethod ⟨"BackBridge$Choices", "firstHelped", "()I"⟩ : Cond) ∈ sm_wl := sn_m (List.mem_of_getElem? (i := 1243) (by decide +kernel)) rfl
theorem mw_1244 : (.selects "BackBridge$Choices" ⟨"BackBridge$Choices", "firstHelped", "()I"⟩ ⟨"BackBridge$Choices", "firstHelped", "()I"⟩ : Cond) ∈ sm_wl := sn_m (List.mem_of_getElem? (i := 1244) (by decide +kernel)) rfl
set_option maxRecDepth 100000 in
theorem mw_1245 : (.code ⟨"BackBridge$Choices", "firstHelped", "()I"⟩ prog_3_method_9_code 3 (some .int) : Cond) ∈ sm_wl := sn_m (List.mem_of_getElem? (i := 1245) (by rfl)) rfl
set_option maxRecDepth 100000 in
theorem mw_1249 : (.code ⟨"BackBridge", "worst", "()I"⟩ prog_1_method_30_code 1 (some .int) : Cond) ∈ sm_wl := sn_m (List.mem_of_getElem? (i := 1249) (by rfl)) rfl
theorem mw_1250 : (.methodLink "BackBridge" 308 ⟨"BackBridge$Choices", "worstRoad", "()I"⟩ : Cond) ∈ sm_wl := sn_m (List.mem_of_getElem? (i := 1250) (by decide +kernel)) rfl
theorem mw_1251 : (.instanceMethod ⟨"BackBridge$Choices", "worstRoad", "()I"⟩ : Cond) ∈ sm_wl := sn_m (List.mem_of_getElem? (i := 1251) (by decide +kernel)) rfl
theorem mw_1252 : (.selects "BackBridge$Choices" ⟨"BackBridge$Choices", "worstRoad", "()I"⟩ ⟨"BackBridge$Choices", "worstRoad", "()I"⟩ : Cond) ∈ sm_wl := sn_m (List.mem_of_getElem? (i := 1252) (by decide +kernel)) rfl
set_option maxRecDepth 100000 in
theorem mw_1253 : (.code ⟨"BackBridge$Choices", "worstRoad", "()I"⟩ prog_3_method_10_code 5 (some .int) : Cond) ∈ sm_wl := sn_m (List.mem_of_getElem? (i := 1253) (by rfl)) rfl
theorem mw_1254 : (.methodLink "BackBridge$Choices" 109 ⟨"BackBridge$Choices", "timely", "()I"⟩ : Cond) ∈ sm_wl := sn_m (List.mem_of_getElem? (i := 1254) (by decide +kernel)) rfl
theorem mw_1255 : (.methodLink "BackBridge$Choices" 113 ⟨"BackBridge$Choices", "lateWithout", "(I)I"⟩ : Cond) ∈ sm_wl := sn_m (List.mem_of_getElem? (i := 1255) (by decide +kernel)) rfl
theorem mw_1257 : (.instanceMethod ⟨"BackBridge$Choices", "lateWithout", "(I)I"⟩ : Cond) ∈ sm_wl := sn_m (List.mem_of_getElem? (i := 1257) (by decide +kernel)) rfl
set_option maxRecDepth 100000 in
theorem mw_1258 : (.code ⟨"BackBridge$Choices", "lateWithout", "(I)I"⟩ prog_3_method_11_code 4 (some .int) : Cond) ∈ sm_wl := sn_m (List.mem_of_getElem? (i := 1258) (by rfl)) rfl
set_option maxRecDepth 100000 in
theorem mw_1262 : (.code ⟨"BackBridge", "loophole", "(I)I"⟩ prog_1_method_31_code 2 (some .int) : Cond) ∈ sm_wl := sn_m (List.mem_of_getElem? (i := 1262) (by rfl)) rfl
theorem mw_1263 : (.methodLink "BackBridge" 311 ⟨"BackBridge$Search", "daysToLoophole", "()I"⟩ : Cond) ∈ sm_wl := sn_m (List.mem_of_getElem? (i := 1263) (by decide +kernel)) rfl
theorem mw_1264 : (.instanceMethod ⟨"BackBridge$Search", "daysToLoophole", "()I"⟩ : Cond) ∈ sm_wl := sn_m (List.mem_of_getElem? (i := 1264) (by decide +kernel)) rfl
theorem mw_1265 : (.selects "BackBridge$Search" ⟨"BackBridge$Search", "daysToLoophole", "()I"⟩ ⟨"BackBridge$Search", "daysToLoophole", "()I"⟩ : Cond) ∈ sm_wl := sn_m (List.mem_of_getElem? (i := 1265) (by decide +kernel)) rfl
set_option maxRecDepth 100000 in
theorem mw_1266 : (.code ⟨"BackBridge$Search", "daysToLoophole", "()I"⟩ prog_10_method_16_code 1 (some .int) : Cond) ∈ sm_wl := sn_m (List.mem_of_getElem? (i := 1266) (by rfl)) rfl
set_option maxRecDepth 100000 in
theorem mw_1270 : (.code ⟨"BackBridge", "loopWay", "(II)I"⟩ prog_1_method_32_code 3 (some .int) : Cond) ∈ sm_wl := sn_m (List.mem_of_getElem? (i := 1270) (by rfl)) rfl
theorem mw_1271 : (.methodLink "BackBridge" 314 ⟨"BackBridge$Search", "spellLoophole", "()V"⟩ : Cond) ∈ sm_wl := sn_m (List.mem_of_getElem? (i := 1271) (by decide +kernel)) rfl
theorem mw_1272 : (.instanceMethod ⟨"BackBridge$Search", "spellLoophole", "()V"⟩ : Cond) ∈ sm_wl := sn_m (List.mem_of_getElem? (i := 1272) (by decide +kernel)) rfl
theorem mw_1273 : (.selects "BackBridge$Search" ⟨"BackBridge$Search", "spellLoophole", "()V"⟩ ⟨"BackBridge$Search", "spellLoophole", "()V"⟩ : Cond) ∈ sm_wl := sn_m (List.mem_of_getElem? (i := 1273) (by decide +kernel)) rfl
set_option maxRecDepth 100000 in
theorem mw_1274 : (.code ⟨"BackBridge$Search", "spellLoophole", "()V"⟩ prog_10_method_18_code 1 none : Cond) ∈ sm_wl := sn_m (List.mem_of_getElem? (i := 1274) (by rfl)) rfl
set_option maxRecDepth 100000 in
theorem mw_1278 : (.code ⟨"BackBridge", "round", "(I)I"⟩ prog_1_method_33_code 2 (some .int) : Cond) ∈ sm_wl := sn_m (List.mem_of_getElem? (i := 1278) (by rfl)) rfl
theorem mw_1279 : (.methodLink "BackBridge" 317 ⟨"BackBridge$Search", "daysRound", "()I"⟩ : Cond) ∈ sm_wl := sn_m (List.mem_of_getElem? (i := 1279) (by decide +kernel)) rfl
theorem mw_1280 : (.instanceMethod ⟨"BackBridge$Search", "daysRound", "()I"⟩ : Cond) ∈ sm_wl := sn_m (List.mem_of_getElem? (i := 1280) (by decide +kernel)) rfl
theorem mw_1281 : (.selects "BackBridge$Search" ⟨"BackBridge$Search", "daysRound", "()I"⟩ ⟨"BackBridge$Search", "daysRound", "()I"⟩ : Cond) ∈ sm_wl := sn_m (List.mem_of_getElem? (i := 1281) (by decide +kernel)) rfl
set_option maxRecDepth 100000 in
theorem mw_1282 : (.code ⟨"BackBridge$Search", "daysRound", "()I"⟩ prog_10_method_22_code 3 (some .int) : Cond) ∈ sm_wl := sn_m (List.mem_of_getElem? (i := 1282) (by rfl)) rfl
theorem mw_1283 : (.methodLink "BackBridge$Search" 166 ⟨"java/lang/Integer", "bitCount", "(I)I"⟩ : Cond) ∈ sm_wl := sn_m (List.mem_of_getElem? (i := 1283) (by decide +kernel)) rfl
theorem mw_1284 : (.methodLink "BackBridge$Search" 171 ⟨"BackBridge$Search", "spread", "()V"⟩ : Cond) ∈ sm_wl := sn_m (List.mem_of_getElem? (i := 1284) (by decide +kernel)) rfl
theorem mw_1285 : (.methodLink "BackBridge$Search" 174 ⟨"java/lang/Math", "min", "(II)I"⟩ : Cond) ∈ sm_wl := sn_m (List.mem_of_getElem? (i := 1285) (by decide +kernel)) rfl
set_option maxRecDepth 100000 in
theorem mw_1289 : (.code ⟨"BackBridge", "crosses", "(I)I"⟩ prog_1_method_34_code 2 (some .int) : Cond) ∈ sm_wl := sn_m (List.mem_of_getElem? (i := 1289) (by rfl)) rfl
set_option maxRecDepth 100000 in
theorem mw_1293 : (.code ⟨"BackBridge", "meet", "(II)I"⟩ prog_1_method_35_code 4 (some .int) : Cond) ∈ sm_wl := sn_m (List.mem_of_getElem? (i := 1293) (by rfl)) rfl
theorem mw_1294 : (.methodLink "BackBridge" 323 ⟨"BackBridge$Choices", "soonestMeeting", "(II)I"⟩ : Cond) ∈ sm_wl := sn_m (List.mem_of_getElem? (i := 1294) (by decide +kernel)) rfl
theorem mw_1295 : (.instanceMethod ⟨"BackBridge$Choices", "soonestMeeting", "(II)I"⟩ : Cond) ∈ sm_wl := sn_m (List.mem_of_getElem? (i := 1295) (by decide +kernel)) rfl
theorem mw_1296 : (.selects "BackBridge$Choices" ⟨"BackBridge$Choices", "soonestMeeting", "(II)I"⟩ ⟨"BackBridge$Choices", "soonestMeeting", "(II)I"⟩ : Cond) ∈ sm_wl := sn_m (List.mem_of_getElem? (i := 1296) (by decide +kernel)) rfl
set_option maxRecDepth 100000 in
theorem mw_1297 : (.code ⟨"BackBridge$Choices", "soonestMeeting", "(II)I"⟩ prog_3_method_12_code 7 (some .int) : Cond) ∈ sm_wl := sn_m (List.mem_of_getElem? (i := 1297) (by rfl)) rfl
theorem mw_1298 : (.methodLink "BackBridge$Choices" 119 ⟨"java/lang/Math", "min", "(II)I"⟩ : Cond) ∈ sm_wl := sn_m (List.mem_of_getElem? (i := 1298) (by decide +kernel)) rfl
set_option maxRecDepth 100000 in
theorem mw_1302 : (.code ⟨"BackBridge", "meetAt", "(II)I"⟩ prog_1_method_36_code 4 (some .int) : Cond) ∈ sm_wl := sn_m (List.mem_of_getElem? (i := 1302) (by rfl)) rfl
set_option maxRecDepth 100000 in
theorem mw_1306 : (.code ⟨"BackBridge", "shoes", "(II)I"⟩ prog_1_method_37_code 4 (some .int) : Cond) ∈ sm_wl := sn_m (List.mem_of_getElem? (i := 1306) (by rfl)) rfl
theorem mw_1307 : (.methodLink "BackBridge" 326 ⟨"BackBridge$Answers", "weigh", "(LBackBridge$Trays;II)I"⟩ : Cond) ∈ sm_wl := sn_m (List.mem_of_getElem? (i := 1307) (by decide +kernel)) rfl
theorem mw_1308 : (.instanceMethod ⟨"BackBridge$Answers", "weigh", "(LBackBridge$Trays;II)I"⟩ : Cond) ∈ sm_wl := sn_m (List.mem_of_getElem? (i := 1308) (by decide +kernel)) rfl
theorem mw_1309 : (.selects "BackBridge$Answers" ⟨"BackBridge$Answers", "weigh", "(LBackBridge$Trays;II)I"⟩ ⟨"BackBridge$Answers", "weigh", "(LBackBridge$Trays;II)I"⟩ : Cond) ∈ sm_wl := sn_m (List.mem_of_getElem? (i := 1309) (by decide +kernel)) rfl
set_option maxRecDepth 100000 in
theorem mw_1310 : (.code ⟨"BackBridge$Answers", "weigh", "(LBackBridge$Trays;II)I"⟩ prog_2_method_2_code 9 (some .int) : Cond) ∈ sm_wl := sn_m (List.mem_of_getElem? (i := 1310) (by rfl)) rfl
theorem mw_1311 : (.methodLink "BackBridge$Answers" 23 ⟨"BackBridge$Land", "hasPerson", "(I)Z"⟩ : Cond) ∈ sm_wl := sn_m (List.mem_of_getElem? (i := 1311) (by decide +kernel)) rfl
theorem mw_1312 : (.methodLink "BackBridge$Answers" 29 ⟨"BackBridge$Trays", "isTray", "(I)Z"⟩ : Cond) ∈ sm_wl := sn_m (List.mem_of_getElem? (i := 1312) (by decide +kernel)) rfl
theorem mw_1313 : (.methodLink "BackBridge$Answers" 34 ⟨"BackBridge$Trays", "isMissing", "(I)Z"⟩ : Cond) ∈ sm_wl := sn_m (List.mem_of_getElem? (i := 1313) (by decide +kernel)) rfl
theorem mw_1314 : (.methodLink "BackBridge$Answers" 45 ⟨"BackBridge$Answers", "isAnswer", "(J)Z"⟩ : Cond) ∈ sm_wl := sn_m (List.mem_of_getElem? (i := 1314) (by decide +kernel)) rfl
theorem mw_1316 : (.instanceMethod ⟨"BackBridge$Answers", "isAnswer", "(J)Z"⟩ : Cond) ∈ sm_wl := sn_m (List.mem_of_getElem? (i := 1316) (by decide +kernel)) rfl
set_option maxRecDepth 100000 in
theorem mw_1317 : (.code ⟨"BackBridge$Answers", "isAnswer", "(J)Z"⟩ prog_2_method_3_code 3 (some .boolean) : Cond) ∈ sm_wl := sn_m (List.mem_of_getElem? (i := 1317) (by rfl)) rfl
theorem mw_1318 : (.constantLong "BackBridge$Answers" 71 (100) : Cond) ∈ sm_wl := sn_m (List.mem_of_getElem? (i := 1318) (by decide +kernel)) rfl
theorem mw_1319 : (.constantLong "BackBridge$Answers" 77 (10) : Cond) ∈ sm_wl := sn_m (List.mem_of_getElem? (i := 1319) (by decide +kernel)) rfl
theorem mw_1320 : (.constantLong "BackBridge$Answers" 79 (2) : Cond) ∈ sm_wl := sn_m (List.mem_of_getElem? (i := 1320) (by decide +kernel)) rfl
theorem mw_1321 : (.methodLink "BackBridge$Answers" 81 ⟨"BackBridge$Land", "isBridge", "(I)Z"⟩ : Cond) ∈ sm_wl := sn_m (List.mem_of_getElem? (i := 1321) (by decide +kernel)) rfl
theorem mw_1322 : (.methodLink "BackBridge$Answers" 57 ⟨"BackBridge$Answers", "setsWith", "(I)J"⟩ : Cond) ∈ sm_wl := sn_m (List.mem_of_getElem? (i := 1322) (by decide +kernel)) rfl
theorem mw_1324 : (.instanceMethod ⟨"BackBridge$Answers", "setsWith", "(I)J"⟩ : Cond) ∈ sm_wl := sn_m (List.mem_of_getElem? (i := 1324) (by decide +kernel)) rfl
set_option maxRecDepth 100000 in
theorem mw_1325 : (.code ⟨"BackBridge$Answers", "setsWith", "(I)J"⟩ prog_2_method_4_code 5 (some .long) : Cond) ∈ sm_wl := sn_m (List.mem_of_getElem? (i := 1325) (by rfl)) rfl
theorem mw_1326 : (.methodLink "BackBridge$Answers" 65 ⟨"BackBridge$Answers", "setsLet", "(III)J"⟩ : Cond) ∈ sm_wl := sn_m (List.mem_of_getElem? (i := 1326) (by decide +kernel)) rfl
theorem mw_1328 : (.instanceMethod ⟨"BackBridge$Answers", "setsLet", "(III)J"⟩ : Cond) ∈ sm_wl := sn_m (List.mem_of_getElem? (i := 1328) (by decide +kernel)) rfl
set_option maxRecDepth 100000 in
theorem mw_1329 : (.code ⟨"BackBridge$Answers", "setsLet", "(III)J"⟩ prog_2_method_5_code 9 (some .long) : Cond) ∈ sm_wl := sn_m (List.mem_of_getElem? (i := 1329) (by rfl)) rfl
theorem mw_1330 : (.methodLink "BackBridge$Answers" 96 ⟨"BackBridge$Laws", "price", "(IIIII)I"⟩ : Cond) ∈ sm_wl := sn_m (List.mem_of_getElem? (i := 1330) (by decide +kernel)) rfl
theorem mw_1331 : (.constantLong "BackBridge$Answers" 69 (-1) : Cond) ∈ sm_wl := sn_m (List.mem_of_getElem? (i := 1331) (by decide +kernel)) rfl
theorem mw_1332 : (.methodLink "BackBridge" 334 ⟨"java/lang/Long", "bitCount", "(J)I"⟩ : Cond) ∈ sm_wl := sn_m (List.mem_of_getElem? (i := 1332) (by decide +kernel)) rfl
theorem mw_1333 : (.static ⟨"java/lang/Long", "bitCount", "(J)I"⟩ : Cond) ∈ sm_wl := sn_m (List.mem_of_getElem? (i := 1333) (by decide +kernel)) rfl
set_option maxRecDepth 100000 in
theorem mw_1334 : (.code ⟨"java/lang/Long", "bitCount", "(J)I"⟩ prog_17_method_50_code 2 (some .int) : Cond) ∈ sm_wl := sn_m (List.mem_of_getElem? (i := 1334) (by rfl)) rfl
theorem mw_1335 : (.constantLong "java/lang/Long" 314 (6148914691236517205) : Cond) ∈ sm_wl := sn_m (List.mem_of_getElem? (i := 1335) (by decide +kernel)) rfl
theorem mw_1336 : (.constantLong "java/lang/Long" 316 (3689348814741910323) : Cond) ∈ sm_wl := sn_m (List.mem_of_getElem? (i := 1336) (by decide +kernel)) rfl
theorem mw_1337 : (.constantLong "java/lang/Long" 318 (1085102592571150095) : Cond) ∈ sm_wl := sn_m (List.mem_of_getElem? (i := 1337) (by decide +kernel)) rfl
set_option maxRecDepth 100000 in
theorem mw_1341 : (.code ⟨"BackBridge", "sure", "(II)I"⟩ prog_1_method_38_code 4 (some .int) : Cond) ∈ sm_wl := sn_m (List.mem_of_getElem? (i := 1341) (by rfl)) rfl
theorem mw_1342 : (.methodLink "BackBridge" 340 ⟨"BackBridge$Answers", "common", "()I"⟩ : Cond) ∈ sm_wl := sn_m (List.mem_of_getElem? (i := 1342) (by decide +kernel)) rfl
theorem mw_1343 : (.instanceMethod ⟨"BackBridge$Answers", "common", "()I"⟩ : Cond) ∈ sm_wl := sn_m (List.mem_of_getElem? (i := 1343) (by decide +kernel)) rfl
theorem mw_1344 : (.selects "BackBridge$Answers" ⟨"BackBridge$Answers", "common", "()I"⟩ ⟨"BackBridge$Answers", "common", "()I"⟩ : Cond) ∈ sm_wl := sn_m (List.mem_of_getElem? (i := 1344) (by decide +kernel)) rfl
set_option maxRecDepth 100000 in
theorem mw_1345 : (.code ⟨"BackBridge$Answers", "common", "()I"⟩ prog_2_method_6_code 3 (some .int) : Cond) ∈ sm_wl := sn_m (List.mem_of_getElem? (i := 1345) (by rfl)) rfl
set_option maxRecDepth 100000 in
theorem mw_1349 : (.code ⟨"BackBridge", "ask", "(II)I"⟩ prog_1_method_39_code 4 (some .int) : Cond) ∈ sm_wl := sn_m (List.mem_of_getElem? (i := 1349) (by rfl)) rfl
theorem mw_1350 : (.methodLink "BackBridge" 343 ⟨"BackBridge$Answers", "bestQuestion", "(I)I"⟩ : Cond) ∈ sm_wl := sn_m (List.mem_of_getElem? (i := 1350) (by decide +kernel)) rfl
theorem mw_1351 : (.instanceMethod ⟨"BackBridge$Answers", "bestQuestion", "(I)I"⟩ : Cond) ∈ sm_wl := sn_m (List.mem_of_getElem? (i := 1351) (by decide +kernel)) rfl
theorem mw_1352 : (.selects "BackBridge$Answers" ⟨"BackBridge$Answers", "bestQuestion", "(I)I"⟩ ⟨"BackBridge$Answers", "bestQuestion", "(I)I"⟩ : Cond) ∈ sm_wl := sn_m (List.mem_of_getElem? (i := 1352) (by decide +kernel)) rfl
set_option maxRecDepth 100000 in
theorem mw_1353 : (.code ⟨"BackBridge$Answers", "bestQuestion", "(I)I"⟩ prog_2_method_7_code 7 (some .int) : Cond) ∈ sm_wl := sn_m (List.mem_of_getElem? (i := 1353) (by rfl)) rfl
theorem mw_1354 : (.methodLink "BackBridge$Answers" 102 ⟨"java/lang/Long", "bitCount", "(J)I"⟩ : Cond) ∈ sm_wl := sn_m (List.mem_of_getElem? (i := 1354) (by decide +kernel)) rfl
theorem mw_1355 : (.methodLink "BackBridge$Answers" 108 ⟨"java/lang/Math", "min", "(II)I"⟩ : Cond) ∈ sm_wl := sn_m (List.mem_of_getElem? (i := 1355) (by decide +kernel)) rfl
set_option maxRecDepth 100000 in
theorem mw_1359 : (.code ⟨"BackBridge", "dry", "(III)J"⟩ prog_1_method_40_code 4 (some .long) : Cond) ∈ sm_wl := sn_m (List.mem_of_getElem? (i := 1359) (by rfl)) rfl
theorem mw_1360 : (.constantLong "BackBridge" 346 (-1) : Cond) ∈ sm_wl := sn_m (List.mem_of_getElem? (i := 1360) (by decide +kernel)) rfl
theorem mw_1361 : (.methodLink "BackBridge" 348 ⟨"BackBridge$Choices", "weighFloods", "(I)V"⟩ : Cond) ∈ sm_wl := sn_m (List.mem_of_getElem? (i := 1361) (by decide +kernel)) rfl
theorem mw_1362 : (.instanceMethod ⟨"BackBridge$Choices", "weighFloods", "(I)V"⟩ : Cond) ∈ sm_wl := sn_m (List.mem_of_getElem? (i := 1362) (by decide +kernel)) rfl
theorem mw_1363 : (.selects "BackBridge$Choices" ⟨"BackBridge$Choices", "weighFloods", "(I)V"⟩ ⟨"BackBridge$Choices", "weighFloods", "(I)V"⟩ : Cond) ∈ sm_wl := sn_m (List.mem_of_getElem? (i := 1363) (by decide +kernel)) rfl
set_option maxRecDepth 100000 in
theorem mw_1364 : (.code ⟨"BackBridge$Choices", "weighFloods", "(I)V"⟩ prog_3_method_13_code 4 none : Cond) ∈ sm_wl := sn_m (List.mem_of_getElem? (i := 1364) (by rfl)) rfl
theorem mw_1365 : (.constantLong "BackBridge$Choices" 132 (10) : Cond) ∈ sm_wl := sn_m (List.mem_of_getElem? (i := 1365) (by decide +kernel)) rfl
theorem mw_1366 : (.methodLink "BackBridge" 351 ⟨"BackBridge$Choices", "lowerFloods", "()V"⟩ : Cond) ∈ sm_wl := sn_m (List.mem_of_getElem? (i := 1366) (by decide +kernel)) rfl
theorem mw_1367 : (.instanceMethod ⟨"BackBridge$Choices", "lowerFloods", "()V"⟩ : Cond) ∈ sm_wl := sn_m (List.mem_of_getElem? (i := 1367) (by decide +kernel)) rfl
theorem mw_1368 : (.selects "BackBridge$Choices" ⟨"BackBridge$Choices", "lowerFloods", "()V"⟩ ⟨"BackBridge$Choices", "lowerFloods", "()V"⟩ : Cond) ∈ sm_wl := sn_m (List.mem_of_getElem? (i := 1368) (by decide +kernel)) rfl
set_option maxRecDepth 100000 in
theorem mw_1369 : (.code ⟨"BackBridge$Choices", "lowerFloods", "()V"⟩ prog_3_method_14_code 2 none : Cond) ∈ sm_wl := sn_m (List.mem_of_getElem? (i := 1369) (by rfl)) rfl
theorem mw_1370 : (.constantLong "BackBridge$Choices" 134 (2) : Cond) ∈ sm_wl := sn_m (List.mem_of_getElem? (i := 1370) (by decide +kernel)) rfl
theorem mw_1371 : (.constantLong "BackBridge$Choices" 136 (5) : Cond) ∈ sm_wl := sn_m (List.mem_of_getElem? (i := 1371) (by decide +kernel)) rfl
set_option maxRecDepth 100000 in
theorem mw_1375 : (.code ⟨"BackBridge", "safest", "(I)I"⟩ prog_1_method_41_code 2 (some .int) : Cond) ∈ sm_wl := sn_m (List.mem_of_getElem? (i := 1375) (by rfl)) rfl
theorem mw_1376 : (.methodLink "BackBridge" 360 ⟨"BackBridge$Choices", "driestPlace", "(I)I"⟩ : Cond) ∈ sm_wl := sn_m (List.mem_of_getElem? (i := 1376) (by decide +kernel)) rfl
theorem mw_1377 : (.instanceMethod ⟨"BackBridge$Choices", "driestPlace", "(I)I"⟩ : Cond) ∈ sm_wl := sn_m (List.mem_of_getElem? (i := 1377) (by decide +kernel)) rfl
theorem mw_1378 : (.selects "BackBridge$Choices" ⟨"BackBridge$Choices", "driestPlace", "(I)I"⟩ ⟨"BackBridge$Choices", "driestPlace", "(I)I"⟩ : Cond) ∈ sm_wl := sn_m (List.mem_of_getElem? (i := 1378) (by decide +kernel)) rfl
set_option maxRecDepth 100000 in
theorem mw_1379 : (.code ⟨"BackBridge$Choices", "driestPlace", "(I)I"⟩ prog_3_method_15_code 8 (some .int) : Cond) ∈ sm_wl := sn_m (List.mem_of_getElem? (i := 1379) (by rfl)) rfl
theorem mw_1380 : (.constantLong "BackBridge$Choices" 138 (-1) : Cond) ∈ sm_wl := sn_m (List.mem_of_getElem? (i := 1380) (by decide +kernel)) rfl
theorem mw_1381 : (.methodLink "BackBridge$Choices" 140 ⟨"BackBridge$Choices", "weighFloods", "(I)V"⟩ : Cond) ∈ sm_wl := sn_m (List.mem_of_getElem? (i := 1381) (by decide +kernel)) rfl
theorem mw_1382 : (.constantLong "BackBridge$Choices" 143 (1000000000000) : Cond) ∈ sm_wl := sn_m (List.mem_of_getElem? (i := 1382) (by decide +kernel)) rfl
theorem mw_1383 : (.methodLink "BackBridge$Choices" 145 ⟨"java/lang/Math", "max", "(JJ)J"⟩ : Cond) ∈ sm_wl := sn_m (List.mem_of_getElem? (i := 1383) (by decide +kernel)) rfl
set_option maxRecDepth 100000 in
theorem mw_1387 : (.code ⟨"BackBridge", "numbers", "(III)I"⟩ prog_1_method_42_code 4 (some .int) : Cond) ∈ sm_wl := sn_m (List.mem_of_getElem? (i := 1387) (by rfl)) rfl
theorem mw_1388 : (.methodLink "BackBridge" 363 ⟨"BackBridge$Trays", "make", "(III)V"⟩ : Cond) ∈ sm_wl := sn_m (List.mem_of_getElem? (i := 1388) (by decide +kernel)) rfl
theorem mw_1389 : (.instanceMethod ⟨"BackBridge$Trays", "make", "(III)V"⟩ : Cond) ∈ sm_wl := sn_m (List.mem_of_getElem? (i := 1389) (by decide +kernel)) rfl
theorem mw_1390 : (.selects "BackBridge$Trays" ⟨"BackBridge$Trays", "make", "(III)V"⟩ ⟨"BackBridge$Trays", "make", "(III)V"⟩ : Cond) ∈ sm_wl := sn_m (List.mem_of_getElem? (i := 1390) (by decide +kernel)) rfl
set_option maxRecDepth 100000 in
theorem mw_1391 : (.code ⟨"BackBridge$Trays", "make", "(III)V"⟩ prog_11_method_4_code 4 none : Cond) ∈ sm_wl := sn_m (List.mem_of_getElem? (i := 1391) (by rfl)) rfl
theorem mw_1392 : (.methodLink "BackBridge$Trays" 23 ⟨"java/util/Arrays", "fill", "([JJ)V"⟩ : Cond) ∈ sm_wl := sn_m (List.mem_of_getElem? (i := 1392) (by decide +kernel)) rfl
set_option maxRecDepth 100000 in
theorem mw_1396 : (.code ⟨"BackBridge", "write", "(IIJ)J"⟩ prog_1_method_43_code 5 (some .long) : Cond) ∈ sm_wl := sn_m (List.mem_of_getElem? (i := 1396) (by rfl)) rfl
theorem mw_1397 : (.constantLong "BackBridge" 367 (-6) : Cond) ∈ sm_wl := sn_m (List.mem_of_getElem? (i := 1397) (by decide +kernel)) rfl
theorem mw_1398 : (.constantLong "BackBridge" 369 (-7) : Cond) ∈ sm_wl := sn_m (List.mem_of_getElem? (i := 1398) (by decide +kernel)) rfl
theorem mw_1399 : (.methodLink "BackBridge" 371 ⟨"BackBridge$Trays", "put", "(IIJ)V"⟩ : Cond) ∈ sm_wl := sn_m (List.mem_of_getElem? (i := 1399) (by decide +kernel)) rfl
theorem mw_1400 : (.instanceMethod ⟨"BackBridge$Trays", "put", "(IIJ)V"⟩ : Cond) ∈ sm_wl := sn_m (List.mem_of_getElem? (i := 1400) (by decide +kernel)) rfl
theorem mw_1401 : (.selects "BackBridge$Trays" ⟨"BackBridge$Trays", "put", "(IIJ)V"⟩ ⟨"BackBridge$Trays", "put", "(IIJ)V"⟩ : Cond) ∈ sm_wl := sn_m (List.mem_of_getElem? (i := 1401) (by decide +kernel)) rfl
set_option maxRecDepth 100000 in
theorem mw_1402 : (.code ⟨"BackBridge$Trays", "put", "(IIJ)V"⟩ prog_11_method_5_code 5 none : Cond) ∈ sm_wl := sn_m (List.mem_of_getElem? (i := 1402) (by rfl)) rfl
set_option maxRecDepth 100000 in
theorem mw_1406 : (.code ⟨"BackBridge", "lists", "(III)I"⟩ prog_1_method_44_code 6 (some .int) : Cond) ∈ sm_wl := sn_m (List.mem_of_getElem? (i := 1406) (by rfl)) rfl
theorem mw_1407 : (.methodLink "BackBridge" 382 ⟨"java/lang/Math", "min", "(II)I"⟩ : Cond) ∈ sm_wl := sn_m (List.mem_of_getElem? (i := 1407) (by decide +kernel)) rfl
set_option maxRecDepth 100000 in
theorem mw_1411 : (.code ⟨"BackBridge", "image", "(I)I"⟩ prog_1_method_45_code 2 (some .int) : Cond) ∈ sm_wl := sn_m (List.mem_of_getElem? (i := 1411) (by rfl)) rfl
set_option maxRecDepth 100000 in
theorem mw_1415 : (.code ⟨"BackBridge", "restore", "(I)I"⟩ prog_1_method_46_code 2 (some .int) : Cond) ∈ sm_wl := sn_m (List.mem_of_getElem? (i := 1415) (by rfl)) rfl
set_option maxRecDepth 100000 in
theorem mw_1419 : (.code ⟨"BackBridge", "count", "(I)I"⟩ prog_1_method_47_code 2 (some .int) : Cond) ∈ sm_wl := sn_m (List.mem_of_getElem? (i := 1419) (by rfl)) rfl
theorem mw_1420 : (.methodLink "BackBridge" 399 ⟨"BackBridge$Land", "errands", "()I"⟩ : Cond) ∈ sm_wl := sn_m (List.mem_of_getElem? (i := 1420) (by decide +kernel)) rfl
theorem mw_1421 : (.instanceMethod ⟨"BackBridge$Land", "errands", "()I"⟩ : Cond) ∈ sm_wl := sn_m (List.mem_of_getElem? (i := 1421) (by decide +kernel)) rfl
theorem mw_1422 : (.selects "BackBridge$Land" ⟨"BackBridge$Land", "errands", "()I"⟩ ⟨"BackBridge$Land", "errands", "()I"⟩ : Cond) ∈ sm_wl := sn_m (List.mem_of_getElem? (i := 1422) (by decide +kernel)) rfl
set_option maxRecDepth 100000 in
theorem mw_1423 : (.code ⟨"BackBridge$Land", "errands", "()I"⟩ prog_5_method_10_code 3 (some .int) : Cond) ∈ sm_wl := sn_m (List.mem_of_getElem? (i := 1423) (by rfl)) rfl
theorem mw_1424 : (.methodLink "BackBridge" 402 ⟨"java/lang/Integer", "bitCount", "(I)I"⟩ : Cond) ∈ sm_wl := sn_m (List.mem_of_getElem? (i := 1424) (by decide +kernel)) rfl
theorem mw_1433 : (.methodLink "BackBridgeModel" 75 ⟨"BackBridgeModel", "plain", "([I)V"⟩ : Cond) ∈ sm_wl := sn_m (List.mem_of_getElem? (i := 1433) (by decide +kernel)) rfl
theorem mw_1434 : (.static ⟨"BackBridgeModel", "plain", "([I)V"⟩ : Cond) ∈ sm_wl := sn_m (List.mem_of_getElem? (i := 1434) (by decide +kernel)) rfl
set_option maxRecDepth 100000 in
theorem mw_1435 : (.code ⟨"BackBridgeModel", "plain", "([I)V"⟩ prog_14_method_4_code 2 none : Cond) ∈ sm_wl := sn_m (List.mem_of_getElem? (i := 1435) (by rfl)) rfl
theorem mw_1436 : (.fieldLink "BackBridgeModel" 1 "BackBridgeModel" "thrown" "I" : Cond) ∈ sm_wl := sn_m (List.mem_of_getElem? (i := 1436) (by decide +kernel)) rfl
theorem mw_1437 : (.fieldLink "BackBridgeModel" 13 "BackBridgeModel" "all" "[I" : Cond) ∈ sm_wl := sn_m (List.mem_of_getElem? (i := 1437) (by decide +kernel)) rfl
theorem mw_1438 : (.fieldLink "BackBridgeModel" 17 "BackBridgeModel" "hasImage" "[Z" : Cond) ∈ sm_wl := sn_m (List.mem_of_getElem? (i := 1438) (by decide +kernel)) rfl
theorem mw_1439 : (.fieldLink "BackBridgeModel" 21 "BackBridgeModel" "tape" "[I" : Cond) ∈ sm_wl := sn_m (List.mem_of_getElem? (i := 1439) (by decide +kernel)) rfl
theorem mw_1440 : (.fieldLink "BackBridgeModel" 24 "BackBridgeModel" "fresh" "[I" : Cond) ∈ sm_wl := sn_m (List.mem_of_getElem? (i := 1440) (by decide +kernel)) rfl
theorem mw_1441 : (.fieldLink "BackBridgeModel" 79 "BackBridgeModel" "taped" "I" : Cond) ∈ sm_wl := sn_m (List.mem_of_getElem? (i := 1441) (by decide +kernel)) rfl
theorem mw_1442 : (.fieldLink "BackBridgeModel" 97 "BackBridgeModel" "at" "I" : Cond) ∈ sm_wl := sn_m (List.mem_of_getElem? (i := 1442) (by decide +kernel)) rfl
theorem mw_1443 : (.fieldLink "BackBridgeModel" 100 "BackBridgeModel" "behind" "I" : Cond) ∈ sm_wl := sn_m (List.mem_of_getElem? (i := 1443) (by decide +kernel)) rfl
theorem mw_1444 : (.fieldLink "BackBridgeModel" 82 "BackBridgeModel" "size" "I" : Cond) ∈ sm_wl := sn_m (List.mem_of_getElem? (i := 1444) (by decide +kernel)) rfl
theorem mw_1445 : (.fieldLink "BackBridgeModel" 107 "BackBridgeModel" "kind" "I" : Cond) ∈ sm_wl := sn_m (List.mem_of_getElem? (i := 1445) (by decide +kernel)) rfl
theorem mw_1446 : (.fieldLink "BackBridgeModel" 120 "BackBridgeModel" "number" "I" : Cond) ∈ sm_wl := sn_m (List.mem_of_getElem? (i := 1446) (by decide +kernel)) rfl
theorem mw_1447 : (.fieldLink "BackBridgeModel" 125 "BackBridgeModel" "wrong" "I" : Cond) ∈ sm_wl := sn_m (List.mem_of_getElem? (i := 1447) (by decide +kernel)) rfl
theorem mw_1448 : (.fieldLink "BackBridgeModel" 128 "BackBridgeModel" "wrongAt" "I" : Cond) ∈ sm_wl := sn_m (List.mem_of_getElem? (i := 1448) (by decide +kernel)) rfl
theorem mw_1449 : (.fieldLink "BackBridgeModel" 200 "BackBridgeModel" "faultKind" "I" : Cond) ∈ sm_wl := sn_m (List.mem_of_getElem? (i := 1449) (by decide +kernel)) rfl
theorem mw_1450 : (.fieldLink "BackBridgeModel" 27 "BackBridgeModel" "faultPlace" "I" : Cond) ∈ sm_wl := sn_m (List.mem_of_getElem? (i := 1450) (by decide +kernel)) rfl
theorem mw_1451 : (.fieldLink "BackBridgeModel" 30 "BackBridgeModel" "plainRoad" "I" : Cond) ∈ sm_wl := sn_m (List.mem_of_getElem? (i := 1451) (by decide +kernel)) rfl
theorem mw_1452 : (.fieldLink "BackBridgeModel" 33 "BackBridgeModel" "reckoned" "[I" : Cond) ∈ sm_wl := sn_m (List.mem_of_getElem? (i := 1452) (by decide +kernel)) rfl
theorem mw_1453 : (.fieldLink "BackBridgeModel" 36 "BackBridgeModel" "words" "[I" : Cond) ∈ sm_wl := sn_m (List.mem_of_getElem? (i := 1453) (by decide +kernel)) rfl
theorem mw_1454 : (.fieldLink "BackBridgeModel" 39 "BackBridgeModel" "was" "[I" : Cond) ∈ sm_wl := sn_m (List.mem_of_getElem? (i := 1454) (by decide +kernel)) rfl
theorem mw_1455 : (.fieldLink "BackBridgeModel" 314 "BackBridgeModel" "toldWhy" "I" : Cond) ∈ sm_wl := sn_m (List.mem_of_getElem? (i := 1455) (by decide +kernel)) rfl
theorem mw_1456 : (.fieldLink "BackBridgeModel" 338 "BackBridgeModel" "x" "I" : Cond) ∈ sm_wl := sn_m (List.mem_of_getElem? (i := 1456) (by decide +kernel)) rfl
theorem mw_1457 : (.fieldLink "BackBridgeModel" 43 "BackBridgeModel" "stands" "[I" : Cond) ∈ sm_wl := sn_m (List.mem_of_getElem? (i := 1457) (by decide +kernel)) rfl
theorem mw_1458 : (.fieldLink "BackBridgeModel" 46 "BackBridgeModel" "rowOf" "[I" : Cond) ∈ sm_wl := sn_m (List.mem_of_getElem? (i := 1458) (by decide +kernel)) rfl
theorem mw_1459 : (.fieldLink "BackBridgeModel" 49 "BackBridgeModel" "still" "[I" : Cond) ∈ sm_wl := sn_m (List.mem_of_getElem? (i := 1459) (by decide +kernel)) rfl
theorem mw_1460 : (.fieldLink "BackBridgeModel" 53 "BackBridgeModel" "comes" "[I" : Cond) ∈ sm_wl := sn_m (List.mem_of_getElem? (i := 1460) (by decide +kernel)) rfl
theorem mw_1461 : (.fieldLink "BackBridgeModel" 349 "BackBridgeModel" "standMany" "I" : Cond) ∈ sm_wl := sn_m (List.mem_of_getElem? (i := 1461) (by decide +kernel)) rfl
theorem mw_1462 : (.fieldLink "BackBridgeModel" 56 "BackBridgeModel" "wayRoads" "[I" : Cond) ∈ sm_wl := sn_m (List.mem_of_getElem? (i := 1462) (by decide +kernel)) rfl
theorem mw_1463 : (.fieldLink "BackBridgeModel" 390 "BackBridgeModel" "wayPapers" "I" : Cond) ∈ sm_wl := sn_m (List.mem_of_getElem? (i := 1463) (by decide +kernel)) rfl
theorem mw_1464 : (.fieldLink "BackBridgeModel" 59 "BackBridgeModel" "ways" "[J" : Cond) ∈ sm_wl := sn_m (List.mem_of_getElem? (i := 1464) (by decide +kernel)) rfl
theorem mw_1465 : (.fieldLink "BackBridgeModel" 63 "BackBridgeModel" "waysThen" "[J" : Cond) ∈ sm_wl := sn_m (List.mem_of_getElem? (i := 1465) (by decide +kernel)) rfl
theorem mw_1466 : (.fieldLink "BackBridgeModel" 424 "BackBridgeModel" "meetBest" "I" : Cond) ∈ sm_wl := sn_m (List.mem_of_getElem? (i := 1466) (by decide +kernel)) rfl
theorem mw_1467 : (.fieldLink "BackBridgeModel" 66 "BackBridgeModel" "rowSort" "[I" : Cond) ∈ sm_wl := sn_m (List.mem_of_getElem? (i := 1467) (by decide +kernel)) rfl
theorem mw_1468 : (.fieldLink "BackBridgeModel" 69 "BackBridgeModel" "rowMany" "[I" : Cond) ∈ sm_wl := sn_m (List.mem_of_getElem? (i := 1468) (by decide +kernel)) rfl
theorem mw_1469 : (.fieldLink "BackBridgeModel" 72 "BackBridgeModel" "numbers" "[J" : Cond) ∈ sm_wl := sn_m (List.mem_of_getElem? (i := 1469) (by decide +kernel)) rfl
set_option maxRecDepth 100000 in
theorem mw_1543 : (.code ⟨"BackBridgeModel", "feed", "(IIIII)I"⟩ prog_14_method_5_code 8 (some .int) : Cond) ∈ sm_wl := sn_m (List.mem_of_getElem? (i := 1543) (by rfl)) rfl
set_option maxRecDepth 100000 in
theorem mw_1547 : (.code ⟨"BackBridgeModel", "land", "(I)I"⟩ prog_14_method_32_code 3 (some .int) : Cond) ∈ sm_wl := sn_m (List.mem_of_getElem? (i := 1547) (by rfl)) rfl
theorem mw_1548 : (.methodLink "BackBridgeModel" 141 ⟨"BackBridgeModel", "within", "(JJJ)Z"⟩ : Cond) ∈ sm_wl := sn_m (List.mem_of_getElem? (i := 1548) (by decide +kernel)) rfl
theorem mw_1549 : (.static ⟨"BackBridgeModel", "within", "(JJJ)Z"⟩ : Cond) ∈ sm_wl := sn_m (List.mem_of_getElem? (i := 1549) (by decide +kernel)) rfl
set_option maxRecDepth 100000 in
theorem mw_1550 : (.code ⟨"BackBridgeModel", "within", "(JJJ)Z"⟩ prog_14_method_2_code 6 (some .boolean) : Cond) ∈ sm_wl := sn_m (List.mem_of_getElem? (i := 1550) (by rfl)) rfl
theorem mw_1551 : (.methodLink "BackBridgeModel" 134 ⟨"BackBridgeModel", "next", "()V"⟩ : Cond) ∈ sm_wl := sn_m (List.mem_of_getElem? (i := 1551) (by decide +kernel)) rfl
theorem mw_1553 : (.instanceMethod ⟨"BackBridgeModel", "next", "()V"⟩ : Cond) ∈ sm_wl := sn_m (List.mem_of_getElem? (i := 1553) (by decide +kernel)) rfl
set_option maxRecDepth 100000 in
theorem mw_1554 : (.code ⟨"BackBridgeModel", "next", "()V"⟩ prog_14_method_10_code 2 none : Cond) ∈ sm_wl := sn_m (List.mem_of_getElem? (i := 1554) (by rfl)) rfl
theorem mw_1555 : (.methodLink "BackBridgeModel" 103 ⟨"BackBridgeModel", "see", "(I)I"⟩ : Cond) ∈ sm_wl := sn_m (List.mem_of_getElem? (i := 1555) (by decide +kernel)) rfl
theorem mw_1557 : (.instanceMethod ⟨"BackBridgeModel", "see", "(I)I"⟩ : Cond) ∈ sm_wl := sn_m (List.mem_of_getElem? (i := 1557) (by decide +kernel)) rfl
set_option maxRecDepth 100000 in
theorem mw_1558 : (.code ⟨"BackBridgeModel", "see", "(I)I"⟩ prog_14_method_6_code 2 (some .int) : Cond) ∈ sm_wl := sn_m (List.mem_of_getElem? (i := 1558) (by rfl)) rfl
theorem mw_1559 : (.methodLink "BackBridgeModel" 110 ⟨"BackBridgeModel", "isSmall", "(I)Z"⟩ : Cond) ∈ sm_wl := sn_m (List.mem_of_getElem? (i := 1559) (by decide +kernel)) rfl
theorem mw_1560 : (.static ⟨"BackBridgeModel", "isSmall", "(I)Z"⟩ : Cond) ∈ sm_wl := sn_m (List.mem_of_getElem? (i := 1560) (by decide +kernel)) rfl
set_option maxRecDepth 100000 in
theorem mw_1561 : (.code ⟨"BackBridgeModel", "isSmall", "(I)Z"⟩ prog_14_method_7_code 1 (some .boolean) : Cond) ∈ sm_wl := sn_m (List.mem_of_getElem? (i := 1561) (by rfl)) rfl
theorem mw_1562 : (.methodLink "BackBridgeModel" 114 ⟨"BackBridgeModel", "keyAt", "()I"⟩ : Cond) ∈ sm_wl := sn_m (List.mem_of_getElem? (i := 1562) (by decide +kernel)) rfl
theorem mw_1564 : (.instanceMethod ⟨"BackBridgeModel", "keyAt", "()I"⟩ : Cond) ∈ sm_wl := sn_m (List.mem_of_getElem? (i := 1564) (by decide +kernel)) rfl
set_option maxRecDepth 100000 in
theorem mw_1565 : (.code ⟨"BackBridgeModel", "keyAt", "()I"⟩ prog_14_method_9_code 4 (some .int) : Cond) ∈ sm_wl := sn_m (List.mem_of_getElem? (i := 1565) (by rfl)) rfl
theorem mw_1567 : (.methodLink "BackBridgeModel" 87 ⟨"java/lang/String", "length", "()I"⟩ : Cond) ∈ sm_wl := sn_m (List.mem_of_getElem? (i := 1567) (by decide +kernel)) rfl
theorem mw_1568 : (.methodLink "BackBridgeModel" 93 ⟨"java/lang/String", "charAt", "(I)C"⟩ : Cond) ∈ sm_wl := sn_m (List.mem_of_getElem? (i := 1568) (by decide +kernel)) rfl
theorem mw_1569 : (.methodLink "BackBridgeModel" 117 ⟨"BackBridgeModel", "isDigit", "(I)Z"⟩ : Cond) ∈ sm_wl := sn_m (List.mem_of_getElem? (i := 1569) (by decide +kernel)) rfl
theorem mw_1570 : (.static ⟨"BackBridgeModel", "isDigit", "(I)Z"⟩ : Cond) ∈ sm_wl := sn_m (List.mem_of_getElem? (i := 1570) (by decide +kernel)) rfl
set_option maxRecDepth 100000 in
theorem mw_1571 : (.code ⟨"BackBridgeModel", "isDigit", "(I)Z"⟩ prog_14_method_8_code 1 (some .boolean) : Cond) ∈ sm_wl := sn_m (List.mem_of_getElem? (i := 1571) (by rfl)) rfl
theorem mw_1573 : (.methodLink "BackBridgeModel" 157 ⟨"BackBridgeModel", "eats", "(I)Z"⟩ : Cond) ∈ sm_wl := sn_m (List.mem_of_getElem? (i := 1573) (by decide +kernel)) rfl
theorem mw_1575 : (.instanceMethod ⟨"BackBridgeModel", "eats", "(I)Z"⟩ : Cond) ∈ sm_wl := sn_m (List.mem_of_getElem? (i := 1575) (by decide +kernel)) rfl
set_option maxRecDepth 100000 in
theorem mw_1576 : (.code ⟨"BackBridgeModel", "eats", "(I)Z"⟩ prog_14_method_13_code 2 (some .boolean) : Cond) ∈ sm_wl := sn_m (List.mem_of_getElem? (i := 1576) (by rfl)) rfl
theorem mw_1577 : (.methodLink "BackBridgeModel" 131 ⟨"BackBridgeModel", "is", "(I)Z"⟩ : Cond) ∈ sm_wl := sn_m (List.mem_of_getElem? (i := 1577) (by decide +kernel)) rfl
theorem mw_1579 : (.instanceMethod ⟨"BackBridgeModel", "is", "(I)Z"⟩ : Cond) ∈ sm_wl := sn_m (List.mem_of_getElem? (i := 1579) (by decide +kernel)) rfl
set_option maxRecDepth 100000 in
theorem mw_1580 : (.code ⟨"BackBridgeModel", "is", "(I)Z"⟩ prog_14_method_12_code 2 (some .boolean) : Cond) ∈ sm_wl := sn_m (List.mem_of_getElem? (i := 1580) (by rfl)) rfl
theorem mw_1581 : (.methodLink "BackBridgeModel" 137 ⟨"BackBridgeModel", "fails", "(I)V"⟩ : Cond) ∈ sm_wl := sn_m (List.mem_of_getElem? (i := 1581) (by decide +kernel)) rfl
theorem mw_1583 : (.instanceMethod ⟨"BackBridgeModel", "fails", "(I)V"⟩ : Cond) ∈ sm_wl := sn_m (List.mem_of_getElem? (i := 1583) (by decide +kernel)) rfl
set_option maxRecDepth 100000 in
theorem mw_1584 : (.code ⟨"BackBridgeModel", "fails", "(I)V"⟩ prog_14_method_11_code 2 none : Cond) ∈ sm_wl := sn_m (List.mem_of_getElem? (i := 1584) (by rfl)) rfl
theorem mw_1585 : (.methodLink "BackBridgeModel" 175 ⟨"BackBridgeModel", "takesN", "(II)I"⟩ : Cond) ∈ sm_wl := sn_m (List.mem_of_getElem? (i := 1585) (by decide +kernel)) rfl
theorem mw_1587 : (.instanceMethod ⟨"BackBridgeModel", "takesN", "(II)I"⟩ : Cond) ∈ sm_wl := sn_m (List.mem_of_getElem? (i := 1587) (by decide +kernel)) rfl
set_option maxRecDepth 100000 in
theorem mw_1588 : (.code ⟨"BackBridgeModel", "takesN", "(II)I"⟩ prog_14_method_14_code 4 (some .int) : Cond) ∈ sm_wl := sn_m (List.mem_of_getElem? (i := 1588) (by rfl)) rfl
theorem mw_1589 : (.methodLink "BackBridgeModel" 194 ⟨"BackBridgeModel", "ends", "()V"⟩ : Cond) ∈ sm_wl := sn_m (List.mem_of_getElem? (i := 1589) (by decide +kernel)) rfl
theorem mw_1591 : (.instanceMethod ⟨"BackBridgeModel", "ends", "()V"⟩ : Cond) ∈ sm_wl := sn_m (List.mem_of_getElem? (i := 1591) (by decide +kernel)) rfl
set_option maxRecDepth 100000 in
theorem mw_1592 : (.code ⟨"BackBridgeModel", "ends", "()V"⟩ prog_14_method_31_code 1 none : Cond) ∈ sm_wl := sn_m (List.mem_of_getElem? (i := 1592) (by rfl)) rfl
theorem mw_1593 : (.methodLink "BackBridgeModel" 197 ⟨"BackBridgeModel", "readLine", "()V"⟩ : Cond) ∈ sm_wl := sn_m (List.mem_of_getElem? (i := 1593) (by decide +kernel)) rfl
theorem mw_1595 : (.instanceMethod ⟨"BackBridgeModel", "readLine", "()V"⟩ : Cond) ∈ sm_wl := sn_m (List.mem_of_getElem? (i := 1595) (by decide +kernel)) rfl
set_option maxRecDepth 100000 in
theorem mw_1596 : (.code ⟨"BackBridgeModel", "readLine", "()V"⟩ prog_14_method_30_code 1 none : Cond) ∈ sm_wl := sn_m (List.mem_of_getElem? (i := 1596) (by rfl)) rfl
theorem mw_1597 : (.methodLink "BackBridgeModel" 185 ⟨"BackBridgeModel", "readRoad", "()V"⟩ : Cond) ∈ sm_wl := sn_m (List.mem_of_getElem? (i := 1597) (by decide +kernel)) rfl
theorem mw_1599 : (.instanceMethod ⟨"BackBridgeModel", "readRoad", "()V"⟩ : Cond) ∈ sm_wl := sn_m (List.mem_of_getElem? (i := 1599) (by decide +kernel)) rfl
set_option maxRecDepth 100000 in
theorem mw_1600 : (.code ⟨"BackBridgeModel", "readRoad", "()V"⟩ prog_14_method_26_code 5 none : Cond) ∈ sm_wl := sn_m (List.mem_of_getElem? (i := 1600) (by rfl)) rfl
theorem mw_1601 : (.methodLink "BackBridgeModel" 179 ⟨"BackBridgeModel", "bridgesIn", "()I"⟩ : Cond) ∈ sm_wl := sn_m (List.mem_of_getElem? (i := 1601) (by decide +kernel)) rfl
theorem mw_1603 : (.instanceMethod ⟨"BackBridgeModel", "bridgesIn", "()I"⟩ : Cond) ∈ sm_wl := sn_m (List.mem_of_getElem? (i := 1603) (by decide +kernel)) rfl
set_option maxRecDepth 100000 in
theorem mw_1604 : (.code ⟨"BackBridgeModel", "bridgesIn", "()I"⟩ prog_14_method_25_code 3 (some .int) : Cond) ∈ sm_wl := sn_m (List.mem_of_getElem? (i := 1604) (by rfl)) rfl
theorem mw_1605 : (.methodLink "BackBridgeModel" 188 ⟨"BackBridgeModel", "readPerson", "()V"⟩ : Cond) ∈ sm_wl := sn_m (List.mem_of_getElem? (i := 1605) (by decide +kernel)) rfl
theorem mw_1607 : (.instanceMethod ⟨"BackBridgeModel", "readPerson", "()V"⟩ : Cond) ∈ sm_wl := sn_m (List.mem_of_getElem? (i := 1607) (by decide +kernel)) rfl
set_option maxRecDepth 100000 in
theorem mw_1608 : (.code ⟨"BackBridgeModel", "readPerson", "()V"⟩ prog_14_method_28_code 3 none : Cond) ∈ sm_wl := sn_m (List.mem_of_getElem? (i := 1608) (by rfl)) rfl
theorem mw_1609 : (.methodLink "BackBridgeModel" 182 ⟨"BackBridgeModel", "readMark", "(I)Z"⟩ : Cond) ∈ sm_wl := sn_m (List.mem_of_getElem? (i := 1609) (by decide +kernel)) rfl
theorem mw_1611 : (.instanceMethod ⟨"BackBridgeModel", "readMark", "(I)Z"⟩ : Cond) ∈ sm_wl := sn_m (List.mem_of_getElem? (i := 1611) (by decide +kernel)) rfl
set_option maxRecDepth 100000 in
theorem mw_1612 : (.code ⟨"BackBridgeModel", "readMark", "(I)Z"⟩ prog_14_method_27_code 4 (some .boolean) : Cond) ∈ sm_wl := sn_m (List.mem_of_getElem? (i := 1612) (by rfl)) rfl
theorem mw_1613 : (.methodLink "BackBridgeModel" 191 ⟨"BackBridgeModel", "readLaw", "(I)V"⟩ : Cond) ∈ sm_wl := sn_m (List.mem_of_getElem? (i := 1613) (by decide +kernel)) rfl
theorem mw_1615 : (.instanceMethod ⟨"BackBridgeModel", "readLaw", "(I)V"⟩ : Cond) ∈ sm_wl := sn_m (List.mem_of_getElem? (i := 1615) (by decide +kernel)) rfl
set_option maxRecDepth 100000 in
theorem mw_1616 : (.code ⟨"BackBridgeModel", "readLaw", "(I)V"⟩ prog_14_method_29_code 3 none : Cond) ∈ sm_wl := sn_m (List.mem_of_getElem? (i := 1616) (by rfl)) rfl
theorem mw_1617 : (.methodLink "BackBridgeModel" 154 ⟨"BackBridgeModel", "readSum", "(I)V"⟩ : Cond) ∈ sm_wl := sn_m (List.mem_of_getElem? (i := 1617) (by decide +kernel)) rfl
theorem mw_1619 : (.instanceMethod ⟨"BackBridgeModel", "readSum", "(I)V"⟩ : Cond) ∈ sm_wl := sn_m (List.mem_of_getElem? (i := 1619) (by decide +kernel)) rfl
set_option maxRecDepth 100000 in
theorem mw_1620 : (.code ⟨"BackBridgeModel", "readSum", "(I)V"⟩ prog_14_method_21_code 3 none : Cond) ∈ sm_wl := sn_m (List.mem_of_getElem? (i := 1620) (by rfl)) rfl
theorem mw_1621 : (.methodLink "BackBridgeModel" 163 ⟨"BackBridgeModel", "readTerm", "(I)V"⟩ : Cond) ∈ sm_wl := sn_m (List.mem_of_getElem? (i := 1621) (by decide +kernel)) rfl
theorem mw_1623 : (.instanceMethod ⟨"BackBridgeModel", "readTerm", "(I)V"⟩ : Cond) ∈ sm_wl := sn_m (List.mem_of_getElem? (i := 1623) (by decide +kernel)) rfl
set_option maxRecDepth 100000 in
theorem mw_1624 : (.code ⟨"BackBridgeModel", "readTerm", "(I)V"⟩ prog_14_method_20_code 2 none : Cond) ∈ sm_wl := sn_m (List.mem_of_getElem? (i := 1624) (by rfl)) rfl
theorem mw_1625 : (.methodLink "BackBridgeModel" 160 ⟨"BackBridgeModel", "readAtom", "(I)V"⟩ : Cond) ∈ sm_wl := sn_m (List.mem_of_getElem? (i := 1625) (by decide +kernel)) rfl
theorem mw_1627 : (.instanceMethod ⟨"BackBridgeModel", "readAtom", "(I)V"⟩ : Cond) ∈ sm_wl := sn_m (List.mem_of_getElem? (i := 1627) (by decide +kernel)) rfl
set_option maxRecDepth 100000 in
theorem mw_1628 : (.code ⟨"BackBridgeModel", "readAtom", "(I)V"⟩ prog_14_method_19_code 2 none : Cond) ∈ sm_wl := sn_m (List.mem_of_getElem? (i := 1628) (by rfl)) rfl
theorem mw_1629 : (.methodLink "BackBridgeModel" 145 ⟨"BackBridgeModel", "codes", "(I)V"⟩ : Cond) ∈ sm_wl := sn_m (List.mem_of_getElem? (i := 1629) (by decide +kernel)) rfl
theorem mw_1631 : (.instanceMethod ⟨"BackBridgeModel", "codes", "(I)V"⟩ : Cond) ∈ sm_wl := sn_m (List.mem_of_getElem? (i := 1631) (by decide +kernel)) rfl
set_option maxRecDepth 100000 in
theorem mw_1632 : (.code ⟨"BackBridgeModel", "codes", "(I)V"⟩ prog_14_method_17_code 2 none : Cond) ∈ sm_wl := sn_m (List.mem_of_getElem? (i := 1632) (by rfl)) rfl
theorem mw_1633 : (.methodLink "BackBridgeModel" 148 ⟨"BackBridgeModel", "wordOf", "(I)I"⟩ : Cond) ∈ sm_wl := sn_m (List.mem_of_getElem? (i := 1633) (by decide +kernel)) rfl
theorem mw_1635 : (.instanceMethod ⟨"BackBridgeModel", "wordOf", "(I)I"⟩ : Cond) ∈ sm_wl := sn_m (List.mem_of_getElem? (i := 1635) (by decide +kernel)) rfl
set_option maxRecDepth 100000 in
theorem mw_1636 : (.code ⟨"BackBridgeModel", "wordOf", "(I)I"⟩ prog_14_method_16_code 2 (some .int) : Cond) ∈ sm_wl := sn_m (List.mem_of_getElem? (i := 1636) (by rfl)) rfl
theorem mw_1637 : (.methodLink "BackBridgeModel" 151 ⟨"BackBridgeModel", "goesIn", "(I)Z"⟩ : Cond) ∈ sm_wl := sn_m (List.mem_of_getElem? (i := 1637) (by decide +kernel)) rfl
theorem mw_1639 : (.instanceMethod ⟨"BackBridgeModel", "goesIn", "(I)Z"⟩ : Cond) ∈ sm_wl := sn_m (List.mem_of_getElem? (i := 1639) (by decide +kernel)) rfl
set_option maxRecDepth 100000 in
theorem mw_1640 : (.code ⟨"BackBridgeModel", "goesIn", "(I)Z"⟩ prog_14_method_18_code 2 (some .boolean) : Cond) ∈ sm_wl := sn_m (List.mem_of_getElem? (i := 1640) (by rfl)) rfl
theorem mw_1641 : (.methodLink "BackBridgeModel" 169 ⟨"BackBridgeModel", "readTruth", "(I)V"⟩ : Cond) ∈ sm_wl := sn_m (List.mem_of_getElem? (i := 1641) (by decide +kernel)) rfl
theorem mw_1643 : (.instanceMethod ⟨"BackBridgeModel", "readTruth", "(I)V"⟩ : Cond) ∈ sm_wl := sn_m (List.mem_of_getElem? (i := 1643) (by decide +kernel)) rfl
set_option maxRecDepth 100000 in
theorem mw_1644 : (.code ⟨"BackBridgeModel", "readTruth", "(I)V"⟩ prog_14_method_24_code 2 none : Cond) ∈ sm_wl := sn_m (List.mem_of_getElem? (i := 1644) (by rfl)) rfl
theorem mw_1645 : (.methodLink "BackBridgeModel" 172 ⟨"BackBridgeModel", "readBoth", "(I)V"⟩ : Cond) ∈ sm_wl := sn_m (List.mem_of_getElem? (i := 1645) (by decide +kernel)) rfl
theorem mw_1647 : (.instanceMethod ⟨"BackBridgeModel", "readBoth", "(I)V"⟩ : Cond) ∈ sm_wl := sn_m (List.mem_of_getElem? (i := 1647) (by decide +kernel)) rfl
set_option maxRecDepth 100000 in
theorem mw_1648 : (.code ⟨"BackBridgeModel", "readBoth", "(I)V"⟩ prog_14_method_23_code 2 none : Cond) ∈ sm_wl := sn_m (List.mem_of_getElem? (i := 1648) (by rfl)) rfl
theorem mw_1649 : (.methodLink "BackBridgeModel" 166 ⟨"BackBridgeModel", "readUnit", "(I)V"⟩ : Cond) ∈ sm_wl := sn_m (List.mem_of_getElem? (i := 1649) (by decide +kernel)) rfl
theorem mw_1651 : (.instanceMethod ⟨"BackBridgeModel", "readUnit", "(I)V"⟩ : Cond) ∈ sm_wl := sn_m (List.mem_of_getElem? (i := 1651) (by decide +kernel)) rfl
set_option maxRecDepth 100000 in
theorem mw_1652 : (.code ⟨"BackBridgeModel", "readUnit", "(I)V"⟩ prog_14_method_22_code 3 none : Cond) ∈ sm_wl := sn_m (List.mem_of_getElem? (i := 1652) (by rfl)) rfl
theorem mw_1653 : (.methodLink "BackBridgeModel" 203 ⟨"BackBridgeModel", "doesErrand", "(I)V"⟩ : Cond) ∈ sm_wl := sn_m (List.mem_of_getElem? (i := 1653) (by decide +kernel)) rfl
theorem mw_1655 : (.instanceMethod ⟨"BackBridgeModel", "doesErrand", "(I)V"⟩ : Cond) ∈ sm_wl := sn_m (List.mem_of_getElem? (i := 1655) (by decide +kernel)) rfl
set_option maxRecDepth 100000 in
theorem mw_1656 : (.code ⟨"BackBridgeModel", "doesErrand", "(I)V"⟩ prog_14_method_39_code 2 none : Cond) ∈ sm_wl := sn_m (List.mem_of_getElem? (i := 1656) (by rfl)) rfl
set_option maxRecDepth 100000 in
theorem mw_1660 : (.code ⟨"BackBridgeModel", "fault", "(I)I"⟩ prog_14_method_33_code 2 (some .int) : Cond) ∈ sm_wl := sn_m (List.mem_of_getElem? (i := 1660) (by rfl)) rfl
set_option maxRecDepth 100000 in
theorem mw_1664 : (.code ⟨"BackBridgeModel", "person", "(II)I"⟩ prog_14_method_49_code 3 (some .int) : Cond) ∈ sm_wl := sn_m (List.mem_of_getElem? (i := 1664) (by rfl)) rfl
theorem mw_1665 : (.methodLink "BackBridgeModel" 206 ⟨"BackBridgeModel", "isPerson", "(J)Z"⟩ : Cond) ∈ sm_wl := sn_m (List.mem_of_getElem? (i := 1665) (by decide +kernel)) rfl
theorem mw_1667 : (.instanceMethod ⟨"BackBridgeModel", "isPerson", "(J)Z"⟩ : Cond) ∈ sm_wl := sn_m (List.mem_of_getElem? (i := 1667) (by decide +kernel)) rfl
set_option maxRecDepth 100000 in
theorem mw_1668 : (.code ⟨"BackBridgeModel", "isPerson", "(J)Z"⟩ prog_14_method_36_code 3 (some .boolean) : Cond) ∈ sm_wl := sn_m (List.mem_of_getElem? (i := 1668) (by rfl)) rfl
theorem mw_1669 : (.methodLink "BackBridgeModel" 221 ⟨"BackBridgeModel", "isIn", "(JI)Z"⟩ : Cond) ∈ sm_wl := sn_m (List.mem_of_getElem? (i := 1669) (by decide +kernel)) rfl
theorem mw_1670 : (.static ⟨"BackBridgeModel", "isIn", "(JI)Z"⟩ : Cond) ∈ sm_wl := sn_m (List.mem_of_getElem? (i := 1670) (by decide +kernel)) rfl
set_option maxRecDepth 100000 in
theorem mw_1671 : (.code ⟨"BackBridgeModel", "isIn", "(JI)Z"⟩ prog_14_method_15_code 3 (some .boolean) : Cond) ∈ sm_wl := sn_m (List.mem_of_getElem? (i := 1671) (by rfl)) rfl
set_option maxRecDepth 100000 in
theorem mw_1675 : (.code ⟨"BackBridgeModel", "road", "(II)I"⟩ prog_14_method_50_code 3 (some .int) : Cond) ∈ sm_wl := sn_m (List.mem_of_getElem? (i := 1675) (by rfl)) rfl
theorem mw_1676 : (.methodLink "BackBridgeModel" 243 ⟨"BackBridgeModel", "isRoad", "(J)Z"⟩ : Cond) ∈ sm_wl := sn_m (List.mem_of_getElem? (i := 1676) (by decide +kernel)) rfl
theorem mw_1678 : (.instanceMethod ⟨"BackBridgeModel", "isRoad", "(J)Z"⟩ : Cond) ∈ sm_wl := sn_m (List.mem_of_getElem? (i := 1678) (by decide +kernel)) rfl
set_option maxRecDepth 100000 in
theorem mw_1679 : (.code ⟨"BackBridgeModel", "isRoad", "(J)Z"⟩ prog_14_method_35_code 3 (some .boolean) : Cond) ∈ sm_wl := sn_m (List.mem_of_getElem? (i := 1679) (by rfl)) rfl
theorem mw_1680 : (.constantLong "BackBridgeModel" 249 (5) : Cond) ∈ sm_wl := sn_m (List.mem_of_getElem? (i := 1680) (by decide +kernel)) rfl
set_option maxRecDepth 100000 in
theorem mw_1684 : (.code ⟨"BackBridgeModel", "why", "(II)I"⟩ prog_14_method_51_code 3 (some .int) : Cond) ∈ sm_wl := sn_m (List.mem_of_getElem? (i := 1684) (by rfl)) rfl
theorem mw_1685 : (.methodLink "BackBridgeModel" 251 ⟨"BackBridgeModel", "whyGo", "(JJ)I"⟩ : Cond) ∈ sm_wl := sn_m (List.mem_of_getElem? (i := 1685) (by decide +kernel)) rfl
theorem mw_1687 : (.instanceMethod ⟨"BackBridgeModel", "whyGo", "(JJ)I"⟩ : Cond) ∈ sm_wl := sn_m (List.mem_of_getElem? (i := 1687) (by decide +kernel)) rfl
set_option maxRecDepth 100000 in
theorem mw_1688 : (.code ⟨"BackBridgeModel", "whyGo", "(JJ)I"⟩ prog_14_method_47_code 6 (some .int) : Cond) ∈ sm_wl := sn_m (List.mem_of_getElem? (i := 1688) (by rfl)) rfl
theorem mw_1689 : (.methodLink "BackBridgeModel" 246 ⟨"BackBridgeModel", "whyRoad", "(IIIII)I"⟩ : Cond) ∈ sm_wl := sn_m (List.mem_of_getElem? (i := 1689) (by decide +kernel)) rfl
theorem mw_1691 : (.instanceMethod ⟨"BackBridgeModel", "whyRoad", "(IIIII)I"⟩ : Cond) ∈ sm_wl := sn_m (List.mem_of_getElem? (i := 1691) (by decide +kernel)) rfl
set_option maxRecDepth 100000 in
theorem mw_1692 : (.code ⟨"BackBridgeModel", "whyRoad", "(IIIII)I"⟩ prog_14_method_46_code 7 (some .int) : Cond) ∈ sm_wl := sn_m (List.mem_of_getElem? (i := 1692) (by rfl)) rfl
theorem mw_1693 : (.methodLink "BackBridgeModel" 229 ⟨"BackBridgeModel", "leads", "(II)I"⟩ : Cond) ∈ sm_wl := sn_m (List.mem_of_getElem? (i := 1693) (by decide +kernel)) rfl
theorem mw_1695 : (.instanceMethod ⟨"BackBridgeModel", "leads", "(II)I"⟩ : Cond) ∈ sm_wl := sn_m (List.mem_of_getElem? (i := 1695) (by decide +kernel)) rfl
set_option maxRecDepth 100000 in
theorem mw_1696 : (.code ⟨"BackBridgeModel", "leads", "(II)I"⟩ prog_14_method_40_code 3 (some .int) : Cond) ∈ sm_wl := sn_m (List.mem_of_getElem? (i := 1696) (by rfl)) rfl
theorem mw_1697 : (.methodLink "BackBridgeModel" 232 ⟨"BackBridgeModel", "isBridge", "(I)Z"⟩ : Cond) ∈ sm_wl := sn_m (List.mem_of_getElem? (i := 1697) (by decide +kernel)) rfl
theorem mw_1699 : (.instanceMethod ⟨"BackBridgeModel", "isBridge", "(I)Z"⟩ : Cond) ∈ sm_wl := sn_m (List.mem_of_getElem? (i := 1699) (by decide +kernel)) rfl
set_option maxRecDepth 100000 in
theorem mw_1700 : (.code ⟨"BackBridgeModel", "isBridge", "(I)Z"⟩ prog_14_method_41_code 2 (some .boolean) : Cond) ∈ sm_wl := sn_m (List.mem_of_getElem? (i := 1700) (by rfl)) rfl
theorem mw_1701 : (.methodLink "BackBridgeModel" 235 ⟨"BackBridgeModel", "letsOver", "(IIIII)Z"⟩ : Cond) ∈ sm_wl := sn_m (List.mem_of_getElem? (i := 1701) (by decide +kernel)) rfl
theorem mw_1703 : (.instanceMethod ⟨"BackBridgeModel", "letsOver", "(IIIII)Z"⟩ : Cond) ∈ sm_wl := sn_m (List.mem_of_getElem? (i := 1703) (by decide +kernel)) rfl
set_option maxRecDepth 100000 in
theorem mw_1704 : (.code ⟨"BackBridgeModel", "letsOver", "(IIIII)Z"⟩ prog_14_method_44_code 6 (some .boolean) : Cond) ∈ sm_wl := sn_m (List.mem_of_getElem? (i := 1704) (by rfl)) rfl
theorem mw_1705 : (.methodLink "BackBridgeModel" 225 ⟨"BackBridgeModel", "reckons", "(IIIIII)I"⟩ : Cond) ∈ sm_wl := sn_m (List.mem_of_getElem? (i := 1705) (by decide +kernel)) rfl
theorem mw_1707 : (.instanceMethod ⟨"BackBridgeModel", "reckons", "(IIIIII)I"⟩ : Cond) ∈ sm_wl := sn_m (List.mem_of_getElem? (i := 1707) (by decide +kernel)) rfl
set_option maxRecDepth 100000 in
theorem mw_1708 : (.code ⟨"BackBridgeModel", "reckons", "(IIIIII)I"⟩ prog_14_method_43_code 10 (some .int) : Cond) ∈ sm_wl := sn_m (List.mem_of_getElem? (i := 1708) (by rfl)) rfl
theorem mw_1709 : (.methodLink "BackBridgeModel" 214 ⟨"BackBridgeModel", "bitsOf", "(I)I"⟩ : Cond) ∈ sm_wl := sn_m (List.mem_of_getElem? (i := 1709) (by decide +kernel)) rfl
theorem mw_1710 : (.static ⟨"BackBridgeModel", "bitsOf", "(I)I"⟩ : Cond) ∈ sm_wl := sn_m (List.mem_of_getElem? (i := 1710) (by decide +kernel)) rfl
set_option maxRecDepth 100000 in
theorem mw_1711 : (.code ⟨"BackBridgeModel", "bitsOf", "(I)I"⟩ prog_14_method_38_code 3 (some .int) : Cond) ∈ sm_wl := sn_m (List.mem_of_getElem? (i := 1711) (by rfl)) rfl
theorem mw_1712 : (.methodLink "BackBridgeModel" 217 ⟨"BackBridgeModel", "between", "(III)I"⟩ : Cond) ∈ sm_wl := sn_m (List.mem_of_getElem? (i := 1712) (by decide +kernel)) rfl
theorem mw_1713 : (.static ⟨"BackBridgeModel", "between", "(III)I"⟩ : Cond) ∈ sm_wl := sn_m (List.mem_of_getElem? (i := 1713) (by decide +kernel)) rfl
set_option maxRecDepth 100000 in
theorem mw_1714 : (.code ⟨"BackBridgeModel", "between", "(III)I"⟩ prog_14_method_42_code 5 (some .int) : Cond) ∈ sm_wl := sn_m (List.mem_of_getElem? (i := 1714) (by rfl)) rfl
theorem mw_1715 : (.constantLong "BackBridgeModel" 210 (1000000) : Cond) ∈ sm_wl := sn_m (List.mem_of_getElem? (i := 1715) (by decide +kernel)) rfl
theorem mw_1716 : (.constantLong "BackBridgeModel" 212 (-1000000) : Cond) ∈ sm_wl := sn_m (List.mem_of_getElem? (i := 1716) (by decide +kernel)) rfl
theorem mw_1717 : (.methodLink "BackBridgeModel" 239 ⟨"BackBridgeModel", "takesOver", "(IIIII)I"⟩ : Cond) ∈ sm_wl := sn_m (List.mem_of_getElem? (i := 1717) (by decide +kernel)) rfl
theorem mw_1719 : (.instanceMethod ⟨"BackBridgeModel", "takesOver", "(IIIII)I"⟩ : Cond) ∈ sm_wl := sn_m (List.mem_of_getElem? (i := 1719) (by decide +kernel)) rfl
set_option maxRecDepth 100000 in
theorem mw_1720 : (.code ⟨"BackBridgeModel", "takesOver", "(IIIII)I"⟩ prog_14_method_45_code 7 (some .int) : Cond) ∈ sm_wl := sn_m (List.mem_of_getElem? (i := 1720) (by rfl)) rfl
set_option maxRecDepth 100000 in
theorem mw_1724 : (.code ⟨"BackBridgeModel", "takes", "(II)I"⟩ prog_14_method_52_code 3 (some .int) : Cond) ∈ sm_wl := sn_m (List.mem_of_getElem? (i := 1724) (by rfl)) rfl
theorem mw_1725 : (.methodLink "BackBridgeModel" 255 ⟨"BackBridgeModel", "takesNow", "(II)I"⟩ : Cond) ∈ sm_wl := sn_m (List.mem_of_getElem? (i := 1725) (by decide +kernel)) rfl
theorem mw_1727 : (.instanceMethod ⟨"BackBridgeModel", "takesNow", "(II)I"⟩ : Cond) ∈ sm_wl := sn_m (List.mem_of_getElem? (i := 1727) (by decide +kernel)) rfl
set_option maxRecDepth 100000 in
theorem mw_1728 : (.code ⟨"BackBridgeModel", "takesNow", "(II)I"⟩ prog_14_method_48_code 4 (some .int) : Cond) ∈ sm_wl := sn_m (List.mem_of_getElem? (i := 1728) (by rfl)) rfl
set_option maxRecDepth 100000 in
theorem mw_1732 : (.code ⟨"BackBridgeModel", "go", "(II)I"⟩ prog_14_method_62_code 4 (some .int) : Cond) ∈ sm_wl := sn_m (List.mem_of_getElem? (i := 1732) (by rfl)) rfl
theorem mw_1733 : (.methodLink "BackBridgeModel" 264 ⟨"BackBridgeModel", "keeps", "()V"⟩ : Cond) ∈ sm_wl := sn_m (List.mem_of_getElem? (i := 1733) (by decide +kernel)) rfl
theorem mw_1735 : (.instanceMethod ⟨"BackBridgeModel", "keeps", "()V"⟩ : Cond) ∈ sm_wl := sn_m (List.mem_of_getElem? (i := 1735) (by decide +kernel)) rfl
set_option maxRecDepth 100000 in
theorem mw_1736 : (.code ⟨"BackBridgeModel", "keeps", "()V"⟩ prog_14_method_53_code 2 none : Cond) ∈ sm_wl := sn_m (List.mem_of_getElem? (i := 1736) (by rfl)) rfl
theorem mw_1737 : (.methodLink "BackBridgeModel" 267 ⟨"BackBridgeModel", "goes", "(II)V"⟩ : Cond) ∈ sm_wl := sn_m (List.mem_of_getElem? (i := 1737) (by decide +kernel)) rfl
theorem mw_1739 : (.instanceMethod ⟨"BackBridgeModel", "goes", "(II)V"⟩ : Cond) ∈ sm_wl := sn_m (List.mem_of_getElem? (i := 1739) (by decide +kernel)) rfl
set_option maxRecDepth 100000 in
theorem mw_1740 : (.code ⟨"BackBridgeModel", "goes", "(II)V"⟩ prog_14_method_56_code 3 none : Cond) ∈ sm_wl := sn_m (List.mem_of_getElem? (i := 1740) (by rfl)) rfl
theorem mw_1741 : (.methodLink "BackBridgeModel" 271 ⟨"BackBridgeModel", "notes", "()V"⟩ : Cond) ∈ sm_wl := sn_m (List.mem_of_getElem? (i := 1741) (by decide +kernel)) rfl
theorem mw_1743 : (.instanceMethod ⟨"BackBridgeModel", "notes", "()V"⟩ : Cond) ∈ sm_wl := sn_m (List.mem_of_getElem? (i := 1743) (by decide +kernel)) rfl
set_option maxRecDepth 100000 in
theorem mw_1744 : (.code ⟨"BackBridgeModel", "notes", "()V"⟩ prog_14_method_55_code 2 none : Cond) ∈ sm_wl := sn_m (List.mem_of_getElem? (i := 1744) (by rfl)) rfl
set_option maxRecDepth 100000 in
theorem mw_1748 : (.code ⟨"BackBridgeModel", "give", "(III)I"⟩ prog_14_method_63_code 5 (some .int) : Cond) ∈ sm_wl := sn_m (List.mem_of_getElem? (i := 1748) (by rfl)) rfl
theorem mw_1749 : (.methodLink "BackBridgeModel" 274 ⟨"BackBridgeModel", "whyGive", "(JJJ)I"⟩ : Cond) ∈ sm_wl := sn_m (List.mem_of_getElem? (i := 1749) (by decide +kernel)) rfl
theorem mw_1751 : (.instanceMethod ⟨"BackBridgeModel", "whyGive", "(JJJ)I"⟩ : Cond) ∈ sm_wl := sn_m (List.mem_of_getElem? (i := 1751) (by decide +kernel)) rfl
set_option maxRecDepth 100000 in
theorem mw_1752 : (.code ⟨"BackBridgeModel", "whyGive", "(JJJ)I"⟩ prog_14_method_57_code 9 (some .int) : Cond) ∈ sm_wl := sn_m (List.mem_of_getElem? (i := 1752) (by rfl)) rfl
theorem mw_1753 : (.methodLink "BackBridgeModel" 258 ⟨"BackBridgeModel", "areTwo", "(JJ)Z"⟩ : Cond) ∈ sm_wl := sn_m (List.mem_of_getElem? (i := 1753) (by decide +kernel)) rfl
theorem mw_1755 : (.instanceMethod ⟨"BackBridgeModel", "areTwo", "(JJ)Z"⟩ : Cond) ∈ sm_wl := sn_m (List.mem_of_getElem? (i := 1755) (by decide +kernel)) rfl
set_option maxRecDepth 100000 in
theorem mw_1756 : (.code ⟨"BackBridgeModel", "areTwo", "(JJ)Z"⟩ prog_14_method_37_code 5 (some .boolean) : Cond) ∈ sm_wl := sn_m (List.mem_of_getElem? (i := 1756) (by rfl)) rfl
theorem mw_1757 : (.constantLong "BackBridgeModel" 262 (9) : Cond) ∈ sm_wl := sn_m (List.mem_of_getElem? (i := 1757) (by decide +kernel)) rfl
theorem mw_1758 : (.methodLink "BackBridgeModel" 278 ⟨"BackBridgeModel", "gives", "(III)V"⟩ : Cond) ∈ sm_wl := sn_m (List.mem_of_getElem? (i := 1758) (by decide +kernel)) rfl
theorem mw_1760 : (.instanceMethod ⟨"BackBridgeModel", "gives", "(III)V"⟩ : Cond) ∈ sm_wl := sn_m (List.mem_of_getElem? (i := 1760) (by decide +kernel)) rfl
set_option maxRecDepth 100000 in
theorem mw_1761 : (.code ⟨"BackBridgeModel", "gives", "(III)V"⟩ prog_14_method_58_code 4 none : Cond) ∈ sm_wl := sn_m (List.mem_of_getElem? (i := 1761) (by rfl)) rfl
set_option maxRecDepth 100000 in
theorem mw_1765 : (.code ⟨"BackBridgeModel", "forge", "(I)I"⟩ prog_14_method_64_code 3 (some .int) : Cond) ∈ sm_wl := sn_m (List.mem_of_getElem? (i := 1765) (by rfl)) rfl
theorem mw_1766 : (.methodLink "BackBridgeModel" 282 ⟨"BackBridgeModel", "whyForge", "(J)I"⟩ : Cond) ∈ sm_wl := sn_m (List.mem_of_getElem? (i := 1766) (by decide +kernel)) rfl
theorem mw_1768 : (.instanceMethod ⟨"BackBridgeModel", "whyForge", "(J)I"⟩ : Cond) ∈ sm_wl := sn_m (List.mem_of_getElem? (i := 1768) (by decide +kernel)) rfl
set_option maxRecDepth 100000 in
theorem mw_1769 : (.code ⟨"BackBridgeModel", "whyForge", "(J)I"⟩ prog_14_method_59_code 3 (some .int) : Cond) ∈ sm_wl := sn_m (List.mem_of_getElem? (i := 1769) (by rfl)) rfl
theorem mw_1770 : (.methodLink "BackBridgeModel" 286 ⟨"BackBridgeModel", "forges", "(I)V"⟩ : Cond) ∈ sm_wl := sn_m (List.mem_of_getElem? (i := 1770) (by decide +kernel)) rfl
theorem mw_1772 : (.instanceMethod ⟨"BackBridgeModel", "forges", "(I)V"⟩ : Cond) ∈ sm_wl := sn_m (List.mem_of_getElem? (i := 1772) (by decide +kernel)) rfl
set_option maxRecDepth 100000 in
theorem mw_1773 : (.code ⟨"BackBridgeModel", "forges", "(I)V"⟩ prog_14_method_60_code 2 none : Cond) ∈ sm_wl := sn_m (List.mem_of_getElem? (i := 1773) (by rfl)) rfl
set_option maxRecDepth 100000 in
theorem mw_1777 : (.code ⟨"BackBridgeModel", "shut", "(I)I"⟩ prog_14_method_65_code 2 (some .int) : Cond) ∈ sm_wl := sn_m (List.mem_of_getElem? (i := 1777) (by rfl)) rfl
set_option maxRecDepth 100000 in
theorem mw_1781 : (.code ⟨"BackBridgeModel", "days", "(I)I"⟩ prog_14_method_66_code 3 (some .int) : Cond) ∈ sm_wl := sn_m (List.mem_of_getElem? (i := 1781) (by rfl)) rfl
theorem mw_1782 : (.constantLong "BackBridgeModel" 289 (99) : Cond) ∈ sm_wl := sn_m (List.mem_of_getElem? (i := 1782) (by decide +kernel)) rfl
theorem mw_1783 : (.methodLink "BackBridgeModel" 291 ⟨"BackBridgeModel", "goesDay", "()V"⟩ : Cond) ∈ sm_wl := sn_m (List.mem_of_getElem? (i := 1783) (by decide +kernel)) rfl
theorem mw_1785 : (.instanceMethod ⟨"BackBridgeModel", "goesDay", "()V"⟩ : Cond) ∈ sm_wl := sn_m (List.mem_of_getElem? (i := 1785) (by decide +kernel)) rfl
set_option maxRecDepth 100000 in
theorem mw_1786 : (.code ⟨"BackBridgeModel", "goesDay", "()V"⟩ prog_14_method_61_code 2 none : Cond) ∈ sm_wl := sn_m (List.mem_of_getElem? (i := 1786) (by rfl)) rfl
set_option maxRecDepth 100000 in
theorem mw_1790 : (.code ⟨"BackBridgeModel", "undo", "(I)I"⟩ prog_14_method_67_code 3 (some .int) : Cond) ∈ sm_wl := sn_m (List.mem_of_getElem? (i := 1790) (by rfl)) rfl
theorem mw_1791 : (.constantLong "BackBridgeModel" 294 (10) : Cond) ∈ sm_wl := sn_m (List.mem_of_getElem? (i := 1791) (by decide +kernel)) rfl
set_option maxRecDepth 100000 in
theorem mw_1795 : (.code ⟨"BackBridgeModel", "judge", "(II)I"⟩ prog_14_method_73_code 7 (some .int) : Cond) ∈ sm_wl := sn_m (List.mem_of_getElem? (i := 1795) (by rfl)) rfl
theorem mw_1796 : (.constantLong "BackBridgeModel" 323 (3) : Cond) ∈ sm_wl := sn_m (List.mem_of_getElem? (i := 1796) (by decide +kernel)) rfl
theorem mw_1797 : (.methodLink "BackBridgeModel" 325 ⟨"BackBridgeModel", "noTray", "(I)I"⟩ : Cond) ∈ sm_wl := sn_m (List.mem_of_getElem? (i := 1797) (by decide +kernel)) rfl
theorem mw_1799 : (.instanceMethod ⟨"BackBridgeModel", "noTray", "(I)I"⟩ : Cond) ∈ sm_wl := sn_m (List.mem_of_getElem? (i := 1799) (by decide +kernel)) rfl
set_option maxRecDepth 100000 in
theorem mw_1800 : (.code ⟨"BackBridgeModel", "noTray", "(I)I"⟩ prog_14_method_71_code 2 (some .int) : Cond) ∈ sm_wl := sn_m (List.mem_of_getElem? (i := 1800) (by rfl)) rfl
theorem mw_1801 : (.methodLink "BackBridgeModel" 328 ⟨"BackBridgeModel", "tells", "(I)I"⟩ : Cond) ∈ sm_wl := sn_m (List.mem_of_getElem? (i := 1801) (by decide +kernel)) rfl
theorem mw_1803 : (.instanceMethod ⟨"BackBridgeModel", "tells", "(I)I"⟩ : Cond) ∈ sm_wl := sn_m (List.mem_of_getElem? (i := 1803) (by decide +kernel)) rfl
set_option maxRecDepth 100000 in
theorem mw_1804 : (.code ⟨"BackBridgeModel", "tells", "(I)I"⟩ prog_14_method_70_code 3 (some .int) : Cond) ∈ sm_wl := sn_m (List.mem_of_getElem? (i := 1804) (by rfl)) rfl
theorem mw_1805 : (.methodLink "BackBridgeModel" 317 ⟨"BackBridgeModel", "whyNot", "(J)I"⟩ : Cond) ∈ sm_wl := sn_m (List.mem_of_getElem? (i := 1805) (by decide +kernel)) rfl
theorem mw_1807 : (.instanceMethod ⟨"BackBridgeModel", "whyNot", "(J)I"⟩ : Cond) ∈ sm_wl := sn_m (List.mem_of_getElem? (i := 1807) (by decide +kernel)) rfl
set_option maxRecDepth 100000 in
theorem mw_1808 : (.code ⟨"BackBridgeModel", "whyNot", "(J)I"⟩ prog_14_method_68_code 3 (some .int) : Cond) ∈ sm_wl := sn_m (List.mem_of_getElem? (i := 1808) (by rfl)) rfl
theorem mw_1809 : (.constantLong "BackBridgeModel" 296 (-1) : Cond) ∈ sm_wl := sn_m (List.mem_of_getElem? (i := 1809) (by decide +kernel)) rfl
theorem mw_1810 : (.constantLong "BackBridgeModel" 298 (599) : Cond) ∈ sm_wl := sn_m (List.mem_of_getElem? (i := 1810) (by decide +kernel)) rfl
theorem mw_1811 : (.constantLong "BackBridgeModel" 300 (100) : Cond) ∈ sm_wl := sn_m (List.mem_of_getElem? (i := 1811) (by decide +kernel)) rfl
theorem mw_1812 : (.constantLong "BackBridgeModel" 302 (1000) : Cond) ∈ sm_wl := sn_m (List.mem_of_getElem? (i := 1812) (by decide +kernel)) rfl
theorem mw_1813 : (.constantLong "BackBridgeModel" 304 (1999) : Cond) ∈ sm_wl := sn_m (List.mem_of_getElem? (i := 1813) (by decide +kernel)) rfl
theorem mw_1814 : (.constantLong "BackBridgeModel" 306 (2000) : Cond) ∈ sm_wl := sn_m (List.mem_of_getElem? (i := 1814) (by decide +kernel)) rfl
theorem mw_1815 : (.constantLong "BackBridgeModel" 308 (2009) : Cond) ∈ sm_wl := sn_m (List.mem_of_getElem? (i := 1815) (by decide +kernel)) rfl
theorem mw_1816 : (.constantLong "BackBridgeModel" 310 (3000) : Cond) ∈ sm_wl := sn_m (List.mem_of_getElem? (i := 1816) (by decide +kernel)) rfl
theorem mw_1817 : (.constantLong "BackBridgeModel" 312 (3019) : Cond) ∈ sm_wl := sn_m (List.mem_of_getElem? (i := 1817) (by decide +kernel)) rfl
theorem mw_1818 : (.methodLink "BackBridgeModel" 320 ⟨"BackBridgeModel", "does", "(I)V"⟩ : Cond) ∈ sm_wl := sn_m (List.mem_of_getElem? (i := 1818) (by decide +kernel)) rfl
theorem mw_1820 : (.instanceMethod ⟨"BackBridgeModel", "does", "(I)V"⟩ : Cond) ∈ sm_wl := sn_m (List.mem_of_getElem? (i := 1820) (by decide +kernel)) rfl
set_option maxRecDepth 100000 in
theorem mw_1821 : (.code ⟨"BackBridgeModel", "does", "(I)V"⟩ prog_14_method_69_code 2 none : Cond) ∈ sm_wl := sn_m (List.mem_of_getElem? (i := 1821) (by rfl)) rfl
theorem mw_1822 : (.methodLink "BackBridgeModel" 331 ⟨"BackBridgeModel", "papersAll", "()I"⟩ : Cond) ∈ sm_wl := sn_m (List.mem_of_getElem? (i := 1822) (by decide +kernel)) rfl
theorem mw_1824 : (.instanceMethod ⟨"BackBridgeModel", "papersAll", "()I"⟩ : Cond) ∈ sm_wl := sn_m (List.mem_of_getElem? (i := 1824) (by decide +kernel)) rfl
set_option maxRecDepth 100000 in
theorem mw_1825 : (.code ⟨"BackBridgeModel", "papersAll", "()I"⟩ prog_14_method_72_code 3 (some .int) : Cond) ∈ sm_wl := sn_m (List.mem_of_getElem? (i := 1825) (by rfl)) rfl
theorem mw_1826 : (.methodLink "BackBridgeModel" 334 ⟨"BackBridgeModel", "isAgain", "()V"⟩ : Cond) ∈ sm_wl := sn_m (List.mem_of_getElem? (i := 1826) (by decide +kernel)) rfl
theorem mw_1828 : (.instanceMethod ⟨"BackBridgeModel", "isAgain", "()V"⟩ : Cond) ∈ sm_wl := sn_m (List.mem_of_getElem? (i := 1828) (by decide +kernel)) rfl
set_option maxRecDepth 100000 in
theorem mw_1829 : (.code ⟨"BackBridgeModel", "isAgain", "()V"⟩ prog_14_method_54_code 2 none : Cond) ∈ sm_wl := sn_m (List.mem_of_getElem? (i := 1829) (by rfl)) rfl
set_option maxRecDepth 100000 in
theorem mw_1833 : (.code ⟨"BackBridgeModel", "perform", "(I)I"⟩ prog_14_method_74_code 4 (some .int) : Cond) ∈ sm_wl := sn_m (List.mem_of_getElem? (i := 1833) (by rfl)) rfl
set_option maxRecDepth 100000 in
theorem mw_1837 : (.code ⟨"BackBridgeModel", "year", "(II)I"⟩ prog_14_method_77_code 6 (some .int) : Cond) ∈ sm_wl := sn_m (List.mem_of_getElem? (i := 1837) (by rfl)) rfl
theorem mw_1838 : (.constantLong "BackBridgeModel" 344 (40) : Cond) ∈ sm_wl := sn_m (List.mem_of_getElem? (i := 1838) (by decide +kernel)) rfl
theorem mw_1839 : (.methodLink "BackBridgeModel" 346 ⟨"BackBridgeModel", "drawn", "()I"⟩ : Cond) ∈ sm_wl := sn_m (List.mem_of_getElem? (i := 1839) (by decide +kernel)) rfl
theorem mw_1841 : (.instanceMethod ⟨"BackBridgeModel", "drawn", "()I"⟩ : Cond) ∈ sm_wl := sn_m (List.mem_of_getElem? (i := 1841) (by decide +kernel)) rfl
set_option maxRecDepth 100000 in
theorem mw_1842 : (.code ⟨"BackBridgeModel", "drawn", "()I"⟩ prog_14_method_76_code 3 (some .int) : Cond) ∈ sm_wl := sn_m (List.mem_of_getElem? (i := 1842) (by rfl)) rfl
theorem mw_1843 : (.methodLink "BackBridgeModel" 341 ⟨"BackBridgeModel", "draw", "(I)I"⟩ : Cond) ∈ sm_wl := sn_m (List.mem_of_getElem? (i := 1843) (by decide +kernel)) rfl
theorem mw_1845 : (.instanceMethod ⟨"BackBridgeModel", "draw", "(I)I"⟩ : Cond) ∈ sm_wl := sn_m (List.mem_of_getElem? (i := 1845) (by decide +kernel)) rfl
set_option maxRecDepth 100000 in
theorem mw_1846 : (.code ⟨"BackBridgeModel", "draw", "(I)I"⟩ prog_14_method_75_code 2 (some .int) : Cond) ∈ sm_wl := sn_m (List.mem_of_getElem? (i := 1846) (by rfl)) rfl
theorem mw_1847 : (.constant "BackBridgeModel" 337 (1103515245) : Cond) ∈ sm_wl := sn_m (List.mem_of_getElem? (i := 1847) (by decide +kernel)) rfl
set_option maxRecDepth 100000 in
theorem mw_1851 : (.code ⟨"BackBridgeModel", "soonest", "(II)I"⟩ prog_14_method_93_code 3 (some .int) : Cond) ∈ sm_wl := sn_m (List.mem_of_getElem? (i := 1851) (by rfl)) rfl
theorem mw_1852 : (.methodLink "BackBridgeModel" 402 ⟨"BackBridgeModel", "isWay", "(II)Z"⟩ : Cond) ∈ sm_wl := sn_m (List.mem_of_getElem? (i := 1852) (by decide +kernel)) rfl
theorem mw_1854 : (.instanceMethod ⟨"BackBridgeModel", "isWay", "(II)Z"⟩ : Cond) ∈ sm_wl := sn_m (List.mem_of_getElem? (i := 1854) (by decide +kernel)) rfl
set_option maxRecDepth 100000 in
theorem mw_1855 : (.code ⟨"BackBridgeModel", "isWay", "(II)Z"⟩ prog_14_method_92_code 3 (some .boolean) : Cond) ∈ sm_wl := sn_m (List.mem_of_getElem? (i := 1855) (by rfl)) rfl
theorem mw_1856 : (.methodLink "BackBridgeModel" 399 ⟨"BackBridgeModel", "isPlace", "(J)Z"⟩ : Cond) ∈ sm_wl := sn_m (List.mem_of_getElem? (i := 1856) (by decide +kernel)) rfl
theorem mw_1858 : (.instanceMethod ⟨"BackBridgeModel", "isPlace", "(J)Z"⟩ : Cond) ∈ sm_wl := sn_m (List.mem_of_getElem? (i := 1858) (by decide +kernel)) rfl
set_option maxRecDepth 100000 in
theorem mw_1859 : (.code ⟨"BackBridgeModel", "isPlace", "(J)Z"⟩ prog_14_method_34_code 3 (some .boolean) : Cond) ∈ sm_wl := sn_m (List.mem_of_getElem? (i := 1859) (by rfl)) rfl
theorem mw_1860 : (.methodLink "BackBridgeModel" 393 ⟨"BackBridgeModel", "soonestNow", "(II)I"⟩ : Cond) ∈ sm_wl := sn_m (List.mem_of_getElem? (i := 1860) (by decide +kernel)) rfl
theorem mw_1862 : (.instanceMethod ⟨"BackBridgeModel", "soonestNow", "(II)I"⟩ : Cond) ∈ sm_wl := sn_m (List.mem_of_getElem? (i := 1862) (by decide +kernel)) rfl
set_option maxRecDepth 100000 in
theorem mw_1863 : (.code ⟨"BackBridgeModel", "soonestNow", "(II)I"⟩ prog_14_method_89_code 3 (some .int) : Cond) ∈ sm_wl := sn_m (List.mem_of_getElem? (i := 1863) (by rfl)) rfl
theorem mw_1864 : (.methodLink "BackBridgeModel" 387 ⟨"BackBridgeModel", "soonestOf", "(III)I"⟩ : Cond) ∈ sm_wl := sn_m (List.mem_of_getElem? (i := 1864) (by decide +kernel)) rfl
theorem mw_1866 : (.instanceMethod ⟨"BackBridgeModel", "soonestOf", "(III)I"⟩ : Cond) ∈ sm_wl := sn_m (List.mem_of_getElem? (i := 1866) (by decide +kernel)) rfl
set_option maxRecDepth 100000 in
theorem mw_1867 : (.code ⟨"BackBridgeModel", "soonestOf", "(III)I"⟩ prog_14_method_88_code 4 (some .int) : Cond) ∈ sm_wl := sn_m (List.mem_of_getElem? (i := 1867) (by rfl)) rfl
theorem mw_1868 : (.methodLink "BackBridgeModel" 380 ⟨"BackBridgeModel", "laysStands", "(IIZ)V"⟩ : Cond) ∈ sm_wl := sn_m (List.mem_of_getElem? (i := 1868) (by decide +kernel)) rfl
theorem mw_1870 : (.instanceMethod ⟨"BackBridgeModel", "laysStands", "(IIZ)V"⟩ : Cond) ∈ sm_wl := sn_m (List.mem_of_getElem? (i := 1870) (by decide +kernel)) rfl
set_option maxRecDepth 100000 in
theorem mw_1871 : (.code ⟨"BackBridgeModel", "laysStands", "(IIZ)V"⟩ prog_14_method_81_code 13 none : Cond) ∈ sm_wl := sn_m (List.mem_of_getElem? (i := 1871) (by rfl)) rfl
theorem mw_1872 : (.methodLink "BackBridgeModel" 352 ⟨"BackBridgeModel", "standOf", "(IIII)I"⟩ : Cond) ∈ sm_wl := sn_m (List.mem_of_getElem? (i := 1872) (by decide +kernel)) rfl
theorem mw_1873 : (.static ⟨"BackBridgeModel", "standOf", "(IIII)I"⟩ : Cond) ∈ sm_wl := sn_m (List.mem_of_getElem? (i := 1873) (by decide +kernel)) rfl
set_option maxRecDepth 100000 in
theorem mw_1874 : (.code ⟨"BackBridgeModel", "standOf", "(IIII)I"⟩ prog_14_method_78_code 4 (some .int) : Cond) ∈ sm_wl := sn_m (List.mem_of_getElem? (i := 1874) (by rfl)) rfl
theorem mw_1875 : (.methodLink "BackBridgeModel" 356 ⟨"BackBridgeModel", "addsStand", "(I)I"⟩ : Cond) ∈ sm_wl := sn_m (List.mem_of_getElem? (i := 1875) (by decide +kernel)) rfl
theorem mw_1877 : (.instanceMethod ⟨"BackBridgeModel", "addsStand", "(I)I"⟩ : Cond) ∈ sm_wl := sn_m (List.mem_of_getElem? (i := 1877) (by decide +kernel)) rfl
set_option maxRecDepth 100000 in
theorem mw_1878 : (.code ⟨"BackBridgeModel", "addsStand", "(I)I"⟩ prog_14_method_79_code 2 (some .int) : Cond) ∈ sm_wl := sn_m (List.mem_of_getElem? (i := 1878) (by rfl)) rfl
theorem mw_1879 : (.methodLink "BackBridgeModel" 359 ⟨"BackBridgeModel", "bridgeBit", "(I)I"⟩ : Cond) ∈ sm_wl := sn_m (List.mem_of_getElem? (i := 1879) (by decide +kernel)) rfl
theorem mw_1881 : (.instanceMethod ⟨"BackBridgeModel", "bridgeBit", "(I)I"⟩ : Cond) ∈ sm_wl := sn_m (List.mem_of_getElem? (i := 1881) (by decide +kernel)) rfl
set_option maxRecDepth 100000 in
theorem mw_1882 : (.code ⟨"BackBridgeModel", "bridgeBit", "(I)I"⟩ prog_14_method_80_code 4 (some .int) : Cond) ∈ sm_wl := sn_m (List.mem_of_getElem? (i := 1882) (by rfl)) rfl
theorem mw_1883 : (.methodLink "BackBridgeModel" 384 ⟨"BackBridgeModel", "laysStill", "(II)I"⟩ : Cond) ∈ sm_wl := sn_m (List.mem_of_getElem? (i := 1883) (by decide +kernel)) rfl
theorem mw_1885 : (.instanceMethod ⟨"BackBridgeModel", "laysStill", "(II)I"⟩ : Cond) ∈ sm_wl := sn_m (List.mem_of_getElem? (i := 1885) (by decide +kernel)) rfl
set_option maxRecDepth 100000 in
theorem mw_1886 : (.code ⟨"BackBridgeModel", "laysStill", "(II)I"⟩ prog_14_method_87_code 7 (some .int) : Cond) ∈ sm_wl := sn_m (List.mem_of_getElem? (i := 1886) (by rfl)) rfl
theorem mw_1887 : (.methodLink "BackBridgeModel" 373 ⟨"BackBridgeModel", "isThere", "(III)Z"⟩ : Cond) ∈ sm_wl := sn_m (List.mem_of_getElem? (i := 1887) (by decide +kernel)) rfl
theorem mw_1889 : (.instanceMethod ⟨"BackBridgeModel", "isThere", "(III)Z"⟩ : Cond) ∈ sm_wl := sn_m (List.mem_of_getElem? (i := 1889) (by decide +kernel)) rfl
set_option maxRecDepth 100000 in
theorem mw_1890 : (.code ⟨"BackBridgeModel", "isThere", "(III)Z"⟩ prog_14_method_85_code 4 (some .boolean) : Cond) ∈ sm_wl := sn_m (List.mem_of_getElem? (i := 1890) (by rfl)) rfl
theorem mw_1891 : (.methodLink "BackBridgeModel" 362 ⟨"BackBridgeModel", "placeOf", "(I)I"⟩ : Cond) ∈ sm_wl := sn_m (List.mem_of_getElem? (i := 1891) (by decide +kernel)) rfl
theorem mw_1892 : (.static ⟨"BackBridgeModel", "placeOf", "(I)I"⟩ : Cond) ∈ sm_wl := sn_m (List.mem_of_getElem? (i := 1892) (by decide +kernel)) rfl
set_option maxRecDepth 100000 in
theorem mw_1893 : (.code ⟨"BackBridgeModel", "placeOf", "(I)I"⟩ prog_14_method_82_code 1 (some .int) : Cond) ∈ sm_wl := sn_m (List.mem_of_getElem? (i := 1893) (by rfl)) rfl
theorem mw_1894 : (.methodLink "BackBridgeModel" 370 ⟨"BackBridgeModel", "bridgesMany", "()I"⟩ : Cond) ∈ sm_wl := sn_m (List.mem_of_getElem? (i := 1894) (by decide +kernel)) rfl
theorem mw_1896 : (.instanceMethod ⟨"BackBridgeModel", "bridgesMany", "()I"⟩ : Cond) ∈ sm_wl := sn_m (List.mem_of_getElem? (i := 1896) (by decide +kernel)) rfl
set_option maxRecDepth 100000 in
theorem mw_1897 : (.code ⟨"BackBridgeModel", "bridgesMany", "()I"⟩ prog_14_method_86_code 3 (some .int) : Cond) ∈ sm_wl := sn_m (List.mem_of_getElem? (i := 1897) (by rfl)) rfl
theorem mw_1898 : (.constant "BackBridgeModel" 365 (268435456) : Cond) ∈ sm_wl := sn_m (List.mem_of_getElem? (i := 1898) (by decide +kernel)) rfl
theorem mw_1899 : (.methodLink "BackBridgeModel" 377 ⟨"BackBridgeModel", "stillBy", "(III)I"⟩ : Cond) ∈ sm_wl := sn_m (List.mem_of_getElem? (i := 1899) (by decide +kernel)) rfl
theorem mw_1901 : (.instanceMethod ⟨"BackBridgeModel", "stillBy", "(III)I"⟩ : Cond) ∈ sm_wl := sn_m (List.mem_of_getElem? (i := 1901) (by decide +kernel)) rfl
set_option maxRecDepth 100000 in
theorem mw_1902 : (.code ⟨"BackBridgeModel", "stillBy", "(III)I"⟩ prog_14_method_84_code 5 (some .int) : Cond) ∈ sm_wl := sn_m (List.mem_of_getElem? (i := 1902) (by rfl)) rfl
theorem mw_1903 : (.methodLink "BackBridgeModel" 366 ⟨"BackBridgeModel", "isLoop", "(II)Z"⟩ : Cond) ∈ sm_wl := sn_m (List.mem_of_getElem? (i := 1903) (by decide +kernel)) rfl
theorem mw_1905 : (.instanceMethod ⟨"BackBridgeModel", "isLoop", "(II)Z"⟩ : Cond) ∈ sm_wl := sn_m (List.mem_of_getElem? (i := 1905) (by decide +kernel)) rfl
set_option maxRecDepth 100000 in
theorem mw_1906 : (.code ⟨"BackBridgeModel", "isLoop", "(II)Z"⟩ prog_14_method_83_code 3 (some .boolean) : Cond) ∈ sm_wl := sn_m (List.mem_of_getElem? (i := 1906) (by rfl)) rfl
set_option maxRecDepth 100000 in
theorem mw_1910 : (.code ⟨"BackBridgeModel", "way", "(III)I"⟩ prog_14_method_94_code 5 (some .int) : Cond) ∈ sm_wl := sn_m (List.mem_of_getElem? (i := 1910) (by rfl)) rfl
theorem mw_1911 : (.methodLink "BackBridgeModel" 405 ⟨"BackBridgeModel", "laysWay", "(II)I"⟩ : Cond) ∈ sm_wl := sn_m (List.mem_of_getElem? (i := 1911) (by decide +kernel)) rfl
theorem mw_1913 : (.instanceMethod ⟨"BackBridgeModel", "laysWay", "(II)I"⟩ : Cond) ∈ sm_wl := sn_m (List.mem_of_getElem? (i := 1913) (by decide +kernel)) rfl
set_option maxRecDepth 100000 in
theorem mw_1914 : (.code ⟨"BackBridgeModel", "laysWay", "(II)I"⟩ prog_14_method_91_code 3 (some .int) : Cond) ∈ sm_wl := sn_m (List.mem_of_getElem? (i := 1914) (by rfl)) rfl
theorem mw_1915 : (.methodLink "BackBridgeModel" 396 ⟨"BackBridgeModel", "laysRoads", "(I)I"⟩ : Cond) ∈ sm_wl := sn_m (List.mem_of_getElem? (i := 1915) (by decide +kernel)) rfl
theorem mw_1917 : (.instanceMethod ⟨"BackBridgeModel", "laysRoads", "(I)I"⟩ : Cond) ∈ sm_wl := sn_m (List.mem_of_getElem? (i := 1917) (by decide +kernel)) rfl
set_option maxRecDepth 100000 in
theorem mw_1918 : (.code ⟨"BackBridgeModel", "laysRoads", "(I)I"⟩ prog_14_method_90_code 6 (some .int) : Cond) ∈ sm_wl := sn_m (List.mem_of_getElem? (i := 1918) (by rfl)) rfl
set_option maxRecDepth 100000 in
theorem mw_1922 : (.code ⟨"BackBridgeModel", "left", "(II)I"⟩ prog_14_method_95_code 3 (some .int) : Cond) ∈ sm_wl := sn_m (List.mem_of_getElem? (i := 1922) (by rfl)) rfl
set_option maxRecDepth 100000 in
theorem mw_1926 : (.code ⟨"BackBridgeModel", "reach", "(I)I"⟩ prog_14_method_96_code 4 (some .int) : Cond) ∈ sm_wl := sn_m (List.mem_of_getElem? (i := 1926) (by rfl)) rfl
set_option maxRecDepth 100000 in
theorem mw_1930 : (.code ⟨"BackBridgeModel", "ways", "(III)J"⟩ prog_14_method_97_code 7 (some .long) : Cond) ∈ sm_wl := sn_m (List.mem_of_getElem? (i := 1930) (by rfl)) rfl
theorem mw_1931 : (.constantLong "BackBridgeModel" 408 (-2) : Cond) ∈ sm_wl := sn_m (List.mem_of_getElem? (i := 1931) (by decide +kernel)) rfl
theorem mw_1932 : (.constantLong "BackBridgeModel" 410 (-3) : Cond) ∈ sm_wl := sn_m (List.mem_of_getElem? (i := 1932) (by decide +kernel)) rfl
set_option maxRecDepth 100000 in
theorem mw_1936 : (.code ⟨"BackBridgeModel", "needed", "(II)I"⟩ prog_14_method_98_code 5 (some .int) : Cond) ∈ sm_wl := sn_m (List.mem_of_getElem? (i := 1936) (by rfl)) rfl
set_option maxRecDepth 100000 in
theorem mw_1940 : (.code ⟨"BackBridgeModel", "proofs", "(II)I"⟩ prog_14_method_99_code 4 (some .int) : Cond) ∈ sm_wl := sn_m (List.mem_of_getElem? (i := 1940) (by rfl)) rfl
set_option maxRecDepth 100000 in
theorem mw_1944 : (.code ⟨"BackBridgeModel", "waives", "(II)I"⟩ prog_14_method_100_code 7 (some .int) : Cond) ∈ sm_wl := sn_m (List.mem_of_getElem? (i := 1944) (by rfl)) rfl
set_option maxRecDepth 100000 in
theorem mw_1948 : (.code ⟨"BackBridgeModel", "inTime", "()I"⟩ prog_14_method_104_code 1 (some .int) : Cond) ∈ sm_wl := sn_m (List.mem_of_getElem? (i := 1948) (by rfl)) rfl
theorem mw_1949 : (.methodLink "BackBridgeModel" 418 ⟨"BackBridgeModel", "inTimeSet", "()I"⟩ : Cond) ∈ sm_wl := sn_m (List.mem_of_getElem? (i := 1949) (by decide +kernel)) rfl
theorem mw_1951 : (.instanceMethod ⟨"BackBridgeModel", "inTimeSet", "()I"⟩ : Cond) ∈ sm_wl := sn_m (List.mem_of_getElem? (i := 1951) (by decide +kernel)) rfl
set_option maxRecDepth 100000 in
theorem mw_1952 : (.code ⟨"BackBridgeModel", "inTimeSet", "()I"⟩ prog_14_method_103_code 3 (some .int) : Cond) ∈ sm_wl := sn_m (List.mem_of_getElem? (i := 1952) (by rfl)) rfl
theorem mw_1953 : (.methodLink "BackBridgeModel" 412 ⟨"BackBridgeModel", "isErrand", "(I)Z"⟩ : Cond) ∈ sm_wl := sn_m (List.mem_of_getElem? (i := 1953) (by decide +kernel)) rfl
theorem mw_1955 : (.instanceMethod ⟨"BackBridgeModel", "isErrand", "(I)Z"⟩ : Cond) ∈ sm_wl := sn_m (List.mem_of_getElem? (i := 1955) (by decide +kernel)) rfl
set_option maxRecDepth 100000 in
theorem mw_1956 : (.code ⟨"BackBridgeModel", "isErrand", "(I)Z"⟩ prog_14_method_101_code 2 (some .boolean) : Cond) ∈ sm_wl := sn_m (List.mem_of_getElem? (i := 1956) (by rfl)) rfl
theorem mw_1957 : (.methodLink "BackBridgeModel" 415 ⟨"BackBridgeModel", "isInTime", "(II)Z"⟩ : Cond) ∈ sm_wl := sn_m (List.mem_of_getElem? (i := 1957) (by decide +kernel)) rfl
theorem mw_1959 : (.instanceMethod ⟨"BackBridgeModel", "isInTime", "(II)Z"⟩ : Cond) ∈ sm_wl := sn_m (List.mem_of_getElem? (i := 1959) (by decide +kernel)) rfl
set_option maxRecDepth 100000 in
theorem mw_1960 : (.code ⟨"BackBridgeModel", "isInTime", "(II)Z"⟩ prog_14_method_102_code 4 (some .boolean) : Cond) ∈ sm_wl := sn_m (List.mem_of_getElem? (i := 1960) (by rfl)) rfl
set_option maxRecDepth 100000 in
theorem mw_1964 : (.code ⟨"BackBridgeModel", "spare", "(I)I"⟩ prog_14_method_105_code 4 (some .int) : Cond) ∈ sm_wl := sn_m (List.mem_of_getElem? (i := 1964) (by rfl)) rfl
set_option maxRecDepth 100000 in
theorem mw_1968 : (.code ⟨"BackBridgeModel", "helped", "()I"⟩ prog_14_method_106_code 2 (some .int) : Cond) ∈ sm_wl := sn_m (List.mem_of_getElem? (i := 1968) (by rfl)) rfl
set_option maxRecDepth 100000 in
theorem mw_1972 : (.code ⟨"BackBridgeModel", "worst", "()I"⟩ prog_14_method_107_code 5 (some .int) : Cond) ∈ sm_wl := sn_m (List.mem_of_getElem? (i := 1972) (by rfl)) rfl
set_option maxRecDepth 100000 in
theorem mw_1976 : (.code ⟨"BackBridgeModel", "loophole", "(I)I"⟩ prog_14_method_109_code 2 (some .int) : Cond) ∈ sm_wl := sn_m (List.mem_of_getElem? (i := 1976) (by rfl)) rfl
theorem mw_1977 : (.methodLink "BackBridgeModel" 421 ⟨"BackBridgeModel", "loopOf", "(I)I"⟩ : Cond) ∈ sm_wl := sn_m (List.mem_of_getElem? (i := 1977) (by decide +kernel)) rfl
theorem mw_1979 : (.instanceMethod ⟨"BackBridgeModel", "loopOf", "(I)I"⟩ : Cond) ∈ sm_wl := sn_m (List.mem_of_getElem? (i := 1979) (by decide +kernel)) rfl
set_option maxRecDepth 100000 in
theorem mw_1980 : (.code ⟨"BackBridgeModel", "loopOf", "(I)I"⟩ prog_14_method_108_code 2 (some .int) : Cond) ∈ sm_wl := sn_m (List.mem_of_getElem? (i := 1980) (by rfl)) rfl
set_option maxRecDepth 100000 in
theorem mw_1984 : (.code ⟨"BackBridgeModel", "loopWay", "(II)I"⟩ prog_14_method_110_code 4 (some .int) : Cond) ∈ sm_wl := sn_m (List.mem_of_getElem? (i := 1984) (by rfl)) rfl
set_option maxRecDepth 100000 in
theorem mw_1988 : (.code ⟨"BackBridgeModel", "round", "(I)I"⟩ prog_14_method_111_code 2 (some .int) : Cond) ∈ sm_wl := sn_m (List.mem_of_getElem? (i := 1988) (by rfl)) rfl
set_option maxRecDepth 100000 in
theorem mw_1992 : (.code ⟨"BackBridgeModel", "crosses", "(I)I"⟩ prog_14_method_112_code 5 (some .int) : Cond) ∈ sm_wl := sn_m (List.mem_of_getElem? (i := 1992) (by rfl)) rfl
set_option maxRecDepth 100000 in
theorem mw_1996 : (.code ⟨"BackBridgeModel", "meet", "(II)I"⟩ prog_14_method_114_code 3 (some .int) : Cond) ∈ sm_wl := sn_m (List.mem_of_getElem? (i := 1996) (by rfl)) rfl
theorem mw_1997 : (.methodLink "BackBridgeModel" 427 ⟨"BackBridgeModel", "laysMeet", "(II)I"⟩ : Cond) ∈ sm_wl := sn_m (List.mem_of_getElem? (i := 1997) (by decide +kernel)) rfl
theorem mw_1999 : (.instanceMethod ⟨"BackBridgeModel", "laysMeet", "(II)I"⟩ : Cond) ∈ sm_wl := sn_m (List.mem_of_getElem? (i := 1999) (by decide +kernel)) rfl
set_option maxRecDepth 100000 in
theorem mw_2000 : (.code ⟨"BackBridgeModel", "laysMeet", "(II)I"⟩ prog_14_method_113_code 8 (some .int) : Cond) ∈ sm_wl := sn_m (List.mem_of_getElem? (i := 2000) (by rfl)) rfl
set_option maxRecDepth 100000 in
theorem mw_2004 : (.code ⟨"BackBridgeModel", "meetAt", "(II)I"⟩ prog_14_method_115_code 3 (some .int) : Cond) ∈ sm_wl := sn_m (List.mem_of_getElem? (i := 2004) (by rfl)) rfl
set_option maxRecDepth 100000 in
theorem mw_2008 : (.code ⟨"BackBridgeModel", "shoes", "(II)I"⟩ prog_14_method_119_code 6 (some .int) : Cond) ∈ sm_wl := sn_m (List.mem_of_getElem? (i := 2008) (by rfl)) rfl
theorem mw_2009 : (.methodLink "BackBridgeModel" 436 ⟨"BackBridgeModel", "noAnswers", "(II)I"⟩ : Cond) ∈ sm_wl := sn_m (List.mem_of_getElem? (i := 2009) (by decide +kernel)) rfl
theorem mw_2011 : (.instanceMethod ⟨"BackBridgeModel", "noAnswers", "(II)I"⟩ : Cond) ∈ sm_wl := sn_m (List.mem_of_getElem? (i := 2011) (by decide +kernel)) rfl
set_option maxRecDepth 100000 in
theorem mw_2012 : (.code ⟨"BackBridgeModel", "noAnswers", "(II)I"⟩ prog_14_method_116_code 7 (some .int) : Cond) ∈ sm_wl := sn_m (List.mem_of_getElem? (i := 2012) (by rfl)) rfl
theorem mw_2013 : (.constantLong "BackBridgeModel" 430 (12) : Cond) ∈ sm_wl := sn_m (List.mem_of_getElem? (i := 2013) (by decide +kernel)) rfl
theorem mw_2014 : (.methodLink "BackBridgeModel" 439 ⟨"BackBridgeModel", "fits", "(III)Z"⟩ : Cond) ∈ sm_wl := sn_m (List.mem_of_getElem? (i := 2014) (by decide +kernel)) rfl
theorem mw_2016 : (.instanceMethod ⟨"BackBridgeModel", "fits", "(III)Z"⟩ : Cond) ∈ sm_wl := sn_m (List.mem_of_getElem? (i := 2016) (by decide +kernel)) rfl
set_option maxRecDepth 100000 in
theorem mw_2017 : (.code ⟨"BackBridgeModel", "fits", "(III)Z"⟩ prog_14_method_118_code 6 (some .boolean) : Cond) ∈ sm_wl := sn_m (List.mem_of_getElem? (i := 2017) (by rfl)) rfl
theorem mw_2018 : (.methodLink "BackBridgeModel" 432 ⟨"BackBridgeModel", "isLet", "(IIII)Z"⟩ : Cond) ∈ sm_wl := sn_m (List.mem_of_getElem? (i := 2018) (by decide +kernel)) rfl
theorem mw_2020 : (.instanceMethod ⟨"BackBridgeModel", "isLet", "(IIII)Z"⟩ : Cond) ∈ sm_wl := sn_m (List.mem_of_getElem? (i := 2020) (by decide +kernel)) rfl
set_option maxRecDepth 100000 in
theorem mw_2021 : (.code ⟨"BackBridgeModel", "isLet", "(IIII)Z"⟩ prog_14_method_117_code 6 (some .boolean) : Cond) ∈ sm_wl := sn_m (List.mem_of_getElem? (i := 2021) (by rfl)) rfl
set_option maxRecDepth 100000 in
theorem mw_2025 : (.code ⟨"BackBridgeModel", "sure", "(II)I"⟩ prog_14_method_120_code 6 (some .int) : Cond) ∈ sm_wl := sn_m (List.mem_of_getElem? (i := 2025) (by rfl)) rfl
set_option maxRecDepth 100000 in
theorem mw_2029 : (.code ⟨"BackBridgeModel", "ask", "(II)I"⟩ prog_14_method_121_code 10 (some .int) : Cond) ∈ sm_wl := sn_m (List.mem_of_getElem? (i := 2029) (by rfl)) rfl
set_option maxRecDepth 100000 in
theorem mw_2033 : (.code ⟨"BackBridgeModel", "dry", "(III)J"⟩ prog_14_method_125_code 9 (some .long) : Cond) ∈ sm_wl := sn_m (List.mem_of_getElem? (i := 2033) (by rfl)) rfl
theorem mw_2034 : (.methodLink "BackBridgeModel" 450 ⟨"BackBridgeModel", "dryOf", "(I)J"⟩ : Cond) ∈ sm_wl := sn_m (List.mem_of_getElem? (i := 2034) (by decide +kernel)) rfl
theorem mw_2036 : (.instanceMethod ⟨"BackBridgeModel", "dryOf", "(I)J"⟩ : Cond) ∈ sm_wl := sn_m (List.mem_of_getElem? (i := 2036) (by decide +kernel)) rfl
set_option maxRecDepth 100000 in
theorem mw_2037 : (.code ⟨"BackBridgeModel", "dryOf", "(I)J"⟩ prog_14_method_124_code 6 (some .long) : Cond) ∈ sm_wl := sn_m (List.mem_of_getElem? (i := 2037) (by rfl)) rfl
theorem mw_2038 : (.methodLink "BackBridgeModel" 446 ⟨"BackBridgeModel", "tens", "(I)J"⟩ : Cond) ∈ sm_wl := sn_m (List.mem_of_getElem? (i := 2038) (by decide +kernel)) rfl
theorem mw_2039 : (.static ⟨"BackBridgeModel", "tens", "(I)J"⟩ : Cond) ∈ sm_wl := sn_m (List.mem_of_getElem? (i := 2039) (by decide +kernel)) rfl
set_option maxRecDepth 100000 in
theorem mw_2040 : (.code ⟨"BackBridgeModel", "tens", "(I)J"⟩ prog_14_method_122_code 4 (some .long) : Cond) ∈ sm_wl := sn_m (List.mem_of_getElem? (i := 2040) (by rfl)) rfl
theorem mw_2041 : (.methodLink "BackBridgeModel" 442 ⟨"BackBridgeModel", "common", "(JJ)J"⟩ : Cond) ∈ sm_wl := sn_m (List.mem_of_getElem? (i := 2041) (by decide +kernel)) rfl
theorem mw_2042 : (.static ⟨"BackBridgeModel", "common", "(JJ)J"⟩ : Cond) ∈ sm_wl := sn_m (List.mem_of_getElem? (i := 2042) (by decide +kernel)) rfl
set_option maxRecDepth 100000 in
theorem mw_2043 : (.code ⟨"BackBridgeModel", "common", "(JJ)J"⟩ prog_14_method_123_code 4 (some .long) : Cond) ∈ sm_wl := sn_m (List.mem_of_getElem? (i := 2043) (by rfl)) rfl
set_option maxRecDepth 100000 in
theorem mw_2047 : (.code ⟨"BackBridgeModel", "safest", "(I)I"⟩ prog_14_method_126_code 7 (some .int) : Cond) ∈ sm_wl := sn_m (List.mem_of_getElem? (i := 2047) (by rfl)) rfl
set_option maxRecDepth 100000 in
theorem mw_2051 : (.code ⟨"BackBridgeModel", "numbers", "(III)I"⟩ prog_14_method_128_code 5 (some .int) : Cond) ∈ sm_wl := sn_m (List.mem_of_getElem? (i := 2051) (by rfl)) rfl
set_option maxRecDepth 100000 in
theorem mw_2055 : (.code ⟨"BackBridgeModel", "write", "(IIJ)J"⟩ prog_14_method_129_code 6 (some .long) : Cond) ∈ sm_wl := sn_m (List.mem_of_getElem? (i := 2055) (by rfl)) rfl
theorem mw_2056 : (.constantLong "BackBridgeModel" 453 (-7) : Cond) ∈ sm_wl := sn_m (List.mem_of_getElem? (i := 2056) (by decide +kernel)) rfl
theorem mw_2057 : (.methodLink "BackBridgeModel" 455 ⟨"BackBridgeModel", "cut", "(JI)J"⟩ : Cond) ∈ sm_wl := sn_m (List.mem_of_getElem? (i := 2057) (by decide +kernel)) rfl
theorem mw_2058 : (.static ⟨"BackBridgeModel", "cut", "(JI)J"⟩ : Cond) ∈ sm_wl := sn_m (List.mem_of_getElem? (i := 2058) (by decide +kernel)) rfl
set_option maxRecDepth 100000 in
theorem mw_2059 : (.code ⟨"BackBridgeModel", "cut", "(JI)J"⟩ prog_14_method_127_code 3 (some .long) : Cond) ∈ sm_wl := sn_m (List.mem_of_getElem? (i := 2059) (by rfl)) rfl
set_option maxRecDepth 100000 in
theorem mw_2063 : (.code ⟨"BackBridgeModel", "lists", "(III)I"⟩ prog_14_method_130_code 8 (some .int) : Cond) ∈ sm_wl := sn_m (List.mem_of_getElem? (i := 2063) (by rfl)) rfl
set_option maxRecDepth 100000 in
theorem mw_2067 : (.code ⟨"BackBridgeModel", "image", "(I)I"⟩ prog_14_method_131_code 3 (some .int) : Cond) ∈ sm_wl := sn_m (List.mem_of_getElem? (i := 2067) (by rfl)) rfl
set_option maxRecDepth 100000 in
theorem mw_2071 : (.code ⟨"BackBridgeModel", "restore", "(I)I"⟩ prog_14_method_132_code 3 (some .int) : Cond) ∈ sm_wl := sn_m (List.mem_of_getElem? (i := 2071) (by rfl)) rfl
set_option maxRecDepth 100000 in
theorem mw_2075 : (.code ⟨"BackBridgeModel", "count", "(I)I"⟩ prog_14_method_135_code 2 (some .int) : Cond) ∈ sm_wl := sn_m (List.mem_of_getElem? (i := 2075) (by rfl)) rfl
theorem mw_2076 : (.methodLink "BackBridgeModel" 459 ⟨"BackBridgeModel", "bridgesSet", "()I"⟩ : Cond) ∈ sm_wl := sn_m (List.mem_of_getElem? (i := 2076) (by decide +kernel)) rfl
theorem mw_2078 : (.instanceMethod ⟨"BackBridgeModel", "bridgesSet", "()I"⟩ : Cond) ∈ sm_wl := sn_m (List.mem_of_getElem? (i := 2078) (by decide +kernel)) rfl
set_option maxRecDepth 100000 in
theorem mw_2079 : (.code ⟨"BackBridgeModel", "bridgesSet", "()I"⟩ prog_14_method_133_code 3 (some .int) : Cond) ∈ sm_wl := sn_m (List.mem_of_getElem? (i := 2079) (by rfl)) rfl
theorem mw_2080 : (.methodLink "BackBridgeModel" 462 ⟨"BackBridgeModel", "errandsMany", "()I"⟩ : Cond) ∈ sm_wl := sn_m (List.mem_of_getElem? (i := 2080) (by decide +kernel)) rfl
theorem mw_2082 : (.instanceMethod ⟨"BackBridgeModel", "errandsMany", "()I"⟩ : Cond) ∈ sm_wl := sn_m (List.mem_of_getElem? (i := 2082) (by decide +kernel)) rfl
set_option maxRecDepth 100000 in
theorem mw_2083 : (.code ⟨"BackBridgeModel", "errandsMany", "()I"⟩ prog_14_method_134_code 3 (some .int) : Cond) ∈ sm_wl := sn_m (List.mem_of_getElem? (i := 2083) (by rfl)) rfl
