/-! The words, by their places (by program). -/
set_option maxRecDepth 100000 in
theorem iw_0 : Jvm.Cond.selects "EngagedTone" ⟨"EngagedTone", "tapeNumber", "(I)V"⟩ ⟨"EngagedTone", "tapeNumber", "(I)V"⟩ ∈ ia_T := ia_inp (List.mem_of_getElem? (i := 0) rfl) rfl
set_option maxRecDepth 100000 in
theorem iw_1 : Jvm.Cond.selects "EngagedTone$Tokens" ⟨"EngagedTone$Tokens", "signAt", "(I)I"⟩ ⟨"EngagedTone$Tokens", "signAt", "(I)I"⟩ ∈ ia_T := ia_inp (List.mem_of_getElem? (i := 1) rfl) rfl
set_option maxRecDepth 100000 in
theorem iw_2 : Jvm.Cond.selects "EngagedTone$Tokens" ⟨"EngagedTone$Tokens", "takeWord", "()V"⟩ ⟨"EngagedTone$Tokens", "takeWord", "()V"⟩ ∈ ia_T := ia_inp (List.mem_of_getElem? (i := 2) rfl) rfl
set_option maxRecDepth 100000 in
theorem iw_3 : Jvm.Cond.selects "EngagedTone$Tokens" ⟨"EngagedTone$Tokens", "takeNumber", "()V"⟩ ⟨"EngagedTone$Tokens", "takeNumber", "()V"⟩ ∈ ia_T := ia_inp (List.mem_of_getElem? (i := 3) rfl) rfl
set_option maxRecDepth 100000 in
theorem iw_4 : Jvm.Cond.selects "EngagedTone$Tokens" ⟨"EngagedTone$Tokens", "takeSign", "(C)V"⟩ ⟨"EngagedTone$Tokens", "takeSign", "(C)V"⟩ ∈ ia_T := ia_inp (List.mem_of_getElem? (i := 4) rfl) rfl
set_option maxRecDepth 100000 in
theorem iw_5 : Jvm.Cond.selects "EngagedTone$Reader" ⟨"EngagedTone$Reader", "readLine", "()Z"⟩ ⟨"EngagedTone$Reader", "readLine", "()Z"⟩ ∈ ia_T := ia_inp (List.mem_of_getElem? (i := 5) rfl) rfl
set_option maxRecDepth 100000 in
theorem iw_6 : Jvm.Cond.selects "EngagedTone$Reader" ⟨"EngagedTone$Reader", "readMan", "()Z"⟩ ⟨"EngagedTone$Reader", "readMan", "()Z"⟩ ∈ ia_T := ia_inp (List.mem_of_getElem? (i := 6) rfl) rfl
set_option maxRecDepth 100000 in
theorem iw_7 : Jvm.Cond.selects "EngagedTone$Reader" ⟨"EngagedTone$Reader", "wrong", "(I)Z"⟩ ⟨"EngagedTone$Reader", "wrong", "(I)Z"⟩ ∈ ia_T := ia_inp (List.mem_of_getElem? (i := 7) rfl) rfl
set_option maxRecDepth 100000 in
theorem iw_8 : Jvm.Cond.selects "EngagedTone$Reader" ⟨"EngagedTone$Reader", "number", "(II)I"⟩ ⟨"EngagedTone$Reader", "number", "(II)I"⟩ ∈ ia_T := ia_inp (List.mem_of_getElem? (i := 8) rfl) rfl
set_option maxRecDepth 100000 in
theorem iw_9 : Jvm.Cond.selects "EngagedTone$Reader" ⟨"EngagedTone$Reader", "readTone", "()Z"⟩ ⟨"EngagedTone$Reader", "readTone", "()Z"⟩ ∈ ia_T := ia_inp (List.mem_of_getElem? (i := 9) rfl) rfl
set_option maxRecDepth 100000 in
theorem iw_10 : Jvm.Cond.selects "EngagedTone$Reader" ⟨"EngagedTone$Reader", "person", "()I"⟩ ⟨"EngagedTone$Reader", "person", "()I"⟩ ∈ ia_T := ia_inp (List.mem_of_getElem? (i := 10) rfl) rfl
set_option maxRecDepth 100000 in
theorem iw_11 : Jvm.Cond.selects "EngagedTone$Reader" ⟨"EngagedTone$Reader", "readPrice", "()Z"⟩ ⟨"EngagedTone$Reader", "readPrice", "()Z"⟩ ∈ ia_T := ia_inp (List.mem_of_getElem? (i := 11) rfl) rfl
set_option maxRecDepth 100000 in
theorem iw_12 : Jvm.Cond.selects "EngagedTone$Reader" ⟨"EngagedTone$Reader", "readRing", "()Z"⟩ ⟨"EngagedTone$Reader", "readRing", "()Z"⟩ ∈ ia_T := ia_inp (List.mem_of_getElem? (i := 12) rfl) rfl
set_option maxRecDepth 100000 in
theorem iw_13 : Jvm.Cond.selects "EngagedTone$Reader" ⟨"EngagedTone$Reader", "readLines", "()Z"⟩ ⟨"EngagedTone$Reader", "readLines", "()Z"⟩ ∈ ia_T := ia_inp (List.mem_of_getElem? (i := 13) rfl) rfl
set_option maxRecDepth 100000 in
theorem iw_14 : Jvm.Cond.selects "EngagedTone$Reader" ⟨"EngagedTone$Reader", "readTries", "()Z"⟩ ⟨"EngagedTone$Reader", "readTries", "()Z"⟩ ∈ ia_T := ia_inp (List.mem_of_getElem? (i := 14) rfl) rfl
set_option maxRecDepth 100000 in
theorem iw_15 : Jvm.Cond.selects "EngagedTone$Reader" ⟨"EngagedTone$Reader", "readSeed", "()Z"⟩ ⟨"EngagedTone$Reader", "readSeed", "()Z"⟩ ∈ ia_T := ia_inp (List.mem_of_getElem? (i := 15) rfl) rfl
set_option maxRecDepth 100000 in
theorem iw_16 : Jvm.Cond.selects "EngagedTone$Reader" ⟨"EngagedTone$Reader", "readLaw", "()Z"⟩ ⟨"EngagedTone$Reader", "readLaw", "()Z"⟩ ∈ ia_T := ia_inp (List.mem_of_getElem? (i := 16) rfl) rfl
set_option maxRecDepth 100000 in
theorem iw_17 : Jvm.Cond.selects "EngagedTone$Reader" ⟨"EngagedTone$Reader", "readValue", "()Z"⟩ ⟨"EngagedTone$Reader", "readValue", "()Z"⟩ ∈ ia_T := ia_inp (List.mem_of_getElem? (i := 17) rfl) rfl
set_option maxRecDepth 100000 in
theorem iw_18 : Jvm.Cond.selects "EngagedTone$Reader" ⟨"EngagedTone$Reader", "readOpening", "()Z"⟩ ⟨"EngagedTone$Reader", "readOpening", "()Z"⟩ ∈ ia_T := ia_inp (List.mem_of_getElem? (i := 18) rfl) rfl
set_option maxRecDepth 100000 in
theorem iw_19 : Jvm.Cond.selects "EngagedTone$Reader" ⟨"EngagedTone$Reader", "await", "(I)Z"⟩ ⟨"EngagedTone$Reader", "await", "(I)Z"⟩ ∈ ia_T := ia_inp (List.mem_of_getElem? (i := 19) rfl) rfl
set_option maxRecDepth 100000 in
theorem iw_20 : Jvm.Cond.selects "EngagedTone$Reader" ⟨"EngagedTone$Reader", "readNot", "()Z"⟩ ⟨"EngagedTone$Reader", "readNot", "()Z"⟩ ∈ ia_T := ia_inp (List.mem_of_getElem? (i := 20) rfl) rfl
set_option maxRecDepth 100000 in
theorem iw_21 : Jvm.Cond.selects "EngagedTone$Reader" ⟨"EngagedTone$Reader", "rankOfLast", "()I"⟩ ⟨"EngagedTone$Reader", "rankOfLast", "()I"⟩ ∈ ia_T := ia_inp (List.mem_of_getElem? (i := 21) rfl) rfl
set_option maxRecDepth 100000 in
theorem iw_22 : Jvm.Cond.selects "EngagedTone$Reader" ⟨"EngagedTone$Reader", "countKnot", "()Z"⟩ ⟨"EngagedTone$Reader", "countKnot", "()Z"⟩ ∈ ia_T := ia_inp (List.mem_of_getElem? (i := 22) rfl) rfl
set_option maxRecDepth 100000 in
theorem iw_23 : Jvm.Cond.selects "EngagedTone$Reader" ⟨"EngagedTone$Reader", "readClosings", "()V"⟩ ⟨"EngagedTone$Reader", "readClosings", "()V"⟩ ∈ ia_T := ia_inp (List.mem_of_getElem? (i := 23) rfl) rfl
set_option maxRecDepth 100000 in
theorem iw_24 : Jvm.Cond.selects "EngagedTone$Reader" ⟨"EngagedTone$Reader", "writeDownTo", "(I)V"⟩ ⟨"EngagedTone$Reader", "writeDownTo", "(I)V"⟩ ∈ ia_T := ia_inp (List.mem_of_getElem? (i := 24) rfl) rfl
set_option maxRecDepth 100000 in
theorem iw_25 : Jvm.Cond.selects "EngagedTone$Reader" ⟨"EngagedTone$Reader", "readJoin", "()Z"⟩ ⟨"EngagedTone$Reader", "readJoin", "()Z"⟩ ∈ ia_T := ia_inp (List.mem_of_getElem? (i := 25) rfl) rfl
set_option maxRecDepth 100000 in
theorem iw_26 : Jvm.Cond.selects "EngagedTone" ⟨"EngagedTone", "isPerson", "(I)Z"⟩ ⟨"EngagedTone", "isPerson", "(I)Z"⟩ ∈ ia_T := ia_inp (List.mem_of_getElem? (i := 26) rfl) rfl
set_option maxRecDepth 100000 in
theorem iw_27 : Jvm.Cond.selects "EngagedTone" ⟨"EngagedTone", "isTone", "(I)Z"⟩ ⟨"EngagedTone", "isTone", "(I)Z"⟩ ∈ ia_T := ia_inp (List.mem_of_getElem? (i := 27) rfl) rfl
set_option maxRecDepth 100000 in
theorem iw_28 : Jvm.Cond.selects "EngagedTone" ⟨"EngagedTone", "isRing", "(I)Z"⟩ ⟨"EngagedTone", "isRing", "(I)Z"⟩ ∈ ia_T := ia_inp (List.mem_of_getElem? (i := 28) rfl) rfl
set_option maxRecDepth 100000 in
theorem iw_29 : Jvm.Cond.selects "EngagedTone$Deeds" ⟨"EngagedTone$Deeds", "dropFirst", "()V"⟩ ⟨"EngagedTone$Deeds", "dropFirst", "()V"⟩ ∈ ia_T := ia_inp (List.mem_of_getElem? (i := 29) rfl) rfl
set_option maxRecDepth 100000 in
theorem iw_30 : Jvm.Cond.selects "EngagedTone" ⟨"EngagedTone", "isWaiting", "(I)Z"⟩ ⟨"EngagedTone", "isWaiting", "(I)Z"⟩ ∈ ia_T := ia_inp (List.mem_of_getElem? (i := 30) rfl) rfl
set_option maxRecDepth 100000 in
theorem iw_31 : Jvm.Cond.selects "EngagedTone$Exchange" ⟨"EngagedTone$Exchange", "beginTone", "(LEngagedTone$World;I)V"⟩ ⟨"EngagedTone$Exchange", "beginTone", "(LEngagedTone$World;I)V"⟩ ∈ ia_T := ia_inp (List.mem_of_getElem? (i := 31) rfl) rfl
set_option maxRecDepth 100000 in
theorem iw_32 : Jvm.Cond.selects "EngagedTone$Exchange" ⟨"EngagedTone$Exchange", "tryRing", "(LEngagedTone$World;I)V"⟩ ⟨"EngagedTone$Exchange", "tryRing", "(LEngagedTone$World;I)V"⟩ ∈ ia_T := ia_inp (List.mem_of_getElem? (i := 32) rfl) rfl
set_option maxRecDepth 100000 in
theorem iw_33 : Jvm.Cond.selects "EngagedTone$Exchange" ⟨"EngagedTone$Exchange", "mayConnect", "(LEngagedTone$World;I)Z"⟩ ⟨"EngagedTone$Exchange", "mayConnect", "(LEngagedTone$World;I)Z"⟩ ∈ ia_T := ia_inp (List.mem_of_getElem? (i := 33) rfl) rfl
set_option maxRecDepth 100000 in
theorem iw_34 : Jvm.Cond.selects "EngagedTone$Exchange" ⟨"EngagedTone$Exchange", "draw", "()I"⟩ ⟨"EngagedTone$Exchange", "draw", "()I"⟩ ∈ ia_T := ia_inp (List.mem_of_getElem? (i := 34) rfl) rfl
set_option maxRecDepth 100000 in
theorem iw_35 : Jvm.Cond.selects "EngagedTone$Exchange" ⟨"EngagedTone$Exchange", "gainFame", "(LEngagedTone$World;I)V"⟩ ⟨"EngagedTone$Exchange", "gainFame", "(LEngagedTone$World;I)V"⟩ ∈ ia_T := ia_inp (List.mem_of_getElem? (i := 35) rfl) rfl
set_option maxRecDepth 100000 in
theorem iw_36 : Jvm.Cond.selects "EngagedTone" ⟨"EngagedTone", "fewToStop", "(III)I"⟩ ⟨"EngagedTone", "fewToStop", "(III)I"⟩ ∈ ia_T := ia_inp (List.mem_of_getElem? (i := 36) rfl) rfl
set_option maxRecDepth 100000 in
theorem iw_37 : Jvm.Cond.selects "EngagedTone" ⟨"EngagedTone", "areRivals", "(II)Z"⟩ ⟨"EngagedTone", "areRivals", "(II)Z"⟩ ∈ ia_T := ia_inp (List.mem_of_getElem? (i := 37) rfl) rfl
set_option maxRecDepth 100000 in
theorem iw_38 : Jvm.Cond.selects "EngagedTone" ⟨"EngagedTone", "isRest", "(III)Z"⟩ ⟨"EngagedTone", "isRest", "(III)Z"⟩ ∈ ia_T := ia_inp (List.mem_of_getElem? (i := 38) rfl) rfl
set_option maxRecDepth 100000 in
theorem iw_39 : Jvm.Cond.selects "EngagedTone" ⟨"EngagedTone", "greatestBidder", "(I)I"⟩ ⟨"EngagedTone", "greatestBidder", "(I)I"⟩ ∈ ia_T := ia_inp (List.mem_of_getElem? (i := 39) rfl) rfl
set_option maxRecDepth 100000 in
theorem iw_40 : Jvm.Cond.selects "EngagedTone" ⟨"EngagedTone", "bidOf", "(I)I"⟩ ⟨"EngagedTone", "bidOf", "(I)I"⟩ ∈ ia_T := ia_inp (List.mem_of_getElem? (i := 40) rfl) rfl
set_option maxRecDepth 100000 in
theorem iw_41 : Jvm.Cond.selects "EngagedTone$Rumours" ⟨"EngagedTone$Rumours", "counts", "(I)Z"⟩ ⟨"EngagedTone$Rumours", "counts", "(I)Z"⟩ ∈ ia_T := ia_inp (List.mem_of_getElem? (i := 41) rfl) rfl
set_option maxRecDepth 100000 in
theorem iw_43 : Jvm.Cond.selects "EngagedToneModel" ⟨"EngagedToneModel", "begins", "()V"⟩ ⟨"EngagedToneModel", "begins", "()V"⟩ ∈ ia_T := ia_inp (List.mem_of_getElem? (i := 43) rfl) rfl
set_option maxRecDepth 100000 in
theorem iw_44 : Jvm.Cond.selects "EngagedToneModel" ⟨"EngagedToneModel", "starts", "(I)V"⟩ ⟨"EngagedToneModel", "starts", "(I)V"⟩ ∈ ia_T := ia_inp (List.mem_of_getElem? (i := 44) rfl) rfl
set_option maxRecDepth 100000 in
theorem iw_45 : Jvm.Cond.selects "EngagedToneModel" ⟨"EngagedToneModel", "reads", "(II)V"⟩ ⟨"EngagedToneModel", "reads", "(II)V"⟩ ∈ ia_T := ia_inp (List.mem_of_getElem? (i := 45) rfl) rfl
set_option maxRecDepth 100000 in
theorem iw_46 : Jvm.Cond.selects "EngagedToneModel" ⟨"EngagedToneModel", "token", "()V"⟩ ⟨"EngagedToneModel", "token", "()V"⟩ ∈ ia_T := ia_inp (List.mem_of_getElem? (i := 46) rfl) rfl
set_option maxRecDepth 100000 in
theorem iw_47 : Jvm.Cond.selects "EngagedToneModel" ⟨"EngagedToneModel", "here", "()I"⟩ ⟨"EngagedToneModel", "here", "()I"⟩ ∈ ia_T := ia_inp (List.mem_of_getElem? (i := 47) rfl) rfl
set_option maxRecDepth 100000 in
theorem iw_48 : Jvm.Cond.selects "EngagedToneModel" ⟨"EngagedToneModel", "word", "()I"⟩ ⟨"EngagedToneModel", "word", "()I"⟩ ∈ ia_T := ia_inp (List.mem_of_getElem? (i := 48) rfl) rfl
set_option maxRecDepth 100000 in
theorem iw_49 : Jvm.Cond.selects "EngagedToneModel" ⟨"EngagedToneModel", "name", "()V"⟩ ⟨"EngagedToneModel", "name", "()V"⟩ ∈ ia_T := ia_inp (List.mem_of_getElem? (i := 49) rfl) rfl
set_option maxRecDepth 100000 in
theorem iw_50 : Jvm.Cond.selects "EngagedToneModel" ⟨"EngagedToneModel", "sign", "(I)V"⟩ ⟨"EngagedToneModel", "sign", "(I)V"⟩ ∈ ia_T := ia_inp (List.mem_of_getElem? (i := 50) rfl) rfl
set_option maxRecDepth 100000 in
theorem iw_51 : Jvm.Cond.selects "EngagedToneModel" ⟨"EngagedToneModel", "line", "()V"⟩ ⟨"EngagedToneModel", "line", "()V"⟩ ∈ ia_T := ia_inp (List.mem_of_getElem? (i := 51) rfl) rfl
set_option maxRecDepth 100000 in
theorem iw_52 : Jvm.Cond.selects "EngagedToneModel" ⟨"EngagedToneModel", "wrong", "(I)V"⟩ ⟨"EngagedToneModel", "wrong", "(I)V"⟩ ∈ ia_T := ia_inp (List.mem_of_getElem? (i := 52) rfl) rfl
set_option maxRecDepth 100000 in
theorem iw_53 : Jvm.Cond.selects "EngagedToneModel" ⟨"EngagedToneModel", "isFull", "(I)Z"⟩ ⟨"EngagedToneModel", "isFull", "(I)Z"⟩ ∈ ia_T := ia_inp (List.mem_of_getElem? (i := 53) rfl) rfl
set_option maxRecDepth 100000 in
theorem iw_54 : Jvm.Cond.selects "EngagedToneModel" ⟨"EngagedToneModel", "fresher", "(I)I"⟩ ⟨"EngagedToneModel", "fresher", "(I)I"⟩ ∈ ia_T := ia_inp (List.mem_of_getElem? (i := 54) rfl) rfl
set_option maxRecDepth 100000 in
theorem iw_55 : Jvm.Cond.selects "EngagedToneModel" ⟨"EngagedToneModel", "fresh", "([III)I"⟩ ⟨"EngagedToneModel", "fresh", "([III)I"⟩ ∈ ia_T := ia_inp (List.mem_of_getElem? (i := 55) rfl) rfl
set_option maxRecDepth 100000 in
theorem iw_56 : Jvm.Cond.selects "EngagedToneModel" ⟨"EngagedToneModel", "numeral", "(II)I"⟩ ⟨"EngagedToneModel", "numeral", "(II)I"⟩ ∈ ia_T := ia_inp (List.mem_of_getElem? (i := 56) rfl) rfl
set_option maxRecDepth 100000 in
theorem iw_57 : Jvm.Cond.selects "EngagedToneModel" ⟨"EngagedToneModel", "manAhead", "()I"⟩ ⟨"EngagedToneModel", "manAhead", "()I"⟩ ∈ ia_T := ia_inp (List.mem_of_getElem? (i := 57) rfl) rfl
set_option maxRecDepth 100000 in
theorem iw_58 : Jvm.Cond.selects "EngagedToneModel" ⟨"EngagedToneModel", "manAtHand", "()I"⟩ ⟨"EngagedToneModel", "manAtHand", "()I"⟩ ∈ ia_T := ia_inp (List.mem_of_getElem? (i := 58) rfl) rfl
set_option maxRecDepth 100000 in
theorem iw_59 : Jvm.Cond.selects "EngagedToneModel" ⟨"EngagedToneModel", "goOn", "()V"⟩ ⟨"EngagedToneModel", "goOn", "()V"⟩ ∈ ia_T := ia_inp (List.mem_of_getElem? (i := 59) rfl) rfl
set_option maxRecDepth 100000 in
theorem iw_60 : Jvm.Cond.selects "EngagedToneModel" ⟨"EngagedToneModel", "ringLine", "(I)V"⟩ ⟨"EngagedToneModel", "ringLine", "(I)V"⟩ ∈ ia_T := ia_inp (List.mem_of_getElem? (i := 60) rfl) rfl
set_option maxRecDepth 100000 in
theorem iw_61 : Jvm.Cond.selects "EngagedToneModel" ⟨"EngagedToneModel", "lawLine", "()V"⟩ ⟨"EngagedToneModel", "lawLine", "()V"⟩ ∈ ia_T := ia_inp (List.mem_of_getElem? (i := 61) rfl) rfl
set_option maxRecDepth 100000 in
theorem iw_62 : Jvm.Cond.selects "EngagedToneModel" ⟨"EngagedToneModel", "expression", "()V"⟩ ⟨"EngagedToneModel", "expression", "()V"⟩ ∈ ia_T := ia_inp (List.mem_of_getElem? (i := 62) rfl) rfl
set_option maxRecDepth 100000 in
theorem iw_63 : Jvm.Cond.selects "EngagedToneModel" ⟨"EngagedToneModel", "conjunction", "()V"⟩ ⟨"EngagedToneModel", "conjunction", "()V"⟩ ∈ ia_T := ia_inp (List.mem_of_getElem? (i := 63) rfl) rfl
set_option maxRecDepth 100000 in
theorem iw_64 : Jvm.Cond.selects "EngagedToneModel" ⟨"EngagedToneModel", "negation", "()V"⟩ ⟨"EngagedToneModel", "negation", "()V"⟩ ∈ ia_T := ia_inp (List.mem_of_getElem? (i := 64) rfl) rfl
set_option maxRecDepth 100000 in
theorem iw_65 : Jvm.Cond.selects "EngagedToneModel" ⟨"EngagedToneModel", "isWord", "(I)Z"⟩ ⟨"EngagedToneModel", "isWord", "(I)Z"⟩ ∈ ia_T := ia_inp (List.mem_of_getElem? (i := 65) rfl) rfl
set_option maxRecDepth 100000 in
theorem iw_66 : Jvm.Cond.selects "EngagedToneModel" ⟨"EngagedToneModel", "knot", "()V"⟩ ⟨"EngagedToneModel", "knot", "()V"⟩ ∈ ia_T := ia_inp (List.mem_of_getElem? (i := 66) rfl) rfl
set_option maxRecDepth 100000 in
theorem iw_67 : Jvm.Cond.selects "EngagedToneModel" ⟨"EngagedToneModel", "puts", "(II)V"⟩ ⟨"EngagedToneModel", "puts", "(II)V"⟩ ∈ ia_T := ia_inp (List.mem_of_getElem? (i := 67) rfl) rfl
set_option maxRecDepth 100000 in
theorem iw_68 : Jvm.Cond.selects "EngagedToneModel" ⟨"EngagedToneModel", "sum", "()V"⟩ ⟨"EngagedToneModel", "sum", "()V"⟩ ∈ ia_T := ia_inp (List.mem_of_getElem? (i := 68) rfl) rfl
set_option maxRecDepth 100000 in
theorem iw_69 : Jvm.Cond.selects "EngagedToneModel" ⟨"EngagedToneModel", "product", "()V"⟩ ⟨"EngagedToneModel", "product", "()V"⟩ ∈ ia_T := ia_inp (List.mem_of_getElem? (i := 69) rfl) rfl
set_option maxRecDepth 100000 in
theorem iw_70 : Jvm.Cond.selects "EngagedToneModel" ⟨"EngagedToneModel", "primary", "()V"⟩ ⟨"EngagedToneModel", "primary", "()V"⟩ ∈ ia_T := ia_inp (List.mem_of_getElem? (i := 70) rfl) rfl
set_option maxRecDepth 100000 in
theorem iw_71 : Jvm.Cond.selects "EngagedToneModel" ⟨"EngagedToneModel", "isSign", "(I)Z"⟩ ⟨"EngagedToneModel", "isSign", "(I)Z"⟩ ∈ ia_T := ia_inp (List.mem_of_getElem? (i := 71) rfl) rfl
set_option maxRecDepth 100000 in
theorem iw_72 : Jvm.Cond.selects "EngagedToneModel" ⟨"EngagedToneModel", "isCall", "(I)Z"⟩ ⟨"EngagedToneModel", "isCall", "(I)Z"⟩ ∈ ia_T := ia_inp (List.mem_of_getElem? (i := 72) rfl) rfl
set_option maxRecDepth 100000 in
theorem iw_73 : Jvm.Cond.selects "EngagedToneModel" ⟨"EngagedToneModel", "isMan", "(I)Z"⟩ ⟨"EngagedToneModel", "isMan", "(I)Z"⟩ ∈ ia_T := ia_inp (List.mem_of_getElem? (i := 73) rfl) rfl
set_option maxRecDepth 100000 in
theorem iw_74 : Jvm.Cond.selects "EngagedToneModel" ⟨"EngagedToneModel", "isEngaged", "(II)Z"⟩ ⟨"EngagedToneModel", "isEngaged", "(II)Z"⟩ ∈ ia_T := ia_inp (List.mem_of_getElem? (i := 74) rfl) rfl
set_option maxRecDepth 100000 in
theorem iw_75 : Jvm.Cond.selects "EngagedToneModel" ⟨"EngagedToneModel", "callOf", "(II)I"⟩ ⟨"EngagedToneModel", "callOf", "(II)I"⟩ ∈ ia_T := ia_inp (List.mem_of_getElem? (i := 75) rfl) rfl
set_option maxRecDepth 100000 in
theorem iw_76 : Jvm.Cond.selects "EngagedToneModel" ⟨"EngagedToneModel", "hasTone", "(II)Z"⟩ ⟨"EngagedToneModel", "hasTone", "(II)Z"⟩ ∈ ia_T := ia_inp (List.mem_of_getElem? (i := 76) rfl) rfl
set_option maxRecDepth 100000 in
theorem iw_77 : Jvm.Cond.selects "EngagedToneModel" ⟨"EngagedToneModel", "isTone", "(I)Z"⟩ ⟨"EngagedToneModel", "isTone", "(I)Z"⟩ ∈ ia_T := ia_inp (List.mem_of_getElem? (i := 77) rfl) rfl
set_option maxRecDepth 100000 in
theorem iw_78 : Jvm.Cond.selects "EngagedToneModel" ⟨"EngagedToneModel", "priceAt", "(I)I"⟩ ⟨"EngagedToneModel", "priceAt", "(I)I"⟩ ∈ ia_T := ia_inp (List.mem_of_getElem? (i := 78) rfl) rfl
set_option maxRecDepth 100000 in
theorem iw_79 : Jvm.Cond.selects "EngagedToneModel" ⟨"EngagedToneModel", "hasLaw", "(I)Z"⟩ ⟨"EngagedToneModel", "hasLaw", "(I)Z"⟩ ∈ ia_T := ia_inp (List.mem_of_getElem? (i := 79) rfl) rfl
set_option maxRecDepth 100000 in
theorem iw_80 : Jvm.Cond.selects "EngagedToneModel" ⟨"EngagedToneModel", "calls", "(III)V"⟩ ⟨"EngagedToneModel", "calls", "(III)V"⟩ ∈ ia_T := ia_inp (List.mem_of_getElem? (i := 80) rfl) rfl
set_option maxRecDepth 100000 in
theorem iw_81 : Jvm.Cond.selects "EngagedToneModel" ⟨"EngagedToneModel", "engagedMany", "(I)I"⟩ ⟨"EngagedToneModel", "engagedMany", "(I)I"⟩ ∈ ia_T := ia_inp (List.mem_of_getElem? (i := 81) rfl) rfl
set_option maxRecDepth 100000 in
theorem iw_82 : Jvm.Cond.selects "EngagedToneModel" ⟨"EngagedToneModel", "goes", "(I)Z"⟩ ⟨"EngagedToneModel", "goes", "(I)Z"⟩ ∈ ia_T := ia_inp (List.mem_of_getElem? (i := 82) rfl) rfl
set_option maxRecDepth 100000 in
theorem iw_83 : Jvm.Cond.selects "EngagedToneModel" ⟨"EngagedToneModel", "works", "(I)Z"⟩ ⟨"EngagedToneModel", "works", "(I)Z"⟩ ∈ ia_T := ia_inp (List.mem_of_getElem? (i := 83) rfl) rfl
set_option maxRecDepth 100000 in
theorem iw_84 : Jvm.Cond.selects "EngagedToneModel" ⟨"EngagedToneModel", "keepNow", "()V"⟩ ⟨"EngagedToneModel", "keepNow", "()V"⟩ ∈ ia_T := ia_inp (List.mem_of_getElem? (i := 84) rfl) rfl
set_option maxRecDepth 100000 in
theorem iw_85 : Jvm.Cond.selects "EngagedToneModel" ⟨"EngagedToneModel", "copies", "(II)V"⟩ ⟨"EngagedToneModel", "copies", "(II)V"⟩ ∈ ia_T := ia_inp (List.mem_of_getElem? (i := 85) rfl) rfl
set_option maxRecDepth 100000 in
theorem iw_86 : Jvm.Cond.selects "EngagedToneModel" ⟨"EngagedToneModel", "passes", "(I)V"⟩ ⟨"EngagedToneModel", "passes", "(I)V"⟩ ∈ ia_T := ia_inp (List.mem_of_getElem? (i := 86) rfl) rfl
set_option maxRecDepth 100000 in
theorem iw_87 : Jvm.Cond.selects "EngagedToneModel" ⟨"EngagedToneModel", "comes", "(I)V"⟩ ⟨"EngagedToneModel", "comes", "(I)V"⟩ ∈ ia_T := ia_inp (List.mem_of_getElem? (i := 87) rfl) rfl
set_option maxRecDepth 100000 in
theorem iw_88 : Jvm.Cond.selects "EngagedToneModel" ⟨"EngagedToneModel", "tonesGo", "(I)V"⟩ ⟨"EngagedToneModel", "tonesGo", "(I)V"⟩ ∈ ia_T := ia_inp (List.mem_of_getElem? (i := 88) rfl) rfl
set_option maxRecDepth 100000 in
theorem iw_89 : Jvm.Cond.selects "EngagedToneModel" ⟨"EngagedToneModel", "costOf", "(II)I"⟩ ⟨"EngagedToneModel", "costOf", "(II)I"⟩ ∈ ia_T := ia_inp (List.mem_of_getElem? (i := 89) rfl) rfl
set_option maxRecDepth 100000 in
theorem iw_90 : Jvm.Cond.selects "EngagedToneModel" ⟨"EngagedToneModel", "within", "(IIII)I"⟩ ⟨"EngagedToneModel", "within", "(IIII)I"⟩ ∈ ia_T := ia_inp (List.mem_of_getElem? (i := 90) rfl) rfl
set_option maxRecDepth 100000 in
theorem iw_91 : Jvm.Cond.selects "EngagedToneModel" ⟨"EngagedToneModel", "tries", "(II)V"⟩ ⟨"EngagedToneModel", "tries", "(II)V"⟩ ∈ ia_T := ia_inp (List.mem_of_getElem? (i := 91) rfl) rfl
set_option maxRecDepth 100000 in
theorem iw_92 : Jvm.Cond.selects "EngagedToneModel" ⟨"EngagedToneModel", "callsOf", "(II)I"⟩ ⟨"EngagedToneModel", "callsOf", "(II)I"⟩ ∈ ia_T := ia_inp (List.mem_of_getElem? (i := 92) rfl) rfl
set_option maxRecDepth 100000 in
theorem iw_93 : Jvm.Cond.selects "EngagedToneModel" ⟨"EngagedToneModel", "linesNow", "()I"⟩ ⟨"EngagedToneModel", "linesNow", "()I"⟩ ∈ ia_T := ia_inp (List.mem_of_getElem? (i := 93) rfl) rfl
set_option maxRecDepth 100000 in
theorem iw_94 : Jvm.Cond.selects "EngagedToneModel" ⟨"EngagedToneModel", "triesNow", "()I"⟩ ⟨"EngagedToneModel", "triesNow", "()I"⟩ ∈ ia_T := ia_inp (List.mem_of_getElem? (i := 94) rfl) rfl
set_option maxRecDepth 100000 in
theorem iw_95 : Jvm.Cond.selects "EngagedToneModel" ⟨"EngagedToneModel", "fames", "(I)V"⟩ ⟨"EngagedToneModel", "fames", "(I)V"⟩ ∈ ia_T := ia_inp (List.mem_of_getElem? (i := 95) rfl) rfl
set_option maxRecDepth 100000 in
theorem iw_96 : Jvm.Cond.selects "EngagedToneModel" ⟨"EngagedToneModel", "runs", "(I)V"⟩ ⟨"EngagedToneModel", "runs", "(I)V"⟩ ∈ ia_T := ia_inp (List.mem_of_getElem? (i := 96) rfl) rfl
set_option maxRecDepth 100000 in
theorem iw_97 : Jvm.Cond.selects "EngagedToneModel" ⟨"EngagedToneModel", "goesOn", "(I)V"⟩ ⟨"EngagedToneModel", "goesOn", "(I)V"⟩ ∈ ia_T := ia_inp (List.mem_of_getElem? (i := 97) rfl) rfl
set_option maxRecDepth 100000 in
theorem iw_98 : Jvm.Cond.selects "EngagedToneModel" ⟨"EngagedToneModel", "gotThrough", "(I)I"⟩ ⟨"EngagedToneModel", "gotThrough", "(I)I"⟩ ∈ ia_T := ia_inp (List.mem_of_getElem? (i := 98) rfl) rfl
set_option maxRecDepth 100000 in
theorem iw_99 : Jvm.Cond.selects "EngagedToneModel" ⟨"EngagedToneModel", "throughIn", "(I)I"⟩ ⟨"EngagedToneModel", "throughIn", "(I)I"⟩ ∈ ia_T := ia_inp (List.mem_of_getElem? (i := 99) rfl) rfl
set_option maxRecDepth 100000 in
theorem iw_100 : Jvm.Cond.selects "EngagedToneModel" ⟨"EngagedToneModel", "layShift", "()V"⟩ ⟨"EngagedToneModel", "layShift", "()V"⟩ ∈ ia_T := ia_inp (List.mem_of_getElem? (i := 100) rfl) rfl
set_option maxRecDepth 100000 in
theorem iw_101 : Jvm.Cond.selects "EngagedToneModel" ⟨"EngagedToneModel", "areTwo", "(II)Z"⟩ ⟨"EngagedToneModel", "areTwo", "(II)Z"⟩ ∈ ia_T := ia_inp (List.mem_of_getElem? (i := 101) rfl) rfl
set_option maxRecDepth 100000 in
theorem iw_102 : Jvm.Cond.selects "EngagedToneModel" ⟨"EngagedToneModel", "restOf", "(III)I"⟩ ⟨"EngagedToneModel", "restOf", "(III)I"⟩ ∈ ia_T := ia_inp (List.mem_of_getElem? (i := 102) rfl) rfl
set_option maxRecDepth 100000 in
theorem iw_103 : Jvm.Cond.selects "EngagedToneModel" ⟨"EngagedToneModel", "isRest", "(III)Z"⟩ ⟨"EngagedToneModel", "isRest", "(III)Z"⟩ ∈ ia_T := ia_inp (List.mem_of_getElem? (i := 103) rfl) rfl
set_option maxRecDepth 100000 in
theorem iw_104 : Jvm.Cond.selects "EngagedToneModel" ⟨"EngagedToneModel", "hasOf", "(III)I"⟩ ⟨"EngagedToneModel", "hasOf", "(III)I"⟩ ∈ ia_T := ia_inp (List.mem_of_getElem? (i := 104) rfl) rfl
set_option maxRecDepth 100000 in
theorem iw_105 : Jvm.Cond.selects "EngagedToneModel" ⟨"EngagedToneModel", "bidOf", "(I)I"⟩ ⟨"EngagedToneModel", "bidOf", "(I)I"⟩ ∈ ia_T := ia_inp (List.mem_of_getElem? (i := 105) rfl) rfl
set_option maxRecDepth 100000 in
theorem iw_106 : Jvm.Cond.selects "EngagedToneModel" ⟨"EngagedToneModel", "haveSpoken", "(II)Z"⟩ ⟨"EngagedToneModel", "haveSpoken", "(II)Z"⟩ ∈ ia_T := ia_inp (List.mem_of_getElem? (i := 106) rfl) rfl
set_option maxRecDepth 100000 in
theorem iw_107 : Jvm.Cond.selects "EngagedToneModel" ⟨"EngagedToneModel", "knownMany", "()I"⟩ ⟨"EngagedToneModel", "knownMany", "()I"⟩ ∈ ia_T := ia_inp (List.mem_of_getElem? (i := 107) rfl) rfl
set_option maxRecDepth 100000 in
theorem iw_108 : Jvm.Cond.selects "EngagedToneModel" ⟨"EngagedToneModel", "fitsSpan", "(III)Z"⟩ ⟨"EngagedToneModel", "fitsSpan", "(III)Z"⟩ ∈ ia_T := ia_inp (List.mem_of_getElem? (i := 108) rfl) rfl
set_option maxRecDepth 100000 in
theorem iw_109 : Jvm.Cond.selects "EngagedToneModel" ⟨"EngagedToneModel", "isSo", "(I)Z"⟩ ⟨"EngagedToneModel", "isSo", "(I)Z"⟩ ∈ ia_T := ia_inp (List.mem_of_getElem? (i := 109) rfl) rfl
set_option maxRecDepth 100000 in
theorem iw_111 : (Jvm.Cond.initialized "EngagedTone") ∈ ia_T := ia_in1 (List.mem_of_getElem? (i := 1) rfl) rfl
set_option maxRecDepth 100000 in
theorem iw_112 : (Jvm.Cond.initialized "EngagedTone$Script") ∈ ia_T := ia_in1 (List.mem_of_getElem? (i := 2) rfl) rfl
set_option maxRecDepth 100000 in
theorem iw_113 : (Jvm.Cond.initialized "EngagedTone$World") ∈ ia_T := ia_in1 (List.mem_of_getElem? (i := 3) rfl) rfl
set_option maxRecDepth 100000 in
theorem iw_114 : (Jvm.Cond.initialized "EngagedTone$Laws") ∈ ia_T := ia_in1 (List.mem_of_getElem? (i := 4) rfl) rfl
set_option maxRecDepth 100000 in
theorem iw_115 : (Jvm.Cond.initialized "EngagedTone$Reader") ∈ ia_T := ia_in1 (List.mem_of_getElem? (i := 5) rfl) rfl
set_option maxRecDepth 100000 in
theorem iw_116 : (Jvm.Cond.initialized "EngagedTone$Tokens") ∈ ia_T := ia_in1 (List.mem_of_getElem? (i := 6) rfl) rfl
set_option maxRecDepth 100000 in
theorem iw_117 : (Jvm.Cond.initialized "java/lang/String") ∈ ia_T := ia_in1 (List.mem_of_getElem? (i := 7) rfl) rfl
set_option maxRecDepth 100000 in
theorem iw_118 : (Jvm.Cond.initialized "java/lang/StringLatin1") ∈ ia_T := ia_in1 (List.mem_of_getElem? (i := 8) rfl) rfl
set_option maxRecDepth 100000 in
theorem iw_121 : (Jvm.Cond.initialized "EngagedTone$Exchange") ∈ ia_T := ia_in1 (List.mem_of_getElem? (i := 11) rfl) rfl
set_option maxRecDepth 100000 in
theorem iw_122 : (Jvm.Cond.initialized "EngagedTone$Foresight") ∈ ia_T := ia_in1 (List.mem_of_getElem? (i := 12) rfl) rfl
set_option maxRecDepth 100000 in
theorem iw_123 : (Jvm.Cond.initialized "EngagedTone$Rumours") ∈ ia_T := ia_in1 (List.mem_of_getElem? (i := 13) rfl) rfl
set_option maxRecDepth 100000 in
theorem iw_124 : (Jvm.Cond.initialized "EngagedTone$Deeds") ∈ ia_T := ia_in1 (List.mem_of_getElem? (i := 14) rfl) rfl
set_option maxRecDepth 100000 in
theorem iw_125 : (Jvm.Cond.initialized "EngagedToneModel") ∈ ia_T := ia_in1 (List.mem_of_getElem? (i := 15) rfl) rfl
set_option maxRecDepth 100000 in
theorem iw_126 : (Jvm.Cond.initialized "java/lang/Math") ∈ ia_T := ia_in1 (List.mem_of_getElem? (i := 16) rfl) rfl
set_option maxRecDepth 100000 in
theorem iw_128 : (Jvm.Cond.initialized "java/lang/System") ∈ ia_T := ia_in1 (List.mem_of_getElem? (i := 18) rfl) rfl
set_option maxRecDepth 100000 in
theorem iw_134 : (Jvm.Cond.initialized "java/lang/Integer") ∈ ia_T := ia_in1 (List.mem_of_getElem? (i := 24) rfl) rfl
set_option maxRecDepth 100000 in
theorem iw_135 : (Jvm.Cond.classLink "EngagedToneLaw" (8 : Nat) "EngagedTone") ∈ ia_T := ia_in1 (List.mem_of_getElem? (i := 25) rfl) rfl
set_option maxRecDepth 100000 in
theorem iw_136 : (Jvm.Cond.instantiable "EngagedTone" (11 : Nat)) ∈ ia_T := ia_in1 (List.mem_of_getElem? (i := 26) rfl) rfl
set_option maxRecDepth 100000 in
theorem iw_137 : (Jvm.Cond.methodLink "EngagedToneLaw" (17 : Nat) ({ cls := "EngagedTone", name := "<init>", desc := "()V" } : Jvm.MethodName)) ∈ ia_T := ia_in1 (List.mem_of_getElem? (i := 27) rfl) rfl
set_option maxRecDepth 100000 in
theorem iw_138 : (Jvm.Cond.instanceMethod ({ cls := "EngagedTone", name := "<init>", desc := "()V" } : Jvm.MethodName)) ∈ ia_T := ia_in1 (List.mem_of_getElem? (i := 28) rfl) rfl
set_option maxRecDepth 100000 in
theorem iw_139 : (Jvm.Cond.code ({ cls := "EngagedTone", name := "<init>", desc := "()V" } : Jvm.MethodName) prog_1_method_1_code (1 : Nat) (Option.none : Option Jvm.ClassFile.FieldType)) ∈ ia_T := ia_in1 (List.mem_of_getElem? (i := 29) rfl) rfl
set_option maxRecDepth 100000 in
theorem iw_140 : (Jvm.Cond.methodLink "EngagedTone" (3 : Nat) ({ cls := "java/lang/Object", name := "<init>", desc := "()V" } : Jvm.MethodName)) ∈ ia_T := ia_in1 (List.mem_of_getElem? (i := 30) rfl) rfl
set_option maxRecDepth 100000 in
theorem iw_141 : (Jvm.Cond.instanceMethod ({ cls := "java/lang/Object", name := "<init>", desc := "()V" } : Jvm.MethodName)) ∈ ia_T := ia_in1 (List.mem_of_getElem? (i := 31) rfl) rfl
set_option maxRecDepth 100000 in
theorem iw_142 : (Jvm.Cond.code ({ cls := "java/lang/Object", name := "<init>", desc := "()V" } : Jvm.MethodName) object_method_1_code (1 : Nat) (Option.none : Option Jvm.ClassFile.FieldType)) ∈ ia_T := ia_in1 (List.mem_of_getElem? (i := 32) rfl) rfl
set_option maxRecDepth 100000 in
theorem iw_143 : (Jvm.Cond.classLink "EngagedTone" (15 : Nat) "EngagedTone$Script") ∈ ia_T := ia_in1 (List.mem_of_getElem? (i := 33) rfl) rfl
set_option maxRecDepth 100000 in
theorem iw_144 : (Jvm.Cond.instantiable "EngagedTone$Script" (11 : Nat)) ∈ ia_T := ia_in1 (List.mem_of_getElem? (i := 34) rfl) rfl
set_option maxRecDepth 100000 in
theorem iw_145 : (Jvm.Cond.methodLinkNest "EngagedTone" (17 : Nat) ({ cls := "EngagedTone$Script", name := "<init>", desc := "()V" } : Jvm.MethodName) "EngagedTone") ∈ lw_tbl := ia_iu1 (List.mem_of_getElem? (i := 35) rfl)
set_option maxRecDepth 100000 in
theorem iw_146 : (Jvm.Cond.instanceMethod ({ cls := "EngagedTone$Script", name := "<init>", desc := "()V" } : Jvm.MethodName)) ∈ ia_T := ia_in1 (List.mem_of_getElem? (i := 36) rfl) rfl
set_option maxRecDepth 100000 in
theorem iw_147 : (Jvm.Cond.code ({ cls := "EngagedTone$Script", name := "<init>", desc := "()V" } : Jvm.MethodName) prog_8_method_1_code (1 : Nat) (Option.none : Option Jvm.ClassFile.FieldType)) ∈ ia_T := ia_in1 (List.mem_of_getElem? (i := 37) rfl) rfl
set_option maxRecDepth 100000 in
theorem iw_148 : (Jvm.Cond.methodLink "EngagedTone$Script" (3 : Nat) ({ cls := "java/lang/Object", name := "<init>", desc := "()V" } : Jvm.MethodName)) ∈ ia_T := ia_in1 (List.mem_of_getElem? (i := 38) rfl) rfl
set_option maxRecDepth 100000 in
theorem iw_149 : (Jvm.Cond.classLink "EngagedTone$Script" (34 : Nat) "EngagedTone$World") ∈ ia_T := ia_in1 (List.mem_of_getElem? (i := 39) rfl) rfl
set_option maxRecDepth 100000 in
theorem iw_150 : (Jvm.Cond.instantiable "EngagedTone$World" (16 : Nat)) ∈ ia_T := ia_in1 (List.mem_of_getElem? (i := 40) rfl) rfl
set_option maxRecDepth 100000 in
theorem iw_151 : (Jvm.Cond.methodLinkNest "EngagedTone$Script" (36 : Nat) ({ cls := "EngagedTone$World", name := "<init>", desc := "()V" } : Jvm.MethodName) "EngagedTone") ∈ lw_tbl := ia_iu1 (List.mem_of_getElem? (i := 41) rfl)
set_option maxRecDepth 100000 in
theorem iw_152 : (Jvm.Cond.instanceMethod ({ cls := "EngagedTone$World", name := "<init>", desc := "()V" } : Jvm.MethodName)) ∈ ia_T := ia_in1 (List.mem_of_getElem? (i := 42) rfl) rfl
set_option maxRecDepth 100000 in
theorem iw_153 : (Jvm.Cond.code ({ cls := "EngagedTone$World", name := "<init>", desc := "()V" } : Jvm.MethodName) prog_10_method_1_code (1 : Nat) (Option.none : Option Jvm.ClassFile.FieldType)) ∈ ia_T := ia_in1 (List.mem_of_getElem? (i := 43) rfl) rfl
set_option maxRecDepth 100000 in
theorem iw_154 : (Jvm.Cond.methodLink "EngagedTone$World" (3 : Nat) ({ cls := "java/lang/Object", name := "<init>", desc := "()V" } : Jvm.MethodName)) ∈ ia_T := ia_in1 (List.mem_of_getElem? (i := 44) rfl) rfl
set_option maxRecDepth 100000 in
theorem iw_155 : (Jvm.Cond.fieldLink "EngagedTone$World" (48 : Nat) "EngagedTone$World" "quarter" "I") ∈ ia_T := ia_in1 (List.mem_of_getElem? (i := 45) rfl) rfl
set_option maxRecDepth 100000 in
theorem iw_156 : (Jvm.Cond.fieldLink "EngagedTone$Exchange" (64 : Nat) "EngagedTone$World" "quarter" "I") ∈ ia_T := ia_in1 (List.mem_of_getElem? (i := 46) rfl) rfl
set_option maxRecDepth 100000 in
theorem iw_157 : (Jvm.Cond.fieldLink "EngagedTone" (193 : Nat) "EngagedTone$World" "quarter" "I") ∈ ia_T := ia_in1 (List.mem_of_getElem? (i := 47) rfl) rfl
set_option maxRecDepth 100000 in
theorem iw_158 : (Jvm.Cond.fieldLink "EngagedTone$World" (52 : Nat) "EngagedTone$World" "paid" "I") ∈ ia_T := ia_in1 (List.mem_of_getElem? (i := 48) rfl) rfl
set_option maxRecDepth 100000 in
theorem iw_159 : (Jvm.Cond.fieldLink "EngagedTone$Exchange" (131 : Nat) "EngagedTone$World" "paid" "I") ∈ ia_T := ia_in1 (List.mem_of_getElem? (i := 49) rfl) rfl
set_option maxRecDepth 100000 in
theorem iw_160 : (Jvm.Cond.fieldLink "EngagedTone" (228 : Nat) "EngagedTone$World" "paid" "I") ∈ ia_T := ia_in1 (List.mem_of_getElem? (i := 50) rfl) rfl
set_option maxRecDepth 100000 in
theorem iw_161 : (Jvm.Cond.fieldLink "EngagedTone$World" (9 : Nat) "EngagedTone$World" "purse" "[I") ∈ ia_T := ia_in1 (List.mem_of_getElem? (i := 51) rfl) rfl
set_option maxRecDepth 100000 in
theorem iw_162 : (Jvm.Cond.fieldLink "EngagedTone$Exchange" (128 : Nat) "EngagedTone$World" "purse" "[I") ∈ ia_T := ia_in1 (List.mem_of_getElem? (i := 52) rfl) rfl
set_option maxRecDepth 100000 in
theorem iw_163 : (Jvm.Cond.fieldLink "EngagedTone$Reader" (111 : Nat) "EngagedTone$World" "purse" "[I") ∈ ia_T := ia_in1 (List.mem_of_getElem? (i := 53) rfl) rfl
set_option maxRecDepth 100000 in
theorem iw_164 : (Jvm.Cond.fieldLink "EngagedTone" (152 : Nat) "EngagedTone$World" "purse" "[I") ∈ ia_T := ia_in1 (List.mem_of_getElem? (i := 54) rfl) rfl
set_option maxRecDepth 100000 in
theorem iw_165 : (Jvm.Cond.fieldLink "EngagedTone$World" (15 : Nat) "EngagedTone$World" "fame" "[I") ∈ ia_T := ia_in1 (List.mem_of_getElem? (i := 55) rfl) rfl
set_option maxRecDepth 100000 in
theorem iw_166 : (Jvm.Cond.fieldLink "EngagedTone$Exchange" (166 : Nat) "EngagedTone$World" "fame" "[I") ∈ ia_T := ia_in1 (List.mem_of_getElem? (i := 56) rfl) rfl
set_option maxRecDepth 100000 in
theorem iw_167 : (Jvm.Cond.fieldLink "EngagedTone" (155 : Nat) "EngagedTone$World" "fame" "[I") ∈ ia_T := ia_in1 (List.mem_of_getElem? (i := 57) rfl) rfl
set_option maxRecDepth 100000 in
theorem iw_168 : (Jvm.Cond.fieldLink "EngagedTone$World" (55 : Nat) "EngagedTone$World" "tones" "I") ∈ ia_T := ia_in1 (List.mem_of_getElem? (i := 58) rfl) rfl
set_option maxRecDepth 100000 in
theorem iw_169 : (Jvm.Cond.fieldLink "EngagedTone$Exchange" (54 : Nat) "EngagedTone$World" "tones" "I") ∈ ia_T := ia_in1 (List.mem_of_getElem? (i := 59) rfl) rfl
set_option maxRecDepth 100000 in
theorem iw_170 : (Jvm.Cond.fieldLink "EngagedTone$Reader" (116 : Nat) "EngagedTone$World" "tones" "I") ∈ ia_T := ia_in1 (List.mem_of_getElem? (i := 60) rfl) rfl
set_option maxRecDepth 100000 in
theorem iw_171 : (Jvm.Cond.fieldLink "EngagedTone" (196 : Nat) "EngagedTone$World" "tones" "I") ∈ ia_T := ia_in1 (List.mem_of_getElem? (i := 61) rfl) rfl
set_option maxRecDepth 100000 in
theorem iw_172 : (Jvm.Cond.fieldLink "EngagedTone$World" (18 : Nat) "EngagedTone$World" "toneMan" "[I") ∈ ia_T := ia_in1 (List.mem_of_getElem? (i := 62) rfl) rfl
set_option maxRecDepth 100000 in
theorem iw_173 : (Jvm.Cond.fieldLink "EngagedTone$Exchange" (98 : Nat) "EngagedTone$World" "toneMan" "[I") ∈ ia_T := ia_in1 (List.mem_of_getElem? (i := 63) rfl) rfl
set_option maxRecDepth 100000 in
theorem iw_174 : (Jvm.Cond.fieldLink "EngagedTone" (168 : Nat) "EngagedTone$World" "toneMan" "[I") ∈ ia_T := ia_in1 (List.mem_of_getElem? (i := 64) rfl) rfl
set_option maxRecDepth 100000 in
theorem iw_175 : (Jvm.Cond.fieldLink "EngagedTone$World" (21 : Nat) "EngagedTone$World" "toneFrom" "[I") ∈ ia_T := ia_in1 (List.mem_of_getElem? (i := 65) rfl) rfl
set_option maxRecDepth 100000 in
theorem iw_176 : (Jvm.Cond.fieldLink "EngagedTone$Exchange" (61 : Nat) "EngagedTone$World" "toneFrom" "[I") ∈ ia_T := ia_in1 (List.mem_of_getElem? (i := 66) rfl) rfl
set_option maxRecDepth 100000 in
theorem iw_177 : (Jvm.Cond.fieldLink "EngagedTone$Foresight" (59 : Nat) "EngagedTone$World" "toneFrom" "[I") ∈ ia_T := ia_in1 (List.mem_of_getElem? (i := 67) rfl) rfl
set_option maxRecDepth 100000 in
theorem iw_178 : (Jvm.Cond.fieldLink "EngagedTone" (171 : Nat) "EngagedTone$World" "toneFrom" "[I") ∈ ia_T := ia_in1 (List.mem_of_getElem? (i := 68) rfl) rfl
set_option maxRecDepth 100000 in
theorem iw_179 : (Jvm.Cond.fieldLink "EngagedTone$World" (24 : Nat) "EngagedTone$World" "toneMany" "[I") ∈ ia_T := ia_in1 (List.mem_of_getElem? (i := 69) rfl) rfl
set_option maxRecDepth 100000 in
theorem iw_180 : (Jvm.Cond.fieldLink "EngagedTone$Exchange" (111 : Nat) "EngagedTone$World" "toneMany" "[I") ∈ ia_T := ia_in1 (List.mem_of_getElem? (i := 70) rfl) rfl
set_option maxRecDepth 100000 in
theorem iw_181 : (Jvm.Cond.fieldLink "EngagedTone" (174 : Nat) "EngagedTone$World" "toneMany" "[I") ∈ ia_T := ia_in1 (List.mem_of_getElem? (i := 71) rfl) rfl
set_option maxRecDepth 100000 in
theorem iw_182 : (Jvm.Cond.fieldLink "EngagedTone$World" (27 : Nat) "EngagedTone$World" "toneState" "[I") ∈ ia_T := ia_in1 (List.mem_of_getElem? (i := 72) rfl) rfl
set_option maxRecDepth 100000 in
theorem iw_183 : (Jvm.Cond.fieldLink "EngagedTone$Exchange" (57 : Nat) "EngagedTone$World" "toneState" "[I") ∈ ia_T := ia_in1 (List.mem_of_getElem? (i := 73) rfl) rfl
set_option maxRecDepth 100000 in
theorem iw_184 : (Jvm.Cond.fieldLink "EngagedTone" (177 : Nat) "EngagedTone$World" "toneState" "[I") ∈ ia_T := ia_in1 (List.mem_of_getElem? (i := 74) rfl) rfl
set_option maxRecDepth 100000 in
theorem iw_185 : (Jvm.Cond.fieldLink "EngagedTone$World" (58 : Nat) "EngagedTone$World" "rings" "I") ∈ ia_T := ia_in1 (List.mem_of_getElem? (i := 75) rfl) rfl
set_option maxRecDepth 100000 in
theorem iw_186 : (Jvm.Cond.fieldLink "EngagedTone$Exchange" (71 : Nat) "EngagedTone$World" "rings" "I") ∈ ia_T := ia_in1 (List.mem_of_getElem? (i := 76) rfl) rfl
set_option maxRecDepth 100000 in
theorem iw_187 : (Jvm.Cond.fieldLink "EngagedTone$Reader" (136 : Nat) "EngagedTone$World" "rings" "I") ∈ ia_T := ia_in1 (List.mem_of_getElem? (i := 77) rfl) rfl
set_option maxRecDepth 100000 in
theorem iw_188 : (Jvm.Cond.fieldLink "EngagedTone" (305 : Nat) "EngagedTone$World" "rings" "I") ∈ ia_T := ia_in1 (List.mem_of_getElem? (i := 78) rfl) rfl
set_option maxRecDepth 100000 in
theorem iw_189 : (Jvm.Cond.fieldLink "EngagedTone$World" (30 : Nat) "EngagedTone$World" "ringFrom" "[I") ∈ ia_T := ia_in1 (List.mem_of_getElem? (i := 79) rfl) rfl
set_option maxRecDepth 100000 in
theorem iw_190 : (Jvm.Cond.fieldLink "EngagedTone$Exchange" (80 : Nat) "EngagedTone$World" "ringFrom" "[I") ∈ ia_T := ia_in1 (List.mem_of_getElem? (i := 80) rfl) rfl
set_option maxRecDepth 100000 in
theorem iw_191 : (Jvm.Cond.fieldLink "EngagedTone" (122 : Nat) "EngagedTone$World" "ringFrom" "[I") ∈ ia_T := ia_in1 (List.mem_of_getElem? (i := 81) rfl) rfl
set_option maxRecDepth 100000 in
theorem iw_192 : (Jvm.Cond.fieldLink "EngagedTone$World" (33 : Nat) "EngagedTone$World" "ringTo" "[I") ∈ ia_T := ia_in1 (List.mem_of_getElem? (i := 82) rfl) rfl
set_option maxRecDepth 100000 in
theorem iw_193 : (Jvm.Cond.fieldLink "EngagedTone$Exchange" (149 : Nat) "EngagedTone$World" "ringTo" "[I") ∈ ia_T := ia_in1 (List.mem_of_getElem? (i := 83) rfl) rfl
set_option maxRecDepth 100000 in
theorem iw_194 : (Jvm.Cond.fieldLink "EngagedTone" (126 : Nat) "EngagedTone$World" "ringTo" "[I") ∈ ia_T := ia_in1 (List.mem_of_getElem? (i := 84) rfl) rfl
set_option maxRecDepth 100000 in
theorem iw_195 : (Jvm.Cond.fieldLink "EngagedTone$World" (36 : Nat) "EngagedTone$World" "ringDue" "[I") ∈ ia_T := ia_in1 (List.mem_of_getElem? (i := 85) rfl) rfl
set_option maxRecDepth 100000 in
theorem iw_196 : (Jvm.Cond.fieldLink "EngagedTone$Exchange" (77 : Nat) "EngagedTone$World" "ringDue" "[I") ∈ ia_T := ia_in1 (List.mem_of_getElem? (i := 86) rfl) rfl
set_option maxRecDepth 100000 in
theorem iw_197 : (Jvm.Cond.fieldLink "EngagedTone" (129 : Nat) "EngagedTone$World" "ringDue" "[I") ∈ ia_T := ia_in1 (List.mem_of_getElem? (i := 87) rfl) rfl
set_option maxRecDepth 100000 in
theorem iw_198 : (Jvm.Cond.fieldLink "EngagedTone$World" (39 : Nat) "EngagedTone$World" "ringLong" "[I") ∈ ia_T := ia_in1 (List.mem_of_getElem? (i := 88) rfl) rfl
set_option maxRecDepth 100000 in
theorem iw_199 : (Jvm.Cond.fieldLink "EngagedTone$Exchange" (141 : Nat) "EngagedTone$World" "ringLong" "[I") ∈ ia_T := ia_in1 (List.mem_of_getElem? (i := 89) rfl) rfl
set_option maxRecDepth 100000 in
theorem iw_200 : (Jvm.Cond.fieldLink "EngagedTone" (132 : Nat) "EngagedTone$World" "ringLong" "[I") ∈ ia_T := ia_in1 (List.mem_of_getElem? (i := 90) rfl) rfl
set_option maxRecDepth 100000 in
theorem iw_201 : (Jvm.Cond.fieldLink "EngagedTone$World" (42 : Nat) "EngagedTone$World" "ringState" "[I") ∈ ia_T := ia_in1 (List.mem_of_getElem? (i := 91) rfl) rfl
set_option maxRecDepth 100000 in
theorem iw_202 : (Jvm.Cond.fieldLink "EngagedTone$Exchange" (74 : Nat) "EngagedTone$World" "ringState" "[I") ∈ ia_T := ia_in1 (List.mem_of_getElem? (i := 92) rfl) rfl
set_option maxRecDepth 100000 in
theorem iw_203 : (Jvm.Cond.fieldLink "EngagedTone$Foresight" (40 : Nat) "EngagedTone$World" "ringState" "[I") ∈ ia_T := ia_in1 (List.mem_of_getElem? (i := 93) rfl) rfl
set_option maxRecDepth 100000 in
theorem iw_204 : (Jvm.Cond.fieldLink "EngagedTone" (135 : Nat) "EngagedTone$World" "ringState" "[I") ∈ ia_T := ia_in1 (List.mem_of_getElem? (i := 94) rfl) rfl
set_option maxRecDepth 100000 in
theorem iw_205 : (Jvm.Cond.fieldLink "EngagedTone$World" (45 : Nat) "EngagedTone$World" "ringTried" "[I") ∈ ia_T := ia_in1 (List.mem_of_getElem? (i := 95) rfl) rfl
set_option maxRecDepth 100000 in
theorem iw_206 : (Jvm.Cond.fieldLink "EngagedTone$Exchange" (134 : Nat) "EngagedTone$World" "ringTried" "[I") ∈ ia_T := ia_in1 (List.mem_of_getElem? (i := 96) rfl) rfl
set_option maxRecDepth 100000 in
theorem iw_207 : (Jvm.Cond.fieldLink "EngagedTone" (138 : Nat) "EngagedTone$World" "ringTried" "[I") ∈ ia_T := ia_in1 (List.mem_of_getElem? (i := 97) rfl) rfl
set_option maxRecDepth 100000 in
theorem iw_208 : (Jvm.Cond.lays "EngagedTone$World" "EngagedTone$World" "quarter" "I") ∈ ia_T := ia_in1 (List.mem_of_getElem? (i := 98) rfl) rfl
set_option maxRecDepth 100000 in
theorem iw_210 : (Jvm.Cond.lays "EngagedTone$World" "EngagedTone$World" "paid" "I") ∈ ia_T := ia_in1 (List.mem_of_getElem? (i := 100) rfl) rfl
set_option maxRecDepth 100000 in
theorem iw_212 : (Jvm.Cond.laysFinal "EngagedTone$World" "EngagedTone$World" "purse" "[I") ∈ ia_T := ia_in1 (List.mem_of_getElem? (i := 102) rfl) rfl
set_option maxRecDepth 100000 in
theorem iw_214 : (Jvm.Cond.laysFinal "EngagedTone$World" "EngagedTone$World" "fame" "[I") ∈ ia_T := ia_in1 (List.mem_of_getElem? (i := 104) rfl) rfl
set_option maxRecDepth 100000 in
theorem iw_216 : (Jvm.Cond.lays "EngagedTone$World" "EngagedTone$World" "tones" "I") ∈ ia_T := ia_in1 (List.mem_of_getElem? (i := 106) rfl) rfl
set_option maxRecDepth 100000 in
theorem iw_218 : (Jvm.Cond.laysFinal "EngagedTone$World" "EngagedTone$World" "toneMan" "[I") ∈ ia_T := ia_in1 (List.mem_of_getElem? (i := 108) rfl) rfl
set_option maxRecDepth 100000 in
theorem iw_220 : (Jvm.Cond.laysFinal "EngagedTone$World" "EngagedTone$World" "toneFrom" "[I") ∈ ia_T := ia_in1 (List.mem_of_getElem? (i := 110) rfl) rfl
set_option maxRecDepth 100000 in
theorem iw_222 : (Jvm.Cond.laysFinal "EngagedTone$World" "EngagedTone$World" "toneMany" "[I") ∈ ia_T := ia_in1 (List.mem_of_getElem? (i := 112) rfl) rfl
set_option maxRecDepth 100000 in
theorem iw_224 : (Jvm.Cond.laysFinal "EngagedTone$World" "EngagedTone$World" "toneState" "[I") ∈ ia_T := ia_in1 (List.mem_of_getElem? (i := 114) rfl) rfl
set_option maxRecDepth 100000 in
theorem iw_226 : (Jvm.Cond.lays "EngagedTone$World" "EngagedTone$World" "rings" "I") ∈ ia_T := ia_in1 (List.mem_of_getElem? (i := 116) rfl) rfl
set_option maxRecDepth 100000 in
theorem iw_228 : (Jvm.Cond.laysFinal "EngagedTone$World" "EngagedTone$World" "ringFrom" "[I") ∈ ia_T := ia_in1 (List.mem_of_getElem? (i := 118) rfl) rfl
set_option maxRecDepth 100000 in
theorem iw_230 : (Jvm.Cond.laysFinal "EngagedTone$World" "EngagedTone$World" "ringTo" "[I") ∈ ia_T := ia_in1 (List.mem_of_getElem? (i := 120) rfl) rfl
set_option maxRecDepth 100000 in
theorem iw_232 : (Jvm.Cond.laysFinal "EngagedTone$World" "EngagedTone$World" "ringDue" "[I") ∈ ia_T := ia_in1 (List.mem_of_getElem? (i := 122) rfl) rfl
set_option maxRecDepth 100000 in
theorem iw_234 : (Jvm.Cond.laysFinal "EngagedTone$World" "EngagedTone$World" "ringLong" "[I") ∈ ia_T := ia_in1 (List.mem_of_getElem? (i := 124) rfl) rfl
set_option maxRecDepth 100000 in
theorem iw_236 : (Jvm.Cond.laysFinal "EngagedTone$World" "EngagedTone$World" "ringState" "[I") ∈ ia_T := ia_in1 (List.mem_of_getElem? (i := 126) rfl) rfl
set_option maxRecDepth 100000 in
theorem iw_238 : (Jvm.Cond.laysFinal "EngagedTone$World" "EngagedTone$World" "ringTried" "[I") ∈ ia_T := ia_in1 (List.mem_of_getElem? (i := 128) rfl) rfl
set_option maxRecDepth 100000 in
theorem iw_241 : (Jvm.Cond.arrayClass Jvm.ClassFile.FieldType.byte) ∈ ia_T := ia_in1 (List.mem_of_getElem? (i := 131) rfl) rfl
set_option maxRecDepth 100000 in
theorem iw_242 : (Jvm.Cond.arrayClass Jvm.ClassFile.FieldType.int) ∈ ia_T := ia_in1 (List.mem_of_getElem? (i := 132) rfl) rfl
set_option maxRecDepth 100000 in
theorem iw_243 : (Jvm.Cond.classLink "EngagedTone$Script" (41 : Nat) "EngagedTone$Laws") ∈ ia_T := ia_in1 (List.mem_of_getElem? (i := 133) rfl) rfl
set_option maxRecDepth 100000 in
theorem iw_244 : (Jvm.Cond.instantiable "EngagedTone$Laws" (8 : Nat)) ∈ ia_T := ia_in1 (List.mem_of_getElem? (i := 134) rfl) rfl
set_option maxRecDepth 100000 in
theorem iw_245 : (Jvm.Cond.methodLinkNest "EngagedTone$Script" (43 : Nat) ({ cls := "EngagedTone$Laws", name := "<init>", desc := "()V" } : Jvm.MethodName) "EngagedTone") ∈ lw_tbl := ia_iu1 (List.mem_of_getElem? (i := 135) rfl)
set_option maxRecDepth 100000 in
theorem iw_246 : (Jvm.Cond.instanceMethod ({ cls := "EngagedTone$Laws", name := "<init>", desc := "()V" } : Jvm.MethodName)) ∈ ia_T := ia_in1 (List.mem_of_getElem? (i := 136) rfl) rfl
set_option maxRecDepth 100000 in
theorem iw_247 : (Jvm.Cond.code ({ cls := "EngagedTone$Laws", name := "<init>", desc := "()V" } : Jvm.MethodName) prog_5_method_1_code (1 : Nat) (Option.none : Option Jvm.ClassFile.FieldType)) ∈ ia_T := ia_in1 (List.mem_of_getElem? (i := 137) rfl) rfl
set_option maxRecDepth 100000 in
theorem iw_248 : (Jvm.Cond.methodLink "EngagedTone$Laws" (3 : Nat) ({ cls := "java/lang/Object", name := "<init>", desc := "()V" } : Jvm.MethodName)) ∈ ia_T := ia_in1 (List.mem_of_getElem? (i := 138) rfl) rfl
set_option maxRecDepth 100000 in
theorem iw_249 : (Jvm.Cond.fieldLink "EngagedTone$Laws" (31 : Nat) "EngagedTone$Laws" "knots" "I") ∈ ia_T := ia_in1 (List.mem_of_getElem? (i := 139) rfl) rfl
set_option maxRecDepth 100000 in
theorem iw_250 : (Jvm.Cond.fieldLink "EngagedTone$Reader" (214 : Nat) "EngagedTone$Laws" "knots" "I") ∈ ia_T := ia_in1 (List.mem_of_getElem? (i := 140) rfl) rfl
set_option maxRecDepth 100000 in
theorem iw_251 : (Jvm.Cond.fieldLink "EngagedTone" (362 : Nat) "EngagedTone$Laws" "knots" "I") ∈ ia_T := ia_in1 (List.mem_of_getElem? (i := 141) rfl) rfl
set_option maxRecDepth 100000 in
theorem iw_252 : (Jvm.Cond.fieldLink "EngagedTone$Laws" (35 : Nat) "EngagedTone$Laws" "written" "I") ∈ ia_T := ia_in1 (List.mem_of_getElem? (i := 142) rfl) rfl
set_option maxRecDepth 100000 in
theorem iw_253 : (Jvm.Cond.fieldLink "EngagedTone$Laws" (9 : Nat) "EngagedTone$Laws" "kinds" "[I") ∈ ia_T := ia_in1 (List.mem_of_getElem? (i := 143) rfl) rfl
set_option maxRecDepth 100000 in
theorem iw_254 : (Jvm.Cond.fieldLink "EngagedTone$Laws" (15 : Nat) "EngagedTone$Laws" "numbers" "[I") ∈ ia_T := ia_in1 (List.mem_of_getElem? (i := 144) rfl) rfl
set_option maxRecDepth 100000 in
theorem iw_255 : (Jvm.Cond.fieldLink "EngagedTone$Laws" (18 : Nat) "EngagedTone$Laws" "starts" "[I") ∈ ia_T := ia_in1 (List.mem_of_getElem? (i := 145) rfl) rfl
set_option maxRecDepth 100000 in
theorem iw_256 : (Jvm.Cond.fieldLink "EngagedTone$Laws" (21 : Nat) "EngagedTone$Laws" "ends" "[I") ∈ ia_T := ia_in1 (List.mem_of_getElem? (i := 146) rfl) rfl
set_option maxRecDepth 100000 in
theorem iw_257 : (Jvm.Cond.fieldLink "EngagedTone$Laws" (24 : Nat) "EngagedTone$Laws" "meanings" "[J") ∈ ia_T := ia_in1 (List.mem_of_getElem? (i := 147) rfl) rfl
set_option maxRecDepth 100000 in
theorem iw_258 : (Jvm.Cond.fieldLink "EngagedTone$Exchange" (179 : Nat) "EngagedTone$Laws" "meanings" "[J") ∈ ia_T := ia_in1 (List.mem_of_getElem? (i := 148) rfl) rfl
set_option maxRecDepth 100000 in
theorem iw_259 : (Jvm.Cond.fieldLink "EngagedTone$Laws" (28 : Nat) "EngagedTone$Laws" "values" "[J") ∈ ia_T := ia_in1 (List.mem_of_getElem? (i := 149) rfl) rfl
set_option maxRecDepth 100000 in
theorem iw_260 : (Jvm.Cond.lays "EngagedTone$Laws" "EngagedTone$Laws" "knots" "I") ∈ ia_T := ia_in1 (List.mem_of_getElem? (i := 150) rfl) rfl
set_option maxRecDepth 100000 in
theorem iw_262 : (Jvm.Cond.lays "EngagedTone$Laws" "EngagedTone$Laws" "written" "I") ∈ ia_T := ia_in1 (List.mem_of_getElem? (i := 152) rfl) rfl
set_option maxRecDepth 100000 in
theorem iw_264 : (Jvm.Cond.laysFinal "EngagedTone$Laws" "EngagedTone$Laws" "kinds" "[I") ∈ ia_T := ia_in1 (List.mem_of_getElem? (i := 154) rfl) rfl
set_option maxRecDepth 100000 in
theorem iw_266 : (Jvm.Cond.laysFinal "EngagedTone$Laws" "EngagedTone$Laws" "numbers" "[I") ∈ ia_T := ia_in1 (List.mem_of_getElem? (i := 156) rfl) rfl
set_option maxRecDepth 100000 in
theorem iw_268 : (Jvm.Cond.laysFinal "EngagedTone$Laws" "EngagedTone$Laws" "starts" "[I") ∈ ia_T := ia_in1 (List.mem_of_getElem? (i := 158) rfl) rfl
set_option maxRecDepth 100000 in
theorem iw_270 : (Jvm.Cond.laysFinal "EngagedTone$Laws" "EngagedTone$Laws" "ends" "[I") ∈ ia_T := ia_in1 (List.mem_of_getElem? (i := 160) rfl) rfl
set_option maxRecDepth 100000 in
theorem iw_272 : (Jvm.Cond.laysFinal "EngagedTone$Laws" "EngagedTone$Laws" "meanings" "[J") ∈ ia_T := ia_in1 (List.mem_of_getElem? (i := 162) rfl) rfl
set_option maxRecDepth 100000 in
theorem iw_274 : (Jvm.Cond.laysFinal "EngagedTone$Laws" "EngagedTone$Laws" "values" "[J") ∈ ia_T := ia_in1 (List.mem_of_getElem? (i := 164) rfl) rfl
set_option maxRecDepth 100000 in
theorem iw_277 : (Jvm.Cond.arrayClass Jvm.ClassFile.FieldType.long) ∈ ia_T := ia_in1 (List.mem_of_getElem? (i := 167) rfl) rfl
set_option maxRecDepth 100000 in
theorem iw_278 : (Jvm.Cond.fieldLink "EngagedTone$Script" (48 : Nat) "EngagedTone$Script" "people" "I") ∈ ia_T := ia_in1 (List.mem_of_getElem? (i := 168) rfl) rfl
set_option maxRecDepth 100000 in
theorem iw_279 : (Jvm.Cond.fieldLink "EngagedTone$Exchange" (92 : Nat) "EngagedTone$Script" "people" "I") ∈ ia_T := ia_in1 (List.mem_of_getElem? (i := 169) rfl) rfl
set_option maxRecDepth 100000 in
theorem iw_280 : (Jvm.Cond.fieldLink "EngagedTone$Reader" (87 : Nat) "EngagedTone$Script" "people" "I") ∈ ia_T := ia_in1 (List.mem_of_getElem? (i := 170) rfl) rfl
set_option maxRecDepth 100000 in
theorem iw_281 : (Jvm.Cond.fieldLink "EngagedTone" (282 : Nat) "EngagedTone$Script" "people" "I") ∈ ia_T := ia_in1 (List.mem_of_getElem? (i := 171) rfl) rfl
set_option maxRecDepth 100000 in
theorem iw_282 : (Jvm.Cond.fieldLink "EngagedTone$Script" (9 : Nat) "EngagedTone$Script" "name" "[I") ∈ ia_T := ia_in1 (List.mem_of_getElem? (i := 172) rfl) rfl
set_option maxRecDepth 100000 in
theorem iw_283 : (Jvm.Cond.fieldLink "EngagedTone$Reader" (101 : Nat) "EngagedTone$Script" "name" "[I") ∈ ia_T := ia_in1 (List.mem_of_getElem? (i := 173) rfl) rfl
set_option maxRecDepth 100000 in
theorem iw_284 : (Jvm.Cond.fieldLink "EngagedTone$Script" (15 : Nat) "EngagedTone$Script" "vain" "[I") ∈ ia_T := ia_in1 (List.mem_of_getElem? (i := 174) rfl) rfl
set_option maxRecDepth 100000 in
theorem iw_285 : (Jvm.Cond.fieldLink "EngagedTone$Reader" (104 : Nat) "EngagedTone$Script" "vain" "[I") ∈ ia_T := ia_in1 (List.mem_of_getElem? (i := 175) rfl) rfl
set_option maxRecDepth 100000 in
theorem iw_286 : (Jvm.Cond.fieldLink "EngagedTone$Exchange" (161 : Nat) "EngagedTone$Script" "vain" "[I") ∈ ia_T := ia_in1 (List.mem_of_getElem? (i := 176) rfl) rfl
set_option maxRecDepth 100000 in
theorem iw_287 : (Jvm.Cond.fieldLink "EngagedTone" (149 : Nat) "EngagedTone$Script" "vain" "[I") ∈ ia_T := ia_in1 (List.mem_of_getElem? (i := 177) rfl) rfl
set_option maxRecDepth 100000 in
theorem iw_288 : (Jvm.Cond.fieldLink "EngagedTone$Script" (51 : Nat) "EngagedTone$Script" "prices" "I") ∈ ia_T := ia_in1 (List.mem_of_getElem? (i := 178) rfl) rfl
set_option maxRecDepth 100000 in
theorem iw_289 : (Jvm.Cond.fieldLink "EngagedTone$Reader" (127 : Nat) "EngagedTone$Script" "prices" "I") ∈ ia_T := ia_in1 (List.mem_of_getElem? (i := 179) rfl) rfl
set_option maxRecDepth 100000 in
theorem iw_290 : (Jvm.Cond.fieldLink "EngagedTone$Script" (18 : Nat) "EngagedTone$Script" "priceFrom" "[I") ∈ ia_T := ia_in1 (List.mem_of_getElem? (i := 180) rfl) rfl
set_option maxRecDepth 100000 in
theorem iw_291 : (Jvm.Cond.fieldLink "EngagedTone$Reader" (130 : Nat) "EngagedTone$Script" "priceFrom" "[I") ∈ ia_T := ia_in1 (List.mem_of_getElem? (i := 181) rfl) rfl
set_option maxRecDepth 100000 in
theorem iw_292 : (Jvm.Cond.fieldLink "EngagedTone$Script" (21 : Nat) "EngagedTone$Script" "pricePence" "[I") ∈ ia_T := ia_in1 (List.mem_of_getElem? (i := 182) rfl) rfl
set_option maxRecDepth 100000 in
theorem iw_293 : (Jvm.Cond.fieldLink "EngagedTone$Reader" (133 : Nat) "EngagedTone$Script" "pricePence" "[I") ∈ ia_T := ia_in1 (List.mem_of_getElem? (i := 183) rfl) rfl
set_option maxRecDepth 100000 in
theorem iw_294 : (Jvm.Cond.fieldLink "EngagedTone$Script" (24 : Nat) "EngagedTone$Script" "lines" "I") ∈ ia_T := ia_in1 (List.mem_of_getElem? (i := 184) rfl) rfl
set_option maxRecDepth 100000 in
theorem iw_295 : (Jvm.Cond.fieldLink "EngagedTone$Reader" (143 : Nat) "EngagedTone$Script" "lines" "I") ∈ ia_T := ia_in1 (List.mem_of_getElem? (i := 185) rfl) rfl
set_option maxRecDepth 100000 in
theorem iw_296 : (Jvm.Cond.fieldLink "EngagedTone$Script" (28 : Nat) "EngagedTone$Script" "tries" "I") ∈ ia_T := ia_in1 (List.mem_of_getElem? (i := 186) rfl) rfl
set_option maxRecDepth 100000 in
theorem iw_297 : (Jvm.Cond.fieldLink "EngagedTone$Reader" (146 : Nat) "EngagedTone$Script" "tries" "I") ∈ ia_T := ia_in1 (List.mem_of_getElem? (i := 187) rfl) rfl
set_option maxRecDepth 100000 in
theorem iw_298 : (Jvm.Cond.fieldLink "EngagedTone$Script" (31 : Nat) "EngagedTone$Script" "seed" "I") ∈ ia_T := ia_in1 (List.mem_of_getElem? (i := 188) rfl) rfl
set_option maxRecDepth 100000 in
theorem iw_299 : (Jvm.Cond.fieldLink "EngagedTone$Reader" (149 : Nat) "EngagedTone$Script" "seed" "I") ∈ ia_T := ia_in1 (List.mem_of_getElem? (i := 189) rfl) rfl
set_option maxRecDepth 100000 in
theorem iw_300 : (Jvm.Cond.fieldLink "EngagedTone$Script" (37 : Nat) "EngagedTone$Script" "first" "LEngagedTone$World;") ∈ ia_T := ia_in1 (List.mem_of_getElem? (i := 190) rfl) rfl
set_option maxRecDepth 100000 in
theorem iw_301 : (Jvm.Cond.fieldLink "EngagedTone" (83 : Nat) "EngagedTone$Script" "first" "LEngagedTone$World;") ∈ ia_T := ia_in1 (List.mem_of_getElem? (i := 191) rfl) rfl
set_option maxRecDepth 100000 in
theorem iw_302 : (Jvm.Cond.fieldLink "EngagedTone$Reader" (107 : Nat) "EngagedTone$Script" "first" "LEngagedTone$World;") ∈ ia_T := ia_in1 (List.mem_of_getElem? (i := 192) rfl) rfl
set_option maxRecDepth 100000 in
theorem iw_303 : (Jvm.Cond.fieldLink "EngagedTone$Script" (44 : Nat) "EngagedTone$Script" "laws" "LEngagedTone$Laws;") ∈ ia_T := ia_in1 (List.mem_of_getElem? (i := 193) rfl) rfl
set_option maxRecDepth 100000 in
theorem iw_304 : (Jvm.Cond.fieldLink "EngagedTone$Exchange" (169 : Nat) "EngagedTone$Script" "laws" "LEngagedTone$Laws;") ∈ ia_T := ia_in1 (List.mem_of_getElem? (i := 194) rfl) rfl
set_option maxRecDepth 100000 in
theorem iw_305 : (Jvm.Cond.fieldLink "EngagedTone$Reader" (153 : Nat) "EngagedTone$Script" "laws" "LEngagedTone$Laws;") ∈ ia_T := ia_in1 (List.mem_of_getElem? (i := 195) rfl) rfl
set_option maxRecDepth 100000 in
theorem iw_306 : (Jvm.Cond.fieldLink "EngagedTone" (358 : Nat) "EngagedTone$Script" "laws" "LEngagedTone$Laws;") ∈ ia_T := ia_in1 (List.mem_of_getElem? (i := 196) rfl) rfl
set_option maxRecDepth 100000 in
theorem iw_307 : (Jvm.Cond.lays "EngagedTone$Script" "EngagedTone$Script" "people" "I") ∈ ia_T := ia_in1 (List.mem_of_getElem? (i := 197) rfl) rfl
set_option maxRecDepth 100000 in
theorem iw_309 : (Jvm.Cond.laysFinal "EngagedTone$Script" "EngagedTone$Script" "name" "[I") ∈ ia_T := ia_in1 (List.mem_of_getElem? (i := 199) rfl) rfl
set_option maxRecDepth 100000 in
theorem iw_311 : (Jvm.Cond.laysFinal "EngagedTone$Script" "EngagedTone$Script" "vain" "[I") ∈ ia_T := ia_in1 (List.mem_of_getElem? (i := 201) rfl) rfl
set_option maxRecDepth 100000 in
theorem iw_313 : (Jvm.Cond.lays "EngagedTone$Script" "EngagedTone$Script" "prices" "I") ∈ ia_T := ia_in1 (List.mem_of_getElem? (i := 203) rfl) rfl
set_option maxRecDepth 100000 in
theorem iw_315 : (Jvm.Cond.laysFinal "EngagedTone$Script" "EngagedTone$Script" "priceFrom" "[I") ∈ ia_T := ia_in1 (List.mem_of_getElem? (i := 205) rfl) rfl
set_option maxRecDepth 100000 in
theorem iw_317 : (Jvm.Cond.laysFinal "EngagedTone$Script" "EngagedTone$Script" "pricePence" "[I") ∈ ia_T := ia_in1 (List.mem_of_getElem? (i := 207) rfl) rfl
set_option maxRecDepth 100000 in
theorem iw_319 : (Jvm.Cond.lays "EngagedTone$Script" "EngagedTone$Script" "lines" "I") ∈ ia_T := ia_in1 (List.mem_of_getElem? (i := 209) rfl) rfl
set_option maxRecDepth 100000 in
theorem iw_321 : (Jvm.Cond.lays "EngagedTone$Script" "EngagedTone$Script" "tries" "I") ∈ ia_T := ia_in1 (List.mem_of_getElem? (i := 211) rfl) rfl
set_option maxRecDepth 100000 in
theorem iw_323 : (Jvm.Cond.lays "EngagedTone$Script" "EngagedTone$Script" "seed" "I") ∈ ia_T := ia_in1 (List.mem_of_getElem? (i := 213) rfl) rfl
set_option maxRecDepth 100000 in
theorem iw_325 : (Jvm.Cond.laysFinal "EngagedTone$Script" "EngagedTone$Script" "first" "LEngagedTone$World;") ∈ ia_T := ia_in1 (List.mem_of_getElem? (i := 215) rfl) rfl
set_option maxRecDepth 100000 in
theorem iw_327 : (Jvm.Cond.laysFinal "EngagedTone$Script" "EngagedTone$Script" "laws" "LEngagedTone$Laws;") ∈ ia_T := ia_in1 (List.mem_of_getElem? (i := 217) rfl) rfl
set_option maxRecDepth 100000 in
theorem iw_330 : (Jvm.Cond.classLink "EngagedTone" (22 : Nat) "EngagedTone$World") ∈ ia_T := ia_in1 (List.mem_of_getElem? (i := 220) rfl) rfl
set_option maxRecDepth 100000 in
theorem iw_331 : (Jvm.Cond.methodLinkNest "EngagedTone" (24 : Nat) ({ cls := "EngagedTone$World", name := "<init>", desc := "()V" } : Jvm.MethodName) "EngagedTone") ∈ lw_tbl := ia_iu1 (List.mem_of_getElem? (i := 221) rfl)
set_option maxRecDepth 100000 in
theorem iw_332 : (Jvm.Cond.classLink "EngagedTone" (32 : Nat) "EngagedTone$Reader") ∈ ia_T := ia_in1 (List.mem_of_getElem? (i := 222) rfl) rfl
set_option maxRecDepth 100000 in
theorem iw_333 : (Jvm.Cond.instantiable "EngagedTone$Reader" (8 : Nat)) ∈ ia_T := ia_in1 (List.mem_of_getElem? (i := 223) rfl) rfl
set_option maxRecDepth 100000 in
theorem iw_334 : (Jvm.Cond.methodLinkNest "EngagedTone" (34 : Nat) ({ cls := "EngagedTone$Reader", name := "<init>", desc := "()V" } : Jvm.MethodName) "EngagedTone") ∈ lw_tbl := ia_iu1 (List.mem_of_getElem? (i := 224) rfl)
set_option maxRecDepth 100000 in
theorem iw_335 : (Jvm.Cond.instanceMethod ({ cls := "EngagedTone$Reader", name := "<init>", desc := "()V" } : Jvm.MethodName)) ∈ ia_T := ia_in1 (List.mem_of_getElem? (i := 225) rfl) rfl
set_option maxRecDepth 100000 in
theorem iw_336 : (Jvm.Cond.code ({ cls := "EngagedTone$Reader", name := "<init>", desc := "()V" } : Jvm.MethodName) prog_6_method_1_code (1 : Nat) (Option.none : Option Jvm.ClassFile.FieldType)) ∈ ia_T := ia_in1 (List.mem_of_getElem? (i := 226) rfl) rfl
set_option maxRecDepth 100000 in
theorem iw_337 : (Jvm.Cond.methodLink "EngagedTone$Reader" (3 : Nat) ({ cls := "java/lang/Object", name := "<init>", desc := "()V" } : Jvm.MethodName)) ∈ ia_T := ia_in1 (List.mem_of_getElem? (i := 227) rfl) rfl
set_option maxRecDepth 100000 in
theorem iw_338 : (Jvm.Cond.classLink "EngagedTone$Reader" (15 : Nat) "EngagedTone$Script") ∈ ia_T := ia_in1 (List.mem_of_getElem? (i := 228) rfl) rfl
set_option maxRecDepth 100000 in
theorem iw_339 : (Jvm.Cond.methodLinkNest "EngagedTone$Reader" (17 : Nat) ({ cls := "EngagedTone$Script", name := "<init>", desc := "()V" } : Jvm.MethodName) "EngagedTone") ∈ lw_tbl := ia_iu1 (List.mem_of_getElem? (i := 229) rfl)
set_option maxRecDepth 100000 in
theorem iw_340 : (Jvm.Cond.classLink "EngagedTone$Reader" (22 : Nat) "EngagedTone$Tokens") ∈ ia_T := ia_in1 (List.mem_of_getElem? (i := 230) rfl) rfl
set_option maxRecDepth 100000 in
theorem iw_341 : (Jvm.Cond.instantiable "EngagedTone$Tokens" (7 : Nat)) ∈ ia_T := ia_in1 (List.mem_of_getElem? (i := 231) rfl) rfl
set_option maxRecDepth 100000 in
theorem iw_342 : (Jvm.Cond.methodLink "EngagedTone$Reader" (24 : Nat) ({ cls := "EngagedTone$Tokens", name := "<init>", desc := "()V" } : Jvm.MethodName)) ∈ ia_T := ia_in1 (List.mem_of_getElem? (i := 232) rfl) rfl
set_option maxRecDepth 100000 in
theorem iw_343 : (Jvm.Cond.instanceMethod ({ cls := "EngagedTone$Tokens", name := "<init>", desc := "()V" } : Jvm.MethodName)) ∈ ia_T := ia_in1 (List.mem_of_getElem? (i := 233) rfl) rfl
set_option maxRecDepth 100000 in
theorem iw_344 : (Jvm.Cond.code ({ cls := "EngagedTone$Tokens", name := "<init>", desc := "()V" } : Jvm.MethodName) prog_9_method_1_code (6 : Nat) (Option.none : Option Jvm.ClassFile.FieldType)) ∈ ia_T := ia_in1 (List.mem_of_getElem? (i := 234) rfl) rfl
set_option maxRecDepth 100000 in
theorem iw_345 : (Jvm.Cond.methodLink "EngagedTone$Tokens" (3 : Nat) ({ cls := "java/lang/Object", name := "<init>", desc := "()V" } : Jvm.MethodName)) ∈ ia_T := ia_in1 (List.mem_of_getElem? (i := 235) rfl) rfl
set_option maxRecDepth 100000 in
theorem iw_347 : (Jvm.Cond.methodLink "EngagedTone$Tokens" (21 : Nat) ({ cls := "java/lang/String", name := "length", desc := "()I" } : Jvm.MethodName)) ∈ ia_T := ia_in1 (List.mem_of_getElem? (i := 237) rfl) rfl
set_option maxRecDepth 100000 in
theorem iw_348 : (Jvm.Cond.instanceMethod ({ cls := "java/lang/String", name := "length", desc := "()I" } : Jvm.MethodName)) ∈ ia_T := ia_in1 (List.mem_of_getElem? (i := 238) rfl) rfl
set_option maxRecDepth 100000 in
theorem iw_349 : (Jvm.Cond.selects "java/lang/String" ({ cls := "java/lang/String", name := "length", desc := "()I" } : Jvm.MethodName) ({ cls := "java/lang/String", name := "length", desc := "()I" } : Jvm.MethodName)) ∈ ia_T := ia_in1 (List.mem_of_getElem? (i := 239) rfl) rfl
set_option maxRecDepth 100000 in
theorem iw_350 : (Jvm.Cond.code ({ cls := "java/lang/String", name := "length", desc := "()I" } : Jvm.MethodName) prog_22_method_54_code (1 : Nat) (Option.some Jvm.ClassFile.FieldType.int)) ∈ ia_T := ia_in2 (List.mem_of_getElem? (i := 0) rfl) rfl
set_option maxRecDepth 100000 in
theorem iw_351 : (Jvm.Cond.methodLink "java/lang/String" (335 : Nat) ({ cls := "java/lang/String", name := "coder", desc := "()B" } : Jvm.MethodName)) ∈ ia_T := ia_in2 (List.mem_of_getElem? (i := 1) rfl) rfl
set_option maxRecDepth 100000 in
theorem iw_352 : (Jvm.Cond.instanceMethod ({ cls := "java/lang/String", name := "coder", desc := "()B" } : Jvm.MethodName)) ∈ ia_T := ia_in2 (List.mem_of_getElem? (i := 2) rfl) rfl
set_option maxRecDepth 100000 in
theorem iw_353 : (Jvm.Cond.selects "java/lang/String" ({ cls := "java/lang/String", name := "coder", desc := "()B" } : Jvm.MethodName) ({ cls := "java/lang/String", name := "coder", desc := "()B" } : Jvm.MethodName)) ∈ ia_T := ia_in2 (List.mem_of_getElem? (i := 3) rfl) rfl
set_option maxRecDepth 100000 in
theorem iw_354 : (Jvm.Cond.code ({ cls := "java/lang/String", name := "coder", desc := "()B" } : Jvm.MethodName) prog_22_method_152_code (1 : Nat) (Option.some Jvm.ClassFile.FieldType.byte)) ∈ ia_T := ia_in2 (List.mem_of_getElem? (i := 4) rfl) rfl
set_option maxRecDepth 100000 in
theorem iw_355 : (Jvm.Cond.fieldLink "java/lang/String" (38 : Nat) "java/lang/String" "COMPACT_STRINGS" "Z") ∈ ia_T := ia_in2 (List.mem_of_getElem? (i := 5) rfl) rfl
set_option maxRecDepth 100000 in
theorem iw_357 : (Jvm.Cond.methodLink "EngagedTone$Tokens" (27 : Nat) ({ cls := "java/lang/String", name := "charAt", desc := "(I)C" } : Jvm.MethodName)) ∈ ia_T := ia_in2 (List.mem_of_getElem? (i := 7) rfl) rfl
set_option maxRecDepth 100000 in
theorem iw_358 : (Jvm.Cond.instanceMethod ({ cls := "java/lang/String", name := "charAt", desc := "(I)C" } : Jvm.MethodName)) ∈ ia_T := ia_in2 (List.mem_of_getElem? (i := 8) rfl) rfl
set_option maxRecDepth 100000 in
theorem iw_359 : (Jvm.Cond.selects "java/lang/String" ({ cls := "java/lang/String", name := "charAt", desc := "(I)C" } : Jvm.MethodName) ({ cls := "java/lang/String", name := "charAt", desc := "(I)C" } : Jvm.MethodName)) ∈ ia_T := ia_in2 (List.mem_of_getElem? (i := 9) rfl) rfl
set_option maxRecDepth 100000 in
theorem iw_360 : (Jvm.Cond.code ({ cls := "java/lang/String", name := "charAt", desc := "(I)C" } : Jvm.MethodName) prog_22_method_56_code (2 : Nat) (Option.some Jvm.ClassFile.FieldType.char)) ∈ ia_T := ia_in2 (List.mem_of_getElem? (i := 10) rfl) rfl
set_option maxRecDepth 100000 in
theorem iw_361 : (Jvm.Cond.methodLink "java/lang/String" (492 : Nat) ({ cls := "java/lang/String", name := "isLatin1", desc := "()Z" } : Jvm.MethodName)) ∈ ia_T := ia_in2 (List.mem_of_getElem? (i := 11) rfl) rfl
set_option maxRecDepth 100000 in
theorem iw_362 : (Jvm.Cond.instanceMethod ({ cls := "java/lang/String", name := "isLatin1", desc := "()Z" } : Jvm.MethodName)) ∈ ia_T := ia_in2 (List.mem_of_getElem? (i := 12) rfl) rfl
set_option maxRecDepth 100000 in
theorem iw_363 : (Jvm.Cond.selects "java/lang/String" ({ cls := "java/lang/String", name := "isLatin1", desc := "()Z" } : Jvm.MethodName) ({ cls := "java/lang/String", name := "isLatin1", desc := "()Z" } : Jvm.MethodName)) ∈ ia_T := ia_in2 (List.mem_of_getElem? (i := 13) rfl) rfl
set_option maxRecDepth 100000 in
theorem iw_364 : (Jvm.Cond.code ({ cls := "java/lang/String", name := "isLatin1", desc := "()Z" } : Jvm.MethodName) prog_22_method_154_code (1 : Nat) (Option.some Jvm.ClassFile.FieldType.boolean)) ∈ ia_T := ia_in2 (List.mem_of_getElem? (i := 14) rfl) rfl
set_option maxRecDepth 100000 in
theorem iw_365 : (Jvm.Cond.methodLink "java/lang/String" (495 : Nat) ({ cls := "java/lang/StringLatin1", name := "charAt", desc := "([BI)C" } : Jvm.MethodName)) ∈ ia_T := ia_in2 (List.mem_of_getElem? (i := 15) rfl) rfl
set_option maxRecDepth 100000 in
theorem iw_366 : (Jvm.Cond.static ({ cls := "java/lang/StringLatin1", name := "charAt", desc := "([BI)C" } : Jvm.MethodName)) ∈ ia_T := ia_in2 (List.mem_of_getElem? (i := 16) rfl) rfl
set_option maxRecDepth 100000 in
theorem iw_367 : (Jvm.Cond.code ({ cls := "java/lang/StringLatin1", name := "charAt", desc := "([BI)C" } : Jvm.MethodName) prog_23_method_2_code (2 : Nat) (Option.some Jvm.ClassFile.FieldType.char)) ∈ ia_T := ia_in2 (List.mem_of_getElem? (i := 17) rfl) rfl
set_option maxRecDepth 100000 in
theorem iw_395 : (Jvm.Cond.fieldLink "EngagedTone$Reader" (46 : Nat) "EngagedTone$Tokens" "kind" "I") ∈ ia_T := ia_in2 (List.mem_of_getElem? (i := 45) rfl) rfl
set_option maxRecDepth 100000 in
theorem iw_396 : (Jvm.Cond.fieldLink "EngagedTone$Tokens" (56 : Nat) "EngagedTone$Tokens" "kind" "I") ∈ ia_T := ia_in2 (List.mem_of_getElem? (i := 46) rfl) rfl
set_option maxRecDepth 100000 in
theorem iw_397 : (Jvm.Cond.fieldLink "EngagedTone$Reader" (53 : Nat) "EngagedTone$Tokens" "place" "I") ∈ ia_T := ia_in2 (List.mem_of_getElem? (i := 47) rfl) rfl
set_option maxRecDepth 100000 in
theorem iw_398 : (Jvm.Cond.fieldLink "EngagedTone$Tokens" (50 : Nat) "EngagedTone$Tokens" "place" "I") ∈ ia_T := ia_in2 (List.mem_of_getElem? (i := 48) rfl) rfl
set_option maxRecDepth 100000 in
theorem iw_399 : (Jvm.Cond.fieldLink "EngagedTone$Tokens" (53 : Nat) "EngagedTone$Tokens" "value" "I") ∈ ia_T := ia_in2 (List.mem_of_getElem? (i := 49) rfl) rfl
set_option maxRecDepth 100000 in
theorem iw_400 : (Jvm.Cond.fieldLink "EngagedTone$Reader" (90 : Nat) "EngagedTone$Tokens" "value" "I") ∈ ia_T := ia_in2 (List.mem_of_getElem? (i := 50) rfl) rfl
set_option maxRecDepth 100000 in
theorem iw_401 : (Jvm.Cond.fieldLink "EngagedTone$Tokens" (9 : Nat) "EngagedTone$Tokens" "bytes" "[B") ∈ ia_T := ia_in2 (List.mem_of_getElem? (i := 51) rfl) rfl
set_option maxRecDepth 100000 in
theorem iw_402 : (Jvm.Cond.fieldLink "EngagedTone$Tokens" (37 : Nat) "EngagedTone$Tokens" "length" "I") ∈ ia_T := ia_in2 (List.mem_of_getElem? (i := 52) rfl) rfl
set_option maxRecDepth 100000 in
theorem iw_403 : (Jvm.Cond.fieldLink "EngagedTone$Tokens" (40 : Nat) "EngagedTone$Tokens" "at" "I") ∈ ia_T := ia_in2 (List.mem_of_getElem? (i := 53) rfl) rfl
set_option maxRecDepth 100000 in
theorem iw_404 : (Jvm.Cond.fieldLink "EngagedTone$Tokens" (15 : Nat) "EngagedTone$Tokens" "words" "[I") ∈ ia_T := ia_in2 (List.mem_of_getElem? (i := 54) rfl) rfl
set_option maxRecDepth 100000 in
theorem iw_405 : (Jvm.Cond.lays "EngagedTone$Tokens" "EngagedTone$Tokens" "kind" "I") ∈ ia_T := ia_in2 (List.mem_of_getElem? (i := 55) rfl) rfl
set_option maxRecDepth 100000 in
theorem iw_407 : (Jvm.Cond.lays "EngagedTone$Tokens" "EngagedTone$Tokens" "place" "I") ∈ ia_T := ia_in2 (List.mem_of_getElem? (i := 57) rfl) rfl
set_option maxRecDepth 100000 in
theorem iw_409 : (Jvm.Cond.lays "EngagedTone$Tokens" "EngagedTone$Tokens" "value" "I") ∈ ia_T := ia_in2 (List.mem_of_getElem? (i := 59) rfl) rfl
set_option maxRecDepth 100000 in
theorem iw_411 : (Jvm.Cond.lays "EngagedTone$Tokens" "EngagedTone$Tokens" "bytes" "[B") ∈ ia_T := ia_in2 (List.mem_of_getElem? (i := 61) rfl) rfl
set_option maxRecDepth 100000 in
theorem iw_413 : (Jvm.Cond.lays "EngagedTone$Tokens" "EngagedTone$Tokens" "length" "I") ∈ ia_T := ia_in2 (List.mem_of_getElem? (i := 63) rfl) rfl
set_option maxRecDepth 100000 in
theorem iw_415 : (Jvm.Cond.lays "EngagedTone$Tokens" "EngagedTone$Tokens" "at" "I") ∈ ia_T := ia_in2 (List.mem_of_getElem? (i := 65) rfl) rfl
set_option maxRecDepth 100000 in
theorem iw_417 : (Jvm.Cond.laysFinal "EngagedTone$Tokens" "EngagedTone$Tokens" "words" "[I") ∈ ia_T := ia_in2 (List.mem_of_getElem? (i := 67) rfl) rfl
set_option maxRecDepth 100000 in
theorem iw_420 : (Jvm.Cond.fieldLink "EngagedTone$Reader" (36 : Nat) "EngagedTone$Reader" "faultKind" "I") ∈ ia_T := ia_in2 (List.mem_of_getElem? (i := 70) rfl) rfl
set_option maxRecDepth 100000 in
theorem iw_421 : (Jvm.Cond.fieldLink "EngagedTone" (101 : Nat) "EngagedTone$Reader" "faultKind" "I") ∈ ia_T := ia_in2 (List.mem_of_getElem? (i := 71) rfl) rfl
set_option maxRecDepth 100000 in
theorem iw_422 : (Jvm.Cond.fieldLink "EngagedTone$Reader" (9 : Nat) "EngagedTone$Reader" "faultPlace" "I") ∈ ia_T := ia_in2 (List.mem_of_getElem? (i := 72) rfl) rfl
set_option maxRecDepth 100000 in
theorem iw_423 : (Jvm.Cond.fieldLink "EngagedTone" (104 : Nat) "EngagedTone$Reader" "faultPlace" "I") ∈ ia_T := ia_in2 (List.mem_of_getElem? (i := 73) rfl) rfl
set_option maxRecDepth 100000 in
theorem iw_424 : (Jvm.Cond.fieldLink "EngagedTone$Reader" (39 : Nat) "EngagedTone$Reader" "linesRead" "I") ∈ ia_T := ia_in2 (List.mem_of_getElem? (i := 74) rfl) rfl
set_option maxRecDepth 100000 in
theorem iw_425 : (Jvm.Cond.fieldLink "EngagedTone" (98 : Nat) "EngagedTone$Reader" "linesRead" "I") ∈ ia_T := ia_in2 (List.mem_of_getElem? (i := 75) rfl) rfl
set_option maxRecDepth 100000 in
theorem iw_426 : (Jvm.Cond.fieldLink "EngagedTone$Reader" (18 : Nat) "EngagedTone$Reader" "script" "LEngagedTone$Script;") ∈ ia_T := ia_in2 (List.mem_of_getElem? (i := 76) rfl) rfl
set_option maxRecDepth 100000 in
theorem iw_427 : (Jvm.Cond.fieldLink "EngagedTone$Reader" (25 : Nat) "EngagedTone$Reader" "tokens" "LEngagedTone$Tokens;") ∈ ia_T := ia_in2 (List.mem_of_getElem? (i := 77) rfl) rfl
set_option maxRecDepth 100000 in
theorem iw_428 : (Jvm.Cond.fieldLink "EngagedTone$Reader" (29 : Nat) "EngagedTone$Reader" "waiting" "[I") ∈ ia_T := ia_in2 (List.mem_of_getElem? (i := 78) rfl) rfl
set_option maxRecDepth 100000 in
theorem iw_429 : (Jvm.Cond.fieldLink "EngagedTone$Reader" (165 : Nat) "EngagedTone$Reader" "waits" "I") ∈ ia_T := ia_in2 (List.mem_of_getElem? (i := 79) rfl) rfl
set_option maxRecDepth 100000 in
theorem iw_430 : (Jvm.Cond.fieldLink "EngagedTone$Reader" (168 : Nat) "EngagedTone$Reader" "open" "I") ∈ ia_T := ia_in2 (List.mem_of_getElem? (i := 80) rfl) rfl
set_option maxRecDepth 100000 in
theorem iw_431 : (Jvm.Cond.lays "EngagedTone$Reader" "EngagedTone$Reader" "faultKind" "I") ∈ ia_T := ia_in2 (List.mem_of_getElem? (i := 81) rfl) rfl
set_option maxRecDepth 100000 in
theorem iw_433 : (Jvm.Cond.lays "EngagedTone$Reader" "EngagedTone$Reader" "faultPlace" "I") ∈ ia_T := ia_in2 (List.mem_of_getElem? (i := 83) rfl) rfl
set_option maxRecDepth 100000 in
theorem iw_435 : (Jvm.Cond.lays "EngagedTone$Reader" "EngagedTone$Reader" "linesRead" "I") ∈ ia_T := ia_in2 (List.mem_of_getElem? (i := 85) rfl) rfl
set_option maxRecDepth 100000 in
theorem iw_437 : (Jvm.Cond.lays "EngagedTone$Reader" "EngagedTone$Reader" "script" "LEngagedTone$Script;") ∈ ia_T := ia_in2 (List.mem_of_getElem? (i := 87) rfl) rfl
set_option maxRecDepth 100000 in
theorem iw_439 : (Jvm.Cond.laysFinal "EngagedTone$Reader" "EngagedTone$Reader" "tokens" "LEngagedTone$Tokens;") ∈ ia_T := ia_in2 (List.mem_of_getElem? (i := 89) rfl) rfl
set_option maxRecDepth 100000 in
theorem iw_441 : (Jvm.Cond.laysFinal "EngagedTone$Reader" "EngagedTone$Reader" "waiting" "[I") ∈ ia_T := ia_in2 (List.mem_of_getElem? (i := 91) rfl) rfl
set_option maxRecDepth 100000 in
theorem iw_443 : (Jvm.Cond.lays "EngagedTone$Reader" "EngagedTone$Reader" "waits" "I") ∈ ia_T := ia_in2 (List.mem_of_getElem? (i := 93) rfl) rfl
set_option maxRecDepth 100000 in
theorem iw_445 : (Jvm.Cond.lays "EngagedTone$Reader" "EngagedTone$Reader" "open" "I") ∈ ia_T := ia_in2 (List.mem_of_getElem? (i := 95) rfl) rfl
set_option maxRecDepth 100000 in
theorem iw_448 : (Jvm.Cond.classLink "EngagedTone" (39 : Nat) "EngagedTone$Exchange") ∈ ia_T := ia_in2 (List.mem_of_getElem? (i := 98) rfl) rfl
set_option maxRecDepth 100000 in
theorem iw_449 : (Jvm.Cond.instantiable "EngagedTone$Exchange" (7 : Nat)) ∈ ia_T := ia_in2 (List.mem_of_getElem? (i := 99) rfl) rfl
set_option maxRecDepth 100000 in
theorem iw_450 : (Jvm.Cond.methodLinkNest "EngagedTone" (41 : Nat) ({ cls := "EngagedTone$Exchange", name := "<init>", desc := "()V" } : Jvm.MethodName) "EngagedTone") ∈ lw_tbl := ia_iu2 (List.mem_of_getElem? (i := 100) rfl)
set_option maxRecDepth 100000 in
theorem iw_451 : (Jvm.Cond.instanceMethod ({ cls := "EngagedTone$Exchange", name := "<init>", desc := "()V" } : Jvm.MethodName)) ∈ ia_T := ia_in2 (List.mem_of_getElem? (i := 101) rfl) rfl
set_option maxRecDepth 100000 in
theorem iw_452 : (Jvm.Cond.code ({ cls := "EngagedTone$Exchange", name := "<init>", desc := "()V" } : Jvm.MethodName) prog_3_method_1_code (1 : Nat) (Option.none : Option Jvm.ClassFile.FieldType)) ∈ ia_T := ia_in2 (List.mem_of_getElem? (i := 102) rfl) rfl
set_option maxRecDepth 100000 in
theorem iw_453 : (Jvm.Cond.methodLink "EngagedTone$Exchange" (3 : Nat) ({ cls := "java/lang/Object", name := "<init>", desc := "()V" } : Jvm.MethodName)) ∈ ia_T := ia_in2 (List.mem_of_getElem? (i := 103) rfl) rfl
set_option maxRecDepth 100000 in
theorem iw_454 : (Jvm.Cond.classLink "EngagedTone$Exchange" (9 : Nat) "EngagedTone$Script") ∈ ia_T := ia_in2 (List.mem_of_getElem? (i := 104) rfl) rfl
set_option maxRecDepth 100000 in
theorem iw_455 : (Jvm.Cond.methodLinkNest "EngagedTone$Exchange" (11 : Nat) ({ cls := "EngagedTone$Script", name := "<init>", desc := "()V" } : Jvm.MethodName) "EngagedTone") ∈ lw_tbl := ia_iu2 (List.mem_of_getElem? (i := 105) rfl)
set_option maxRecDepth 100000 in
theorem iw_456 : (Jvm.Cond.fieldLink "EngagedTone$Exchange" (12 : Nat) "EngagedTone$Exchange" "script" "LEngagedTone$Script;") ∈ ia_T := ia_in2 (List.mem_of_getElem? (i := 106) rfl) rfl
set_option maxRecDepth 100000 in
theorem iw_457 : (Jvm.Cond.fieldLink "EngagedTone$Exchange" (26 : Nat) "EngagedTone$Exchange" "lines" "I") ∈ ia_T := ia_in2 (List.mem_of_getElem? (i := 107) rfl) rfl
set_option maxRecDepth 100000 in
theorem iw_458 : (Jvm.Cond.fieldLink "EngagedTone" (242 : Nat) "EngagedTone$Exchange" "lines" "I") ∈ ia_T := ia_in2 (List.mem_of_getElem? (i := 108) rfl) rfl
set_option maxRecDepth 100000 in
theorem iw_459 : (Jvm.Cond.fieldLink "EngagedTone$Exchange" (32 : Nat) "EngagedTone$Exchange" "tries" "I") ∈ ia_T := ia_in2 (List.mem_of_getElem? (i := 109) rfl) rfl
set_option maxRecDepth 100000 in
theorem iw_460 : (Jvm.Cond.fieldLink "EngagedTone" (333 : Nat) "EngagedTone$Exchange" "tries" "I") ∈ ia_T := ia_in2 (List.mem_of_getElem? (i := 110) rfl) rfl
set_option maxRecDepth 100000 in
theorem iw_461 : (Jvm.Cond.fieldLink "EngagedTone$Exchange" (35 : Nat) "EngagedTone$Exchange" "isFree" "Z") ∈ ia_T := ia_in2 (List.mem_of_getElem? (i := 111) rfl) rfl
set_option maxRecDepth 100000 in
theorem iw_462 : (Jvm.Cond.fieldLink "EngagedTone" (336 : Nat) "EngagedTone$Exchange" "isFree" "Z") ∈ ia_T := ia_in2 (List.mem_of_getElem? (i := 112) rfl) rfl
set_option maxRecDepth 100000 in
theorem iw_463 : (Jvm.Cond.fieldLink "EngagedTone$Exchange" (18 : Nat) "EngagedTone$Exchange" "silent" "I") ∈ ia_T := ia_in2 (List.mem_of_getElem? (i := 113) rfl) rfl
set_option maxRecDepth 100000 in
theorem iw_464 : (Jvm.Cond.fieldLink "EngagedTone" (330 : Nat) "EngagedTone$Exchange" "silent" "I") ∈ ia_T := ia_in2 (List.mem_of_getElem? (i := 114) rfl) rfl
set_option maxRecDepth 100000 in
theorem iw_465 : (Jvm.Cond.fieldLink "EngagedTone$Exchange" (39 : Nat) "EngagedTone$Exchange" "isDrawing" "Z") ∈ ia_T := ia_in2 (List.mem_of_getElem? (i := 115) rfl) rfl
set_option maxRecDepth 100000 in
theorem iw_466 : (Jvm.Cond.fieldLink "EngagedTone" (323 : Nat) "EngagedTone$Exchange" "isDrawing" "Z") ∈ ia_T := ia_in2 (List.mem_of_getElem? (i := 116) rfl) rfl
set_option maxRecDepth 100000 in
theorem iw_467 : (Jvm.Cond.fieldLink "EngagedTone$Exchange" (42 : Nat) "EngagedTone$Exchange" "drawn" "J") ∈ ia_T := ia_in2 (List.mem_of_getElem? (i := 117) rfl) rfl
set_option maxRecDepth 100000 in
theorem iw_468 : (Jvm.Cond.fieldLink "EngagedTone" (326 : Nat) "EngagedTone$Exchange" "drawn" "J") ∈ ia_T := ia_in2 (List.mem_of_getElem? (i := 118) rfl) rfl
set_option maxRecDepth 100000 in
theorem iw_469 : (Jvm.Cond.lays "EngagedTone$Exchange" "EngagedTone$Exchange" "script" "LEngagedTone$Script;") ∈ ia_T := ia_in2 (List.mem_of_getElem? (i := 119) rfl) rfl
set_option maxRecDepth 100000 in
theorem iw_471 : (Jvm.Cond.lays "EngagedTone$Exchange" "EngagedTone$Exchange" "lines" "I") ∈ ia_T := ia_in2 (List.mem_of_getElem? (i := 121) rfl) rfl
set_option maxRecDepth 100000 in
theorem iw_473 : (Jvm.Cond.lays "EngagedTone$Exchange" "EngagedTone$Exchange" "tries" "I") ∈ ia_T := ia_in2 (List.mem_of_getElem? (i := 123) rfl) rfl
set_option maxRecDepth 100000 in
theorem iw_475 : (Jvm.Cond.lays "EngagedTone$Exchange" "EngagedTone$Exchange" "isFree" "Z") ∈ ia_T := ia_in2 (List.mem_of_getElem? (i := 125) rfl) rfl
set_option maxRecDepth 100000 in
theorem iw_477 : (Jvm.Cond.lays "EngagedTone$Exchange" "EngagedTone$Exchange" "silent" "I") ∈ ia_T := ia_in2 (List.mem_of_getElem? (i := 127) rfl) rfl
set_option maxRecDepth 100000 in
theorem iw_479 : (Jvm.Cond.lays "EngagedTone$Exchange" "EngagedTone$Exchange" "isDrawing" "Z") ∈ ia_T := ia_in2 (List.mem_of_getElem? (i := 129) rfl) rfl
set_option maxRecDepth 100000 in
theorem iw_481 : (Jvm.Cond.lays "EngagedTone$Exchange" "EngagedTone$Exchange" "drawn" "J") ∈ ia_T := ia_in2 (List.mem_of_getElem? (i := 131) rfl) rfl
set_option maxRecDepth 100000 in
theorem iw_484 : (Jvm.Cond.classLink "EngagedTone" (46 : Nat) "EngagedTone$Foresight") ∈ ia_T := ia_in2 (List.mem_of_getElem? (i := 134) rfl) rfl
set_option maxRecDepth 100000 in
theorem iw_485 : (Jvm.Cond.instantiable "EngagedTone$Foresight" (2 : Nat)) ∈ ia_T := ia_in2 (List.mem_of_getElem? (i := 135) rfl) rfl
set_option maxRecDepth 100000 in
theorem iw_486 : (Jvm.Cond.methodLinkNest "EngagedTone" (48 : Nat) ({ cls := "EngagedTone$Foresight", name := "<init>", desc := "()V" } : Jvm.MethodName) "EngagedTone") ∈ lw_tbl := ia_iu2 (List.mem_of_getElem? (i := 136) rfl)
set_option maxRecDepth 100000 in
theorem iw_487 : (Jvm.Cond.instanceMethod ({ cls := "EngagedTone$Foresight", name := "<init>", desc := "()V" } : Jvm.MethodName)) ∈ ia_T := ia_in2 (List.mem_of_getElem? (i := 137) rfl) rfl
set_option maxRecDepth 100000 in
theorem iw_488 : (Jvm.Cond.code ({ cls := "EngagedTone$Foresight", name := "<init>", desc := "()V" } : Jvm.MethodName) prog_4_method_1_code (1 : Nat) (Option.none : Option Jvm.ClassFile.FieldType)) ∈ ia_T := ia_in2 (List.mem_of_getElem? (i := 138) rfl) rfl
set_option maxRecDepth 100000 in
theorem iw_489 : (Jvm.Cond.methodLink "EngagedTone$Foresight" (3 : Nat) ({ cls := "java/lang/Object", name := "<init>", desc := "()V" } : Jvm.MethodName)) ∈ ia_T := ia_in2 (List.mem_of_getElem? (i := 139) rfl) rfl
set_option maxRecDepth 100000 in
theorem iw_490 : (Jvm.Cond.classLink "EngagedTone$Foresight" (9 : Nat) "EngagedTone$World") ∈ ia_T := ia_in2 (List.mem_of_getElem? (i := 140) rfl) rfl
set_option maxRecDepth 100000 in
theorem iw_491 : (Jvm.Cond.methodLinkNest "EngagedTone$Foresight" (11 : Nat) ({ cls := "EngagedTone$World", name := "<init>", desc := "()V" } : Jvm.MethodName) "EngagedTone") ∈ lw_tbl := ia_iu2 (List.mem_of_getElem? (i := 141) rfl)
set_option maxRecDepth 100000 in
theorem iw_492 : (Jvm.Cond.classLink "EngagedTone$Foresight" (18 : Nat) "EngagedTone$Exchange") ∈ ia_T := ia_in2 (List.mem_of_getElem? (i := 142) rfl) rfl
set_option maxRecDepth 100000 in
theorem iw_493 : (Jvm.Cond.methodLinkNest "EngagedTone$Foresight" (20 : Nat) ({ cls := "EngagedTone$Exchange", name := "<init>", desc := "()V" } : Jvm.MethodName) "EngagedTone") ∈ lw_tbl := ia_iu2 (List.mem_of_getElem? (i := 143) rfl)
set_option maxRecDepth 100000 in
theorem iw_494 : (Jvm.Cond.fieldLink "EngagedTone$Foresight" (12 : Nat) "EngagedTone$Foresight" "trial" "LEngagedTone$World;") ∈ ia_T := ia_in2 (List.mem_of_getElem? (i := 144) rfl) rfl
set_option maxRecDepth 100000 in
theorem iw_495 : (Jvm.Cond.fieldLink "EngagedTone" (219 : Nat) "EngagedTone$Foresight" "trial" "LEngagedTone$World;") ∈ ia_T := ia_in2 (List.mem_of_getElem? (i := 145) rfl) rfl
set_option maxRecDepth 100000 in
theorem iw_496 : (Jvm.Cond.fieldLink "EngagedTone$Foresight" (21 : Nat) "EngagedTone$Foresight" "exchange" "LEngagedTone$Exchange;") ∈ ia_T := ia_in2 (List.mem_of_getElem? (i := 146) rfl) rfl
set_option maxRecDepth 100000 in
theorem iw_497 : (Jvm.Cond.fieldLink "EngagedTone" (241 : Nat) "EngagedTone$Foresight" "exchange" "LEngagedTone$Exchange;") ∈ ia_T := ia_in2 (List.mem_of_getElem? (i := 147) rfl) rfl
set_option maxRecDepth 100000 in
theorem iw_498 : (Jvm.Cond.laysFinal "EngagedTone$Foresight" "EngagedTone$Foresight" "trial" "LEngagedTone$World;") ∈ ia_T := ia_in2 (List.mem_of_getElem? (i := 148) rfl) rfl
set_option maxRecDepth 100000 in
theorem iw_500 : (Jvm.Cond.laysFinal "EngagedTone$Foresight" "EngagedTone$Foresight" "exchange" "LEngagedTone$Exchange;") ∈ ia_T := ia_in2 (List.mem_of_getElem? (i := 150) rfl) rfl
set_option maxRecDepth 100000 in
theorem iw_503 : (Jvm.Cond.classLink "EngagedTone" (53 : Nat) "EngagedTone$Rumours") ∈ ia_T := ia_in2 (List.mem_of_getElem? (i := 153) rfl) rfl
set_option maxRecDepth 100000 in
theorem iw_504 : (Jvm.Cond.instantiable "EngagedTone$Rumours" (6 : Nat)) ∈ ia_T := ia_in2 (List.mem_of_getElem? (i := 154) rfl) rfl
