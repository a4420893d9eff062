-- methods
def vY (f : Nat) (a b : Yt) : Yt := if f = 12 then a else b
abbrev Y_C_firstSigned : Yt := (⟨"InTraysPurgatory", "firstSigned", "()I"⟩, prog_1_method_27_code, 3, (some FieldType.int))
theorem okM_C_firstSigned : okM Y_C_firstSigned 0 := ⟨mw_495, mw_22, ⟨by decide, by decide⟩, by decide +kernel, by decide +kernel⟩
abbrev Y_C_isOfficial : Yt := (⟨"InTraysPurgatory", "isOfficial", "(I)Z"⟩, prog_1_method_70_code, 1, (some FieldType.boolean))
theorem okM_C_isOfficial : okM Y_C_isOfficial 1 := ⟨mw_230, mw_22, ⟨by decide, by decide⟩, by decide +kernel, by decide +kernel⟩
abbrev Y_C_isRoomForDays : Yt := (⟨"InTraysPurgatory", "isRoomForDays", "(II)Z"⟩, prog_1_method_13_code, 2, (some FieldType.boolean))
theorem okM_C_isRoomForDays : okM Y_C_isRoomForDays 2 := ⟨mw_335, mw_22, ⟨by decide, by decide⟩, by decide +kernel, by decide +kernel⟩
abbrev Y_C_isSooner : Yt := (⟨"InTraysPurgatory", "isSooner", "(II)Z"⟩, prog_1_method_71_code, 2, (some FieldType.boolean))
theorem okM_C_isSooner : okM Y_C_isSooner 2 := ⟨mw_515, mw_22, ⟨by decide, by decide⟩, by decide +kernel, by decide +kernel⟩
abbrev Y_C_leastOf : Yt := (⟨"InTraysPurgatory", "leastOf", "(I)I"⟩, prog_1_method_73_code, 1, (some FieldType.int))
theorem okM_C_leastOf : okM Y_C_leastOf 1 := ⟨mw_522, mw_22, ⟨by decide, by decide⟩, by decide +kernel, by decide +kernel⟩
abbrev Y_C_letterAt : Yt := (⟨"InTraysPurgatory", "letterAt", "(I)I"⟩, prog_1_method_5_code, 2, (some FieldType.int))
theorem okM_C_letterAt : okM Y_C_letterAt 1 := ⟨mw_637, mw_22, ⟨by decide, by decide⟩, by decide +kernel, by decide +kernel⟩
abbrev Y_C_mostOf : Yt := (⟨"InTraysPurgatory", "mostOf", "(I)I"⟩, prog_1_method_74_code, 1, (some FieldType.int))
theorem okM_C_mostOf : okM Y_C_mostOf 1 := ⟨mw_525, mw_22, ⟨by decide, by decide⟩, by decide +kernel, by decide +kernel⟩
abbrev Y_C_refuse : Yt := (⟨"InTraysPurgatory", "refuse", "(I)I"⟩, prog_1_method_69_code, 2, (some FieldType.int))
theorem okM_C_refuse : okM Y_C_refuse 1 := ⟨mw_234, mw_22, ⟨by decide, by decide⟩, by decide +kernel, by decide +kernel⟩
abbrev Y_C_statementLength : Yt := (⟨"InTraysPurgatory", "statementLength", "(I)I"⟩, prog_1_method_7_code, 1, (some FieldType.int))
theorem okM_C_statementLength : okM Y_C_statementLength 1 := ⟨mw_640, mw_22, ⟨by decide, by decide⟩, by decide +kernel, by decide +kernel⟩
abbrev Y_D_isThere : Yt := (⟨"InTraysPurgatory$Mind", "isThere", "(I)Z"⟩, prog_4_method_6_code, 2, (some FieldType.boolean))
theorem okM_D_isThere : okM Y_D_isThere 1 := ⟨mw_356, mw_24, ⟨by decide, by decide⟩, by decide +kernel, by decide +kernel⟩
abbrev Y_D_nextOf : Yt := (⟨"InTraysPurgatory$Mind", "nextOf", "(I)I"⟩, prog_4_method_7_code, 3, (some FieldType.int))
theorem okM_D_nextOf : okM Y_D_nextOf 1 := ⟨mw_427, mw_24, ⟨by decide, by decide⟩, by decide +kernel, by decide +kernel⟩
abbrev Y_D_noteBusy : Yt := (⟨"InTraysPurgatory$Mind", "noteBusy", "(I)V"⟩, prog_4_method_9_code, 2, none)
theorem okM_D_noteBusy : okM Y_D_noteBusy 1 := ⟨mw_381, mw_24, ⟨by decide, by decide⟩, by decide +kernel, by decide +kernel⟩
abbrev Y_D_noteDay : Yt := (⟨"InTraysPurgatory$Mind", "noteDay", "()V"⟩, prog_4_method_8_code, 1, none)
theorem okM_D_noteDay : okM Y_D_noteDay 0 := ⟨mw_348, mw_24, ⟨by decide, by decide⟩, by decide +kernel, by decide +kernel⟩
abbrev Y_D_notePassed : Yt := (⟨"InTraysPurgatory$Mind", "notePassed", "(I)V"⟩, prog_4_method_11_code, 2, none)
theorem okM_D_notePassed : okM Y_D_notePassed 1 := ⟨mw_435, mw_24, ⟨by decide, by decide⟩, by decide +kernel, by decide +kernel⟩
abbrev Y_D_noteSigned : Yt := (⟨"InTraysPurgatory$Mind", "noteSigned", "(I)V"⟩, prog_4_method_10_code, 2, none)
theorem okM_D_noteSigned : okM Y_D_noteSigned 1 := ⟨mw_415, mw_24, ⟨by decide, by decide⟩, by decide +kernel, by decide +kernel⟩
abbrev Y_F_allBorne : Yt := (⟨"InTraysPurgatory$Floor", "allBorne", "()I"⟩, prog_2_method_12_code, 3, (some FieldType.int))
theorem okM_F_allBorne : okM Y_F_allBorne 0 := ⟨mw_548, mw_23, ⟨by decide, by decide⟩, by decide +kernel, by decide +kernel⟩
abbrev Y_F_allMinutes : Yt := (⟨"InTraysPurgatory$Floor", "allMinutes", "()I"⟩, prog_2_method_13_code, 3, (some FieldType.int))
theorem okM_F_allMinutes : okM Y_F_allMinutes 0 := ⟨mw_605, mw_23, ⟨by decide, by decide⟩, by decide +kernel, by decide +kernel⟩
abbrev Y_F_has : Yt := (⟨"InTraysPurgatory$Floor", "has", "(I)Z"⟩, prog_2_method_3_code, 2, (some FieldType.boolean))
theorem okM_F_has : okM Y_F_has 1 := ⟨mw_256, mw_23, ⟨by decide, by decide⟩, by decide +kernel, by decide +kernel⟩
abbrev Y_F_isThere : Yt := (⟨"InTraysPurgatory$Floor", "isThere", "(I)Z"⟩, prog_2_method_22_code, 2, (some FieldType.boolean))
theorem okM_F_isThere : okM Y_F_isThere 1 := ⟨mw_357, mw_23, ⟨by decide, by decide⟩, by decide +kernel, by decide +kernel⟩
abbrev Y_F_liesIn : Yt := (⟨"InTraysPurgatory$Floor", "liesIn", "(II)Z"⟩, prog_2_method_7_code, 3, (some FieldType.boolean))
theorem okM_F_liesIn : okM Y_F_liesIn 2 := ⟨mw_246, mw_23, ⟨by decide, by decide⟩, by decide +kernel, by decide +kernel⟩
abbrev Y_F_nextOf : Yt := (⟨"InTraysPurgatory$Floor", "nextOf", "(I)I"⟩, prog_2_method_23_code, 2, (some FieldType.int))
theorem okM_F_nextOf : okM Y_F_nextOf 1 := ⟨mw_428, mw_23, ⟨by decide, by decide⟩, by decide +kernel, by decide +kernel⟩
abbrev Y_F_noteBusy : Yt := (⟨"InTraysPurgatory$Floor", "noteBusy", "(I)V"⟩, prog_2_method_25_code, 2, none)
theorem okM_F_noteBusy : okM Y_F_noteBusy 1 := ⟨mw_382, mw_23, ⟨by decide, by decide⟩, by decide +kernel, by decide +kernel⟩
abbrev Y_F_noteDay : Yt := (⟨"InTraysPurgatory$Floor", "noteDay", "()V"⟩, prog_2_method_24_code, 1, none)
theorem okM_F_noteDay : okM Y_F_noteDay 0 := ⟨mw_349, mw_23, ⟨by decide, by decide⟩, by decide +kernel, by decide +kernel⟩
abbrev Y_F_notePassed : Yt := (⟨"InTraysPurgatory$Floor", "notePassed", "(I)V"⟩, prog_2_method_27_code, 2, none)
theorem okM_F_notePassed : okM Y_F_notePassed 1 := ⟨mw_436, mw_23, ⟨by decide, by decide⟩, by decide +kernel, by decide +kernel⟩
abbrev Y_F_noteSigned : Yt := (⟨"InTraysPurgatory$Floor", "noteSigned", "(I)V"⟩, prog_2_method_26_code, 2, none)
theorem okM_F_noteSigned : okM Y_F_noteSigned 1 := ⟨mw_416, mw_23, ⟨by decide, by decide⟩, by decide +kernel, by decide +kernel⟩
abbrev Y_F_putBehind : Yt := (⟨"InTraysPurgatory$Floor", "putBehind", "(II)V"⟩, prog_2_method_5_code, 3, none)
theorem okM_F_putBehind : okM Y_F_putBehind 2 := ⟨mw_305, mw_23, ⟨by decide, by decide⟩, by decide +kernel, by decide +kernel⟩
abbrev Y_F_those : Yt := (⟨"InTraysPurgatory$Floor", "those", "(I)I"⟩, prog_2_method_10_code, 4, (some FieldType.int))
theorem okM_F_those : okM Y_F_those 1 := ⟨mw_317, mw_23, ⟨by decide, by decide⟩, by decide +kernel, by decide +kernel⟩
abbrev Y_J_bitCount : Yt := (⟨"java/lang/Integer", "bitCount", "(I)I"⟩, prog_9_method_49_code, 1, (some FieldType.int))
theorem okM_J_bitCount : okM Y_J_bitCount 1 := ⟨mw_320, mw_29, ⟨by decide, by decide⟩, by decide +kernel, by decide +kernel⟩
abbrev Y_K_haste : Yt := (⟨"InTraysPurgatory$Kinds", "haste", "(I)I"⟩, prog_3_method_5_code, 1, (some FieldType.int))
theorem okM_K_haste : okM Y_K_haste 1 := ⟨mw_265, mw_28, ⟨by decide, by decide⟩, by decide +kernel, by decide +kernel⟩
abbrev Y_K_rings : Yt := (⟨"InTraysPurgatory$Kinds", "rings", "(II)I"⟩, prog_3_method_4_code, 2, (some FieldType.int))
theorem okM_K_rings : okM Y_K_rings 2 := ⟨mw_262, mw_28, ⟨by decide, by decide⟩, by decide +kernel, by decide +kernel⟩
abbrev Y_K_weight : Yt := (⟨"InTraysPurgatory$Kinds", "weight", "(II)I"⟩, prog_3_method_2_code, 4, (some FieldType.int))
theorem okM_K_weight : okM Y_K_weight 2 := ⟨mw_259, mw_28, ⟨by decide, by decide⟩, by decide +kernel, by decide +kernel⟩
abbrev Y_L_cell : Yt := (⟨"InTraysPurgatoryLaw", "cell", "([II)I"⟩, method_2_code, 2, (some FieldType.int))
theorem okM_L_cell : okM Y_L_cell 2 := ⟨mw_608, mw_21, ⟨by decide, by decide⟩, by decide +kernel, by decide +kernel⟩
abbrev Y_L_pick : Yt := (⟨"InTraysPurgatoryLaw", "pick", "(II)I"⟩, method_3_code, 2, (some FieldType.int))
theorem okM_L_pick : okM Y_L_pick 2 := ⟨mw_611, mw_21, ⟨by decide, by decide⟩, by decide +kernel, by decide +kernel⟩
abbrev Y_P_forget : Yt := (⟨"InTraysPurgatory$Past", "forget", "()V"⟩, prog_5_method_4_code, 1, none)
theorem okM_P_forget : okM Y_P_forget 0 := ⟨mw_594, mw_25, ⟨by decide, by decide⟩, by decide +kernel, by decide +kernel⟩
abbrev Y_C_count : Yt := (⟨"InTraysPurgatory", "count", "(I)I"⟩, prog_1_method_68_code, 2, (some FieldType.int))
theorem okM_C_count : okM Y_C_count 1 := ⟨mw_598, mw_22, ⟨by decide, by decide⟩, by decide +kernel, by decide +kernel⟩
abbrev Y_C_digitAt : Yt := (⟨"InTraysPurgatory", "digitAt", "(I)I"⟩, prog_1_method_6_code, 2, (some FieldType.int))
theorem okM_C_digitAt : okM Y_C_digitAt 1 := ⟨mw_648, mw_22, ⟨by decide, by decide⟩, by decide +kernel, by decide +kernel⟩
abbrev Y_C_fair : Yt := (⟨"InTraysPurgatory", "fair", "(I)I"⟩, prog_1_method_34_code, 5, (some FieldType.int))
theorem okM_C_fair : okM Y_C_fair 1 := ⟨mw_542, mw_22, ⟨by decide, by decide⟩, by decide +kernel, by decide +kernel⟩
abbrev Y_C_feed : Yt := (⟨"InTraysPurgatory", "feed", "(I)I"⟩, prog_1_method_2_code, 2, (some FieldType.int))
theorem okM_C_feed : okM Y_C_feed 1 := ⟨mw_625, mw_22, ⟨by decide, by decide⟩, by decide +kernel, by decide +kernel⟩
abbrev Y_C_firstWrongLetter : Yt := (⟨"InTraysPurgatory", "firstWrongLetter", "()I"⟩, prog_1_method_4_code, 4, (some FieldType.int))
theorem okM_C_firstWrongLetter : okM Y_C_firstWrongLetter 0 := ⟨mw_633, mw_22, ⟨by decide, by decide⟩, by decide +kernel, by decide +kernel⟩
abbrev Y_C_lastSignedOn : Yt := (⟨"InTraysPurgatory", "lastSignedOn", "()I"⟩, prog_1_method_28_code, 3, (some FieldType.int))
theorem okM_C_lastSignedOn : okM Y_C_lastSignedOn 0 := ⟨mw_503, mw_22, ⟨by decide, by decide⟩, by decide +kernel, by decide +kernel⟩
abbrev Y_C_noteAsItIs : Yt := (⟨"InTraysPurgatory", "noteAsItIs", "()V"⟩, prog_1_method_76_code, 1, none)
theorem okM_C_noteAsItIs : okM Y_C_noteAsItIs 0 := ⟨mw_568, mw_22, ⟨by decide, by decide⟩, by decide +kernel, by decide +kernel⟩
abbrev Y_C_officialBecomes : Yt := (⟨"InTraysPurgatory", "officialBecomes", "(III)Z"⟩, prog_1_method_10_code, 4, (some FieldType.boolean))
theorem okM_C_officialBecomes : okM Y_C_officialBecomes 3 := ⟨mw_662, mw_22, ⟨by decide, by decide⟩, by decide +kernel, by decide +kernel⟩
abbrev Y_C_officialMoves : Yt := (⟨"InTraysPurgatory", "officialMoves", "(II)Z"⟩, prog_1_method_11_code, 3, (some FieldType.boolean))
theorem okM_C_officialMoves : okM Y_C_officialMoves 2 := ⟨mw_666, mw_22, ⟨by decide, by decide⟩, by decide +kernel, by decide +kernel⟩
abbrev Y_C_sheetOf : Yt := (⟨"InTraysPurgatory", "sheetOf", "(II)I"⟩, prog_1_method_15_code, 3, (some FieldType.int))
theorem okM_C_sheetOf : okM Y_C_sheetOf 2 := ⟨mw_250, mw_22, ⟨by decide, by decide⟩, by decide +kernel, by decide +kernel⟩
abbrev Y_F_add : Yt := (⟨"InTraysPurgatory$Floor", "add", "(III)I"⟩, prog_2_method_4_code, 5, (some FieldType.int))
theorem okM_F_add : okM Y_F_add 3 := ⟨mw_658, mw_23, ⟨by decide, by decide⟩, by decide +kernel, by decide +kernel⟩
abbrev Y_F_howMany : Yt := (⟨"InTraysPurgatory$Floor", "howMany", "(I)I"⟩, prog_2_method_11_code, 2, (some FieldType.int))
theorem okM_F_howMany : okM Y_F_howMany 1 := ⟨mw_311, mw_23, ⟨by decide, by decide⟩, by decide +kernel, by decide +kernel⟩
abbrev Y_F_isTakenAhead : Yt := (⟨"InTraysPurgatory$Floor", "isTakenAhead", "(II)Z"⟩, prog_2_method_16_code, 4, (some FieldType.boolean))
theorem okM_F_isTakenAhead : okM Y_F_isTakenAhead 2 := ⟨mw_373, mw_23, ⟨by decide, by decide⟩, by decide +kernel, by decide +kernel⟩
abbrev Y_F_loadOf : Yt := (⟨"InTraysPurgatory$Floor", "loadOf", "(I)I"⟩, prog_2_method_14_code, 2, (some FieldType.int))
theorem okM_F_loadOf : okM Y_F_loadOf 1 := ⟨mw_394, mw_23, ⟨by decide, by decide⟩, by decide +kernel, by decide +kernel⟩
abbrev Y_F_loseOrFind : Yt := (⟨"InTraysPurgatory$Floor", "loseOrFind", "(I)V"⟩, prog_2_method_6_code, 2, none)
theorem okM_F_loseOrFind : okM Y_F_loseOrFind 1 := ⟨mw_299, mw_23, ⟨by decide, by decide⟩, by decide +kernel, by decide +kernel⟩
abbrev Y_F_passOn : Yt := (⟨"InTraysPurgatory$Floor", "passOn", "(II)V"⟩, prog_2_method_21_code, 3, none)
theorem okM_F_passOn : okM Y_F_passOn 2 := ⟨mw_420, mw_23, ⟨by decide, by decide⟩, by decide +kernel, by decide +kernel⟩
abbrev Y_F_placeOf : Yt := (⟨"InTraysPurgatory$Floor", "placeOf", "(I)I"⟩, prog_2_method_9_code, 4, (some FieldType.int))
theorem okM_F_placeOf : okM Y_F_placeOf 1 := ⟨mw_471, mw_23, ⟨by decide, by decide⟩, by decide +kernel, by decide +kernel⟩
abbrev Y_F_takeOver : Yt := (⟨"InTraysPurgatory$Floor", "takeOver", "(LInTraysPurgatory$Floor;)V"⟩, prog_2_method_2_code, 2, none)
theorem okM_F_takeOver : okM Y_F_takeOver 1 := ⟨mw_283, mw_23, ⟨by decide, by decide⟩, by decide +kernel, by decide +kernel⟩
abbrev Y_F_waitingIn : Yt := (⟨"InTraysPurgatory$Floor", "waitingIn", "(I)I"⟩, prog_2_method_8_code, 4, (some FieldType.int))
theorem okM_F_waitingIn : okM Y_F_waitingIn 1 := ⟨mw_240, mw_23, ⟨by decide, by decide⟩, by decide +kernel, by decide +kernel⟩
abbrev Y_K_part : Yt := (⟨"InTraysPurgatory$Kinds", "part", "(II)I"⟩, prog_3_method_3_code, 2, (some FieldType.int))
theorem okM_K_part : okM Y_K_part 2 := ⟨mw_403, mw_28, ⟨by decide, by decide⟩, by decide +kernel, by decide +kernel⟩
abbrev Y_C_image : Yt := (⟨"InTraysPurgatory", "image", "()I"⟩, prog_1_method_66_code, 1, (some FieldType.int))
theorem okM_C_image : okM Y_C_image 0 := ⟨mw_585, mw_22, ⟨by decide, by decide⟩, by decide +kernel, by decide +kernel⟩
abbrev Y_C_officialOf : Yt := (⟨"InTraysPurgatory", "officialOf", "(II)I"⟩, prog_1_method_14_code, 3, (some FieldType.int))
theorem okM_C_officialOf : okM Y_C_officialOf 2 := ⟨mw_227, mw_22, ⟨by decide, by decide⟩, by decide +kernel, by decide +kernel⟩
abbrev Y_C_queue : Yt := (⟨"InTraysPurgatory", "queue", "(II)I"⟩, prog_1_method_52_code, 5, (some FieldType.int))
theorem okM_C_queue : okM Y_C_queue 2 := ⟨mw_558, mw_22, ⟨by decide, by decide⟩, by decide +kernel, by decide +kernel⟩
abbrev Y_C_restore : Yt := (⟨"InTraysPurgatory", "restore", "()I"⟩, prog_1_method_67_code, 1, (some FieldType.int))
theorem okM_C_restore : okM Y_C_restore 0 := ⟨mw_590, mw_22, ⟨by decide, by decide⟩, by decide +kernel, by decide +kernel⟩
abbrev Y_C_sheetComes : Yt := (⟨"InTraysPurgatory", "sheetComes", "(III)Z"⟩, prog_1_method_9_code, 4, (some FieldType.boolean))
theorem okM_C_sheetComes : okM Y_C_sheetComes 3 := ⟨mw_652, mw_22, ⟨by decide, by decide⟩, by decide +kernel, by decide +kernel⟩
abbrev Y_C_sheetIsMislaid : Yt := (⟨"InTraysPurgatory", "sheetIsMislaid", "(I)Z"⟩, prog_1_method_12_code, 2, (some FieldType.boolean))
theorem okM_C_sheetIsMislaid : okM Y_C_sheetIsMislaid 1 := ⟨mw_670, mw_22, ⟨by decide, by decide⟩, by decide +kernel, by decide +kernel⟩
abbrev Y_D_begin : Yt := (⟨"InTraysPurgatory$Mind", "begin", "(LInTraysPurgatory$Floor;)V"⟩, prog_4_method_2_code, 3, none)
theorem okM_D_begin : okM Y_D_begin 1 := ⟨mw_457, mw_24, ⟨by decide, by decide⟩, by decide +kernel, by decide +kernel⟩
abbrev Y_F_isWilling : Yt := (⟨"InTraysPurgatory$Floor", "isWilling", "(II)Z"⟩, prog_2_method_15_code, 3, (some FieldType.boolean))
theorem okM_F_isWilling : okM Y_F_isWilling 2 := ⟨mw_388, mw_23, ⟨by decide, by decide⟩, by decide +kernel, by decide +kernel⟩
abbrev Y_F_nextTaken : Yt := (⟨"InTraysPurgatory$Floor", "nextTaken", "(II)I"⟩, prog_2_method_17_code, 6, (some FieldType.int))
theorem okM_F_nextTaken : okM Y_F_nextTaken 2 := ⟨mw_367, mw_23, ⟨by decide, by decide⟩, by decide +kernel, by decide +kernel⟩
abbrev Y_F_sign : Yt := (⟨"InTraysPurgatory$Floor", "sign", "(II)V"⟩, prog_2_method_20_code, 4, none)
theorem okM_F_sign : okM Y_F_sign 2 := ⟨mw_400, mw_23, ⟨by decide, by decide⟩, by decide +kernel, by decide +kernel⟩
abbrev Y_P_giveBack : Yt := (⟨"InTraysPurgatory$Past", "giveBack", "(LInTraysPurgatory$Floor;)V"⟩, prog_5_method_3_code, 3, none)
theorem okM_P_giveBack : okM Y_P_giveBack 1 := ⟨mw_444, mw_25, ⟨by decide, by decide⟩, by decide +kernel, by decide +kernel⟩
abbrev Y_P_keep : Yt := (⟨"InTraysPurgatory$Past", "keep", "(LInTraysPurgatory$Floor;)V"⟩, prog_5_method_2_code, 3, none)
theorem okM_P_keep : okM Y_P_keep 1 := ⟨mw_277, mw_25, ⟨by decide, by decide⟩, by decide +kernel, by decide +kernel⟩
abbrev Y_C_back : Yt := (⟨"InTraysPurgatory", "back", "()I"⟩, prog_1_method_22_code, 1, (some FieldType.int))
theorem okM_C_back : okM Y_C_back 0 := ⟨mw_440, mw_22, ⟨by decide, by decide⟩, by decide +kernel, by decide +kernel⟩
abbrev Y_C_mislays : Yt := (⟨"InTraysPurgatory", "mislays", "(I)I"⟩, prog_1_method_19_code, 2, (some FieldType.int))
theorem okM_C_mislays : okM Y_C_mislays 1 := ⟨mw_293, mw_22, ⟨by decide, by decide⟩, by decide +kernel, by decide +kernel⟩
abbrev Y_C_moves : Yt := (⟨"InTraysPurgatory", "moves", "(II)I"⟩, prog_1_method_20_code, 3, (some FieldType.int))
theorem okM_C_moves : okM Y_C_moves 2 := ⟨mw_327, mw_22, ⟨by decide, by decide⟩, by decide +kernel, by decide +kernel⟩
abbrev Y_C_setsOne : Yt := (⟨"InTraysPurgatory", "setsOne", "([IIIII)I"⟩, prog_1_method_18_code, 7, (some FieldType.int))
theorem okM_C_setsOne : okM Y_C_setsOne 5 := ⟨mw_273, mw_22, ⟨by decide, by decide⟩, by decide +kernel, by decide +kernel⟩
abbrev Y_C_thinkWith : Yt := (⟨"InTraysPurgatory", "thinkWith", "(III)V"⟩, prog_1_method_75_code, 4, none)
theorem okM_C_thinkWith : okM Y_C_thinkWith 3 := ⟨mw_529, mw_22, ⟨by decide, by decide⟩, by decide +kernel, by decide +kernel⟩
abbrev Y_C_top : Yt := (⟨"InTraysPurgatory", "top", "(I)I"⟩, prog_1_method_51_code, 2, (some FieldType.int))
theorem okM_C_top : okM Y_C_top 1 := ⟨mw_553, mw_22, ⟨by decide, by decide⟩, by decide +kernel, by decide +kernel⟩
abbrev Y_C_who : Yt := (⟨"InTraysPurgatory", "who", "(I)I"⟩, prog_1_method_32_code, 4, (some FieldType.int))
theorem okM_C_who : okM Y_C_who 1 := ⟨mw_533, mw_22, ⟨by decide, by decide⟩, by decide +kernel, by decide +kernel⟩
abbrev Y_F_work : Yt := (⟨"InTraysPurgatory$Floor", "work", "(I)V"⟩, prog_2_method_19_code, 5, none)
theorem okM_F_work : okM Y_F_work 1 := ⟨mw_361, mw_23, ⟨by decide, by decide⟩, by decide +kernel, by decide +kernel⟩
abbrev Y_C_sets : Yt := (⟨"InTraysPurgatory", "sets", "(III)I"⟩, prog_1_method_17_code, 4, (some FieldType.int))
theorem okM_C_sets : okM Y_C_sets 3 := ⟨mw_269, mw_22, ⟨by decide, by decide⟩, by decide +kernel, by decide +kernel⟩
abbrev Y_F_live : Yt := (⟨"InTraysPurgatory$Floor", "live", "(I)V"⟩, prog_2_method_18_code, 4, none)
theorem okM_F_live : okM Y_F_live 1 := ⟨mw_341, mw_23, ⟨by decide, by decide⟩, by decide +kernel, by decide +kernel⟩
abbrev Y_C_bestTray : Yt := (⟨"InTraysPurgatory", "bestTray", "(II)I"⟩, prog_1_method_29_code, 6, (some FieldType.int))
theorem okM_C_bestTray : okM Y_C_bestTray 2 := ⟨mw_508, mw_22, ⟨by decide, by decide⟩, by decide +kernel, by decide +kernel⟩
abbrev Y_C_comesToPass : Yt := (⟨"InTraysPurgatory", "comesToPass", "(I)Z"⟩, prog_1_method_8_code, 5, (some FieldType.boolean))
theorem okM_C_comesToPass : okM Y_C_comesToPass 1 := ⟨mw_644, mw_22, ⟨by decide, by decide⟩, by decide +kernel, by decide +kernel⟩
abbrev Y_C_days : Yt := (⟨"InTraysPurgatory", "days", "(I)I"⟩, prog_1_method_21_code, 2, (some FieldType.int))
theorem okM_C_days : okM Y_C_days 1 := ⟨mw_332, mw_22, ⟨by decide, by decide⟩, by decide +kernel, by decide +kernel⟩
abbrev Y_C_thinkAhead : Yt := (⟨"InTraysPurgatory", "thinkAhead", "(I)V"⟩, prog_1_method_72_code, 2, none)
theorem okM_C_thinkAhead : okM Y_C_thinkAhead 1 := ⟨mw_453, mw_22, ⟨by decide, by decide⟩, by decide +kernel, by decide +kernel⟩
abbrev Y_C_wanted : Yt := (⟨"InTraysPurgatory", "wanted", "(III)I"⟩, prog_1_method_31_code, 6, (some FieldType.int))
theorem okM_C_wanted : okM Y_C_wanted 3 := ⟨mw_519, mw_22, ⟨by decide, by decide⟩, by decide +kernel, by decide +kernel⟩
abbrev Y_C_all : Yt := (⟨"InTraysPurgatory", "all", "(I)I"⟩, prog_1_method_26_code, 2, (some FieldType.int))
theorem okM_C_all : okM Y_C_all 1 := ⟨mw_491, mw_22, ⟨by decide, by decide⟩, by decide +kernel, by decide +kernel⟩
abbrev Y_C_behind : Yt := (⟨"InTraysPurgatory", "behind", "(III)I"⟩, prog_1_method_23_code, 4, (some FieldType.int))
theorem okM_C_behind : okM Y_C_behind 3 := ⟨mw_449, mw_22, ⟨by decide, by decide⟩, by decide +kernel, by decide +kernel⟩
abbrev Y_C_busy : Yt := (⟨"InTraysPurgatory", "busy", "(II)I"⟩, prog_1_method_57_code, 3, (some FieldType.int))
theorem okM_C_busy : okM Y_C_busy 2 := ⟨mw_577, mw_22, ⟨by decide, by decide⟩, by decide +kernel, by decide +kernel⟩
abbrev Y_C_light : Yt := (⟨"InTraysPurgatory", "light", "()I"⟩, prog_1_method_54_code, 7, (some FieldType.int))
theorem okM_C_light : okM Y_C_light 0 := ⟨mw_564, mw_22, ⟨by decide, by decide⟩, by decide +kernel, by decide +kernel⟩
abbrev Y_C_office : Yt := (⟨"InTraysPurgatory", "office", "()I"⟩, prog_1_method_3_code, 4, (some FieldType.int))
theorem okM_C_office : okM Y_C_office 0 := ⟨mw_629, mw_22, ⟨by decide, by decide⟩, by decide +kernel, by decide +kernel⟩
abbrev Y_C_passed : Yt := (⟨"InTraysPurgatory", "passed", "(I)I"⟩, prog_1_method_58_code, 4, (some FieldType.int))
theorem okM_C_passed : okM Y_C_passed 1 := ⟨mw_581, mw_22, ⟨by decide, by decide⟩, by decide +kernel, by decide +kernel⟩
abbrev Y_C_rounds : Yt := (⟨"InTraysPurgatory", "rounds", "(I)I"⟩, prog_1_method_33_code, 4, (some FieldType.int))
theorem okM_C_rounds : okM Y_C_rounds 1 := ⟨mw_538, mw_22, ⟨by decide, by decide⟩, by decide +kernel, by decide +kernel⟩
abbrev Y_C_signed : Yt := (⟨"InTraysPurgatory", "signed", "(II)I"⟩, prog_1_method_25_code, 3, (some FieldType.int))
theorem okM_C_signed : okM Y_C_signed 2 := ⟨mw_487, mw_22, ⟨by decide, by decide⟩, by decide +kernel, by decide +kernel⟩
abbrev Y_C_then : Yt := (⟨"InTraysPurgatory", "then", "(III)I"⟩, prog_1_method_24_code, 4, (some FieldType.int))
theorem okM_C_then : okM Y_C_then 3 := ⟨mw_475, mw_22, ⟨by decide, by decide⟩, by decide +kernel, by decide +kernel⟩
abbrev Y_L_tell : Yt := (⟨"InTraysPurgatoryLaw", "tell", "(LInTraysPurgatory;[I)I"⟩, method_4_code, 6, (some FieldType.int))
theorem okM_L_tell : okM Y_L_tell 2 := ⟨mw_621, mw_21, ⟨by decide, by decide⟩, by decide +kernel, by decide +kernel⟩
abbrev Y_L_sheet : Yt := (⟨"InTraysPurgatoryLaw", "sheet", "(LInTraysPurgatory;III)I"⟩, method_5_code, 4, (some FieldType.int))
theorem okM_L_sheet : okM Y_L_sheet 4 := ⟨mw_618, mw_21, ⟨by decide, by decide⟩, by decide +kernel, by decide +kernel⟩
abbrev Y_L_office : Yt := (⟨"InTraysPurgatoryLaw", "office", "(LInTraysPurgatory;[II)V"⟩, method_6_code, 5, none)
theorem okM_L_office : okM Y_L_office 3 := ⟨mw_615, mw_21, ⟨by decide, by decide⟩, by decide +kernel, by decide +kernel⟩
-- fields
theorem lk_C_10_3 : lk "InTraysPurgatory" 10 3 0 (.object "InTraysPurgatory$Floor") := lk_of "InTraysPurgatory" okC3 (by decide) rfl rfl mw_182 (Or.inl rfl)
theorem lk_C_101_1 : lk "InTraysPurgatory" 101 1 12 .int := lk_of "InTraysPurgatory$Mind" okC1 (by decide) rfl rfl mw_86 (Or.inr mw_87)
theorem lk_C_114_1 : lk "InTraysPurgatory" 114 1 11 .int := lk_of "InTraysPurgatory$Mind" okC1 (by decide) rfl rfl mw_83 (Or.inr mw_81)
theorem lk_C_121_1 : lk "InTraysPurgatory" 121 1 0 (.array .int) := lk_of "InTraysPurgatory$Mind" okC1 (by decide) rfl rfl mw_45 (Or.inr mw_46)
theorem lk_C_124_1 : lk "InTraysPurgatory" 124 1 1 (.array .int) := lk_of "InTraysPurgatory$Mind" okC1 (by decide) rfl rfl mw_49 (Or.inr mw_50)
theorem lk_C_127_1 : lk "InTraysPurgatory" 127 1 3 (.array .int) := lk_of "InTraysPurgatory$Mind" okC1 (by decide) rfl rfl mw_57 (Or.inr mw_58)
theorem lk_C_133_1 : lk "InTraysPurgatory" 133 1 6 (.array .int) := lk_of "InTraysPurgatory$Mind" okC1 (by decide) rfl rfl mw_67 (Or.inr mw_66)
theorem lk_C_139_0 : lk "InTraysPurgatory" 139 0 0 (.array .int) := lk_of "InTraysPurgatory$Floor" okC0 (by decide) rfl rfl mw_47 (Or.inl rfl)
theorem lk_C_140_0 : lk "InTraysPurgatory" 140 0 1 (.array .int) := lk_of "InTraysPurgatory$Floor" okC0 (by decide) rfl rfl mw_51 (Or.inl rfl)
theorem lk_C_141_0 : lk "InTraysPurgatory" 141 0 2 (.array .int) := lk_of "InTraysPurgatory$Floor" okC0 (by decide) rfl rfl mw_53 (Or.inl rfl)
theorem lk_C_144_0 : lk "InTraysPurgatory" 144 0 3 (.array .int) := lk_of "InTraysPurgatory$Floor" okC0 (by decide) rfl rfl mw_59 (Or.inl rfl)
theorem lk_C_149_0 : lk "InTraysPurgatory" 149 0 4 (.array .int) := lk_of "InTraysPurgatory$Floor" okC0 (by decide) rfl rfl mw_61 (Or.inl rfl)
theorem lk_C_152_0 : lk "InTraysPurgatory" 152 0 5 (.array .int) := lk_of "InTraysPurgatory$Floor" okC0 (by decide) rfl rfl mw_63 (Or.inl rfl)
theorem lk_C_155_0 : lk "InTraysPurgatory" 155 0 6 (.array .int) := lk_of "InTraysPurgatory$Floor" okC0 (by decide) rfl rfl mw_68 (Or.inl rfl)
theorem lk_C_156_0 : lk "InTraysPurgatory" 156 0 7 (.array .int) := lk_of "InTraysPurgatory$Floor" okC0 (by decide) rfl rfl mw_70 (Or.inl rfl)
theorem lk_C_159_0 : lk "InTraysPurgatory" 159 0 8 (.array .int) := lk_of "InTraysPurgatory$Floor" okC0 (by decide) rfl rfl mw_74 (Or.inl rfl)
theorem lk_C_174_0 : lk "InTraysPurgatory" 174 0 11 .int := lk_of "InTraysPurgatory$Floor" okC0 (by decide) rfl rfl mw_84 (Or.inl rfl)
theorem lk_C_19_3 : lk "InTraysPurgatory" 19 3 1 (.object "InTraysPurgatory$Mind") := lk_of "InTraysPurgatory" okC3 (by decide) rfl rfl mw_183 (Or.inl rfl)
theorem lk_C_191_0 : lk "InTraysPurgatory" 191 0 12 .int := lk_of "InTraysPurgatory$Floor" okC0 (by decide) rfl rfl mw_88 (Or.inl rfl)
theorem lk_C_193_2 : lk "InTraysPurgatory" 193 2 2 .int := lk_of "InTraysPurgatory$Past" okC2 (by decide) rfl rfl mw_174 (Or.inl rfl)
theorem lk_C_202_1 : lk "InTraysPurgatory" 202 1 8 (.array .int) := lk_of "InTraysPurgatory$Mind" okC1 (by decide) rfl rfl mw_75 (Or.inr mw_76)
theorem lk_C_203_1 : lk "InTraysPurgatory" 203 1 7 (.array .int) := lk_of "InTraysPurgatory$Mind" okC1 (by decide) rfl rfl mw_71 (Or.inr mw_72)
theorem lk_C_207_1 : lk "InTraysPurgatory" 207 1 2 (.array .int) := lk_of "InTraysPurgatory$Mind" okC1 (by decide) rfl rfl mw_54 (Or.inr mw_55)
theorem lk_C_210_1 : lk "InTraysPurgatory" 210 1 14 (.array .int) := lk_of "InTraysPurgatory$Mind" okC1 (by decide) rfl rfl mw_125 (Or.inl rfl)
theorem lk_C_23_3 : lk "InTraysPurgatory" 23 3 2 (.object "InTraysPurgatory$Floor") := lk_of "InTraysPurgatory" okC3 (by decide) rfl rfl mw_184 (Or.inl rfl)
theorem lk_C_250_1 : lk "InTraysPurgatory" 250 1 16 (.array .int) := lk_of "InTraysPurgatory$Mind" okC1 (by decide) rfl rfl mw_129 (Or.inl rfl)
theorem lk_C_271_3 : lk "InTraysPurgatory" 271 3 8 .int := lk_of "InTraysPurgatory" okC3 (by decide) rfl rfl mw_190 (Or.inl rfl)
theorem lk_C_29_3 : lk "InTraysPurgatory" 29 3 4 (.object "InTraysPurgatory$Past") := lk_of "InTraysPurgatory" okC3 (by decide) rfl rfl mw_186 (Or.inl rfl)
theorem lk_C_308_0 : lk "InTraysPurgatory" 308 0 10 .int := lk_of "InTraysPurgatory$Floor" okC0 (by decide) rfl rfl mw_79 (Or.inl rfl)
theorem lk_C_326_1 : lk "InTraysPurgatory" 326 1 17 (.array .int) := lk_of "InTraysPurgatory$Mind" okC1 (by decide) rfl rfl mw_131 (Or.inl rfl)
theorem lk_C_329_1 : lk "InTraysPurgatory" 329 1 15 (.array .int) := lk_of "InTraysPurgatory$Mind" okC1 (by decide) rfl rfl mw_127 (Or.inl rfl)
theorem lk_C_33_3 : lk "InTraysPurgatory" 33 3 5 (.array .int) := lk_of "InTraysPurgatory" okC3 (by decide) rfl rfl mw_187 (Or.inl rfl)
theorem lk_C_349_3 : lk "InTraysPurgatory" 349 3 3 .boolean := lk_of "InTraysPurgatory" okC3 (by decide) rfl rfl mw_185 (Or.inl rfl)
theorem lk_C_40_3 : lk "InTraysPurgatory" 40 3 9 (.array .int) := lk_of "InTraysPurgatory" okC3 (by decide) rfl rfl mw_191 (Or.inl rfl)
theorem lk_C_43_3 : lk "InTraysPurgatory" 43 3 10 (.array .int) := lk_of "InTraysPurgatory" okC3 (by decide) rfl rfl mw_192 (Or.inl rfl)
theorem lk_C_56_3 : lk "InTraysPurgatory" 56 3 6 .int := lk_of "InTraysPurgatory" okC3 (by decide) rfl rfl mw_188 (Or.inl rfl)
theorem lk_F_15_0 : lk "InTraysPurgatory$Floor" 15 0 1 (.array .int) := lk_of "InTraysPurgatory$Floor" okC0 (by decide) rfl rfl mw_48 (Or.inl rfl)
theorem lk_F_15_1 : lk "InTraysPurgatory$Floor" 15 1 1 (.array .int) := lk_of "InTraysPurgatory$Floor" okC1 (by decide) rfl rfl mw_48 (Or.inl rfl)
theorem lkf_F_15 {f : Nat} (_ : isFl f) : lk "InTraysPurgatory$Floor" 15 (fci f) 1 (.array .int) := by
  unfold fci; split
  · exact lk_F_15_1
  · exact lk_F_15_0
theorem lk_F_18_0 : lk "InTraysPurgatory$Floor" 18 0 2 (.array .int) := lk_of "InTraysPurgatory$Floor" okC0 (by decide) rfl rfl mw_52 (Or.inl rfl)
theorem lk_F_18_1 : lk "InTraysPurgatory$Floor" 18 1 2 (.array .int) := lk_of "InTraysPurgatory$Floor" okC1 (by decide) rfl rfl mw_52 (Or.inl rfl)
theorem lkf_F_18 {f : Nat} (_ : isFl f) : lk "InTraysPurgatory$Floor" 18 (fci f) 2 (.array .int) := by
  unfold fci; split
  · exact lk_F_18_1
  · exact lk_F_18_0
theorem lk_F_21_0 : lk "InTraysPurgatory$Floor" 21 0 3 (.array .int) := lk_of "InTraysPurgatory$Floor" okC0 (by decide) rfl rfl mw_56 (Or.inl rfl)
theorem lk_F_21_1 : lk "InTraysPurgatory$Floor" 21 1 3 (.array .int) := lk_of "InTraysPurgatory$Floor" okC1 (by decide) rfl rfl mw_56 (Or.inl rfl)
theorem lkf_F_21 {f : Nat} (_ : isFl f) : lk "InTraysPurgatory$Floor" 21 (fci f) 3 (.array .int) := by
  unfold fci; split
  · exact lk_F_21_1
  · exact lk_F_21_0
theorem lk_F_24_0 : lk "InTraysPurgatory$Floor" 24 0 4 (.array .int) := lk_of "InTraysPurgatory$Floor" okC0 (by decide) rfl rfl mw_60 (Or.inl rfl)
theorem lk_F_24_1 : lk "InTraysPurgatory$Floor" 24 1 4 (.array .int) := lk_of "InTraysPurgatory$Floor" okC1 (by decide) rfl rfl mw_60 (Or.inl rfl)
theorem lkf_F_24 {f : Nat} (_ : isFl f) : lk "InTraysPurgatory$Floor" 24 (fci f) 4 (.array .int) := by
  unfold fci; split
  · exact lk_F_24_1
  · exact lk_F_24_0
theorem lk_F_27_0 : lk "InTraysPurgatory$Floor" 27 0 5 (.array .int) := lk_of "InTraysPurgatory$Floor" okC0 (by decide) rfl rfl mw_62 (Or.inl rfl)
theorem lk_F_27_1 : lk "InTraysPurgatory$Floor" 27 1 5 (.array .int) := lk_of "InTraysPurgatory$Floor" okC1 (by decide) rfl rfl mw_62 (Or.inl rfl)
theorem lkf_F_27 {f : Nat} (_ : isFl f) : lk "InTraysPurgatory$Floor" 27 (fci f) 5 (.array .int) := by
  unfold fci; split
  · exact lk_F_27_1
  · exact lk_F_27_0
theorem lk_F_30_0 : lk "InTraysPurgatory$Floor" 30 0 6 (.array .int) := lk_of "InTraysPurgatory$Floor" okC0 (by decide) rfl rfl mw_64 (Or.inl rfl)
theorem lk_F_30_1 : lk "InTraysPurgatory$Floor" 30 1 6 (.array .int) := lk_of "InTraysPurgatory$Floor" okC1 (by decide) rfl rfl mw_64 (Or.inl rfl)
theorem lkf_F_30 {f : Nat} (_ : isFl f) : lk "InTraysPurgatory$Floor" 30 (fci f) 6 (.array .int) := by
  unfold fci; split
  · exact lk_F_30_1
  · exact lk_F_30_0
theorem lk_F_33_0 : lk "InTraysPurgatory$Floor" 33 0 7 (.array .int) := lk_of "InTraysPurgatory$Floor" okC0 (by decide) rfl rfl mw_69 (Or.inl rfl)
theorem lk_F_33_1 : lk "InTraysPurgatory$Floor" 33 1 7 (.array .int) := lk_of "InTraysPurgatory$Floor" okC1 (by decide) rfl rfl mw_69 (Or.inl rfl)
theorem lkf_F_33 {f : Nat} (_ : isFl f) : lk "InTraysPurgatory$Floor" 33 (fci f) 7 (.array .int) := by
  unfold fci; split
  · exact lk_F_33_1
  · exact lk_F_33_0
theorem lk_F_36_0 : lk "InTraysPurgatory$Floor" 36 0 8 (.array .int) := lk_of "InTraysPurgatory$Floor" okC0 (by decide) rfl rfl mw_73 (Or.inl rfl)
theorem lk_F_36_1 : lk "InTraysPurgatory$Floor" 36 1 8 (.array .int) := lk_of "InTraysPurgatory$Floor" okC1 (by decide) rfl rfl mw_73 (Or.inl rfl)
theorem lkf_F_36 {f : Nat} (_ : isFl f) : lk "InTraysPurgatory$Floor" 36 (fci f) 8 (.array .int) := by
  unfold fci; split
  · exact lk_F_36_1
  · exact lk_F_36_0
theorem lk_F_39_0 : lk "InTraysPurgatory$Floor" 39 0 9 (.array .int) := lk_of "InTraysPurgatory$Floor" okC0 (by decide) rfl rfl mw_77 (Or.inl rfl)
theorem lk_F_39_1 : lk "InTraysPurgatory$Floor" 39 1 9 (.array .int) := lk_of "InTraysPurgatory$Floor" okC1 (by decide) rfl rfl mw_77 (Or.inl rfl)
theorem lkf_F_39 {f : Nat} (_ : isFl f) : lk "InTraysPurgatory$Floor" 39 (fci f) 9 (.array .int) := by
  unfold fci; split
  · exact lk_F_39_1
  · exact lk_F_39_0
theorem lk_F_48_0 : lk "InTraysPurgatory$Floor" 48 0 10 .int := lk_of "InTraysPurgatory$Floor" okC0 (by decide) rfl rfl mw_78 (Or.inl rfl)
theorem lk_F_48_1 : lk "InTraysPurgatory$Floor" 48 1 10 .int := lk_of "InTraysPurgatory$Floor" okC1 (by decide) rfl rfl mw_78 (Or.inl rfl)
theorem lkf_F_48 {f : Nat} (_ : isFl f) : lk "InTraysPurgatory$Floor" 48 (fci f) 10 .int := by
  unfold fci; split
  · exact lk_F_48_1
  · exact lk_F_48_0
theorem lk_F_52_0 : lk "InTraysPurgatory$Floor" 52 0 11 .int := lk_of "InTraysPurgatory$Floor" okC0 (by decide) rfl rfl mw_82 (Or.inl rfl)
theorem lk_F_52_1 : lk "InTraysPurgatory$Floor" 52 1 11 .int := lk_of "InTraysPurgatory$Floor" okC1 (by decide) rfl rfl mw_82 (Or.inl rfl)
theorem lkf_F_52 {f : Nat} (_ : isFl f) : lk "InTraysPurgatory$Floor" 52 (fci f) 11 .int := by
  unfold fci; split
  · exact lk_F_52_1
  · exact lk_F_52_0
theorem lk_F_55_0 : lk "InTraysPurgatory$Floor" 55 0 12 .int := lk_of "InTraysPurgatory$Floor" okC0 (by decide) rfl rfl mw_85 (Or.inl rfl)
theorem lk_F_55_1 : lk "InTraysPurgatory$Floor" 55 1 12 .int := lk_of "InTraysPurgatory$Floor" okC1 (by decide) rfl rfl mw_85 (Or.inl rfl)
theorem lkf_F_55 {f : Nat} (_ : isFl f) : lk "InTraysPurgatory$Floor" 55 (fci f) 12 .int := by
  unfold fci; split
  · exact lk_F_55_1
  · exact lk_F_55_0
theorem lk_F_9_0 : lk "InTraysPurgatory$Floor" 9 0 0 (.array .int) := lk_of "InTraysPurgatory$Floor" okC0 (by decide) rfl rfl mw_44 (Or.inl rfl)
theorem lk_F_9_1 : lk "InTraysPurgatory$Floor" 9 1 0 (.array .int) := lk_of "InTraysPurgatory$Floor" okC1 (by decide) rfl rfl mw_44 (Or.inl rfl)
theorem lkf_F_9 {f : Nat} (_ : isFl f) : lk "InTraysPurgatory$Floor" 9 (fci f) 0 (.array .int) := by
  unfold fci; split
  · exact lk_F_9_1
  · exact lk_F_9_0
theorem lk_D_15_1 : lk "InTraysPurgatory$Mind" 15 1 15 (.array .int) := lk_of "InTraysPurgatory$Mind" okC1 (by decide) rfl rfl mw_126 (Or.inl rfl)
theorem lk_D_18_1 : lk "InTraysPurgatory$Mind" 18 1 16 (.array .int) := lk_of "InTraysPurgatory$Mind" okC1 (by decide) rfl rfl mw_128 (Or.inl rfl)
theorem lk_D_21_1 : lk "InTraysPurgatory$Mind" 21 1 17 (.array .int) := lk_of "InTraysPurgatory$Mind" okC1 (by decide) rfl rfl mw_130 (Or.inl rfl)
theorem lk_D_24_1 : lk "InTraysPurgatory$Mind" 24 1 18 .int := lk_of "InTraysPurgatory$Mind" okC1 (by decide) rfl rfl mw_132 (Or.inl rfl)
theorem lk_D_28_1 : lk "InTraysPurgatory$Mind" 28 1 19 .int := lk_of "InTraysPurgatory$Mind" okC1 (by decide) rfl rfl mw_133 (Or.inl rfl)
theorem lk_D_35_1 : lk "InTraysPurgatory$Mind" 35 1 13 .int := lk_of "InTraysPurgatory$Mind" okC1 (by decide) rfl rfl mw_123 (Or.inl rfl)
theorem lk_D_38_1 : lk "InTraysPurgatory$Mind" 38 1 11 .int := lk_of "InTraysPurgatory$Mind" okC1 (by decide) rfl rfl mw_80 (Or.inr mw_81)
theorem lk_D_41_1 : lk "InTraysPurgatory$Mind" 41 1 6 (.array .int) := lk_of "InTraysPurgatory$Mind" okC1 (by decide) rfl rfl mw_65 (Or.inr mw_66)
theorem lk_D_9_1 : lk "InTraysPurgatory$Mind" 9 1 14 (.array .int) := lk_of "InTraysPurgatory$Mind" okC1 (by decide) rfl rfl mw_124 (Or.inl rfl)
theorem lk_P_11_2 : lk "InTraysPurgatory$Past" 11 2 0 (.array (.object "InTraysPurgatory$Floor")) := lk_of "InTraysPurgatory$Past" okC2 (by decide) rfl rfl mw_171 (Or.inl rfl)
theorem lk_P_18_2 : lk "InTraysPurgatory$Past" 18 2 1 .int := lk_of "InTraysPurgatory$Past" okC2 (by decide) rfl rfl mw_172 (Or.inl rfl)
theorem lk_P_26_2 : lk "InTraysPurgatory$Past" 26 2 2 .int := lk_of "InTraysPurgatory$Past" okC2 (by decide) rfl rfl mw_173 (Or.inl rfl)
-- call sites
theorem ss_C_104 : siteS "InTraysPurgatory" 104 2 Y_C_isRoomForDays := ⟨mw_333, mw_334, okM_C_isRoomForDays⟩
theorem sv_C_107_D : siteV "InTraysPurgatory" 107 "InTraysPurgatory$Mind" 1 Y_F_live ∨ siteU "InTraysPurgatory" 107 "InTraysPurgatory$Mind" 1 Y_F_live := Or.inr ⟨⟨"InTraysPurgatory$Mind", "live", "(I)V"⟩, Y_F_live, rfl, rfl, mw_462, mw_463, mw_465, mw_337, mw_337, okM_F_live, okM_F_live⟩
theorem ss_C_111 : siteS "InTraysPurgatory" 111 1 Y_C_isOfficial := ⟨mw_228, mw_229, okM_C_isOfficial⟩
theorem sv_C_117_D : siteV "InTraysPurgatory" 117 "InTraysPurgatory$Mind" 3 Y_F_add ∨ siteU "InTraysPurgatory" 117 "InTraysPurgatory$Mind" 3 Y_F_add := Or.inr ⟨⟨"InTraysPurgatory$Mind", "add", "(III)I"⟩, Y_F_add, rfl, rfl, mw_653, mw_654, mw_656, mw_657, mw_657, okM_F_add, okM_F_add⟩
theorem sv_C_130_D : siteV "InTraysPurgatory" 130 "InTraysPurgatory$Mind" 1 Y_F_has ∨ siteU "InTraysPurgatory" 130 "InTraysPurgatory$Mind" 1 Y_F_has := Or.inr ⟨⟨"InTraysPurgatory$Mind", "has", "(I)Z"⟩, Y_F_has, rfl, rfl, mw_671, mw_672, mw_674, mw_252, mw_252, okM_F_has, okM_F_has⟩
theorem sv_C_136_D : siteV "InTraysPurgatory" 136 "InTraysPurgatory$Mind" 1 Y_F_loseOrFind ∨ siteU "InTraysPurgatory" 136 "InTraysPurgatory$Mind" 1 Y_F_loseOrFind := Or.inr ⟨⟨"InTraysPurgatory$Mind", "loseOrFind", "(I)V"⟩, Y_F_loseOrFind, rfl, rfl, mw_570, mw_571, mw_573, mw_295, mw_295, okM_F_loseOrFind, okM_F_loseOrFind⟩
theorem sv_C_145_F : siteV "InTraysPurgatory" 145 "InTraysPurgatory$Floor" 1 Y_F_waitingIn ∨ siteU "InTraysPurgatory" 145 "InTraysPurgatory$Floor" 1 Y_F_waitingIn := Or.inl ⟨mw_235, mw_237, mw_236, rfl, okM_F_waitingIn⟩
theorem sv_C_148_F : siteV "InTraysPurgatory" 148 "InTraysPurgatory$Floor" 1 Y_F_has ∨ siteU "InTraysPurgatory" 148 "InTraysPurgatory$Floor" 1 Y_F_has := Or.inl ⟨mw_251, mw_253, mw_252, rfl, okM_F_has⟩
theorem ss_C_162 : siteS "InTraysPurgatory" 162 2 Y_K_weight := ⟨mw_257, mw_258, okM_K_weight⟩
theorem ss_C_168 : siteS "InTraysPurgatory" 168 2 Y_K_rings := ⟨mw_260, mw_261, okM_K_rings⟩
theorem ss_C_171 : siteS "InTraysPurgatory" 171 1 Y_K_haste := ⟨mw_263, mw_264, okM_K_haste⟩
theorem sv_C_176_C : siteV "InTraysPurgatory" 176 "InTraysPurgatory" 5 Y_C_setsOne ∨ siteU "InTraysPurgatory" 176 "InTraysPurgatory" 5 Y_C_setsOne := Or.inl ⟨mw_270, mw_4, mw_272, rfl, okM_C_setsOne⟩
theorem sv_C_180_P : siteV "InTraysPurgatory" 180 "InTraysPurgatory$Past" 1 Y_P_keep ∨ siteU "InTraysPurgatory" 180 "InTraysPurgatory$Past" 1 Y_P_keep := Or.inl ⟨mw_274, mw_276, mw_275, rfl, okM_P_keep⟩
theorem sv_C_183_F : siteV "InTraysPurgatory" 183 "InTraysPurgatory$Floor" 1 Y_F_loseOrFind ∨ siteU "InTraysPurgatory" 183 "InTraysPurgatory$Floor" 1 Y_F_loseOrFind := Or.inl ⟨mw_294, mw_296, mw_295, rfl, okM_F_loseOrFind⟩
theorem sv_C_184_F : siteV "InTraysPurgatory" 184 "InTraysPurgatory$Floor" 1 Y_F_howMany ∨ siteU "InTraysPurgatory" 184 "InTraysPurgatory$Floor" 1 Y_F_howMany := Or.inl ⟨mw_306, mw_308, mw_307, rfl, okM_F_howMany⟩
theorem sv_C_187_F : siteV "InTraysPurgatory" 187 "InTraysPurgatory$Floor" 2 Y_F_putBehind ∨ siteU "InTraysPurgatory" 187 "InTraysPurgatory$Floor" 2 Y_F_putBehind := Or.inl ⟨mw_328, mw_302, mw_301, rfl, okM_F_putBehind⟩
theorem sv_C_192_F : siteV "InTraysPurgatory" 192 "InTraysPurgatory$Floor" 1 Y_F_live ∨ siteU "InTraysPurgatory" 192 "InTraysPurgatory$Floor" 1 Y_F_live := Or.inl ⟨mw_336, mw_338, mw_337, rfl, okM_F_live⟩
theorem sv_C_196_P : siteV "InTraysPurgatory" 196 "InTraysPurgatory$Past" 1 Y_P_giveBack ∨ siteU "InTraysPurgatory" 196 "InTraysPurgatory$Past" 1 Y_P_giveBack := Or.inl ⟨mw_441, mw_443, mw_442, rfl, okM_P_giveBack⟩
theorem sv_C_199_C : siteV "InTraysPurgatory" 199 "InTraysPurgatory" 1 Y_C_thinkAhead ∨ siteU "InTraysPurgatory" 199 "InTraysPurgatory" 1 Y_C_thinkAhead := Or.inl ⟨mw_450, mw_8, mw_452, rfl, okM_C_thinkAhead⟩
theorem sv_C_204_D : siteV "InTraysPurgatory" 204 "InTraysPurgatory$Mind" 1 Y_F_placeOf ∨ siteU "InTraysPurgatory" 204 "InTraysPurgatory$Mind" 1 Y_F_placeOf := Or.inr ⟨⟨"InTraysPurgatory$Mind", "placeOf", "(I)I"⟩, Y_F_placeOf, rfl, rfl, mw_466, mw_467, mw_469, mw_470, mw_470, okM_F_placeOf, okM_F_placeOf⟩
theorem sv_C_208_D : siteV "InTraysPurgatory" 208 "InTraysPurgatory$Mind" 1 Y_F_waitingIn ∨ siteU "InTraysPurgatory" 208 "InTraysPurgatory$Mind" 1 Y_F_waitingIn := Or.inr ⟨⟨"InTraysPurgatory$Mind", "waitingIn", "(I)I"⟩, Y_F_waitingIn, rfl, rfl, mw_476, mw_477, mw_479, mw_236, mw_236, okM_F_waitingIn, okM_F_waitingIn⟩
theorem sv_C_209_D : siteV "InTraysPurgatory" 209 "InTraysPurgatory$Mind" 1 Y_F_howMany ∨ siteU "InTraysPurgatory" 209 "InTraysPurgatory$Mind" 1 Y_F_howMany := Or.inr ⟨⟨"InTraysPurgatory$Mind", "howMany", "(I)I"⟩, Y_F_howMany, rfl, rfl, mw_480, mw_481, mw_483, mw_307, mw_307, okM_F_howMany, okM_F_howMany⟩
theorem sv_C_213_C : siteV "InTraysPurgatory" 213 "InTraysPurgatory" 0 Y_C_firstSigned ∨ siteU "InTraysPurgatory" 213 "InTraysPurgatory" 0 Y_C_firstSigned := Or.inl ⟨mw_492, mw_9, mw_494, rfl, okM_C_firstSigned⟩
theorem sv_C_216_D : siteV "InTraysPurgatory" 216 "InTraysPurgatory$Mind" 1 Y_F_those ∨ siteU "InTraysPurgatory" 216 "InTraysPurgatory$Mind" 1 Y_F_those := Or.inr ⟨⟨"InTraysPurgatory$Mind", "those", "(I)I"⟩, Y_F_those, rfl, rfl, mw_496, mw_497, mw_499, mw_313, mw_313, okM_F_those, okM_F_those⟩
theorem sv_C_219_C : siteV "InTraysPurgatory" 219 "InTraysPurgatory" 0 Y_C_lastSignedOn ∨ siteU "InTraysPurgatory" 219 "InTraysPurgatory" 0 Y_C_lastSignedOn := Or.inl ⟨mw_500, mw_10, mw_502, rfl, okM_C_lastSignedOn⟩
theorem sv_C_227_D : siteV "InTraysPurgatory" 227 "InTraysPurgatory$Mind" 2 Y_F_putBehind ∨ siteU "InTraysPurgatory" 227 "InTraysPurgatory$Mind" 2 Y_F_putBehind := Or.inr ⟨⟨"InTraysPurgatory$Mind", "putBehind", "(II)V"⟩, Y_F_putBehind, rfl, rfl, mw_509, mw_510, mw_512, mw_301, mw_301, okM_F_putBehind, okM_F_putBehind⟩
theorem ss_C_228 : siteS "InTraysPurgatory" 228 2 Y_C_isSooner := ⟨mw_513, mw_514, okM_C_isSooner⟩
theorem sv_C_231_C : siteV "InTraysPurgatory" 231 "InTraysPurgatory" 0 Y_C_noteAsItIs ∨ siteU "InTraysPurgatory" 231 "InTraysPurgatory" 0 Y_C_noteAsItIs := Or.inl ⟨mw_565, mw_12, mw_567, rfl, okM_C_noteAsItIs⟩
theorem ss_C_237 : siteS "InTraysPurgatory" 237 1 Y_C_leastOf := ⟨mw_520, mw_521, okM_C_leastOf⟩
theorem ss_C_240 : siteS "InTraysPurgatory" 240 1 Y_C_mostOf := ⟨mw_523, mw_524, okM_C_mostOf⟩
theorem sv_C_243_C : siteV "InTraysPurgatory" 243 "InTraysPurgatory" 3 Y_C_thinkWith ∨ siteU "InTraysPurgatory" 243 "InTraysPurgatory" 3 Y_C_thinkWith := Or.inl ⟨mw_526, mw_11, mw_528, rfl, okM_C_thinkWith⟩
theorem sv_C_247_F : siteV "InTraysPurgatory" 247 "InTraysPurgatory$Floor" 2 Y_F_isWilling ∨ siteU "InTraysPurgatory" 247 "InTraysPurgatory$Floor" 2 Y_F_isWilling := Or.inl ⟨mw_534, mw_385, mw_384, rfl, okM_F_isWilling⟩
theorem sv_C_253_F : siteV "InTraysPurgatory" 253 "InTraysPurgatory$Floor" 0 Y_F_allBorne ∨ siteU "InTraysPurgatory" 253 "InTraysPurgatory$Floor" 0 Y_F_allBorne := Or.inl ⟨mw_543, mw_545, mw_544, rfl, okM_F_allBorne⟩
theorem sv_C_311_F : siteV "InTraysPurgatory" 311 "InTraysPurgatory$Floor" 2 Y_F_nextTaken ∨ siteU "InTraysPurgatory" 311 "InTraysPurgatory$Floor" 2 Y_F_nextTaken := Or.inl ⟨mw_554, mw_364, mw_363, rfl, okM_F_nextTaken⟩
theorem sv_C_314_F : siteV "InTraysPurgatory" 314 "InTraysPurgatory$Floor" 2 Y_F_liesIn ∨ siteU "InTraysPurgatory" 314 "InTraysPurgatory$Floor" 2 Y_F_liesIn := Or.inl ⟨mw_559, mw_243, mw_242, rfl, okM_F_liesIn⟩
theorem sv_C_317_F : siteV "InTraysPurgatory" 317 "InTraysPurgatory$Floor" 2 Y_F_isTakenAhead ∨ siteU "InTraysPurgatory" 317 "InTraysPurgatory$Floor" 2 Y_F_isTakenAhead := Or.inl ⟨mw_560, mw_370, mw_369, rfl, okM_F_isTakenAhead⟩
theorem sv_C_323_F : siteV "InTraysPurgatory" 323 "InTraysPurgatory$Floor" 0 Y_F_allMinutes ∨ siteU "InTraysPurgatory" 323 "InTraysPurgatory$Floor" 0 Y_F_allMinutes := Or.inl ⟨mw_600, mw_602, mw_601, rfl, okM_F_allMinutes⟩
theorem sv_C_353_F : siteV "InTraysPurgatory" 353 "InTraysPurgatory$Floor" 1 Y_F_those ∨ siteU "InTraysPurgatory" 353 "InTraysPurgatory$Floor" 1 Y_F_those := Or.inl ⟨mw_599, mw_314, mw_313, rfl, okM_F_those⟩
theorem sv_C_52_C : siteV "InTraysPurgatory" 52 "InTraysPurgatory" 1 Y_C_refuse ∨ siteU "InTraysPurgatory" 52 "InTraysPurgatory" 1 Y_C_refuse := Or.inl ⟨mw_231, mw_3, mw_233, rfl, okM_C_refuse⟩
theorem sv_C_60_C : siteV "InTraysPurgatory" 60 "InTraysPurgatory" 0 Y_C_firstWrongLetter ∨ siteU "InTraysPurgatory" 60 "InTraysPurgatory" 0 Y_C_firstWrongLetter := Or.inl ⟨mw_630, mw_13, mw_632, rfl, okM_C_firstWrongLetter⟩
theorem sv_C_64_D : siteV "InTraysPurgatory" 64 "InTraysPurgatory$Mind" 1 Y_D_begin ∨ siteU "InTraysPurgatory" 64 "InTraysPurgatory$Mind" 1 Y_D_begin := Or.inl ⟨mw_454, mw_456, mw_455, rfl, okM_D_begin⟩
theorem sv_C_68_C : siteV "InTraysPurgatory" 68 "InTraysPurgatory" 1 Y_C_comesToPass ∨ siteU "InTraysPurgatory" 68 "InTraysPurgatory" 1 Y_C_comesToPass := Or.inl ⟨mw_641, mw_15, mw_643, rfl, okM_C_comesToPass⟩
theorem sv_C_72_C : siteV "InTraysPurgatory" 72 "InTraysPurgatory" 1 Y_C_letterAt ∨ siteU "InTraysPurgatory" 72 "InTraysPurgatory" 1 Y_C_letterAt := Or.inl ⟨mw_634, mw_14, mw_636, rfl, okM_C_letterAt⟩
theorem ss_C_75 : siteS "InTraysPurgatory" 75 1 Y_C_statementLength := ⟨mw_638, mw_639, okM_C_statementLength⟩
theorem sv_C_78_F : siteV "InTraysPurgatory" 78 "InTraysPurgatory$Floor" 1 Y_F_takeOver ∨ siteU "InTraysPurgatory" 78 "InTraysPurgatory$Floor" 1 Y_F_takeOver := Or.inl ⟨mw_586, mw_280, mw_279, rfl, okM_F_takeOver⟩
theorem sv_C_81_P : siteV "InTraysPurgatory" 81 "InTraysPurgatory$Past" 0 Y_P_forget ∨ siteU "InTraysPurgatory" 81 "InTraysPurgatory$Past" 0 Y_P_forget := Or.inl ⟨mw_591, mw_593, mw_592, rfl, okM_P_forget⟩
theorem sv_C_84_C : siteV "InTraysPurgatory" 84 "InTraysPurgatory" 1 Y_C_digitAt ∨ siteU "InTraysPurgatory" 84 "InTraysPurgatory" 1 Y_C_digitAt := Or.inl ⟨mw_645, mw_16, mw_647, rfl, okM_C_digitAt⟩
theorem sv_C_87_C : siteV "InTraysPurgatory" 87 "InTraysPurgatory" 3 Y_C_sheetComes ∨ siteU "InTraysPurgatory" 87 "InTraysPurgatory" 3 Y_C_sheetComes := Or.inl ⟨mw_649, mw_17, mw_651, rfl, okM_C_sheetComes⟩
theorem sv_C_91_C : siteV "InTraysPurgatory" 91 "InTraysPurgatory" 3 Y_C_officialBecomes ∨ siteU "InTraysPurgatory" 91 "InTraysPurgatory" 3 Y_C_officialBecomes := Or.inl ⟨mw_659, mw_18, mw_661, rfl, okM_C_officialBecomes⟩
theorem sv_C_94_C : siteV "InTraysPurgatory" 94 "InTraysPurgatory" 2 Y_C_officialMoves ∨ siteU "InTraysPurgatory" 94 "InTraysPurgatory" 2 Y_C_officialMoves := Or.inl ⟨mw_663, mw_19, mw_665, rfl, okM_C_officialMoves⟩
theorem sv_C_98_C : siteV "InTraysPurgatory" 98 "InTraysPurgatory" 1 Y_C_sheetIsMislaid ∨ siteU "InTraysPurgatory" 98 "InTraysPurgatory" 1 Y_C_sheetIsMislaid := Or.inl ⟨mw_667, mw_20, mw_669, rfl, okM_C_sheetIsMislaid⟩
theorem sv_F_100_F : siteV "InTraysPurgatory$Floor" 100 "InTraysPurgatory$Floor" 1 Y_F_work ∨ siteU "InTraysPurgatory$Floor" 100 "InTraysPurgatory$Floor" 1 Y_F_work := Or.inl ⟨mw_358, mw_5, mw_360, rfl, okM_F_work⟩
theorem sv_F_100_D : siteV "InTraysPurgatory$Floor" 100 "InTraysPurgatory$Mind" 1 Y_F_work ∨ siteU "InTraysPurgatory$Floor" 100 "InTraysPurgatory$Mind" 1 Y_F_work := Or.inr ⟨⟨"InTraysPurgatory$Floor", "work", "(I)V"⟩, Y_F_work, rfl, rfl, mw_358, mw_677, mw_0, mw_360, mw_360, okM_F_work, okM_F_work⟩
theorem sf_F_100 {f : Nat} (_ : isFl f) : siteV "InTraysPurgatory$Floor" 100 (fC f) 1 Y_F_work ∨ siteU "InTraysPurgatory$Floor" 100 (fC f) 1 Y_F_work := by
  by_cases e : f = 12
  · rw [show fC f = RX2 from if_pos e]
    exact sv_F_100_D
  · rw [show fC f = RX0 from if_neg e]
    exact sv_F_100_F
theorem sv_F_104_F : siteV "InTraysPurgatory$Floor" 104 "InTraysPurgatory$Floor" 2 Y_F_nextTaken ∨ siteU "InTraysPurgatory$Floor" 104 "InTraysPurgatory$Floor" 2 Y_F_nextTaken := Or.inl ⟨mw_362, mw_364, mw_363, rfl, okM_F_nextTaken⟩
theorem sv_F_104_D : siteV "InTraysPurgatory$Floor" 104 "InTraysPurgatory$Mind" 2 Y_F_nextTaken ∨ siteU "InTraysPurgatory$Floor" 104 "InTraysPurgatory$Mind" 2 Y_F_nextTaken := Or.inr ⟨⟨"InTraysPurgatory$Floor", "nextTaken", "(II)I"⟩, Y_F_nextTaken, rfl, rfl, mw_362, mw_365, mw_366, mw_363, mw_363, okM_F_nextTaken, okM_F_nextTaken⟩
theorem sf_F_104 {f : Nat} (_ : isFl f) : siteV "InTraysPurgatory$Floor" 104 (fC f) 2 Y_F_nextTaken ∨ siteU "InTraysPurgatory$Floor" 104 (fC f) 2 Y_F_nextTaken := by
  by_cases e : f = 12
  · rw [show fC f = RX2 from if_pos e]
    exact sv_F_104_D
  · rw [show fC f = RX0 from if_neg e]
    exact sv_F_104_F
theorem sv_F_107_F : siteV "InTraysPurgatory$Floor" 107 "InTraysPurgatory$Floor" 1 Y_F_noteBusy ∨ siteU "InTraysPurgatory$Floor" 107 "InTraysPurgatory$Floor" 1 Y_F_noteBusy := Or.inl ⟨mw_375, mw_377, mw_376, rfl, okM_F_noteBusy⟩
theorem sv_F_107_D : siteV "InTraysPurgatory$Floor" 107 "InTraysPurgatory$Mind" 1 Y_D_noteBusy ∨ siteU "InTraysPurgatory$Floor" 107 "InTraysPurgatory$Mind" 1 Y_D_noteBusy := Or.inr ⟨⟨"InTraysPurgatory$Floor", "noteBusy", "(I)V"⟩, Y_F_noteBusy, rfl, rfl, mw_375, mw_378, mw_379, mw_380, mw_376, okM_F_noteBusy, okM_D_noteBusy⟩
theorem sf_F_107 {f : Nat} (_ : isFl f) : siteV "InTraysPurgatory$Floor" 107 (fC f) 1 (vY f Y_D_noteBusy Y_F_noteBusy) ∨ siteU "InTraysPurgatory$Floor" 107 (fC f) 1 (vY f Y_D_noteBusy Y_F_noteBusy) := by
  by_cases e : f = 12
  · rw [show fC f = RX2 from if_pos e, show vY f Y_D_noteBusy Y_F_noteBusy = Y_D_noteBusy from if_pos e]
    exact sv_F_107_D
  · rw [show fC f = RX0 from if_neg e, show vY f Y_D_noteBusy Y_F_noteBusy = Y_F_noteBusy from if_neg e]
    exact sv_F_107_F
theorem sv_F_110_F : siteV "InTraysPurgatory$Floor" 110 "InTraysPurgatory$Floor" 2 Y_F_isWilling ∨ siteU "InTraysPurgatory$Floor" 110 "InTraysPurgatory$Floor" 2 Y_F_isWilling := Or.inl ⟨mw_383, mw_385, mw_384, rfl, okM_F_isWilling⟩
theorem sv_F_110_D : siteV "InTraysPurgatory$Floor" 110 "InTraysPurgatory$Mind" 2 Y_F_isWilling ∨ siteU "InTraysPurgatory$Floor" 110 "InTraysPurgatory$Mind" 2 Y_F_isWilling := Or.inr ⟨⟨"InTraysPurgatory$Floor", "isWilling", "(II)Z"⟩, Y_F_isWilling, rfl, rfl, mw_383, mw_386, mw_387, mw_384, mw_384, okM_F_isWilling, okM_F_isWilling⟩
theorem sf_F_110 {f : Nat} (_ : isFl f) : siteV "InTraysPurgatory$Floor" 110 (fC f) 2 Y_F_isWilling ∨ siteU "InTraysPurgatory$Floor" 110 (fC f) 2 Y_F_isWilling := by
  by_cases e : f = 12
  · rw [show fC f = RX2 from if_pos e]
    exact sv_F_110_D
  · rw [show fC f = RX0 from if_neg e]
    exact sv_F_110_F
theorem sv_F_113_F : siteV "InTraysPurgatory$Floor" 113 "InTraysPurgatory$Floor" 2 Y_F_sign ∨ siteU "InTraysPurgatory$Floor" 113 "InTraysPurgatory$Floor" 2 Y_F_sign := Or.inl ⟨mw_397, mw_6, mw_399, rfl, okM_F_sign⟩
theorem sv_F_113_D : siteV "InTraysPurgatory$Floor" 113 "InTraysPurgatory$Mind" 2 Y_F_sign ∨ siteU "InTraysPurgatory$Floor" 113 "InTraysPurgatory$Mind" 2 Y_F_sign := Or.inr ⟨⟨"InTraysPurgatory$Floor", "sign", "(II)V"⟩, Y_F_sign, rfl, rfl, mw_397, mw_678, mw_1, mw_399, mw_399, okM_F_sign, okM_F_sign⟩
theorem sf_F_113 {f : Nat} (_ : isFl f) : siteV "InTraysPurgatory$Floor" 113 (fC f) 2 Y_F_sign ∨ siteU "InTraysPurgatory$Floor" 113 (fC f) 2 Y_F_sign := by
  by_cases e : f = 12
  · rw [show fC f = RX2 from if_pos e]
    exact sv_F_113_D
  · rw [show fC f = RX0 from if_neg e]
    exact sv_F_113_F
theorem sv_F_116_F : siteV "InTraysPurgatory$Floor" 116 "InTraysPurgatory$Floor" 2 Y_F_passOn ∨ siteU "InTraysPurgatory$Floor" 116 "InTraysPurgatory$Floor" 2 Y_F_passOn := Or.inl ⟨mw_417, mw_7, mw_419, rfl, okM_F_passOn⟩
theorem sv_F_116_D : siteV "InTraysPurgatory$Floor" 116 "InTraysPurgatory$Mind" 2 Y_F_passOn ∨ siteU "InTraysPurgatory$Floor" 116 "InTraysPurgatory$Mind" 2 Y_F_passOn := Or.inr ⟨⟨"InTraysPurgatory$Floor", "passOn", "(II)V"⟩, Y_F_passOn, rfl, rfl, mw_417, mw_679, mw_2, mw_419, mw_419, okM_F_passOn, okM_F_passOn⟩
theorem sf_F_116 {f : Nat} (_ : isFl f) : siteV "InTraysPurgatory$Floor" 116 (fC f) 2 Y_F_passOn ∨ siteU "InTraysPurgatory$Floor" 116 (fC f) 2 Y_F_passOn := by
  by_cases e : f = 12
  · rw [show fC f = RX2 from if_pos e]
    exact sv_F_116_D
  · rw [show fC f = RX0 from if_neg e]
    exact sv_F_116_F
theorem ss_F_119 : siteS "InTraysPurgatory$Floor" 119 2 Y_K_part := ⟨mw_401, mw_402, okM_K_part⟩
theorem sv_F_130_F : siteV "InTraysPurgatory$Floor" 130 "InTraysPurgatory$Floor" 1 Y_F_noteSigned ∨ siteU "InTraysPurgatory$Floor" 130 "InTraysPurgatory$Floor" 1 Y_F_noteSigned := Or.inl ⟨mw_409, mw_411, mw_410, rfl, okM_F_noteSigned⟩
theorem sv_F_130_D : siteV "InTraysPurgatory$Floor" 130 "InTraysPurgatory$Mind" 1 Y_D_noteSigned ∨ siteU "InTraysPurgatory$Floor" 130 "InTraysPurgatory$Mind" 1 Y_D_noteSigned := Or.inr ⟨⟨"InTraysPurgatory$Floor", "noteSigned", "(I)V"⟩, Y_F_noteSigned, rfl, rfl, mw_409, mw_412, mw_413, mw_414, mw_410, okM_F_noteSigned, okM_D_noteSigned⟩
theorem sf_F_130 {f : Nat} (_ : isFl f) : siteV "InTraysPurgatory$Floor" 130 (fC f) 1 (vY f Y_D_noteSigned Y_F_noteSigned) ∨ siteU "InTraysPurgatory$Floor" 130 (fC f) 1 (vY f Y_D_noteSigned Y_F_noteSigned) := by
  by_cases e : f = 12
  · rw [show fC f = RX2 from if_pos e, show vY f Y_D_noteSigned Y_F_noteSigned = Y_D_noteSigned from if_pos e]
    exact sv_F_130_D
  · rw [show fC f = RX0 from if_neg e, show vY f Y_D_noteSigned Y_F_noteSigned = Y_F_noteSigned from if_neg e]
    exact sv_F_130_F
theorem sv_F_133_F : siteV "InTraysPurgatory$Floor" 133 "InTraysPurgatory$Floor" 1 Y_F_nextOf ∨ siteU "InTraysPurgatory$Floor" 133 "InTraysPurgatory$Floor" 1 Y_F_nextOf := Or.inl ⟨mw_421, mw_423, mw_422, rfl, okM_F_nextOf⟩
theorem sv_F_133_D : siteV "InTraysPurgatory$Floor" 133 "InTraysPurgatory$Mind" 1 Y_D_nextOf ∨ siteU "InTraysPurgatory$Floor" 133 "InTraysPurgatory$Mind" 1 Y_D_nextOf := Or.inr ⟨⟨"InTraysPurgatory$Floor", "nextOf", "(I)I"⟩, Y_F_nextOf, rfl, rfl, mw_421, mw_424, mw_425, mw_426, mw_422, okM_F_nextOf, okM_D_nextOf⟩
theorem sf_F_133 {f : Nat} (_ : isFl f) : siteV "InTraysPurgatory$Floor" 133 (fC f) 1 (vY f Y_D_nextOf Y_F_nextOf) ∨ siteU "InTraysPurgatory$Floor" 133 (fC f) 1 (vY f Y_D_nextOf Y_F_nextOf) := by
  by_cases e : f = 12
  · rw [show fC f = RX2 from if_pos e, show vY f Y_D_nextOf Y_F_nextOf = Y_D_nextOf from if_pos e]
    exact sv_F_133_D
  · rw [show fC f = RX0 from if_neg e, show vY f Y_D_nextOf Y_F_nextOf = Y_F_nextOf from if_neg e]
    exact sv_F_133_F
theorem sv_F_136_F : siteV "InTraysPurgatory$Floor" 136 "InTraysPurgatory$Floor" 1 Y_F_notePassed ∨ siteU "InTraysPurgatory$Floor" 136 "InTraysPurgatory$Floor" 1 Y_F_notePassed := Or.inl ⟨mw_429, mw_431, mw_430, rfl, okM_F_notePassed⟩
theorem sv_F_136_D : siteV "InTraysPurgatory$Floor" 136 "InTraysPurgatory$Mind" 1 Y_D_notePassed ∨ siteU "InTraysPurgatory$Floor" 136 "InTraysPurgatory$Mind" 1 Y_D_notePassed := Or.inr ⟨⟨"InTraysPurgatory$Floor", "notePassed", "(I)V"⟩, Y_F_notePassed, rfl, rfl, mw_429, mw_432, mw_433, mw_434, mw_430, okM_F_notePassed, okM_D_notePassed⟩
theorem sf_F_136 {f : Nat} (_ : isFl f) : siteV "InTraysPurgatory$Floor" 136 (fC f) 1 (vY f Y_D_notePassed Y_F_notePassed) ∨ siteU "InTraysPurgatory$Floor" 136 (fC f) 1 (vY f Y_D_notePassed Y_F_notePassed) := by
  by_cases e : f = 12
  · rw [show fC f = RX2 from if_pos e, show vY f Y_D_notePassed Y_F_notePassed = Y_D_notePassed from if_pos e]
    exact sv_F_136_D
  · rw [show fC f = RX0 from if_neg e, show vY f Y_D_notePassed Y_F_notePassed = Y_F_notePassed from if_neg e]
    exact sv_F_136_F
theorem sv_F_58_F : siteV "InTraysPurgatory$Floor" 58 "InTraysPurgatory$Floor" 2 Y_F_putBehind ∨ siteU "InTraysPurgatory$Floor" 58 "InTraysPurgatory$Floor" 2 Y_F_putBehind := Or.inl ⟨mw_300, mw_302, mw_301, rfl, okM_F_putBehind⟩
theorem sv_F_58_D : siteV "InTraysPurgatory$Floor" 58 "InTraysPurgatory$Mind" 2 Y_F_putBehind ∨ siteU "InTraysPurgatory$Floor" 58 "InTraysPurgatory$Mind" 2 Y_F_putBehind := Or.inr ⟨⟨"InTraysPurgatory$Floor", "putBehind", "(II)V"⟩, Y_F_putBehind, rfl, rfl, mw_300, mw_303, mw_304, mw_301, mw_301, okM_F_putBehind, okM_F_putBehind⟩
theorem sf_F_58 {f : Nat} (_ : isFl f) : siteV "InTraysPurgatory$Floor" 58 (fC f) 2 Y_F_putBehind ∨ siteU "InTraysPurgatory$Floor" 58 (fC f) 2 Y_F_putBehind := by
  by_cases e : f = 12
  · rw [show fC f = RX2 from if_pos e]
    exact sv_F_58_D
  · rw [show fC f = RX0 from if_neg e]
    exact sv_F_58_F
theorem sv_F_62_F : siteV "InTraysPurgatory$Floor" 62 "InTraysPurgatory$Floor" 2 Y_F_liesIn ∨ siteU "InTraysPurgatory$Floor" 62 "InTraysPurgatory$Floor" 2 Y_F_liesIn := Or.inl ⟨mw_241, mw_243, mw_242, rfl, okM_F_liesIn⟩
theorem sv_F_62_D : siteV "InTraysPurgatory$Floor" 62 "InTraysPurgatory$Mind" 2 Y_F_liesIn ∨ siteU "InTraysPurgatory$Floor" 62 "InTraysPurgatory$Mind" 2 Y_F_liesIn := Or.inr ⟨⟨"InTraysPurgatory$Floor", "liesIn", "(II)Z"⟩, Y_F_liesIn, rfl, rfl, mw_241, mw_244, mw_245, mw_242, mw_242, okM_F_liesIn, okM_F_liesIn⟩
theorem sf_F_62 {f : Nat} (_ : isFl f) : siteV "InTraysPurgatory$Floor" 62 (fC f) 2 Y_F_liesIn ∨ siteU "InTraysPurgatory$Floor" 62 (fC f) 2 Y_F_liesIn := by
  by_cases e : f = 12
  · rw [show fC f = RX2 from if_pos e]
    exact sv_F_62_D
  · rw [show fC f = RX0 from if_neg e]
    exact sv_F_62_F
theorem sv_F_66_F : siteV "InTraysPurgatory$Floor" 66 "InTraysPurgatory$Floor" 1 Y_F_those ∨ siteU "InTraysPurgatory$Floor" 66 "InTraysPurgatory$Floor" 1 Y_F_those := Or.inl ⟨mw_312, mw_314, mw_313, rfl, okM_F_those⟩
theorem sv_F_66_D : siteV "InTraysPurgatory$Floor" 66 "InTraysPurgatory$Mind" 1 Y_F_those ∨ siteU "InTraysPurgatory$Floor" 66 "InTraysPurgatory$Mind" 1 Y_F_those := Or.inr ⟨⟨"InTraysPurgatory$Floor", "those", "(I)I"⟩, Y_F_those, rfl, rfl, mw_312, mw_315, mw_316, mw_313, mw_313, okM_F_those, okM_F_those⟩
theorem sf_F_66 {f : Nat} (_ : isFl f) : siteV "InTraysPurgatory$Floor" 66 (fC f) 1 Y_F_those ∨ siteU "InTraysPurgatory$Floor" 66 (fC f) 1 Y_F_those := by
  by_cases e : f = 12
  · rw [show fC f = RX2 from if_pos e]
    exact sv_F_66_D
  · rw [show fC f = RX0 from if_neg e]
    exact sv_F_66_F
theorem ss_F_70 : siteS "InTraysPurgatory$Floor" 70 1 Y_J_bitCount := ⟨mw_318, mw_319, okM_J_bitCount⟩
theorem ss_F_75 : siteS "InTraysPurgatory$Floor" 75 2 Y_K_weight := ⟨mw_395, mw_258, okM_K_weight⟩
theorem ss_F_81 : siteS "InTraysPurgatory$Floor" 81 2 Y_K_rings := ⟨mw_396, mw_261, okM_K_rings⟩
theorem sv_F_84_F : siteV "InTraysPurgatory$Floor" 84 "InTraysPurgatory$Floor" 1 Y_F_loadOf ∨ siteU "InTraysPurgatory$Floor" 84 "InTraysPurgatory$Floor" 1 Y_F_loadOf := Or.inl ⟨mw_389, mw_391, mw_390, rfl, okM_F_loadOf⟩
theorem sv_F_84_D : siteV "InTraysPurgatory$Floor" 84 "InTraysPurgatory$Mind" 1 Y_F_loadOf ∨ siteU "InTraysPurgatory$Floor" 84 "InTraysPurgatory$Mind" 1 Y_F_loadOf := Or.inr ⟨⟨"InTraysPurgatory$Floor", "loadOf", "(I)I"⟩, Y_F_loadOf, rfl, rfl, mw_389, mw_392, mw_393, mw_390, mw_390, okM_F_loadOf, okM_F_loadOf⟩
theorem sf_F_84 {f : Nat} (_ : isFl f) : siteV "InTraysPurgatory$Floor" 84 (fC f) 1 Y_F_loadOf ∨ siteU "InTraysPurgatory$Floor" 84 (fC f) 1 Y_F_loadOf := by
  by_cases e : f = 12
  · rw [show fC f = RX2 from if_pos e]
    exact sv_F_84_D
  · rw [show fC f = RX0 from if_neg e]
    exact sv_F_84_F
theorem ss_F_87 : siteS "InTraysPurgatory$Floor" 87 1 Y_K_haste := ⟨mw_374, mw_264, okM_K_haste⟩
theorem sv_F_90_F : siteV "InTraysPurgatory$Floor" 90 "InTraysPurgatory$Floor" 2 Y_F_isTakenAhead ∨ siteU "InTraysPurgatory$Floor" 90 "InTraysPurgatory$Floor" 2 Y_F_isTakenAhead := Or.inl ⟨mw_368, mw_370, mw_369, rfl, okM_F_isTakenAhead⟩
theorem sv_F_90_D : siteV "InTraysPurgatory$Floor" 90 "InTraysPurgatory$Mind" 2 Y_F_isTakenAhead ∨ siteU "InTraysPurgatory$Floor" 90 "InTraysPurgatory$Mind" 2 Y_F_isTakenAhead := Or.inr ⟨⟨"InTraysPurgatory$Floor", "isTakenAhead", "(II)Z"⟩, Y_F_isTakenAhead, rfl, rfl, mw_368, mw_371, mw_372, mw_369, mw_369, okM_F_isTakenAhead, okM_F_isTakenAhead⟩
theorem sf_F_90 {f : Nat} (_ : isFl f) : siteV "InTraysPurgatory$Floor" 90 (fC f) 2 Y_F_isTakenAhead ∨ siteU "InTraysPurgatory$Floor" 90 (fC f) 2 Y_F_isTakenAhead := by
  by_cases e : f = 12
  · rw [show fC f = RX2 from if_pos e]
    exact sv_F_90_D
  · rw [show fC f = RX0 from if_neg e]
    exact sv_F_90_F
theorem sv_F_93_F : siteV "InTraysPurgatory$Floor" 93 "InTraysPurgatory$Floor" 0 Y_F_noteDay ∨ siteU "InTraysPurgatory$Floor" 93 "InTraysPurgatory$Floor" 0 Y_F_noteDay := Or.inl ⟨mw_342, mw_344, mw_343, rfl, okM_F_noteDay⟩
theorem sv_F_93_D : siteV "InTraysPurgatory$Floor" 93 "InTraysPurgatory$Mind" 0 Y_D_noteDay ∨ siteU "InTraysPurgatory$Floor" 93 "InTraysPurgatory$Mind" 0 Y_D_noteDay := Or.inr ⟨⟨"InTraysPurgatory$Floor", "noteDay", "()V"⟩, Y_F_noteDay, rfl, rfl, mw_342, mw_345, mw_346, mw_347, mw_343, okM_F_noteDay, okM_D_noteDay⟩
theorem sf_F_93 {f : Nat} (_ : isFl f) : siteV "InTraysPurgatory$Floor" 93 (fC f) 0 (vY f Y_D_noteDay Y_F_noteDay) ∨ siteU "InTraysPurgatory$Floor" 93 (fC f) 0 (vY f Y_D_noteDay Y_F_noteDay) := by
  by_cases e : f = 12
  · rw [show fC f = RX2 from if_pos e, show vY f Y_D_noteDay Y_F_noteDay = Y_D_noteDay from if_pos e]
    exact sv_F_93_D
  · rw [show fC f = RX0 from if_neg e, show vY f Y_D_noteDay Y_F_noteDay = Y_F_noteDay from if_neg e]
    exact sv_F_93_F
theorem sv_F_96_F : siteV "InTraysPurgatory$Floor" 96 "InTraysPurgatory$Floor" 1 Y_F_isThere ∨ siteU "InTraysPurgatory$Floor" 96 "InTraysPurgatory$Floor" 1 Y_F_isThere := Or.inl ⟨mw_350, mw_352, mw_351, rfl, okM_F_isThere⟩
theorem sv_F_96_D : siteV "InTraysPurgatory$Floor" 96 "InTraysPurgatory$Mind" 1 Y_D_isThere ∨ siteU "InTraysPurgatory$Floor" 96 "InTraysPurgatory$Mind" 1 Y_D_isThere := Or.inr ⟨⟨"InTraysPurgatory$Floor", "isThere", "(I)Z"⟩, Y_F_isThere, rfl, rfl, mw_350, mw_353, mw_354, mw_355, mw_351, okM_F_isThere, okM_D_isThere⟩
theorem sf_F_96 {f : Nat} (_ : isFl f) : siteV "InTraysPurgatory$Floor" 96 (fC f) 1 (vY f Y_D_isThere Y_F_isThere) ∨ siteU "InTraysPurgatory$Floor" 96 (fC f) 1 (vY f Y_D_isThere Y_F_isThere) := by
  by_cases e : f = 12
  · rw [show fC f = RX2 from if_pos e, show vY f Y_D_isThere Y_F_isThere = Y_D_isThere from if_pos e]
    exact sv_F_96_D
  · rw [show fC f = RX0 from if_neg e, show vY f Y_D_isThere Y_F_isThere = Y_F_isThere from if_neg e]
    exact sv_F_96_F
theorem ss_K_9 : siteS "InTraysPurgatory$Kinds" 9 2 Y_K_weight := ⟨mw_404, mw_258, okM_K_weight⟩
theorem sv_D_31_D : siteV "InTraysPurgatory$Mind" 31 "InTraysPurgatory$Mind" 1 Y_F_takeOver ∨ siteU "InTraysPurgatory$Mind" 31 "InTraysPurgatory$Mind" 1 Y_F_takeOver := Or.inr ⟨⟨"InTraysPurgatory$Mind", "takeOver", "(LInTraysPurgatory$Floor;)V"⟩, Y_F_takeOver, rfl, rfl, mw_458, mw_459, mw_461, mw_279, mw_279, okM_F_takeOver, okM_F_takeOver⟩
theorem sv_P_22_F : siteV "InTraysPurgatory$Past" 22 "InTraysPurgatory$Floor" 1 Y_F_takeOver ∨ siteU "InTraysPurgatory$Past" 22 "InTraysPurgatory$Floor" 1 Y_F_takeOver := Or.inl ⟨mw_278, mw_280, mw_279, rfl, okM_F_takeOver⟩
theorem sv_P_22_D : siteV "InTraysPurgatory$Past" 22 "InTraysPurgatory$Mind" 1 Y_F_takeOver ∨ siteU "InTraysPurgatory$Past" 22 "InTraysPurgatory$Mind" 1 Y_F_takeOver := Or.inr ⟨⟨"InTraysPurgatory$Floor", "takeOver", "(LInTraysPurgatory$Floor;)V"⟩, Y_F_takeOver, rfl, rfl, mw_278, mw_281, mw_282, mw_279, mw_279, okM_F_takeOver, okM_F_takeOver⟩
theorem sf_P_22 {f : Nat} (_ : isFl f) : siteV "InTraysPurgatory$Past" 22 (fC f) 1 Y_F_takeOver ∨ siteU "InTraysPurgatory$Past" 22 (fC f) 1 Y_F_takeOver := by
  by_cases e : f = 12
  · rw [show fC f = RX2 from if_pos e]
    exact sv_P_22_D
  · rw [show fC f = RX0 from if_neg e]
    exact sv_P_22_F
theorem sv_L_101_C : siteV "InTraysPurgatoryLaw" 101 "InTraysPurgatory" 1 Y_C_who ∨ siteU "InTraysPurgatoryLaw" 101 "InTraysPurgatory" 1 Y_C_who := Or.inl ⟨mw_530, mw_532, mw_531, rfl, okM_C_who⟩
theorem sv_L_104_C : siteV "InTraysPurgatoryLaw" 104 "InTraysPurgatory" 3 Y_C_then ∨ siteU "InTraysPurgatoryLaw" 104 "InTraysPurgatory" 3 Y_C_then := Or.inl ⟨mw_472, mw_474, mw_473, rfl, okM_C_then⟩
theorem sv_L_107_C : siteV "InTraysPurgatoryLaw" 107 "InTraysPurgatory" 1 Y_C_passed ∨ siteU "InTraysPurgatoryLaw" 107 "InTraysPurgatory" 1 Y_C_passed := Or.inl ⟨mw_578, mw_580, mw_579, rfl, okM_C_passed⟩
theorem sv_L_110_C : siteV "InTraysPurgatoryLaw" 110 "InTraysPurgatory" 1 Y_C_rounds ∨ siteU "InTraysPurgatoryLaw" 110 "InTraysPurgatory" 1 Y_C_rounds := Or.inl ⟨mw_535, mw_537, mw_536, rfl, okM_C_rounds⟩
theorem sv_L_113_C : siteV "InTraysPurgatoryLaw" 113 "InTraysPurgatory" 3 Y_C_wanted ∨ siteU "InTraysPurgatoryLaw" 113 "InTraysPurgatory" 3 Y_C_wanted := Or.inl ⟨mw_516, mw_518, mw_517, rfl, okM_C_wanted⟩
theorem sv_L_116_C : siteV "InTraysPurgatoryLaw" 116 "InTraysPurgatory" 0 Y_C_light ∨ siteU "InTraysPurgatoryLaw" 116 "InTraysPurgatory" 0 Y_C_light := Or.inl ⟨mw_561, mw_563, mw_562, rfl, okM_C_light⟩
theorem sv_L_124_C : siteV "InTraysPurgatoryLaw" 124 "InTraysPurgatory" 0 Y_C_restore ∨ siteU "InTraysPurgatoryLaw" 124 "InTraysPurgatory" 0 Y_C_restore := Or.inl ⟨mw_587, mw_589, mw_588, rfl, okM_C_restore⟩
theorem sv_L_14_C : siteV "InTraysPurgatoryLaw" 14 "InTraysPurgatory" 0 Y_C_office ∨ siteU "InTraysPurgatoryLaw" 14 "InTraysPurgatory" 0 Y_C_office := Or.inl ⟨mw_626, mw_628, mw_627, rfl, okM_C_office⟩
theorem ss_L_18 : siteS "InTraysPurgatoryLaw" 18 2 Y_L_tell := ⟨mw_619, mw_620, okM_L_tell⟩
theorem ss_L_24 : siteS "InTraysPurgatoryLaw" 24 2 Y_L_cell := ⟨mw_606, mw_607, okM_L_cell⟩
theorem ss_L_28 : siteS "InTraysPurgatoryLaw" 28 2 Y_L_pick := ⟨mw_609, mw_610, okM_L_pick⟩
theorem sv_L_32_C : siteV "InTraysPurgatoryLaw" 32 "InTraysPurgatory" 3 Y_C_sets ∨ siteU "InTraysPurgatoryLaw" 32 "InTraysPurgatory" 3 Y_C_sets := Or.inl ⟨mw_266, mw_268, mw_267, rfl, okM_C_sets⟩
theorem ss_L_36 : siteS "InTraysPurgatoryLaw" 36 4 Y_L_sheet := ⟨mw_616, mw_617, okM_L_sheet⟩
theorem sv_L_40_C : siteV "InTraysPurgatoryLaw" 40 "InTraysPurgatory" 1 Y_C_mislays ∨ siteU "InTraysPurgatoryLaw" 40 "InTraysPurgatory" 1 Y_C_mislays := Or.inl ⟨mw_290, mw_292, mw_291, rfl, okM_C_mislays⟩
theorem sv_L_43_C : siteV "InTraysPurgatoryLaw" 43 "InTraysPurgatory" 1 Y_C_days ∨ siteU "InTraysPurgatoryLaw" 43 "InTraysPurgatory" 1 Y_C_days := Or.inl ⟨mw_329, mw_331, mw_330, rfl, okM_C_days⟩
theorem ss_L_51 : siteS "InTraysPurgatoryLaw" 51 3 Y_L_office := ⟨mw_613, mw_614, okM_L_office⟩
theorem sv_L_54_C : siteV "InTraysPurgatoryLaw" 54 "InTraysPurgatory" 1 Y_C_count ∨ siteU "InTraysPurgatoryLaw" 54 "InTraysPurgatory" 1 Y_C_count := Or.inl ⟨mw_595, mw_597, mw_596, rfl, okM_C_count⟩
theorem sv_L_57_C : siteV "InTraysPurgatoryLaw" 57 "InTraysPurgatory" 0 Y_C_image ∨ siteU "InTraysPurgatoryLaw" 57 "InTraysPurgatory" 0 Y_C_image := Or.inl ⟨mw_582, mw_584, mw_583, rfl, okM_C_image⟩
theorem sv_L_60_C : siteV "InTraysPurgatoryLaw" 60 "InTraysPurgatory" 2 Y_C_officialOf ∨ siteU "InTraysPurgatoryLaw" 60 "InTraysPurgatory" 2 Y_C_officialOf := Or.inl ⟨mw_224, mw_226, mw_225, rfl, okM_C_officialOf⟩
theorem sv_L_63_C : siteV "InTraysPurgatoryLaw" 63 "InTraysPurgatory" 2 Y_C_busy ∨ siteU "InTraysPurgatoryLaw" 63 "InTraysPurgatory" 2 Y_C_busy := Or.inl ⟨mw_574, mw_576, mw_575, rfl, okM_C_busy⟩
theorem sv_L_66_C : siteV "InTraysPurgatoryLaw" 66 "InTraysPurgatory" 1 Y_C_top ∨ siteU "InTraysPurgatoryLaw" 66 "InTraysPurgatory" 1 Y_C_top := Or.inl ⟨mw_550, mw_552, mw_551, rfl, okM_C_top⟩
theorem sv_L_69_C : siteV "InTraysPurgatoryLaw" 69 "InTraysPurgatory" 2 Y_C_queue ∨ siteU "InTraysPurgatoryLaw" 69 "InTraysPurgatory" 2 Y_C_queue := Or.inl ⟨mw_555, mw_557, mw_556, rfl, okM_C_queue⟩
theorem ss_L_72 : siteS "InTraysPurgatoryLaw" 72 1 Y_J_bitCount := ⟨mw_675, mw_319, okM_J_bitCount⟩
theorem sv_L_77_C : siteV "InTraysPurgatoryLaw" 77 "InTraysPurgatory" 1 Y_C_fair ∨ siteU "InTraysPurgatoryLaw" 77 "InTraysPurgatory" 1 Y_C_fair := Or.inl ⟨mw_539, mw_541, mw_540, rfl, okM_C_fair⟩
theorem sv_L_8_C : siteV "InTraysPurgatoryLaw" 8 "InTraysPurgatory" 1 Y_C_feed ∨ siteU "InTraysPurgatoryLaw" 8 "InTraysPurgatory" 1 Y_C_feed := Or.inl ⟨mw_622, mw_624, mw_623, rfl, okM_C_feed⟩
theorem sv_L_80_C : siteV "InTraysPurgatoryLaw" 80 "InTraysPurgatory" 1 Y_C_all ∨ siteU "InTraysPurgatoryLaw" 80 "InTraysPurgatory" 1 Y_C_all := Or.inl ⟨mw_488, mw_490, mw_489, rfl, okM_C_all⟩
theorem sv_L_83_C : siteV "InTraysPurgatoryLaw" 83 "InTraysPurgatory" 2 Y_C_signed ∨ siteU "InTraysPurgatoryLaw" 83 "InTraysPurgatory" 2 Y_C_signed := Or.inl ⟨mw_484, mw_486, mw_485, rfl, okM_C_signed⟩
theorem sv_L_86_C : siteV "InTraysPurgatoryLaw" 86 "InTraysPurgatory" 3 Y_C_behind ∨ siteU "InTraysPurgatoryLaw" 86 "InTraysPurgatory" 3 Y_C_behind := Or.inl ⟨mw_446, mw_448, mw_447, rfl, okM_C_behind⟩
theorem sv_L_89_C : siteV "InTraysPurgatoryLaw" 89 "InTraysPurgatory" 2 Y_C_sheetOf ∨ siteU "InTraysPurgatoryLaw" 89 "InTraysPurgatory" 2 Y_C_sheetOf := Or.inl ⟨mw_247, mw_249, mw_248, rfl, okM_C_sheetOf⟩
theorem sv_L_92_C : siteV "InTraysPurgatoryLaw" 92 "InTraysPurgatory" 2 Y_C_bestTray ∨ siteU "InTraysPurgatoryLaw" 92 "InTraysPurgatory" 2 Y_C_bestTray := Or.inl ⟨mw_505, mw_507, mw_506, rfl, okM_C_bestTray⟩
theorem sv_L_95_C : siteV "InTraysPurgatoryLaw" 95 "InTraysPurgatory" 2 Y_C_moves ∨ siteU "InTraysPurgatoryLaw" 95 "InTraysPurgatory" 2 Y_C_moves := Or.inl ⟨mw_324, mw_326, mw_325, rfl, okM_C_moves⟩
theorem sv_L_98_C : siteV "InTraysPurgatoryLaw" 98 "InTraysPurgatory" 0 Y_C_back ∨ siteU "InTraysPurgatoryLaw" 98 "InTraysPurgatory" 0 Y_C_back := Or.inl ⟨mw_437, mw_439, mw_438, rfl, okM_C_back⟩
-- contracts
abbrev t_C_firstSigned (G : Gh) (μ : Mem) (Q : Int32 → Mem → Prop) : Prop := tI G 0 Y_C_firstSigned [.ref (gA G 0)] μ Q
abbrev t_C_isOfficial (G : Gh) (x0 : Int32) (μ : Mem) (Q : Int32 → Mem → Prop) : Prop := tI G 0 Y_C_isOfficial [.int x0] μ Q
abbrev t_C_isRoomForDays (G : Gh) (x0 : Int32) (x1 : Int32) (μ : Mem) (Q : Int32 → Mem → Prop) : Prop := tI G 0 Y_C_isRoomForDays [.int x0, .int x1] μ Q
abbrev t_C_isSooner (G : Gh) (x0 : Int32) (x1 : Int32) (μ : Mem) (Q : Int32 → Mem → Prop) : Prop := tI G 0 Y_C_isSooner [.int x0, .int x1] μ Q
abbrev t_C_leastOf (G : Gh) (x0 : Int32) (μ : Mem) (Q : Int32 → Mem → Prop) : Prop := tI G 0 Y_C_leastOf [.int x0] μ Q
abbrev t_C_letterAt (G : Gh) (x1 : Int32) (μ : Mem) (Q : Int32 → Mem → Prop) : Prop := tI G 0 Y_C_letterAt [.ref (gA G 0), .int x1] μ Q
abbrev t_C_mostOf (G : Gh) (x0 : Int32) (μ : Mem) (Q : Int32 → Mem → Prop) : Prop := tI G 0 Y_C_mostOf [.int x0] μ Q
abbrev t_C_refuse (G : Gh) (x1 : Int32) (μ : Mem) (Q : Int32 → Mem → Prop) : Prop := tI G 0 Y_C_refuse [.ref (gA G 0), .int x1] μ Q
abbrev t_C_statementLength (G : Gh) (x0 : Int32) (μ : Mem) (Q : Int32 → Mem → Prop) : Prop := tI G 0 Y_C_statementLength [.int x0] μ Q
abbrev t_D_isThere (G : Gh) (x1 : Int32) (μ : Mem) (Q : Int32 → Mem → Prop) : Prop := tI G 0 Y_D_isThere [.ref (gA G 12), .int x1] μ Q
abbrev t_D_nextOf (G : Gh) (x1 : Int32) (μ : Mem) (Q : Int32 → Mem → Prop) : Prop := tI G 0 Y_D_nextOf [.ref (gA G 12), .int x1] μ Q
abbrev t_D_noteBusy (G : Gh) (x1 : Int32) (μ : Mem) (Q : Mem → Prop) : Prop := tV G 0 Y_D_noteBusy [.ref (gA G 12), .int x1] μ Q
abbrev t_D_noteDay (G : Gh) (μ : Mem) (Q : Mem → Prop) : Prop := tV G 0 Y_D_noteDay [.ref (gA G 12)] μ Q
abbrev t_D_notePassed (G : Gh) (x1 : Int32) (μ : Mem) (Q : Mem → Prop) : Prop := tV G 0 Y_D_notePassed [.ref (gA G 12), .int x1] μ Q
abbrev t_D_noteSigned (G : Gh) (x1 : Int32) (μ : Mem) (Q : Mem → Prop) : Prop := tV G 0 Y_D_noteSigned [.ref (gA G 12), .int x1] μ Q
abbrev t_F_allBorne (G : Gh) (f : Nat) (μ : Mem) (Q : Int32 → Mem → Prop) : Prop := tI G 0 Y_F_allBorne [.ref (gA G f)] μ Q
abbrev t_F_allMinutes (G : Gh) (f : Nat) (μ : Mem) (Q : Int32 → Mem → Prop) : Prop := tI G 0 Y_F_allMinutes [.ref (gA G f)] μ Q
abbrev t_F_has (G : Gh) (f : Nat) (x1 : Int32) (μ : Mem) (Q : Int32 → Mem → Prop) : Prop := tI G 0 Y_F_has [.ref (gA G f), .int x1] μ Q
abbrev t_F_isThere (G : Gh) (f : Nat) (x1 : Int32) (μ : Mem) (Q : Int32 → Mem → Prop) : Prop := tI G 0 Y_F_isThere [.ref (gA G f), .int x1] μ Q
abbrev t_F_liesIn (G : Gh) (f : Nat) (x1 : Int32) (x2 : Int32) (μ : Mem) (Q : Int32 → Mem → Prop) : Prop := tI G 0 Y_F_liesIn [.ref (gA G f), .int x1, .int x2] μ Q
abbrev t_F_nextOf (G : Gh) (f : Nat) (x1 : Int32) (μ : Mem) (Q : Int32 → Mem → Prop) : Prop := tI G 0 Y_F_nextOf [.ref (gA G f), .int x1] μ Q
abbrev t_F_noteBusy (G : Gh) (f : Nat) (x1 : Int32) (μ : Mem) (Q : Mem → Prop) : Prop := tV G 0 Y_F_noteBusy [.ref (gA G f), .int x1] μ Q
abbrev t_F_noteDay (G : Gh) (f : Nat) (μ : Mem) (Q : Mem → Prop) : Prop := tV G 0 Y_F_noteDay [.ref (gA G f)] μ Q
abbrev t_F_notePassed (G : Gh) (f : Nat) (x1 : Int32) (μ : Mem) (Q : Mem → Prop) : Prop := tV G 0 Y_F_notePassed [.ref (gA G f), .int x1] μ Q
abbrev t_F_noteSigned (G : Gh) (f : Nat) (x1 : Int32) (μ : Mem) (Q : Mem → Prop) : Prop := tV G 0 Y_F_noteSigned [.ref (gA G f), .int x1] μ Q
abbrev t_F_putBehind (G : Gh) (f : Nat) (x1 : Int32) (x2 : Int32) (μ : Mem) (Q : Mem → Prop) : Prop := tV G 0 Y_F_putBehind [.ref (gA G f), .int x1, .int x2] μ Q
abbrev t_F_those (G : Gh) (f : Nat) (x1 : Int32) (μ : Mem) (Q : Int32 → Mem → Prop) : Prop := tI G 0 Y_F_those [.ref (gA G f), .int x1] μ Q
abbrev t_J_bitCount (G : Gh) (x0 : Int32) (μ : Mem) (Q : Int32 → Mem → Prop) : Prop := tI G 0 Y_J_bitCount [.int x0] μ Q
abbrev t_K_haste (G : Gh) (x0 : Int32) (μ : Mem) (Q : Int32 → Mem → Prop) : Prop := tI G 0 Y_K_haste [.int x0] μ Q
abbrev t_K_rings (G : Gh) (x0 : Int32) (x1 : Int32) (μ : Mem) (Q : Int32 → Mem → Prop) : Prop := tI G 0 Y_K_rings [.int x0, .int x1] μ Q
abbrev t_K_weight (G : Gh) (x0 : Int32) (x1 : Int32) (μ : Mem) (Q : Int32 → Mem → Prop) : Prop := tI G 0 Y_K_weight [.int x0, .int x1] μ Q
abbrev t_L_cell (G : Gh) (c0 : Nat) (x1 : Int32) (μ : Mem) (Q : Int32 → Mem → Prop) : Prop := tI G 0 Y_L_cell [.ref (sA G c0), .int x1] μ Q
abbrev t_L_pick (G : Gh) (x0 : Int32) (x1 : Int32) (μ : Mem) (Q : Int32 → Mem → Prop) : Prop := tI G 0 Y_L_pick [.int x0, .int x1] μ Q
abbrev t_P_forget (G : Gh) (μ : Mem) (Q : Mem → Prop) : Prop := tV G 0 Y_P_forget [.ref (gA G 38)] μ Q
abbrev t_C_count (G : Gh) (x1 : Int32) (μ : Mem) (Q : Int32 → Mem → Prop) : Prop := tI G 1 Y_C_count [.ref (gA G 0), .int x1] μ Q
abbrev t_C_digitAt (G : Gh) (x1 : Int32) (μ : Mem) (Q : Int32 → Mem → Prop) : Prop := tI G 1 Y_C_digitAt [.ref (gA G 0), .int x1] μ Q
abbrev t_C_fair (G : Gh) (x1 : Int32) (μ : Mem) (Q : Int32 → Mem → Prop) : Prop := tI G 1 Y_C_fair [.ref (gA G 0), .int x1] μ Q
abbrev t_C_feed (G : Gh) (x1 : Int32) (μ : Mem) (Q : Int32 → Mem → Prop) : Prop := tI G 1 Y_C_feed [.ref (gA G 0), .int x1] μ Q
abbrev t_C_firstWrongLetter (G : Gh) (μ : Mem) (Q : Int32 → Mem → Prop) : Prop := tI G 1 Y_C_firstWrongLetter [.ref (gA G 0)] μ Q
abbrev t_C_lastSignedOn (G : Gh) (μ : Mem) (Q : Int32 → Mem → Prop) : Prop := tI G 1 Y_C_lastSignedOn [.ref (gA G 0)] μ Q
abbrev t_C_noteAsItIs (G : Gh) (μ : Mem) (Q : Mem → Prop) : Prop := tV G 1 Y_C_noteAsItIs [.ref (gA G 0)] μ Q
abbrev t_C_officialBecomes (G : Gh) (x1 : Int32) (x2 : Int32) (x3 : Int32) (μ : Mem) (Q : Int32 → Mem → Prop) : Prop := tI G 1 Y_C_officialBecomes [.ref (gA G 0), .int x1, .int x2, .int x3] μ Q
abbrev t_C_officialMoves (G : Gh) (x1 : Int32) (x2 : Int32) (μ : Mem) (Q : Int32 → Mem → Prop) : Prop := tI G 1 Y_C_officialMoves [.ref (gA G 0), .int x1, .int x2] μ Q
abbrev t_C_sheetOf (G : Gh) (x1 : Int32) (x2 : Int32) (μ : Mem) (Q : Int32 → Mem → Prop) : Prop := tI G 1 Y_C_sheetOf [.ref (gA G 0), .int x1, .int x2] μ Q
abbrev t_F_add (G : Gh) (f : Nat) (x1 : Int32) (x2 : Int32) (x3 : Int32) (μ : Mem) (Q : Int32 → Mem → Prop) : Prop := tI G 1 Y_F_add [.ref (gA G f), .int x1, .int x2, .int x3] μ Q
abbrev t_F_howMany (G : Gh) (f : Nat) (x1 : Int32) (μ : Mem) (Q : Int32 → Mem → Prop) : Prop := tI G 1 Y_F_howMany [.ref (gA G f), .int x1] μ Q
abbrev t_F_isTakenAhead (G : Gh) (f : Nat) (x1 : Int32) (x2 : Int32) (μ : Mem) (Q : Int32 → Mem → Prop) : Prop := tI G 1 Y_F_isTakenAhead [.ref (gA G f), .int x1, .int x2] μ Q
abbrev t_F_loadOf (G : Gh) (f : Nat) (x1 : Int32) (μ : Mem) (Q : Int32 → Mem → Prop) : Prop := tI G 1 Y_F_loadOf [.ref (gA G f), .int x1] μ Q
abbrev t_F_loseOrFind (G : Gh) (f : Nat) (x1 : Int32) (μ : Mem) (Q : Mem → Prop) : Prop := tV G 1 Y_F_loseOrFind [.ref (gA G f), .int x1] μ Q
abbrev t_F_passOn (G : Gh) (f : Nat) (x1 : Int32) (x2 : Int32) (μ : Mem) (Q : Mem → Prop) : Prop := tV G 1 Y_F_passOn [.ref (gA G f), .int x1, .int x2] μ Q
abbrev t_F_placeOf (G : Gh) (f : Nat) (x1 : Int32) (μ : Mem) (Q : Int32 → Mem → Prop) : Prop := tI G 1 Y_F_placeOf [.ref (gA G f), .int x1] μ Q
abbrev t_F_takeOver (G : Gh) (f : Nat) (g1 : Nat) (μ : Mem) (Q : Mem → Prop) : Prop := tV G 1 Y_F_takeOver [.ref (gA G f), .ref (gA G g1)] μ Q
abbrev t_F_waitingIn (G : Gh) (f : Nat) (x1 : Int32) (μ : Mem) (Q : Int32 → Mem → Prop) : Prop := tI G 1 Y_F_waitingIn [.ref (gA G f), .int x1] μ Q
abbrev t_K_part (G : Gh) (x0 : Int32) (x1 : Int32) (μ : Mem) (Q : Int32 → Mem → Prop) : Prop := tI G 1 Y_K_part [.int x0, .int x1] μ Q
abbrev t_C_image (G : Gh) (μ : Mem) (Q : Int32 → Mem → Prop) : Prop := tI G 2 Y_C_image [.ref (gA G 0)] μ Q
abbrev t_C_officialOf (G : Gh) (x1 : Int32) (x2 : Int32) (μ : Mem) (Q : Int32 → Mem → Prop) : Prop := tI G 2 Y_C_officialOf [.ref (gA G 0), .int x1, .int x2] μ Q
abbrev t_C_queue (G : Gh) (x1 : Int32) (x2 : Int32) (μ : Mem) (Q : Int32 → Mem → Prop) : Prop := tI G 2 Y_C_queue [.ref (gA G 0), .int x1, .int x2] μ Q
abbrev t_C_restore (G : Gh) (μ : Mem) (Q : Int32 → Mem → Prop) : Prop := tI G 2 Y_C_restore [.ref (gA G 0)] μ Q
abbrev t_C_sheetComes (G : Gh) (x1 : Int32) (x2 : Int32) (x3 : Int32) (μ : Mem) (Q : Int32 → Mem → Prop) : Prop := tI G 2 Y_C_sheetComes [.ref (gA G 0), .int x1, .int x2, .int x3] μ Q
abbrev t_C_sheetIsMislaid (G : Gh) (x1 : Int32) (μ : Mem) (Q : Int32 → Mem → Prop) : Prop := tI G 2 Y_C_sheetIsMislaid [.ref (gA G 0), .int x1] μ Q
abbrev t_D_begin (G : Gh) (g1 : Nat) (μ : Mem) (Q : Mem → Prop) : Prop := tV G 2 Y_D_begin [.ref (gA G 12), .ref (gA G g1)] μ Q
abbrev t_F_isWilling (G : Gh) (f : Nat) (x1 : Int32) (x2 : Int32) (μ : Mem) (Q : Int32 → Mem → Prop) : Prop := tI G 2 Y_F_isWilling [.ref (gA G f), .int x1, .int x2] μ Q
abbrev t_F_nextTaken (G : Gh) (f : Nat) (x1 : Int32) (x2 : Int32) (μ : Mem) (Q : Int32 → Mem → Prop) : Prop := tI G 2 Y_F_nextTaken [.ref (gA G f), .int x1, .int x2] μ Q
abbrev t_F_sign (G : Gh) (f : Nat) (x1 : Int32) (x2 : Int32) (μ : Mem) (Q : Mem → Prop) : Prop := tV G 2 Y_F_sign [.ref (gA G f), .int x1, .int x2] μ Q
abbrev t_P_giveBack (G : Gh) (g1 : Nat) (μ : Mem) (Q : Mem → Prop) : Prop := tV G 2 Y_P_giveBack [.ref (gA G 38), .ref (gA G g1)] μ Q
abbrev t_P_keep (G : Gh) (g1 : Nat) (μ : Mem) (Q : Mem → Prop) : Prop := tV G 2 Y_P_keep [.ref (gA G 38), .ref (gA G g1)] μ Q
abbrev t_C_back (G : Gh) (μ : Mem) (Q : Int32 → Mem → Prop) : Prop := tI G 3 Y_C_back [.ref (gA G 0)] μ Q
abbrev t_C_mislays (G : Gh) (x1 : Int32) (μ : Mem) (Q : Int32 → Mem → Prop) : Prop := tI G 3 Y_C_mislays [.ref (gA G 0), .int x1] μ Q
abbrev t_C_moves (G : Gh) (x1 : Int32) (x2 : Int32) (μ : Mem) (Q : Int32 → Mem → Prop) : Prop := tI G 3 Y_C_moves [.ref (gA G 0), .int x1, .int x2] μ Q
abbrev t_C_setsOne (G : Gh) (c1 : Nat) (k1 : Nat) (x2 : Int32) (x3 : Int32) (x4 : Int32) (x5 : Int32) (μ : Mem) (Q : Int32 → Mem → Prop) : Prop := tI G 3 Y_C_setsOne [.ref (gA G 0), .ref (gA G c1), .int x2, .int x3, .int x4, .int x5] μ Q
abbrev t_C_thinkWith (G : Gh) (x1 : Int32) (x2 : Int32) (x3 : Int32) (μ : Mem) (Q : Mem → Prop) : Prop := tV G 3 Y_C_thinkWith [.ref (gA G 0), .int x1, .int x2, .int x3] μ Q
abbrev t_C_top (G : Gh) (x1 : Int32) (μ : Mem) (Q : Int32 → Mem → Prop) : Prop := tI G 3 Y_C_top [.ref (gA G 0), .int x1] μ Q
abbrev t_C_who (G : Gh) (x1 : Int32) (μ : Mem) (Q : Int32 → Mem → Prop) : Prop := tI G 3 Y_C_who [.ref (gA G 0), .int x1] μ Q
abbrev t_F_work (G : Gh) (f : Nat) (x1 : Int32) (μ : Mem) (Q : Mem → Prop) : Prop := tV G 3 Y_F_work [.ref (gA G f), .int x1] μ Q
abbrev t_C_sets (G : Gh) (x1 : Int32) (x2 : Int32) (x3 : Int32) (μ : Mem) (Q : Int32 → Mem → Prop) : Prop := tI G 4 Y_C_sets [.ref (gA G 0), .int x1, .int x2, .int x3] μ Q
abbrev t_F_live (G : Gh) (f : Nat) (x1 : Int32) (μ : Mem) (Q : Mem → Prop) : Prop := tV G 4 Y_F_live [.ref (gA G f), .int x1] μ Q
abbrev t_C_bestTray (G : Gh) (x1 : Int32) (x2 : Int32) (μ : Mem) (Q : Int32 → Mem → Prop) : Prop := tI G 5 Y_C_bestTray [.ref (gA G 0), .int x1, .int x2] μ Q
abbrev t_C_comesToPass (G : Gh) (x1 : Int32) (μ : Mem) (Q : Int32 → Mem → Prop) : Prop := tI G 5 Y_C_comesToPass [.ref (gA G 0), .int x1] μ Q
abbrev t_C_days (G : Gh) (x1 : Int32) (μ : Mem) (Q : Int32 → Mem → Prop) : Prop := tI G 5 Y_C_days [.ref (gA G 0), .int x1] μ Q
abbrev t_C_thinkAhead (G : Gh) (x1 : Int32) (μ : Mem) (Q : Mem → Prop) : Prop := tV G 5 Y_C_thinkAhead [.ref (gA G 0), .int x1] μ Q
abbrev t_C_wanted (G : Gh) (x1 : Int32) (x2 : Int32) (x3 : Int32) (μ : Mem) (Q : Int32 → Mem → Prop) : Prop := tI G 5 Y_C_wanted [.ref (gA G 0), .int x1, .int x2, .int x3] μ Q
abbrev t_C_all (G : Gh) (x1 : Int32) (μ : Mem) (Q : Int32 → Mem → Prop) : Prop := tI G 6 Y_C_all [.ref (gA G 0), .int x1] μ Q
abbrev t_C_behind (G : Gh) (x1 : Int32) (x2 : Int32) (x3 : Int32) (μ : Mem) (Q : Int32 → Mem → Prop) : Prop := tI G 6 Y_C_behind [.ref (gA G 0), .int x1, .int x2, .int x3] μ Q
abbrev t_C_busy (G : Gh) (x1 : Int32) (x2 : Int32) (μ : Mem) (Q : Int32 → Mem → Prop) : Prop := tI G 6 Y_C_busy [.ref (gA G 0), .int x1, .int x2] μ Q
abbrev t_C_light (G : Gh) (μ : Mem) (Q : Int32 → Mem → Prop) : Prop := tI G 6 Y_C_light [.ref (gA G 0)] μ Q
abbrev t_C_office (G : Gh) (μ : Mem) (Q : Int32 → Mem → Prop) : Prop := tI G 6 Y_C_office [.ref (gA G 0)] μ Q
abbrev t_C_passed (G : Gh) (x1 : Int32) (μ : Mem) (Q : Int32 → Mem → Prop) : Prop := tI G 6 Y_C_passed [.ref (gA G 0), .int x1] μ Q
abbrev t_C_rounds (G : Gh) (x1 : Int32) (μ : Mem) (Q : Int32 → Mem → Prop) : Prop := tI G 6 Y_C_rounds [.ref (gA G 0), .int x1] μ Q
abbrev t_C_signed (G : Gh) (x1 : Int32) (x2 : Int32) (μ : Mem) (Q : Int32 → Mem → Prop) : Prop := tI G 6 Y_C_signed [.ref (gA G 0), .int x1, .int x2] μ Q
abbrev t_C_then (G : Gh) (x1 : Int32) (x2 : Int32) (x3 : Int32) (μ : Mem) (Q : Int32 → Mem → Prop) : Prop := tI G 6 Y_C_then [.ref (gA G 0), .int x1, .int x2, .int x3] μ Q
abbrev t_L_tell (G : Gh) (c1 : Nat) (μ : Mem) (Q : Int32 → Mem → Prop) : Prop := tI G 7 Y_L_tell [.ref (gA G 0), .ref (sA G c1)] μ Q
abbrev t_L_sheet (G : Gh) (x1 x2 x3 : Int32) (μ : Mem) (Q : Int32 → Mem → Prop) : Prop := TK G 8 1 5 Y_L_sheet [.ref (gA G 0), .int x1, .int x2, .int x3] μ (fun r ν => ∃ v, r = some (.int v) ∧ Q v ν)
abbrev t_L_office (G : Gh) (c1 : Nat) (x2 : Int32) (μ : Mem) (Q : Mem → Prop) : Prop := TK G 9 8 40 Y_L_office [.ref (gA G 0), .ref (sA G c1), .int x2] μ (fun r ν => r = none ∧ Q ν)
abbrev Y_L_law : Yt := (⟨"InTraysPurgatoryLaw", "law", "([I)Z"⟩, code, 21, ret)
abbrev t_v_isThere (G : Gh) (f : Nat) (x1 : Int32) (μ : Mem) (Q : Int32 → Mem → Prop) : Prop := tI G 0 (vY f Y_D_isThere Y_F_isThere) [.ref (gA G f), .int x1] μ Q
theorem vroom_isThere {f h : Nat} (h1 : 0 + 1 ≤ h) (h2 : 19 + 2 + 35 * 0 ≤ 35 * h) : 0 + 1 ≤ h ∧ 19 + (vY f Y_D_isThere Y_F_isThere).2.2.1 + 35 * 0 ≤ 35 * h := by
  refine ⟨h1, ?_⟩
  unfold vY
  split
  · show 19 + 2 + 35 * 0 ≤ 35 * h; omega
  · show 19 + 2 + 35 * 0 ≤ 35 * h; omega
abbrev t_v_nextOf (G : Gh) (f : Nat) (x1 : Int32) (μ : Mem) (Q : Int32 → Mem → Prop) : Prop := tI G 0 (vY f Y_D_nextOf Y_F_nextOf) [.ref (gA G f), .int x1] μ Q
theorem vroom_nextOf {f h : Nat} (h1 : 0 + 1 ≤ h) (h2 : 19 + 3 + 35 * 0 ≤ 35 * h) : 0 + 1 ≤ h ∧ 19 + (vY f Y_D_nextOf Y_F_nextOf).2.2.1 + 35 * 0 ≤ 35 * h := by
  refine ⟨h1, ?_⟩
  unfold vY
  split
  · show 19 + 3 + 35 * 0 ≤ 35 * h; omega
  · show 19 + 2 + 35 * 0 ≤ 35 * h; omega
abbrev t_v_noteBusy (G : Gh) (f : Nat) (x1 : Int32) (μ : Mem) (Q : Mem → Prop) : Prop := tV G 0 (vY f Y_D_noteBusy Y_F_noteBusy) [.ref (gA G f), .int x1] μ Q
theorem vroom_noteBusy {f h : Nat} (h1 : 0 + 1 ≤ h) (h2 : 19 + 2 + 35 * 0 ≤ 35 * h) : 0 + 1 ≤ h ∧ 19 + (vY f Y_D_noteBusy Y_F_noteBusy).2.2.1 + 35 * 0 ≤ 35 * h := by
  refine ⟨h1, ?_⟩
  unfold vY
  split
  · show 19 + 2 + 35 * 0 ≤ 35 * h; omega
  · show 19 + 2 + 35 * 0 ≤ 35 * h; omega
abbrev t_v_noteDay (G : Gh) (f : Nat) (μ : Mem) (Q : Mem → Prop) : Prop := tV G 0 (vY f Y_D_noteDay Y_F_noteDay) [.ref (gA G f)] μ Q
theorem vroom_noteDay {f h : Nat} (h1 : 0 + 1 ≤ h) (h2 : 19 + 1 + 35 * 0 ≤ 35 * h) : 0 + 1 ≤ h ∧ 19 + (vY f Y_D_noteDay Y_F_noteDay).2.2.1 + 35 * 0 ≤ 35 * h := by
  refine ⟨h1, ?_⟩
  unfold vY
  split
  · show 19 + 1 + 35 * 0 ≤ 35 * h; omega
  · show 19 + 1 + 35 * 0 ≤ 35 * h; omega
abbrev t_v_notePassed (G : Gh) (f : Nat) (x1 : Int32) (μ : Mem) (Q : Mem → Prop) : Prop := tV G 0 (vY f Y_D_notePassed Y_F_notePassed) [.ref (gA G f), .int x1] μ Q
theorem vroom_notePassed {f h : Nat} (h1 : 0 + 1 ≤ h) (h2 : 19 + 2 + 35 * 0 ≤ 35 * h) : 0 + 1 ≤ h ∧ 19 + (vY f Y_D_notePassed Y_F_notePassed).2.2.1 + 35 * 0 ≤ 35 * h := by
  refine ⟨h1, ?_⟩
  unfold vY
  split
  · show 19 + 2 + 35 * 0 ≤ 35 * h; omega
  · show 19 + 2 + 35 * 0 ≤ 35 * h; omega
abbrev t_v_noteSigned (G : Gh) (f : Nat) (x1 : Int32) (μ : Mem) (Q : Mem → Prop) : Prop := tV G 0 (vY f Y_D_noteSigned Y_F_noteSigned) [.ref (gA G f), .int x1] μ Q
theorem vroom_noteSigned {f h : Nat} (h1 : 0 + 1 ≤ h) (h2 : 19 + 2 + 35 * 0 ≤ 35 * h) : 0 + 1 ≤ h ∧ 19 + (vY f Y_D_noteSigned Y_F_noteSigned).2.2.1 + 35 * 0 ≤ 35 * h := by
  refine ⟨h1, ?_⟩
  unfold vY
  split
  · show 19 + 2 + 35 * 0 ≤ 35 * h; omega
  · show 19 + 2 + 35 * 0 ≤ 35 * h; omega
