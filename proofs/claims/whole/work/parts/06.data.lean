-- methods
def vY (f : Nat) (a b : Yt) : Yt := if f = 12 then a else b
abbrev Y_C_clear : Yt := (⟨"InTraysPurgatory", "clear", "()I"⟩, prog_1_method_62_code, 2, (some FieldType.int))
theorem okM_C_clear : okM Y_C_clear 0 := ⟨mw_834, mw_89, ⟨by decide, by decide⟩, by decide +kernel, by decide +kernel⟩
abbrev Y_C_drawTray : Yt := (⟨"InTraysPurgatory", "drawTray", "()I"⟩, prog_1_method_65_code, 1, (some FieldType.int))
theorem okM_C_drawTray : okM Y_C_drawTray 0 := ⟨mw_846, mw_89, ⟨by decide, by decide⟩, by decide +kernel, by decide +kernel⟩
abbrev Y_C_firstSigned : Yt := (⟨"InTraysPurgatory", "firstSigned", "()I"⟩, prog_1_method_27_code, 3, (some FieldType.int))
theorem okM_C_firstSigned : okM Y_C_firstSigned 0 := ⟨mw_628, mw_89, ⟨by decide, by decide⟩, by decide +kernel, by decide +kernel⟩
abbrev Y_C_greatestCommon : Yt := (⟨"InTraysPurgatory", "greatestCommon", "(JJ)J"⟩, prog_1_method_48_code, 11, (some FieldType.long))
theorem okM_C_greatestCommon : okM Y_C_greatestCommon 2 := ⟨mw_754, mw_89, ⟨by decide, by decide⟩, by decide +kernel, by decide +kernel⟩
abbrev Y_C_isOfficial : Yt := (⟨"InTraysPurgatory", "isOfficial", "(I)Z"⟩, prog_1_method_70_code, 1, (some FieldType.boolean))
theorem okM_C_isOfficial : okM Y_C_isOfficial 1 := ⟨mw_352, mw_89, ⟨by decide, by decide⟩, by decide +kernel, by decide +kernel⟩
abbrev Y_C_isRoomForDays : Yt := (⟨"InTraysPurgatory", "isRoomForDays", "(II)Z"⟩, prog_1_method_13_code, 2, (some FieldType.boolean))
theorem okM_C_isRoomForDays : okM Y_C_isRoomForDays 2 := ⟨mw_391, mw_89, ⟨by decide, by decide⟩, by decide +kernel, by decide +kernel⟩
abbrev Y_C_isSooner : Yt := (⟨"InTraysPurgatory", "isSooner", "(II)Z"⟩, prog_1_method_71_code, 2, (some FieldType.boolean))
theorem okM_C_isSooner : okM Y_C_isSooner 2 := ⟨mw_648, mw_89, ⟨by decide, by decide⟩, by decide +kernel, by decide +kernel⟩
abbrev Y_C_leastOf : Yt := (⟨"InTraysPurgatory", "leastOf", "(I)I"⟩, prog_1_method_73_code, 1, (some FieldType.int))
theorem okM_C_leastOf : okM Y_C_leastOf 1 := ⟨mw_668, mw_89, ⟨by decide, by decide⟩, by decide +kernel, by decide +kernel⟩
abbrev Y_C_letterAt : Yt := (⟨"InTraysPurgatory", "letterAt", "(I)I"⟩, prog_1_method_5_code, 2, (some FieldType.int))
theorem okM_C_letterAt : okM Y_C_letterAt 1 := ⟨mw_321, mw_89, ⟨by decide, by decide⟩, by decide +kernel, by decide +kernel⟩
abbrev Y_C_mostOf : Yt := (⟨"InTraysPurgatory", "mostOf", "(I)I"⟩, prog_1_method_74_code, 1, (some FieldType.int))
theorem okM_C_mostOf : okM Y_C_mostOf 1 := ⟨mw_671, mw_89, ⟨by decide, by decide⟩, by decide +kernel, by decide +kernel⟩
abbrev Y_C_power : Yt := (⟨"InTraysPurgatory", "power", "(JI)J"⟩, prog_1_method_46_code, 6, (some FieldType.long))
theorem okM_C_power : okM Y_C_power 2 := ⟨mw_748, mw_89, ⟨by decide, by decide⟩, by decide +kernel, by decide +kernel⟩
abbrev Y_C_refuse : Yt := (⟨"InTraysPurgatory", "refuse", "(I)I"⟩, prog_1_method_69_code, 2, (some FieldType.int))
theorem okM_C_refuse : okM Y_C_refuse 1 := ⟨mw_309, mw_89, ⟨by decide, by decide⟩, by decide +kernel, by decide +kernel⟩
abbrev Y_C_statementLength : Yt := (⟨"InTraysPurgatory", "statementLength", "(I)I"⟩, prog_1_method_7_code, 1, (some FieldType.int))
theorem okM_C_statementLength : okM Y_C_statementLength 1 := ⟨mw_324, mw_89, ⟨by decide, by decide⟩, by decide +kernel, by decide +kernel⟩
abbrev Y_C_stopOf : Yt := (⟨"InTraysPurgatory", "stopOf", "(III)I"⟩, prog_1_method_43_code, 3, (some FieldType.int))
theorem okM_C_stopOf : okM Y_C_stopOf 3 := ⟨mw_733, mw_89, ⟨by decide, by decide⟩, by decide +kernel, by decide +kernel⟩
abbrev Y_D_isThere : Yt := (⟨"InTraysPurgatory$Mind", "isThere", "(I)Z"⟩, prog_4_method_6_code, 2, (some FieldType.boolean))
theorem okM_D_isThere : okM Y_D_isThere 1 := ⟨mw_412, mw_91, ⟨by decide, by decide⟩, by decide +kernel, by decide +kernel⟩
abbrev Y_D_nextOf : Yt := (⟨"InTraysPurgatory$Mind", "nextOf", "(I)I"⟩, prog_4_method_7_code, 3, (some FieldType.int))
theorem okM_D_nextOf : okM Y_D_nextOf 1 := ⟨mw_497, mw_91, ⟨by decide, by decide⟩, by decide +kernel, by decide +kernel⟩
abbrev Y_D_noteBusy : Yt := (⟨"InTraysPurgatory$Mind", "noteBusy", "(I)V"⟩, prog_4_method_9_code, 2, none)
theorem okM_D_noteBusy : okM Y_D_noteBusy 1 := ⟨mw_445, mw_91, ⟨by decide, by decide⟩, by decide +kernel, by decide +kernel⟩
abbrev Y_D_noteDay : Yt := (⟨"InTraysPurgatory$Mind", "noteDay", "()V"⟩, prog_4_method_8_code, 1, none)
theorem okM_D_noteDay : okM Y_D_noteDay 0 := ⟨mw_404, mw_91, ⟨by decide, by decide⟩, by decide +kernel, by decide +kernel⟩
abbrev Y_D_notePassed : Yt := (⟨"InTraysPurgatory$Mind", "notePassed", "(I)V"⟩, prog_4_method_11_code, 2, none)
theorem okM_D_notePassed : okM Y_D_notePassed 1 := ⟨mw_505, mw_91, ⟨by decide, by decide⟩, by decide +kernel, by decide +kernel⟩
abbrev Y_D_noteSigned : Yt := (⟨"InTraysPurgatory$Mind", "noteSigned", "(I)V"⟩, prog_4_method_10_code, 2, none)
theorem okM_D_noteSigned : okM Y_D_noteSigned 1 := ⟨mw_485, mw_91, ⟨by decide, by decide⟩, by decide +kernel, by decide +kernel⟩
abbrev Y_D_putAhead : Yt := (⟨"InTraysPurgatory$Mind", "putAhead", "(I)V"⟩, prog_4_method_5_code, 2, none)
theorem okM_D_putAhead : okM Y_D_putAhead 1 := ⟨mw_661, mw_91, ⟨by decide, by decide⟩, by decide +kernel, by decide +kernel⟩
abbrev Y_F_allBorne : Yt := (⟨"InTraysPurgatory$Floor", "allBorne", "()I"⟩, prog_2_method_12_code, 3, (some FieldType.int))
theorem okM_F_allBorne : okM Y_F_allBorne 0 := ⟨mw_694, mw_90, ⟨by decide, by decide⟩, by decide +kernel, by decide +kernel⟩
abbrev Y_F_allMinutes : Yt := (⟨"InTraysPurgatory$Floor", "allMinutes", "()I"⟩, prog_2_method_13_code, 3, (some FieldType.int))
theorem okM_F_allMinutes : okM Y_F_allMinutes 0 := ⟨mw_805, mw_90, ⟨by decide, by decide⟩, by decide +kernel, by decide +kernel⟩
abbrev Y_F_has : Yt := (⟨"InTraysPurgatory$Floor", "has", "(I)Z"⟩, prog_2_method_3_code, 2, (some FieldType.boolean))
theorem okM_F_has : okM Y_F_has 1 := ⟨mw_382, mw_90, ⟨by decide, by decide⟩, by decide +kernel, by decide +kernel⟩
abbrev Y_F_isThere : Yt := (⟨"InTraysPurgatory$Floor", "isThere", "(I)Z"⟩, prog_2_method_22_code, 2, (some FieldType.boolean))
theorem okM_F_isThere : okM Y_F_isThere 1 := ⟨mw_413, mw_90, ⟨by decide, by decide⟩, by decide +kernel, by decide +kernel⟩
abbrev Y_F_liesIn : Yt := (⟨"InTraysPurgatory$Floor", "liesIn", "(II)Z"⟩, prog_2_method_7_code, 3, (some FieldType.boolean))
theorem okM_F_liesIn : okM Y_F_liesIn 2 := ⟨mw_429, mw_90, ⟨by decide, by decide⟩, by decide +kernel, by decide +kernel⟩
abbrev Y_F_nextOf : Yt := (⟨"InTraysPurgatory$Floor", "nextOf", "(I)I"⟩, prog_2_method_23_code, 2, (some FieldType.int))
theorem okM_F_nextOf : okM Y_F_nextOf 1 := ⟨mw_498, mw_90, ⟨by decide, by decide⟩, by decide +kernel, by decide +kernel⟩
abbrev Y_F_noteBusy : Yt := (⟨"InTraysPurgatory$Floor", "noteBusy", "(I)V"⟩, prog_2_method_25_code, 2, none)
theorem okM_F_noteBusy : okM Y_F_noteBusy 1 := ⟨mw_446, mw_90, ⟨by decide, by decide⟩, by decide +kernel, by decide +kernel⟩
abbrev Y_F_noteDay : Yt := (⟨"InTraysPurgatory$Floor", "noteDay", "()V"⟩, prog_2_method_24_code, 1, none)
theorem okM_F_noteDay : okM Y_F_noteDay 0 := ⟨mw_405, mw_90, ⟨by decide, by decide⟩, by decide +kernel, by decide +kernel⟩
abbrev Y_F_notePassed : Yt := (⟨"InTraysPurgatory$Floor", "notePassed", "(I)V"⟩, prog_2_method_27_code, 2, none)
theorem okM_F_notePassed : okM Y_F_notePassed 1 := ⟨mw_506, mw_90, ⟨by decide, by decide⟩, by decide +kernel, by decide +kernel⟩
abbrev Y_F_noteSigned : Yt := (⟨"InTraysPurgatory$Floor", "noteSigned", "(I)V"⟩, prog_2_method_26_code, 2, none)
theorem okM_F_noteSigned : okM Y_F_noteSigned 1 := ⟨mw_486, mw_90, ⟨by decide, by decide⟩, by decide +kernel, by decide +kernel⟩
abbrev Y_F_putBehind : Yt := (⟨"InTraysPurgatory$Floor", "putBehind", "(II)V"⟩, prog_2_method_5_code, 3, none)
theorem okM_F_putBehind : okM Y_F_putBehind 2 := ⟨mw_364, mw_90, ⟨by decide, by decide⟩, by decide +kernel, by decide +kernel⟩
abbrev Y_F_those : Yt := (⟨"InTraysPurgatory$Floor", "those", "(I)I"⟩, prog_2_method_10_code, 4, (some FieldType.int))
theorem okM_F_those : okM Y_F_those 1 := ⟨mw_565, mw_90, ⟨by decide, by decide⟩, by decide +kernel, by decide +kernel⟩
abbrev Y_J_bitCount : Yt := (⟨"java/lang/Integer", "bitCount", "(I)I"⟩, prog_8_method_49_code, 1, (some FieldType.int))
theorem okM_J_bitCount : okM Y_J_bitCount 1 := ⟨mw_568, mw_97, ⟨by decide, by decide⟩, by decide +kernel, by decide +kernel⟩
abbrev Y_K_haste : Yt := (⟨"InTraysPurgatory$Kinds", "haste", "(I)I"⟩, prog_3_method_5_code, 1, (some FieldType.int))
theorem okM_K_haste : okM Y_K_haste 1 := ⟨mw_438, mw_95, ⟨by decide, by decide⟩, by decide +kernel, by decide +kernel⟩
abbrev Y_K_rings : Yt := (⟨"InTraysPurgatory$Kinds", "rings", "(II)I"⟩, prog_3_method_4_code, 2, (some FieldType.int))
theorem okM_K_rings : okM Y_K_rings 2 := ⟨mw_464, mw_95, ⟨by decide, by decide⟩, by decide +kernel, by decide +kernel⟩
abbrev Y_K_weight : Yt := (⟨"InTraysPurgatory$Kinds", "weight", "(II)I"⟩, prog_3_method_2_code, 4, (some FieldType.int))
theorem okM_K_weight : okM Y_K_weight 2 := ⟨mw_461, mw_95, ⟨by decide, by decide⟩, by decide +kernel, by decide +kernel⟩
abbrev Y_M_allBorne : Yt := (⟨"InTraysPurgatoryModel", "allBorne", "()I"⟩, prog_7_method_76_code, 3, (some FieldType.int))
theorem okM_M_allBorne : okM Y_M_allBorne 0 := ⟨mw_1270, mw_93, ⟨by decide, by decide⟩, by decide +kernel, by decide +kernel⟩
abbrev Y_M_allPasses : Yt := (⟨"InTraysPurgatoryModel", "allPasses", "()I"⟩, prog_7_method_102_code, 3, (some FieldType.int))
theorem okM_M_allPasses : okM Y_M_allPasses 0 := ⟨mw_1381, mw_93, ⟨by decide, by decide⟩, by decide +kernel, by decide +kernel⟩
abbrev Y_M_bits : Yt := (⟨"InTraysPurgatoryModel", "bits", "(I)I"⟩, prog_7_method_9_code, 3, (some FieldType.int))
theorem okM_M_bits : okM Y_M_bits 1 := ⟨mw_1135, mw_93, ⟨by decide, by decide⟩, by decide +kernel, by decide +kernel⟩
abbrev Y_M_bound : Yt := (⟨"InTraysPurgatoryModel", "bound", "(III)I"⟩, prog_7_method_6_code, 3, (some FieldType.int))
theorem okM_M_bound : okM Y_M_bound 3 := ⟨mw_988, mw_93, ⟨by decide, by decide⟩, by decide +kernel, by decide +kernel⟩
abbrev Y_M_clear : Yt := (⟨"InTraysPurgatoryModel", "clear", "()I"⟩, prog_7_method_110_code, 2, (some FieldType.int))
theorem okM_M_clear : okM Y_M_clear 0 := ⟨mw_1409, mw_93, ⟨by decide, by decide⟩, by decide +kernel, by decide +kernel⟩
abbrev Y_M_divisor : Yt := (⟨"InTraysPurgatoryModel", "divisor", "(JJ)J"⟩, prog_7_method_91_code, 10, (some FieldType.long))
theorem okM_M_divisor : okM Y_M_divisor 2 := ⟨mw_1341, mw_93, ⟨by decide, by decide⟩, by decide +kernel, by decide +kernel⟩
abbrev Y_M_draw : Yt := (⟨"InTraysPurgatoryModel", "draw", "(I)I"⟩, prog_7_method_111_code, 2, (some FieldType.int))
theorem okM_M_draw : okM Y_M_draw 1 := ⟨mw_1417, mw_93, ⟨by decide, by decide⟩, by decide +kernel, by decide +kernel⟩
abbrev Y_M_far : Yt := (⟨"InTraysPurgatoryModel", "far", "(II)I"⟩, prog_7_method_85_code, 2, (some FieldType.int))
theorem okM_M_far : okM Y_M_far 2 := ⟨mw_1314, mw_93, ⟨by decide, by decide⟩, by decide +kernel, by decide +kernel⟩
abbrev Y_M_goesTo : Yt := (⟨"InTraysPurgatoryModel", "goesTo", "(II)V"⟩, prog_7_method_32_code, 3, none)
theorem okM_M_goesTo : okM Y_M_goesTo 2 := ⟨mw_1046, mw_93, ⟨by decide, by decide⟩, by decide +kernel, by decide +kernel⟩
abbrev Y_M_has : Yt := (⟨"InTraysPurgatoryModel", "has", "(II)Z"⟩, prog_7_method_8_code, 2, (some FieldType.boolean))
theorem okM_M_has : okM Y_M_has 2 := ⟨mw_1081, mw_93, ⟨by decide, by decide⟩, by decide +kernel, by decide +kernel⟩
abbrev Y_M_hasteOf : Yt := (⟨"InTraysPurgatoryModel", "hasteOf", "(I)I"⟩, prog_7_method_37_code, 2, (some FieldType.int))
theorem okM_M_hasteOf : okM Y_M_hasteOf 1 := ⟨mw_1085, mw_93, ⟨by decide, by decide⟩, by decide +kernel, by decide +kernel⟩
abbrev Y_M_held : Yt := (⟨"InTraysPurgatoryModel", "held", "(III)I"⟩, prog_7_method_7_code, 3, (some FieldType.int))
theorem okM_M_held : okM Y_M_held 3 := ⟨mw_1112, mw_93, ⟨by decide, by decide⟩, by decide +kernel, by decide +kernel⟩
abbrev Y_M_isIn : Yt := (⟨"InTraysPurgatoryModel", "isIn", "(III)Z"⟩, prog_7_method_5_code, 3, (some FieldType.boolean))
theorem okM_M_isIn : okM Y_M_isIn 3 := ⟨mw_1015, mw_93, ⟨by decide, by decide⟩, by decide +kernel, by decide +kernel⟩
abbrev Y_M_isOfficial : Yt := (⟨"InTraysPurgatoryModel", "isOfficial", "(I)Z"⟩, prog_7_method_10_code, 1, (some FieldType.boolean))
theorem okM_M_isOfficial : okM Y_M_isOfficial 1 := ⟨mw_1038, mw_93, ⟨by decide, by decide⟩, by decide +kernel, by decide +kernel⟩
abbrev Y_M_isSheet : Yt := (⟨"InTraysPurgatoryModel", "isSheet", "(I)Z"⟩, prog_7_method_11_code, 2, (some FieldType.boolean))
theorem okM_M_isSheet : okM Y_M_isSheet 1 := ⟨mw_1054, mw_93, ⟨by decide, by decide⟩, by decide +kernel, by decide +kernel⟩
abbrev Y_M_lower : Yt := (⟨"InTraysPurgatoryModel", "lower", "(I)I"⟩, prog_7_method_3_code, 2, (some FieldType.int))
theorem okM_M_lower : okM Y_M_lower 1 := ⟨mw_1278, mw_93, ⟨by decide, by decide⟩, by decide +kernel, by decide +kernel⟩
abbrev Y_M_lowest : Yt := (⟨"InTraysPurgatoryModel", "lowest", "(I)J"⟩, prog_7_method_4_code, 2, (some FieldType.long))
theorem okM_M_lowest : okM Y_M_lowest 1 := ⟨mw_1334, mw_93, ⟨by decide, by decide⟩, by decide +kernel, by decide +kernel⟩
abbrev Y_M_next : Yt := (⟨"InTraysPurgatoryModel", "next", "()I"⟩, prog_7_method_14_code, 1, (some FieldType.int))
theorem okM_M_next : okM Y_M_next 0 := ⟨mw_1004, mw_93, ⟨by decide, by decide⟩, by decide +kernel, by decide +kernel⟩
abbrev Y_M_nextOf : Yt := (⟨"InTraysPurgatoryModel", "nextOf", "(I)I"⟩, prog_7_method_40_code, 3, (some FieldType.int))
theorem okM_M_nextOf : okM Y_M_nextOf 1 := ⟨mw_1116, mw_93, ⟨by decide, by decide⟩, by decide +kernel, by decide +kernel⟩
abbrev Y_M_no : Yt := (⟨"InTraysPurgatoryModel", "no", "(I)I"⟩, prog_7_method_2_code, 2, (some FieldType.int))
theorem okM_M_no : okM Y_M_no 1 := ⟨mw_992, mw_93, ⟨by decide, by decide⟩, by decide +kernel, by decide +kernel⟩
abbrev Y_M_passOne : Yt := (⟨"InTraysPurgatoryModel", "passOne", "(I)I"⟩, prog_7_method_23_code, 3, (some FieldType.int))
theorem okM_M_passOne : okM Y_M_passOne 1 := ⟨mw_1027, mw_93, ⟨by decide, by decide⟩, by decide +kernel, by decide +kernel⟩
abbrev Y_M_passesRow : Yt := (⟨"InTraysPurgatoryModel", "passesRow", "([I)V"⟩, prog_7_method_22_code, 3, none)
theorem okM_M_passesRow : okM Y_M_passesRow 1 := ⟨mw_1023, mw_93, ⟨by decide, by decide⟩, by decide +kernel, by decide +kernel⟩
abbrev Y_M_ringsOf : Yt := (⟨"InTraysPurgatoryModel", "ringsOf", "(I)I"⟩, prog_7_method_36_code, 2, (some FieldType.int))
theorem okM_M_ringsOf : okM Y_M_ringsOf 1 := ⟨mw_1105, mw_93, ⟨by decide, by decide⟩, by decide +kernel, by decide +kernel⟩
abbrev Y_M_startsPassings : Yt := (⟨"InTraysPurgatoryModel", "startsPassings", "()V"⟩, prog_7_method_47_code, 2, none)
theorem okM_M_startsPassings : okM Y_M_startsPassings 0 := ⟨mw_1262, mw_93, ⟨by decide, by decide⟩, by decide +kernel, by decide +kernel⟩
abbrev Y_M_trayOf : Yt := (⟨"InTraysPurgatoryModel", "trayOf", "(I)I"⟩, prog_7_method_41_code, 4, (some FieldType.int))
theorem okM_M_trayOf : okM Y_M_trayOf 1 := ⟨mw_1074, mw_93, ⟨by decide, by decide⟩, by decide +kernel, by decide +kernel⟩
abbrev Y_M_weightOf : Yt := (⟨"InTraysPurgatoryModel", "weightOf", "(I)I"⟩, prog_7_method_34_code, 3, (some FieldType.int))
theorem okM_M_weightOf : okM Y_M_weightOf 1 := ⟨mw_1101, mw_93, ⟨by decide, by decide⟩, by decide +kernel, by decide +kernel⟩
abbrev Y_P_forget : Yt := (⟨"InTraysPurgatory$Past", "forget", "()V"⟩, prog_5_method_4_code, 1, none)
theorem okM_P_forget : okM Y_P_forget 0 := ⟨mw_511, mw_92, ⟨by decide, by decide⟩, by decide +kernel, by decide +kernel⟩
abbrev Y_C_count : Yt := (⟨"InTraysPurgatory", "count", "(I)I"⟩, prog_1_method_68_code, 2, (some FieldType.int))
theorem okM_C_count : okM Y_C_count 1 := ⟨mw_865, mw_89, ⟨by decide, by decide⟩, by decide +kernel, by decide +kernel⟩
abbrev Y_C_dealTrays : Yt := (⟨"InTraysPurgatory", "dealTrays", "()V"⟩, prog_1_method_64_code, 2, none)
theorem okM_C_dealTrays : okM Y_C_dealTrays 0 := ⟨mw_842, mw_89, ⟨by decide, by decide⟩, by decide +kernel, by decide +kernel⟩
abbrev Y_C_digitAt : Yt := (⟨"InTraysPurgatory", "digitAt", "(I)I"⟩, prog_1_method_6_code, 2, (some FieldType.int))
theorem okM_C_digitAt : okM Y_C_digitAt 1 := ⟨mw_345, mw_89, ⟨by decide, by decide⟩, by decide +kernel, by decide +kernel⟩
abbrev Y_C_fair : Yt := (⟨"InTraysPurgatory", "fair", "(I)I"⟩, prog_1_method_34_code, 5, (some FieldType.int))
theorem okM_C_fair : okM Y_C_fair 1 := ⟨mw_688, mw_89, ⟨by decide, by decide⟩, by decide +kernel, by decide +kernel⟩
abbrev Y_C_feed : Yt := (⟨"InTraysPurgatory", "feed", "(I)I"⟩, prog_1_method_2_code, 2, (some FieldType.int))
theorem okM_C_feed : okM Y_C_feed 1 := ⟨mw_305, mw_89, ⟨by decide, by decide⟩, by decide +kernel, by decide +kernel⟩
abbrev Y_C_firstWrongLetter : Yt := (⟨"InTraysPurgatory", "firstWrongLetter", "()I"⟩, prog_1_method_4_code, 4, (some FieldType.int))
theorem okM_C_firstWrongLetter : okM Y_C_firstWrongLetter 0 := ⟨mw_317, mw_89, ⟨by decide, by decide⟩, by decide +kernel, by decide +kernel⟩
abbrev Y_C_inLowestTerms : Yt := (⟨"InTraysPurgatory", "inLowestTerms", "(JJI)J"⟩, prog_1_method_47_code, 7, (some FieldType.long))
theorem okM_C_inLowestTerms : okM Y_C_inLowestTerms 3 := ⟨mw_751, mw_89, ⟨by decide, by decide⟩, by decide +kernel, by decide +kernel⟩
abbrev Y_C_lastSignedOn : Yt := (⟨"InTraysPurgatory", "lastSignedOn", "()I"⟩, prog_1_method_28_code, 3, (some FieldType.int))
theorem okM_C_lastSignedOn : okM Y_C_lastSignedOn 0 := ⟨mw_636, mw_89, ⟨by decide, by decide⟩, by decide +kernel, by decide +kernel⟩
abbrev Y_C_longest : Yt := (⟨"InTraysPurgatory", "longest", "(I)I"⟩, prog_1_method_50_code, 4, (some FieldType.int))
theorem okM_C_longest : okM Y_C_longest 1 := ⟨mw_762, mw_89, ⟨by decide, by decide⟩, by decide +kernel, by decide +kernel⟩
abbrev Y_C_noteAsItIs : Yt := (⟨"InTraysPurgatory", "noteAsItIs", "()V"⟩, prog_1_method_76_code, 1, none)
theorem okM_C_noteAsItIs : okM Y_C_noteAsItIs 0 := ⟨mw_656, mw_89, ⟨by decide, by decide⟩, by decide +kernel, by decide +kernel⟩
abbrev Y_C_officialBecomes : Yt := (⟨"InTraysPurgatory", "officialBecomes", "(III)Z"⟩, prog_1_method_10_code, 4, (some FieldType.boolean))
theorem okM_C_officialBecomes : okM Y_C_officialBecomes 3 := ⟨mw_368, mw_89, ⟨by decide, by decide⟩, by decide +kernel, by decide +kernel⟩
abbrev Y_C_officialMoves : Yt := (⟨"InTraysPurgatory", "officialMoves", "(II)Z"⟩, prog_1_method_11_code, 3, (some FieldType.boolean))
theorem okM_C_officialMoves : okM Y_C_officialMoves 2 := ⟨mw_372, mw_89, ⟨by decide, by decide⟩, by decide +kernel, by decide +kernel⟩
abbrev Y_C_row : Yt := (⟨"InTraysPurgatory", "row", "(I)I"⟩, prog_1_method_59_code, 2, (some FieldType.int))
theorem okM_C_row : okM Y_C_row 1 := ⟨mw_821, mw_89, ⟨by decide, by decide⟩, by decide +kernel, by decide +kernel⟩
abbrev Y_C_sheetOf : Yt := (⟨"InTraysPurgatory", "sheetOf", "(II)I"⟩, prog_1_method_15_code, 3, (some FieldType.int))
theorem okM_C_sheetOf : okM Y_C_sheetOf 2 := ⟨mw_525, mw_89, ⟨by decide, by decide⟩, by decide +kernel, by decide +kernel⟩
abbrev Y_D_aheadIn : Yt := (⟨"InTraysPurgatory$Mind", "aheadIn", "(II)I"⟩, prog_4_method_4_code, 6, (some FieldType.int))
theorem okM_D_aheadIn : okM Y_D_aheadIn 2 := ⟨mw_785, mw_91, ⟨by decide, by decide⟩, by decide +kernel, by decide +kernel⟩
abbrev Y_F_add : Yt := (⟨"InTraysPurgatory$Floor", "add", "(III)I"⟩, prog_2_method_4_code, 5, (some FieldType.int))
theorem okM_F_add : okM Y_F_add 3 := ⟨mw_358, mw_90, ⟨by decide, by decide⟩, by decide +kernel, by decide +kernel⟩
abbrev Y_F_howMany : Yt := (⟨"InTraysPurgatory$Floor", "howMany", "(I)I"⟩, prog_2_method_11_code, 2, (some FieldType.int))
theorem okM_F_howMany : okM Y_F_howMany 1 := ⟨mw_559, mw_90, ⟨by decide, by decide⟩, by decide +kernel, by decide +kernel⟩
abbrev Y_F_isTakenAhead : Yt := (⟨"InTraysPurgatory$Floor", "isTakenAhead", "(II)Z"⟩, prog_2_method_16_code, 4, (some FieldType.boolean))
theorem okM_F_isTakenAhead : okM Y_F_isTakenAhead 2 := ⟨mw_435, mw_90, ⟨by decide, by decide⟩, by decide +kernel, by decide +kernel⟩
abbrev Y_F_loadOf : Yt := (⟨"InTraysPurgatory$Floor", "loadOf", "(I)I"⟩, prog_2_method_14_code, 2, (some FieldType.int))
theorem okM_F_loadOf : okM Y_F_loadOf 1 := ⟨mw_458, mw_90, ⟨by decide, by decide⟩, by decide +kernel, by decide +kernel⟩
abbrev Y_F_loseOrFind : Yt := (⟨"InTraysPurgatory$Floor", "loseOrFind", "(I)V"⟩, prog_2_method_6_code, 2, none)
theorem okM_F_loseOrFind : okM Y_F_loseOrFind 1 := ⟨mw_388, mw_90, ⟨by decide, by decide⟩, by decide +kernel, by decide +kernel⟩
abbrev Y_F_passOn : Yt := (⟨"InTraysPurgatory$Floor", "passOn", "(II)V"⟩, prog_2_method_21_code, 3, none)
theorem okM_F_passOn : okM Y_F_passOn 2 := ⟨mw_490, mw_90, ⟨by decide, by decide⟩, by decide +kernel, by decide +kernel⟩
abbrev Y_F_placeOf : Yt := (⟨"InTraysPurgatory$Floor", "placeOf", "(I)I"⟩, prog_2_method_9_code, 4, (some FieldType.int))
theorem okM_F_placeOf : okM Y_F_placeOf 1 := ⟨mw_604, mw_90, ⟨by decide, by decide⟩, by decide +kernel, by decide +kernel⟩
abbrev Y_F_takeOver : Yt := (⟨"InTraysPurgatory$Floor", "takeOver", "(LInTraysPurgatory$Floor;)V"⟩, prog_2_method_2_code, 2, none)
theorem okM_F_takeOver : okM Y_F_takeOver 1 := ⟨mw_334, mw_90, ⟨by decide, by decide⟩, by decide +kernel, by decide +kernel⟩
abbrev Y_F_waitingIn : Yt := (⟨"InTraysPurgatory$Floor", "waitingIn", "(I)I"⟩, prog_2_method_8_code, 4, (some FieldType.int))
theorem okM_F_waitingIn : okM Y_F_waitingIn 1 := ⟨mw_521, mw_90, ⟨by decide, by decide⟩, by decide +kernel, by decide +kernel⟩
abbrev Y_K_part : Yt := (⟨"InTraysPurgatory$Kinds", "part", "(II)I"⟩, prog_3_method_3_code, 2, (some FieldType.int))
theorem okM_K_part : okM Y_K_part 2 := ⟨mw_471, mw_95, ⟨by decide, by decide⟩, by decide +kernel, by decide +kernel⟩
abbrev Y_M_adds : Yt := (⟨"InTraysPurgatoryModel", "adds", "(III)V"⟩, prog_7_method_31_code, 4, none)
theorem okM_M_adds : okM Y_M_adds 3 := ⟨mw_1042, mw_93, ⟨by decide, by decide⟩, by decide +kernel, by decide +kernel⟩
abbrev Y_M_comesOfficial : Yt := (⟨"InTraysPurgatoryModel", "comesOfficial", "(III)Z"⟩, prog_7_method_18_code, 4, (some FieldType.boolean))
theorem okM_M_comesOfficial : okM Y_M_comesOfficial 3 := ⟨mw_1050, mw_93, ⟨by decide, by decide⟩, by decide +kernel, by decide +kernel⟩
abbrev Y_M_fair : Yt := (⟨"InTraysPurgatoryModel", "fair", "(I)I"⟩, prog_7_method_77_code, 5, (some FieldType.int))
theorem okM_M_fair : okM Y_M_fair 1 := ⟨mw_1266, mw_93, ⟨by decide, by decide⟩, by decide +kernel, by decide +kernel⟩
abbrev Y_M_feed : Yt := (⟨"InTraysPurgatoryModel", "feed", "(I)I"⟩, prog_7_method_13_code, 3, (some FieldType.int))
theorem okM_M_feed : okM Y_M_feed 1 := ⟨mw_985, mw_93, ⟨by decide, by decide⟩, by decide +kernel, by decide +kernel⟩
abbrev Y_M_findShortest : Yt := (⟨"InTraysPurgatoryModel", "findShortest", "()V"⟩, prog_7_method_86_code, 6, none)
theorem okM_M_findShortest : okM Y_M_findShortest 0 := ⟨mw_1311, mw_93, ⟨by decide, by decide⟩, by decide +kernel, by decide +kernel⟩
abbrev Y_M_fullTrays : Yt := (⟨"InTraysPurgatoryModel", "fullTrays", "()I"⟩, prog_7_method_87_code, 3, (some FieldType.int))
theorem okM_M_fullTrays : okM Y_M_fullTrays 0 := ⟨mw_1318, mw_93, ⟨by decide, by decide⟩, by decide +kernel, by decide +kernel⟩
abbrev Y_M_fullest : Yt := (⟨"InTraysPurgatoryModel", "fullest", "(I)I"⟩, prog_7_method_94_code, 4, (some FieldType.int))
theorem okM_M_fullest : okM Y_M_fullest 1 := ⟨mw_1345, mw_93, ⟨by decide, by decide⟩, by decide +kernel, by decide +kernel⟩
abbrev Y_M_inLeast : Yt := (⟨"InTraysPurgatoryModel", "inLeast", "(JJI)J"⟩, prog_7_method_92_code, 5, (some FieldType.long))
theorem okM_M_inLeast : okM Y_M_inLeast 3 := ⟨mw_1338, mw_93, ⟨by decide, by decide⟩, by decide +kernel, by decide +kernel⟩
abbrev Y_M_loadOf : Yt := (⟨"InTraysPurgatoryModel", "loadOf", "(I)I"⟩, prog_7_method_38_code, 2, (some FieldType.int))
theorem okM_M_loadOf : okM Y_M_loadOf 1 := ⟨mw_1097, mw_93, ⟨by decide, by decide⟩, by decide +kernel, by decide +kernel⟩
abbrev Y_M_mislaysOne : Yt := (⟨"InTraysPurgatoryModel", "mislaysOne", "(I)V"⟩, prog_7_method_33_code, 2, none)
theorem okM_M_mislaysOne : okM Y_M_mislaysOne 1 := ⟨mw_1058, mw_93, ⟨by decide, by decide⟩, by decide +kernel, by decide +kernel⟩
abbrev Y_M_notDays : Yt := (⟨"InTraysPurgatoryModel", "notDays", "(I)I"⟩, prog_7_method_58_code, 1, (some FieldType.int))
theorem okM_M_notDays : okM Y_M_notDays 1 := ⟨mw_1182, mw_93, ⟨by decide, by decide⟩, by decide +kernel, by decide +kernel⟩
abbrev Y_M_officialOf : Yt := (⟨"InTraysPurgatoryModel", "officialOf", "(II)I"⟩, prog_7_method_51_code, 3, (some FieldType.int))
theorem okM_M_officialOf : okM Y_M_officialOf 2 := ⟨mw_1132, mw_93, ⟨by decide, by decide⟩, by decide +kernel, by decide +kernel⟩
abbrev Y_M_partOf : Yt := (⟨"InTraysPurgatoryModel", "partOf", "(I)I"⟩, prog_7_method_35_code, 2, (some FieldType.int))
theorem okM_M_partOf : okM Y_M_partOf 1 := ⟨mw_1109, mw_93, ⟨by decide, by decide⟩, by decide +kernel, by decide +kernel⟩
abbrev Y_M_passesAll : Yt := (⟨"InTraysPurgatoryModel", "passesAll", "(IZ)V"⟩, prog_7_method_24_code, 3, none)
theorem okM_M_passesAll : okM Y_M_passesAll 2 := ⟨mw_1019, mw_93, ⟨by decide, by decide⟩, by decide +kernel, by decide +kernel⟩
abbrev Y_M_readsDigits : Yt := (⟨"InTraysPurgatoryModel", "readsDigits", "(II)Z"⟩, prog_7_method_15_code, 5, (some FieldType.boolean))
theorem okM_M_readsDigits : okM Y_M_readsDigits 2 := ⟨mw_1012, mw_93, ⟨by decide, by decide⟩, by decide +kernel, by decide +kernel⟩
abbrev Y_M_row : Yt := (⟨"InTraysPurgatoryModel", "row", "(I)I"⟩, prog_7_method_107_code, 3, (some FieldType.int))
theorem okM_M_row : okM Y_M_row 1 := ⟨mw_1397, mw_93, ⟨by decide, by decide⟩, by decide +kernel, by decide +kernel⟩
abbrev Y_M_setIn : Yt := (⟨"InTraysPurgatoryModel", "setIn", "(II)I"⟩, prog_7_method_48_code, 5, (some FieldType.int))
theorem okM_M_setIn : okM Y_M_setIn 2 := ⟨mw_1159, mw_93, ⟨by decide, by decide⟩, by decide +kernel, by decide +kernel⟩
abbrev Y_M_sheetOf : Yt := (⟨"InTraysPurgatoryModel", "sheetOf", "(II)I"⟩, prog_7_method_52_code, 3, (some FieldType.int))
theorem okM_M_sheetOf : okM Y_M_sheetOf 2 := ⟨mw_1139, mw_93, ⟨by decide, by decide⟩, by decide +kernel, by decide +kernel⟩
abbrev Y_M_topOf : Yt := (⟨"InTraysPurgatoryModel", "topOf", "(I)I"⟩, prog_7_method_42_code, 4, (some FieldType.int))
theorem okM_M_topOf : okM Y_M_topOf 1 := ⟨mw_1078, mw_93, ⟨by decide, by decide⟩, by decide +kernel, by decide +kernel⟩
abbrev Y_M_waits : Yt := (⟨"InTraysPurgatoryModel", "waits", "(I)Z"⟩, prog_7_method_12_code, 2, (some FieldType.boolean))
theorem okM_M_waits : okM Y_M_waits 1 := ⟨mw_1167, mw_93, ⟨by decide, by decide⟩, by decide +kernel, by decide +kernel⟩
abbrev Y_C_average : Yt := (⟨"InTraysPurgatory", "average", "(I)J"⟩, prog_1_method_55_code, 2, (some FieldType.long))
theorem okM_C_average : okM Y_C_average 1 := ⟨mw_799, mw_89, ⟨by decide, by decide⟩, by decide +kernel, by decide +kernel⟩
abbrev Y_C_firstNotSo : Yt := (⟨"InTraysPurgatory", "firstNotSo", "(I)I"⟩, prog_1_method_61_code, 4, (some FieldType.int))
theorem okM_C_firstNotSo : okM Y_C_firstNotSo 1 := ⟨mw_829, mw_89, ⟨by decide, by decide⟩, by decide +kernel, by decide +kernel⟩
abbrev Y_C_fullest : Yt := (⟨"InTraysPurgatory", "fullest", "(I)I"⟩, prog_1_method_49_code, 4, (some FieldType.int))
theorem okM_C_fullest : okM Y_C_fullest 1 := ⟨mw_758, mw_89, ⟨by decide, by decide⟩, by decide +kernel, by decide +kernel⟩
abbrev Y_C_heaviest : Yt := (⟨"InTraysPurgatory", "heaviest", "(I)I"⟩, prog_1_method_35_code, 4, (some FieldType.int))
theorem okM_C_heaviest : okM Y_C_heaviest 1 := ⟨mw_699, mw_89, ⟨by decide, by decide⟩, by decide +kernel, by decide +kernel⟩
abbrev Y_C_image : Yt := (⟨"InTraysPurgatory", "image", "()I"⟩, prog_1_method_66_code, 1, (some FieldType.int))
theorem okM_C_image : okM Y_C_image 0 := ⟨mw_857, mw_89, ⟨by decide, by decide⟩, by decide +kernel, by decide +kernel⟩
abbrev Y_C_officialOf : Yt := (⟨"InTraysPurgatory", "officialOf", "(II)I"⟩, prog_1_method_14_code, 3, (some FieldType.int))
theorem okM_C_officialOf : okM Y_C_officialOf 2 := ⟨mw_515, mw_89, ⟨by decide, by decide⟩, by decide +kernel, by decide +kernel⟩
abbrev Y_C_queue : Yt := (⟨"InTraysPurgatory", "queue", "(II)I"⟩, prog_1_method_52_code, 5, (some FieldType.int))
theorem okM_C_queue : okM Y_C_queue 2 := ⟨mw_771, mw_89, ⟨by decide, by decide⟩, by decide +kernel, by decide +kernel⟩
abbrev Y_C_restore : Yt := (⟨"InTraysPurgatory", "restore", "()I"⟩, prog_1_method_67_code, 1, (some FieldType.int))
theorem okM_C_restore : okM Y_C_restore 0 := ⟨mw_861, mw_89, ⟨by decide, by decide⟩, by decide +kernel, by decide +kernel⟩
abbrev Y_C_sheet : Yt := (⟨"InTraysPurgatory", "sheet", "(III)I"⟩, prog_1_method_16_code, 4, (some FieldType.int))
theorem okM_C_sheet : okM Y_C_sheet 3 := ⟨mw_533, mw_89, ⟨by decide, by decide⟩, by decide +kernel, by decide +kernel⟩
abbrev Y_C_sheetComes : Yt := (⟨"InTraysPurgatory", "sheetComes", "(III)Z"⟩, prog_1_method_9_code, 4, (some FieldType.boolean))
theorem okM_C_sheetComes : okM Y_C_sheetComes 3 := ⟨mw_349, mw_89, ⟨by decide, by decide⟩, by decide +kernel, by decide +kernel⟩
abbrev Y_C_sheetIsMislaid : Yt := (⟨"InTraysPurgatory", "sheetIsMislaid", "(I)Z"⟩, prog_1_method_12_code, 2, (some FieldType.boolean))
theorem okM_C_sheetIsMislaid : okM Y_C_sheetIsMislaid 1 := ⟨mw_376, mw_89, ⟨by decide, by decide⟩, by decide +kernel, by decide +kernel⟩
abbrev Y_C_wayOf : Yt := (⟨"InTraysPurgatory", "wayOf", "(II)I"⟩, prog_1_method_42_code, 8, (some FieldType.int))
theorem okM_C_wayOf : okM Y_C_wayOf 2 := ⟨mw_730, mw_89, ⟨by decide, by decide⟩, by decide +kernel, by decide +kernel⟩
abbrev Y_D_begin : Yt := (⟨"InTraysPurgatory$Mind", "begin", "(LInTraysPurgatory$Floor;)V"⟩, prog_4_method_2_code, 3, none)
theorem okM_D_begin : okM Y_D_begin 1 := ⟨mw_328, mw_91, ⟨by decide, by decide⟩, by decide +kernel, by decide +kernel⟩
abbrev Y_D_dismiss : Yt := (⟨"InTraysPurgatory$Mind", "dismiss", "(I)V"⟩, prog_4_method_3_code, 5, none)
theorem okM_D_dismiss : okM Y_D_dismiss 1 := ⟨mw_781, mw_91, ⟨by decide, by decide⟩, by decide +kernel, by decide +kernel⟩
abbrev Y_F_isWilling : Yt := (⟨"InTraysPurgatory$Floor", "isWilling", "(II)Z"⟩, prog_2_method_15_code, 3, (some FieldType.boolean))
theorem okM_F_isWilling : okM Y_F_isWilling 2 := ⟨mw_452, mw_90, ⟨by decide, by decide⟩, by decide +kernel, by decide +kernel⟩
abbrev Y_F_nextTaken : Yt := (⟨"InTraysPurgatory$Floor", "nextTaken", "(II)I"⟩, prog_2_method_17_code, 6, (some FieldType.int))
theorem okM_F_nextTaken : okM Y_F_nextTaken 2 := ⟨mw_423, mw_90, ⟨by decide, by decide⟩, by decide +kernel, by decide +kernel⟩
abbrev Y_F_sign : Yt := (⟨"InTraysPurgatory$Floor", "sign", "(II)V"⟩, prog_2_method_20_code, 4, none)
theorem okM_F_sign : okM Y_F_sign 2 := ⟨mw_468, mw_90, ⟨by decide, by decide⟩, by decide +kernel, by decide +kernel⟩
abbrev Y_M_allSigned : Yt := (⟨"InTraysPurgatoryModel", "allSigned", "()I"⟩, prog_7_method_50_code, 1, (some FieldType.int))
theorem okM_M_allSigned : okM Y_M_allSigned 0 := ⟨mw_1175, mw_93, ⟨by decide, by decide⟩, by decide +kernel, by decide +kernel⟩
abbrev Y_M_average : Yt := (⟨"InTraysPurgatoryModel", "average", "(I)J"⟩, prog_7_method_103_code, 2, (some FieldType.long))
theorem okM_M_average : okM Y_M_average 1 := ⟨mw_1377, mw_93, ⟨by decide, by decide⟩, by decide +kernel, by decide +kernel⟩
abbrev Y_M_back : Yt := (⟨"InTraysPurgatoryModel", "back", "()I"⟩, prog_7_method_28_code, 1, (some FieldType.int))
theorem okM_M_back : okM Y_M_back 0 := ⟨mw_1120, mw_93, ⟨by decide, by decide⟩, by decide +kernel, by decide +kernel⟩
abbrev Y_M_comesSheet : Yt := (⟨"InTraysPurgatoryModel", "comesSheet", "(I)Z"⟩, prog_7_method_19_code, 2, (some FieldType.boolean))
theorem okM_M_comesSheet : okM Y_M_comesSheet 1 := ⟨mw_1035, mw_93, ⟨by decide, by decide⟩, by decide +kernel, by decide +kernel⟩
abbrev Y_M_forgets : Yt := (⟨"InTraysPurgatoryModel", "forgets", "()V"⟩, prog_7_method_26_code, 1, none)
theorem okM_M_forgets : okM Y_M_forgets 0 := ⟨mw_1194, mw_93, ⟨by decide, by decide⟩, by decide +kernel, by decide +kernel⟩
abbrev Y_M_heaviest : Yt := (⟨"InTraysPurgatoryModel", "heaviest", "(I)I"⟩, prog_7_method_78_code, 4, (some FieldType.int))
theorem okM_M_heaviest : okM Y_M_heaviest 1 := ⟨mw_1274, mw_93, ⟨by decide, by decide⟩, by decide +kernel, by decide +kernel⟩
abbrev Y_M_image : Yt := (⟨"InTraysPurgatoryModel", "image", "()I"⟩, prog_7_method_29_code, 1, (some FieldType.int))
theorem okM_M_image : okM Y_M_image 0 := ⟨mw_1124, mw_93, ⟨by decide, by decide⟩, by decide +kernel, by decide +kernel⟩
abbrev Y_M_isWilling : Yt := (⟨"InTraysPurgatoryModel", "isWilling", "(II)Z"⟩, prog_7_method_39_code, 3, (some FieldType.boolean))
theorem okM_M_isWilling : okM Y_M_isWilling 2 := ⟨mw_1093, mw_93, ⟨by decide, by decide⟩, by decide +kernel, by decide +kernel⟩
abbrev Y_M_keepsBack : Yt := (⟨"InTraysPurgatoryModel", "keepsBack", "()V"⟩, prog_7_method_27_code, 2, none)
theorem okM_M_keepsBack : okM Y_M_keepsBack 0 := ⟨mw_1151, mw_93, ⟨by decide, by decide⟩, by decide +kernel, by decide +kernel⟩
abbrev Y_M_longest : Yt := (⟨"InTraysPurgatoryModel", "longest", "(I)I"⟩, prog_7_method_95_code, 4, (some FieldType.int))
theorem okM_M_longest : okM Y_M_longest 1 := ⟨mw_1349, mw_93, ⟨by decide, by decide⟩, by decide +kernel, by decide +kernel⟩
abbrev Y_M_placeOf : Yt := (⟨"InTraysPurgatoryModel", "placeOf", "(I)I"⟩, prog_7_method_59_code, 4, (some FieldType.int))
theorem okM_M_placeOf : okM Y_M_placeOf 1 := ⟨mw_1190, mw_93, ⟨by decide, by decide⟩, by decide +kernel, by decide +kernel⟩
abbrev Y_M_queue : Yt := (⟨"InTraysPurgatoryModel", "queue", "(II)I"⟩, prog_7_method_97_code, 5, (some FieldType.int))
theorem okM_M_queue : okM Y_M_queue 2 := ⟨mw_1357, mw_93, ⟨by decide, by decide⟩, by decide +kernel, by decide +kernel⟩
abbrev Y_M_readsAll : Yt := (⟨"InTraysPurgatoryModel", "readsAll", "(II)Z"⟩, prog_7_method_16_code, 3, (some FieldType.boolean))
theorem okM_M_readsAll : okM Y_M_readsAll 2 := ⟨mw_1008, mw_93, ⟨by decide, by decide⟩, by decide +kernel, by decide +kernel⟩
abbrev Y_M_restore : Yt := (⟨"InTraysPurgatoryModel", "restore", "()I"⟩, prog_7_method_30_code, 1, (some FieldType.int))
theorem okM_M_restore : okM Y_M_restore 0 := ⟨mw_1128, mw_93, ⟨by decide, by decide⟩, by decide +kernel, by decide +kernel⟩
abbrev Y_M_sheet : Yt := (⟨"InTraysPurgatoryModel", "sheet", "(III)I"⟩, prog_7_method_53_code, 5, (some FieldType.int))
theorem okM_M_sheet : okM Y_M_sheet 3 := ⟨mw_1143, mw_93, ⟨by decide, by decide⟩, by decide +kernel, by decide +kernel⟩
abbrev Y_M_thinks : Yt := (⟨"InTraysPurgatoryModel", "thinks", "()V"⟩, prog_7_method_25_code, 1, none)
theorem okM_M_thinks : okM Y_M_thinks 0 := ⟨mw_1186, mw_93, ⟨by decide, by decide⟩, by decide +kernel, by decide +kernel⟩
abbrev Y_M_top : Yt := (⟨"InTraysPurgatoryModel", "top", "(I)I"⟩, prog_7_method_96_code, 2, (some FieldType.int))
theorem okM_M_top : okM Y_M_top 1 := ⟨mw_1353, mw_93, ⟨by decide, by decide⟩, by decide +kernel, by decide +kernel⟩
abbrev Y_M_trolley : Yt := (⟨"InTraysPurgatoryModel", "trolley", "(I)I"⟩, prog_7_method_88_code, 6, (some FieldType.int))
theorem okM_M_trolley : okM Y_M_trolley 1 := ⟨mw_1307, mw_93, ⟨by decide, by decide⟩, by decide +kernel, by decide +kernel⟩
abbrev Y_M_waiting : Yt := (⟨"InTraysPurgatoryModel", "waiting", "()I"⟩, prog_7_method_49_code, 1, (some FieldType.int))
theorem okM_M_waiting : okM Y_M_waiting 0 := ⟨mw_1218, mw_93, ⟨by decide, by decide⟩, by decide +kernel, by decide +kernel⟩
abbrev Y_P_giveBack : Yt := (⟨"InTraysPurgatory$Past", "giveBack", "(LInTraysPurgatory$Floor;)V"⟩, prog_5_method_3_code, 3, none)
theorem okM_P_giveBack : okM Y_P_giveBack 1 := ⟨mw_589, mw_92, ⟨by decide, by decide⟩, by decide +kernel, by decide +kernel⟩
abbrev Y_P_keep : Yt := (⟨"InTraysPurgatory$Past", "keep", "(LInTraysPurgatory$Floor;)V"⟩, prog_5_method_2_code, 3, none)
theorem okM_P_keep : okM Y_P_keep 1 := ⟨mw_546, mw_92, ⟨by decide, by decide⟩, by decide +kernel, by decide +kernel⟩
abbrev Y_C_back : Yt := (⟨"InTraysPurgatory", "back", "()I"⟩, prog_1_method_22_code, 1, (some FieldType.int))
theorem okM_C_back : okM Y_C_back 0 := ⟨mw_585, mw_89, ⟨by decide, by decide⟩, by decide +kernel, by decide +kernel⟩
abbrev Y_C_judge : Yt := (⟨"InTraysPurgatory", "judge", "(I)I"⟩, prog_1_method_60_code, 3, (some FieldType.int))
theorem okM_C_judge : okM Y_C_judge 1 := ⟨mw_825, mw_89, ⟨by decide, by decide⟩, by decide +kernel, by decide +kernel⟩
abbrev Y_C_mislays : Yt := (⟨"InTraysPurgatory", "mislays", "(I)I"⟩, prog_1_method_19_code, 2, (some FieldType.int))
theorem okM_C_mislays : okM Y_C_mislays 1 := ⟨mw_552, mw_89, ⟨by decide, by decide⟩, by decide +kernel, by decide +kernel⟩
abbrev Y_C_moves : Yt := (⟨"InTraysPurgatory", "moves", "(II)I"⟩, prog_1_method_20_code, 3, (some FieldType.int))
theorem okM_C_moves : okM Y_C_moves 2 := ⟨mw_575, mw_89, ⟨by decide, by decide⟩, by decide +kernel, by decide +kernel⟩
abbrev Y_C_setsOne : Yt := (⟨"InTraysPurgatory", "setsOne", "([IIIII)I"⟩, prog_1_method_18_code, 7, (some FieldType.int))
theorem okM_C_setsOne : okM Y_C_setsOne 5 := ⟨mw_542, mw_89, ⟨by decide, by decide⟩, by decide +kernel, by decide +kernel⟩
abbrev Y_C_shortestOrder : Yt := (⟨"InTraysPurgatory", "shortestOrder", "(I)I"⟩, prog_1_method_41_code, 6, (some FieldType.int))
theorem okM_C_shortestOrder : okM Y_C_shortestOrder 1 := ⟨mw_726, mw_89, ⟨by decide, by decide⟩, by decide +kernel, by decide +kernel⟩
abbrev Y_C_thinkWith : Yt := (⟨"InTraysPurgatory", "thinkWith", "(III)V"⟩, prog_1_method_75_code, 4, none)
theorem okM_C_thinkWith : okM Y_C_thinkWith 3 := ⟨mw_675, mw_89, ⟨by decide, by decide⟩, by decide +kernel, by decide +kernel⟩
abbrev Y_C_top : Yt := (⟨"InTraysPurgatory", "top", "(I)I"⟩, prog_1_method_51_code, 2, (some FieldType.int))
theorem okM_C_top : okM Y_C_top 1 := ⟨mw_766, mw_89, ⟨by decide, by decide⟩, by decide +kernel, by decide +kernel⟩
abbrev Y_C_who : Yt := (⟨"InTraysPurgatory", "who", "(I)I"⟩, prog_1_method_32_code, 4, (some FieldType.int))
theorem okM_C_who : okM Y_C_who 1 := ⟨mw_679, mw_89, ⟨by decide, by decide⟩, by decide +kernel, by decide +kernel⟩
abbrev Y_F_work : Yt := (⟨"InTraysPurgatory$Floor", "work", "(I)V"⟩, prog_2_method_19_code, 5, none)
theorem okM_F_work : okM Y_F_work 1 := ⟨mw_417, mw_90, ⟨by decide, by decide⟩, by decide +kernel, by decide +kernel⟩
abbrev Y_M_atPlace : Yt := (⟨"InTraysPurgatoryModel", "atPlace", "(II)I"⟩, prog_7_method_108_code, 4, (some FieldType.int))
theorem okM_M_atPlace : okM Y_M_atPlace 2 := ⟨mw_1405, mw_93, ⟨by decide, by decide⟩, by decide +kernel, by decide +kernel⟩
abbrev Y_M_count : Yt := (⟨"InTraysPurgatoryModel", "count", "(I)I"⟩, prog_7_method_113_code, 2, (some FieldType.int))
theorem okM_M_count : okM Y_M_count 1 := ⟨mw_1424, mw_93, ⟨by decide, by decide⟩, by decide +kernel, by decide +kernel⟩
abbrev Y_M_mislays : Yt := (⟨"InTraysPurgatoryModel", "mislays", "(I)I"⟩, prog_7_method_55_code, 3, (some FieldType.int))
theorem okM_M_mislays : okM Y_M_mislays 1 := ⟨mw_1155, mw_93, ⟨by decide, by decide⟩, by decide +kernel, by decide +kernel⟩
abbrev Y_M_moves : Yt := (⟨"InTraysPurgatoryModel", "moves", "(II)I"⟩, prog_7_method_56_code, 4, (some FieldType.int))
theorem okM_M_moves : okM Y_M_moves 2 := ⟨mw_1163, mw_93, ⟨by decide, by decide⟩, by decide +kernel, by decide +kernel⟩
abbrev Y_M_sets : Yt := (⟨"InTraysPurgatoryModel", "sets", "(III)I"⟩, prog_7_method_54_code, 6, (some FieldType.int))
theorem okM_M_sets : okM Y_M_sets 3 := ⟨mw_1147, mw_93, ⟨by decide, by decide⟩, by decide +kernel, by decide +kernel⟩
abbrev Y_M_statement : Yt := (⟨"InTraysPurgatoryModel", "statement", "()Z"⟩, prog_7_method_17_code, 2, (some FieldType.boolean))
theorem okM_M_statement : okM Y_M_statement 0 := ⟨mw_1000, mw_93, ⟨by decide, by decide⟩, by decide +kernel, by decide +kernel⟩
abbrev Y_M_takes : Yt := (⟨"InTraysPurgatoryModel", "takes", "(II)V"⟩, prog_7_method_43_code, 3, none)
theorem okM_M_takes : okM Y_M_takes 2 := ⟨mw_1089, mw_93, ⟨by decide, by decide⟩, by decide +kernel, by decide +kernel⟩
abbrev Y_M_who : Yt := (⟨"InTraysPurgatoryModel", "who", "(I)I"⟩, prog_7_method_73_code, 4, (some FieldType.int))
theorem okM_M_who : okM Y_M_who 1 := ⟨mw_1250, mw_93, ⟨by decide, by decide⟩, by decide +kernel, by decide +kernel⟩
abbrev Y_C_sets : Yt := (⟨"InTraysPurgatory", "sets", "(III)I"⟩, prog_1_method_17_code, 4, (some FieldType.int))
theorem okM_C_sets : okM Y_C_sets 3 := ⟨mw_538, mw_89, ⟨by decide, by decide⟩, by decide +kernel, by decide +kernel⟩
abbrev Y_C_trolley : Yt := (⟨"InTraysPurgatory", "trolley", "(I)I"⟩, prog_1_method_40_code, 4, (some FieldType.int))
theorem okM_C_trolley : okM Y_C_trolley 1 := ⟨mw_722, mw_89, ⟨by decide, by decide⟩, by decide +kernel, by decide +kernel⟩
abbrev Y_F_live : Yt := (⟨"InTraysPurgatory$Floor", "live", "(I)V"⟩, prog_2_method_18_code, 4, none)
theorem okM_F_live : okM Y_F_live 1 := ⟨mw_397, mw_90, ⟨by decide, by decide⟩, by decide +kernel, by decide +kernel⟩
abbrev Y_M_judge : Yt := (⟨"InTraysPurgatoryModel", "judge", "(I)I"⟩, prog_7_method_109_code, 4, (some FieldType.int))
theorem okM_M_judge : okM Y_M_judge 1 := ⟨mw_1401, mw_93, ⟨by decide, by decide⟩, by decide +kernel, by decide +kernel⟩
abbrev Y_M_works : Yt := (⟨"InTraysPurgatoryModel", "works", "(I)V"⟩, prog_7_method_44_code, 5, none)
theorem okM_M_works : okM Y_M_works 1 := ⟨mw_1070, mw_93, ⟨by decide, by decide⟩, by decide +kernel, by decide +kernel⟩
abbrev Y_C_bestTray : Yt := (⟨"InTraysPurgatory", "bestTray", "(II)I"⟩, prog_1_method_29_code, 6, (some FieldType.int))
theorem okM_C_bestTray : okM Y_C_bestTray 2 := ⟨mw_641, mw_89, ⟨by decide, by decide⟩, by decide +kernel, by decide +kernel⟩
abbrev Y_C_clerk : Yt := (⟨"InTraysPurgatory", "clerk", "()I"⟩, prog_1_method_53_code, 4, (some FieldType.int))
theorem okM_C_clerk : okM Y_C_clerk 0 := ⟨mw_777, mw_89, ⟨by decide, by decide⟩, by decide +kernel, by decide +kernel⟩
abbrev Y_C_comesToPass : Yt := (⟨"InTraysPurgatory", "comesToPass", "(I)Z"⟩, prog_1_method_8_code, 5, (some FieldType.boolean))
theorem okM_C_comesToPass : okM Y_C_comesToPass 1 := ⟨mw_341, mw_89, ⟨by decide, by decide⟩, by decide +kernel, by decide +kernel⟩
abbrev Y_C_days : Yt := (⟨"InTraysPurgatory", "days", "(I)I"⟩, prog_1_method_21_code, 2, (some FieldType.int))
theorem okM_C_days : okM Y_C_days 1 := ⟨mw_580, mw_89, ⟨by decide, by decide⟩, by decide +kernel, by decide +kernel⟩
abbrev Y_C_holidays : Yt := (⟨"InTraysPurgatory", "holidays", "(IIIII)J"⟩, prog_1_method_45_code, 10, (some FieldType.long))
theorem okM_C_holidays : okM Y_C_holidays 5 := ⟨mw_744, mw_89, ⟨by decide, by decide⟩, by decide +kernel, by decide +kernel⟩
abbrev Y_C_isTrayCountAsRow : Yt := (⟨"InTraysPurgatory", "isTrayCountAsRow", "(I)Z"⟩, prog_1_method_37_code, 3, (some FieldType.boolean))
theorem okM_C_isTrayCountAsRow : okM Y_C_isTrayCountAsRow 1 := ⟨mw_709, mw_89, ⟨by decide, by decide⟩, by decide +kernel, by decide +kernel⟩
abbrev Y_C_isWayAsRow : Yt := (⟨"InTraysPurgatory", "isWayAsRow", "(I)Z"⟩, prog_1_method_39_code, 4, (some FieldType.boolean))
theorem okM_C_isWayAsRow : okM Y_C_isWayAsRow 1 := ⟨mw_718, mw_89, ⟨by decide, by decide⟩, by decide +kernel, by decide +kernel⟩
abbrev Y_C_lots : Yt := (⟨"InTraysPurgatory", "lots", "(III)I"⟩, prog_1_method_63_code, 6, (some FieldType.int))
theorem okM_C_lots : okM Y_C_lots 3 := ⟨mw_838, mw_89, ⟨by decide, by decide⟩, by decide +kernel, by decide +kernel⟩
abbrev Y_C_thinkAhead : Yt := (⟨"InTraysPurgatory", "thinkAhead", "(I)V"⟩, prog_1_method_72_code, 2, none)
theorem okM_C_thinkAhead : okM Y_C_thinkAhead 1 := ⟨mw_598, mw_89, ⟨by decide, by decide⟩, by decide +kernel, by decide +kernel⟩
abbrev Y_C_two : Yt := (⟨"InTraysPurgatory", "two", "(II)I"⟩, prog_1_method_44_code, 6, (some FieldType.int))
theorem okM_C_two : okM Y_C_two 2 := ⟨mw_740, mw_89, ⟨by decide, by decide⟩, by decide +kernel, by decide +kernel⟩
abbrev Y_C_wanted : Yt := (⟨"InTraysPurgatory", "wanted", "(III)I"⟩, prog_1_method_31_code, 6, (some FieldType.int))
theorem okM_C_wanted : okM Y_C_wanted 3 := ⟨mw_665, mw_89, ⟨by decide, by decide⟩, by decide +kernel, by decide +kernel⟩
abbrev Y_M_goesDay : Yt := (⟨"InTraysPurgatoryModel", "goesDay", "(I)V"⟩, prog_7_method_45_code, 3, none)
theorem okM_M_goesDay : okM Y_M_goesDay 1 := ⟨mw_1066, mw_93, ⟨by decide, by decide⟩, by decide +kernel, by decide +kernel⟩
abbrev Y_C_all : Yt := (⟨"InTraysPurgatory", "all", "(I)I"⟩, prog_1_method_26_code, 2, (some FieldType.int))
theorem okM_C_all : okM Y_C_all 1 := ⟨mw_624, mw_89, ⟨by decide, by decide⟩, by decide +kernel, by decide +kernel⟩
abbrev Y_C_behind : Yt := (⟨"InTraysPurgatory", "behind", "(III)I"⟩, prog_1_method_23_code, 4, (some FieldType.int))
theorem okM_C_behind : okM Y_C_behind 3 := ⟨mw_594, mw_89, ⟨by decide, by decide⟩, by decide +kernel, by decide +kernel⟩
abbrev Y_C_busy : Yt := (⟨"InTraysPurgatory", "busy", "(II)I"⟩, prog_1_method_57_code, 3, (some FieldType.int))
theorem okM_C_busy : okM Y_C_busy 2 := ⟨mw_813, mw_89, ⟨by decide, by decide⟩, by decide +kernel, by decide +kernel⟩
abbrev Y_C_light : Yt := (⟨"InTraysPurgatory", "light", "()I"⟩, prog_1_method_54_code, 7, (some FieldType.int))
theorem okM_C_light : okM Y_C_light 0 := ⟨mw_795, mw_89, ⟨by decide, by decide⟩, by decide +kernel, by decide +kernel⟩
abbrev Y_C_office : Yt := (⟨"InTraysPurgatory", "office", "()I"⟩, prog_1_method_3_code, 4, (some FieldType.int))
theorem okM_C_office : okM Y_C_office 0 := ⟨mw_313, mw_89, ⟨by decide, by decide⟩, by decide +kernel, by decide +kernel⟩
abbrev Y_C_passed : Yt := (⟨"InTraysPurgatory", "passed", "(I)I"⟩, prog_1_method_58_code, 4, (some FieldType.int))
theorem okM_C_passed : okM Y_C_passed 1 := ⟨mw_817, mw_89, ⟨by decide, by decide⟩, by decide +kernel, by decide +kernel⟩
abbrev Y_C_rounds : Yt := (⟨"InTraysPurgatory", "rounds", "(I)I"⟩, prog_1_method_33_code, 4, (some FieldType.int))
theorem okM_C_rounds : okM Y_C_rounds 1 := ⟨mw_684, mw_89, ⟨by decide, by decide⟩, by decide +kernel, by decide +kernel⟩
abbrev Y_C_same : Yt := (⟨"InTraysPurgatory", "same", "()I"⟩, prog_1_method_56_code, 4, (some FieldType.int))
theorem okM_C_same : okM Y_C_same 0 := ⟨mw_809, mw_89, ⟨by decide, by decide⟩, by decide +kernel, by decide +kernel⟩
abbrev Y_C_signed : Yt := (⟨"InTraysPurgatory", "signed", "(II)I"⟩, prog_1_method_25_code, 3, (some FieldType.int))
theorem okM_C_signed : okM Y_C_signed 2 := ⟨mw_620, mw_89, ⟨by decide, by decide⟩, by decide +kernel, by decide +kernel⟩
abbrev Y_C_then : Yt := (⟨"InTraysPurgatory", "then", "(III)I"⟩, prog_1_method_24_code, 4, (some FieldType.int))
theorem okM_C_then : okM Y_C_then 3 := ⟨mw_608, mw_89, ⟨by decide, by decide⟩, by decide +kernel, by decide +kernel⟩
abbrev Y_C_up : Yt := (⟨"InTraysPurgatory", "up", "()I"⟩, prog_1_method_30_code, 3, (some FieldType.int))
theorem okM_C_up : okM Y_C_up 0 := ⟨mw_652, mw_89, ⟨by decide, by decide⟩, by decide +kernel, by decide +kernel⟩
abbrev Y_C_which : Yt := (⟨"InTraysPurgatory", "which", "(II)I"⟩, prog_1_method_38_code, 6, (some FieldType.int))
theorem okM_C_which : okM Y_C_which 2 := ⟨mw_714, mw_89, ⟨by decide, by decide⟩, by decide +kernel, by decide +kernel⟩
abbrev Y_C_whose : Yt := (⟨"InTraysPurgatory", "whose", "(II)I"⟩, prog_1_method_36_code, 7, (some FieldType.int))
theorem okM_C_whose : okM Y_C_whose 2 := ⟨mw_705, mw_89, ⟨by decide, by decide⟩, by decide +kernel, by decide +kernel⟩
abbrev Y_M_busy : Yt := (⟨"InTraysPurgatoryModel", "busy", "(II)I"⟩, prog_7_method_105_code, 6, (some FieldType.int))
theorem okM_M_busy : okM Y_M_busy 2 := ⟨mw_1389, mw_93, ⟨by decide, by decide⟩, by decide +kernel, by decide +kernel⟩
abbrev Y_M_emptyAt : Yt := (⟨"InTraysPurgatoryModel", "emptyAt", "()I"⟩, prog_7_method_64_code, 3, (some FieldType.int))
theorem okM_M_emptyAt : okM Y_M_emptyAt 0 := ⟨mw_1214, mw_93, ⟨by decide, by decide⟩, by decide +kernel, by decide +kernel⟩
abbrev Y_M_findSigned : Yt := (⟨"InTraysPurgatoryModel", "findSigned", "(I)V"⟩, prog_7_method_62_code, 4, none)
theorem okM_M_findSigned : okM Y_M_findSigned 1 := ⟨mw_1206, mw_93, ⟨by decide, by decide⟩, by decide +kernel, by decide +kernel⟩
abbrev Y_M_goes : Yt := (⟨"InTraysPurgatoryModel", "goes", "(I)V"⟩, prog_7_method_46_code, 3, none)
theorem okM_M_goes : okM Y_M_goes 1 := ⟨mw_1062, mw_93, ⟨by decide, by decide⟩, by decide +kernel, by decide +kernel⟩
abbrev Y_M_holidays : Yt := (⟨"InTraysPurgatoryModel", "holidays", "(IIIII)J"⟩, prog_7_method_93_code, 15, (some FieldType.long))
theorem okM_M_holidays : okM Y_M_holidays 5 := ⟨mw_1330, mw_93, ⟨by decide, by decide⟩, by decide +kernel, by decide +kernel⟩
abbrev Y_M_isSheetSo : Yt := (⟨"InTraysPurgatoryModel", "isSheetSo", "(I)Z"⟩, prog_7_method_82_code, 4, (some FieldType.boolean))
theorem okM_M_isSheetSo : okM Y_M_isSheetSo 1 := ⟨mw_1303, mw_93, ⟨by decide, by decide⟩, by decide +kernel, by decide +kernel⟩
abbrev Y_M_isTraySo : Yt := (⟨"InTraysPurgatoryModel", "isTraySo", "(I)Z"⟩, prog_7_method_79_code, 4, (some FieldType.boolean))
theorem okM_M_isTraySo : okM Y_M_isTraySo 1 := ⟨mw_1291, mw_93, ⟨by decide, by decide⟩, by decide +kernel, by decide +kernel⟩
abbrev Y_M_roundOf : Yt := (⟨"InTraysPurgatoryModel", "roundOf", "(I)I"⟩, prog_7_method_74_code, 4, (some FieldType.int))
theorem okM_M_roundOf : okM Y_M_roundOf 1 := ⟨mw_1258, mw_93, ⟨by decide, by decide⟩, by decide +kernel, by decide +kernel⟩
abbrev Y_M_all : Yt := (⟨"InTraysPurgatoryModel", "all", "(I)I"⟩, prog_7_method_65_code, 5, (some FieldType.int))
theorem okM_M_all : okM Y_M_all 1 := ⟨mw_1210, mw_93, ⟨by decide, by decide⟩, by decide +kernel, by decide +kernel⟩
abbrev Y_M_allIn : Yt := (⟨"InTraysPurgatoryModel", "allIn", "(I)Z"⟩, prog_7_method_70_code, 4, (some FieldType.boolean))
theorem okM_M_allIn : okM Y_M_allIn 1 := ⟨mw_1246, mw_93, ⟨by decide, by decide⟩, by decide +kernel, by decide +kernel⟩
abbrev Y_M_behind : Yt := (⟨"InTraysPurgatoryModel", "behind", "(III)I"⟩, prog_7_method_60_code, 6, (some FieldType.int))
theorem okM_M_behind : okM Y_M_behind 3 := ⟨mw_1179, mw_93, ⟨by decide, by decide⟩, by decide +kernel, by decide +kernel⟩
abbrev Y_M_bitsFor : Yt := (⟨"InTraysPurgatoryModel", "bitsFor", "([III)I"⟩, prog_7_method_83_code, 7, (some FieldType.int))
theorem okM_M_bitsFor : okM Y_M_bitsFor 3 := ⟨mw_1299, mw_93, ⟨by decide, by decide⟩, by decide +kernel, by decide +kernel⟩
abbrev Y_M_comes : Yt := (⟨"InTraysPurgatoryModel", "comes", "(I)Z"⟩, prog_7_method_20_code, 3, (some FieldType.boolean))
theorem okM_M_comes : okM Y_M_comes 1 := ⟨mw_1031, mw_93, ⟨by decide, by decide⟩, by decide +kernel, by decide +kernel⟩
abbrev Y_M_days : Yt := (⟨"InTraysPurgatoryModel", "days", "(I)I"⟩, prog_7_method_57_code, 3, (some FieldType.int))
theorem okM_M_days : okM Y_M_days 1 := ⟨mw_1171, mw_93, ⟨by decide, by decide⟩, by decide +kernel, by decide +kernel⟩
abbrev Y_M_findBears : Yt := (⟨"InTraysPurgatoryModel", "findBears", "(II)V"⟩, prog_7_method_89_code, 6, none)
theorem okM_M_findBears : okM Y_M_findBears 2 := ⟨mw_1326, mw_93, ⟨by decide, by decide⟩, by decide +kernel, by decide +kernel⟩
abbrev Y_M_lots : Yt := (⟨"InTraysPurgatoryModel", "lots", "(III)I"⟩, prog_7_method_112_code, 10, (some FieldType.int))
theorem okM_M_lots : okM Y_M_lots 3 := ⟨mw_1413, mw_93, ⟨by decide, by decide⟩, by decide +kernel, by decide +kernel⟩
abbrev Y_M_pacesOf : Yt := (⟨"InTraysPurgatoryModel", "pacesOf", "(I)I"⟩, prog_7_method_80_code, 5, (some FieldType.int))
theorem okM_M_pacesOf : okM Y_M_pacesOf 1 := ⟨mw_1287, mw_93, ⟨by decide, by decide⟩, by decide +kernel, by decide +kernel⟩
abbrev Y_M_passed : Yt := (⟨"InTraysPurgatoryModel", "passed", "(I)I"⟩, prog_7_method_106_code, 5, (some FieldType.int))
theorem okM_M_passed : okM Y_M_passed 1 := ⟨mw_1393, mw_93, ⟨by decide, by decide⟩, by decide +kernel, by decide +kernel⟩
abbrev Y_M_rounds : Yt := (⟨"InTraysPurgatoryModel", "rounds", "(I)I"⟩, prog_7_method_75_code, 4, (some FieldType.int))
theorem okM_M_rounds : okM Y_M_rounds 1 := ⟨mw_1254, mw_93, ⟨by decide, by decide⟩, by decide +kernel, by decide +kernel⟩
abbrev Y_M_same : Yt := (⟨"InTraysPurgatoryModel", "same", "()I"⟩, prog_7_method_104_code, 4, (some FieldType.int))
theorem okM_M_same : okM Y_M_same 0 := ⟨mw_1385, mw_93, ⟨by decide, by decide⟩, by decide +kernel, by decide +kernel⟩
abbrev Y_M_signed : Yt := (⟨"InTraysPurgatoryModel", "signed", "(II)I"⟩, prog_7_method_63_code, 4, (some FieldType.int))
theorem okM_M_signed : okM Y_M_signed 2 := ⟨mw_1202, mw_93, ⟨by decide, by decide⟩, by decide +kernel, by decide +kernel⟩
abbrev Y_M_signedIn30 : Yt := (⟨"InTraysPurgatoryModel", "signedIn30", "()I"⟩, prog_7_method_100_code, 2, (some FieldType.int))
theorem okM_M_signedIn30 : okM Y_M_signedIn30 0 := ⟨mw_1373, mw_93, ⟨by decide, by decide⟩, by decide +kernel, by decide +kernel⟩
abbrev Y_M_signedWithout : Yt := (⟨"InTraysPurgatoryModel", "signedWithout", "(I)I"⟩, prog_7_method_98_code, 5, (some FieldType.int))
theorem okM_M_signedWithout : okM Y_M_signedWithout 1 := ⟨mw_1365, mw_93, ⟨by decide, by decide⟩, by decide +kernel, by decide +kernel⟩
abbrev Y_M_then : Yt := (⟨"InTraysPurgatoryModel", "then", "(III)I"⟩, prog_7_method_61_code, 6, (some FieldType.int))
theorem okM_M_then : okM Y_M_then 3 := ⟨mw_1198, mw_93, ⟨by decide, by decide⟩, by decide +kernel, by decide +kernel⟩
abbrev Y_M_whenIn : Yt := (⟨"InTraysPurgatoryModel", "whenIn", "(II)I"⟩, prog_7_method_66_code, 3, (some FieldType.int))
theorem okM_M_whenIn : okM Y_M_whenIn 2 := ⟨mw_1226, mw_93, ⟨by decide, by decide⟩, by decide +kernel, by decide +kernel⟩
abbrev Y_M_whenUp : Yt := (⟨"InTraysPurgatoryModel", "whenUp", "(I)I"⟩, prog_7_method_68_code, 4, (some FieldType.int))
theorem okM_M_whenUp : okM Y_M_whenUp 1 := ⟨mw_1234, mw_93, ⟨by decide, by decide⟩, by decide +kernel, by decide +kernel⟩
abbrev Y_M_bestTray : Yt := (⟨"InTraysPurgatoryModel", "bestTray", "(II)I"⟩, prog_7_method_67_code, 8, (some FieldType.int))
theorem okM_M_bestTray : okM Y_M_bestTray 2 := ⟨mw_1222, mw_93, ⟨by decide, by decide⟩, by decide +kernel, by decide +kernel⟩
abbrev Y_M_clerk : Yt := (⟨"InTraysPurgatoryModel", "clerk", "()I"⟩, prog_7_method_99_code, 5, (some FieldType.int))
theorem okM_M_clerk : okM Y_M_clerk 0 := ⟨mw_1361, mw_93, ⟨by decide, by decide⟩, by decide +kernel, by decide +kernel⟩
abbrev Y_M_leastFor : Yt := (⟨"InTraysPurgatoryModel", "leastFor", "([IIIII)I"⟩, prog_7_method_71_code, 9, (some FieldType.int))
theorem okM_M_leastFor : okM Y_M_leastFor 5 := ⟨mw_1242, mw_93, ⟨by decide, by decide⟩, by decide +kernel, by decide +kernel⟩
abbrev Y_M_light : Yt := (⟨"InTraysPurgatoryModel", "light", "()I"⟩, prog_7_method_101_code, 7, (some FieldType.int))
theorem okM_M_light : okM Y_M_light 0 := ⟨mw_1369, mw_93, ⟨by decide, by decide⟩, by decide +kernel, by decide +kernel⟩
abbrev Y_M_office : Yt := (⟨"InTraysPurgatoryModel", "office", "()I"⟩, prog_7_method_21_code, 3, (some FieldType.int))
theorem okM_M_office : okM Y_M_office 0 := ⟨mw_996, mw_93, ⟨by decide, by decide⟩, by decide +kernel, by decide +kernel⟩
abbrev Y_M_two : Yt := (⟨"InTraysPurgatoryModel", "two", "(II)I"⟩, prog_7_method_90_code, 4, (some FieldType.int))
theorem okM_M_two : okM Y_M_two 2 := ⟨mw_1322, mw_93, ⟨by decide, by decide⟩, by decide +kernel, by decide +kernel⟩
abbrev Y_M_up : Yt := (⟨"InTraysPurgatoryModel", "up", "()I"⟩, prog_7_method_69_code, 4, (some FieldType.int))
theorem okM_M_up : okM Y_M_up 0 := ⟨mw_1230, mw_93, ⟨by decide, by decide⟩, by decide +kernel, by decide +kernel⟩
abbrev Y_M_which : Yt := (⟨"InTraysPurgatoryModel", "which", "(II)I"⟩, prog_7_method_84_code, 4, (some FieldType.int))
theorem okM_M_which : okM Y_M_which 2 := ⟨mw_1295, mw_93, ⟨by decide, by decide⟩, by decide +kernel, by decide +kernel⟩
abbrev Y_M_whose : Yt := (⟨"InTraysPurgatoryModel", "whose", "(II)I"⟩, prog_7_method_81_code, 8, (some FieldType.int))
theorem okM_M_whose : okM Y_M_whose 2 := ⟨mw_1283, mw_93, ⟨by decide, by decide⟩, by decide +kernel, by decide +kernel⟩
abbrev Y_M_wanted : Yt := (⟨"InTraysPurgatoryModel", "wanted", "(III)I"⟩, prog_7_method_72_code, 5, (some FieldType.int))
theorem okM_M_wanted : okM Y_M_wanted 3 := ⟨mw_1238, mw_93, ⟨by decide, by decide⟩, by decide +kernel, by decide +kernel⟩
-- fields
theorem lk_C_10_3 : lk "InTraysPurgatory" 10 3 0 (.object "InTraysPurgatory$Floor") := lk_of "InTraysPurgatory" okC3 (by decide) rfl rfl mw_259 (Or.inl rfl)
theorem lk_C_101_1 : lk "InTraysPurgatory" 101 1 12 .int := lk_of "InTraysPurgatory$Mind" okC1 (by decide) rfl rfl mw_162 (Or.inr mw_163)
theorem lk_C_114_1 : lk "InTraysPurgatory" 114 1 11 .int := lk_of "InTraysPurgatory$Mind" okC1 (by decide) rfl rfl mw_159 (Or.inr mw_157)
theorem lk_C_121_1 : lk "InTraysPurgatory" 121 1 0 (.array .int) := lk_of "InTraysPurgatory$Mind" okC1 (by decide) rfl rfl mw_113 (Or.inr mw_114)
theorem lk_C_124_1 : lk "InTraysPurgatory" 124 1 1 (.array .int) := lk_of "InTraysPurgatory$Mind" okC1 (by decide) rfl rfl mw_117 (Or.inr mw_118)
theorem lk_C_127_1 : lk "InTraysPurgatory" 127 1 3 (.array .int) := lk_of "InTraysPurgatory$Mind" okC1 (by decide) rfl rfl mw_125 (Or.inr mw_126)
theorem lk_C_133_1 : lk "InTraysPurgatory" 133 1 6 (.array .int) := lk_of "InTraysPurgatory$Mind" okC1 (by decide) rfl rfl mw_139 (Or.inr mw_138)
theorem lk_C_139_0 : lk "InTraysPurgatory" 139 0 0 (.array .int) := lk_of "InTraysPurgatory$Floor" okC0 (by decide) rfl rfl mw_115 (Or.inl rfl)
theorem lk_C_140_0 : lk "InTraysPurgatory" 140 0 1 (.array .int) := lk_of "InTraysPurgatory$Floor" okC0 (by decide) rfl rfl mw_119 (Or.inl rfl)
theorem lk_C_141_0 : lk "InTraysPurgatory" 141 0 2 (.array .int) := lk_of "InTraysPurgatory$Floor" okC0 (by decide) rfl rfl mw_121 (Or.inl rfl)
theorem lk_C_144_0 : lk "InTraysPurgatory" 144 0 3 (.array .int) := lk_of "InTraysPurgatory$Floor" okC0 (by decide) rfl rfl mw_127 (Or.inl rfl)
theorem lk_C_149_0 : lk "InTraysPurgatory" 149 0 4 (.array .int) := lk_of "InTraysPurgatory$Floor" okC0 (by decide) rfl rfl mw_129 (Or.inl rfl)
theorem lk_C_152_0 : lk "InTraysPurgatory" 152 0 5 (.array .int) := lk_of "InTraysPurgatory$Floor" okC0 (by decide) rfl rfl mw_133 (Or.inl rfl)
theorem lk_C_155_0 : lk "InTraysPurgatory" 155 0 6 (.array .int) := lk_of "InTraysPurgatory$Floor" okC0 (by decide) rfl rfl mw_140 (Or.inl rfl)
theorem lk_C_156_0 : lk "InTraysPurgatory" 156 0 7 (.array .int) := lk_of "InTraysPurgatory$Floor" okC0 (by decide) rfl rfl mw_142 (Or.inl rfl)
theorem lk_C_159_0 : lk "InTraysPurgatory" 159 0 8 (.array .int) := lk_of "InTraysPurgatory$Floor" okC0 (by decide) rfl rfl mw_146 (Or.inl rfl)
theorem lk_C_174_0 : lk "InTraysPurgatory" 174 0 11 .int := lk_of "InTraysPurgatory$Floor" okC0 (by decide) rfl rfl mw_160 (Or.inl rfl)
theorem lk_C_19_3 : lk "InTraysPurgatory" 19 3 1 (.object "InTraysPurgatory$Mind") := lk_of "InTraysPurgatory" okC3 (by decide) rfl rfl mw_260 (Or.inl rfl)
theorem lk_C_191_0 : lk "InTraysPurgatory" 191 0 12 .int := lk_of "InTraysPurgatory$Floor" okC0 (by decide) rfl rfl mw_164 (Or.inl rfl)
theorem lk_C_193_2 : lk "InTraysPurgatory" 193 2 2 .int := lk_of "InTraysPurgatory$Past" okC2 (by decide) rfl rfl mw_251 (Or.inl rfl)
theorem lk_C_202_1 : lk "InTraysPurgatory" 202 1 8 (.array .int) := lk_of "InTraysPurgatory$Mind" okC1 (by decide) rfl rfl mw_147 (Or.inr mw_148)
theorem lk_C_203_1 : lk "InTraysPurgatory" 203 1 7 (.array .int) := lk_of "InTraysPurgatory$Mind" okC1 (by decide) rfl rfl mw_143 (Or.inr mw_144)
theorem lk_C_207_1 : lk "InTraysPurgatory" 207 1 2 (.array .int) := lk_of "InTraysPurgatory$Mind" okC1 (by decide) rfl rfl mw_122 (Or.inr mw_123)
theorem lk_C_210_1 : lk "InTraysPurgatory" 210 1 14 (.array .int) := lk_of "InTraysPurgatory$Mind" okC1 (by decide) rfl rfl mw_201 (Or.inl rfl)
theorem lk_C_23_3 : lk "InTraysPurgatory" 23 3 2 (.object "InTraysPurgatory$Floor") := lk_of "InTraysPurgatory" okC3 (by decide) rfl rfl mw_261 (Or.inl rfl)
theorem lk_C_250_1 : lk "InTraysPurgatory" 250 1 16 (.array .int) := lk_of "InTraysPurgatory$Mind" okC1 (by decide) rfl rfl mw_205 (Or.inl rfl)
theorem lk_C_271_3 : lk "InTraysPurgatory" 271 3 8 .int := lk_of "InTraysPurgatory" okC3 (by decide) rfl rfl mw_267 (Or.inl rfl)
theorem lk_C_274_1 : lk "InTraysPurgatory" 274 1 4 (.array .int) := lk_of "InTraysPurgatory$Mind" okC1 (by decide) rfl rfl mw_130 (Or.inr mw_131)
theorem lk_C_275_1 : lk "InTraysPurgatory" 275 1 5 (.array .int) := lk_of "InTraysPurgatory$Mind" okC1 (by decide) rfl rfl mw_134 (Or.inr mw_135)
theorem lk_C_29_3 : lk "InTraysPurgatory" 29 3 4 (.object "InTraysPurgatory$Past") := lk_of "InTraysPurgatory" okC3 (by decide) rfl rfl mw_263 (Or.inl rfl)
theorem lk_C_293_1 : lk "InTraysPurgatory" 293 1 18 .int := lk_of "InTraysPurgatory$Mind" okC1 (by decide) rfl rfl mw_209 (Or.inl rfl)
theorem lk_C_308_0 : lk "InTraysPurgatory" 308 0 10 .int := lk_of "InTraysPurgatory$Floor" okC0 (by decide) rfl rfl mw_155 (Or.inl rfl)
theorem lk_C_326_1 : lk "InTraysPurgatory" 326 1 17 (.array .int) := lk_of "InTraysPurgatory$Mind" okC1 (by decide) rfl rfl mw_207 (Or.inl rfl)
theorem lk_C_329_1 : lk "InTraysPurgatory" 329 1 15 (.array .int) := lk_of "InTraysPurgatory$Mind" okC1 (by decide) rfl rfl mw_203 (Or.inl rfl)
theorem lk_C_33_3 : lk "InTraysPurgatory" 33 3 5 (.array .int) := lk_of "InTraysPurgatory" okC3 (by decide) rfl rfl mw_264 (Or.inl rfl)
theorem lk_C_336_3 : lk "InTraysPurgatory" 336 3 13 .int := lk_of "InTraysPurgatory" okC3 (by decide) rfl rfl mw_272 (Or.inl rfl)
theorem lk_C_349_3 : lk "InTraysPurgatory" 349 3 3 .boolean := lk_of "InTraysPurgatory" okC3 (by decide) rfl rfl mw_262 (Or.inl rfl)
theorem lk_C_37_3 : lk "InTraysPurgatory" 37 3 7 (.array .int) := lk_of "InTraysPurgatory" okC3 (by decide) rfl rfl mw_266 (Or.inl rfl)
theorem lk_C_40_3 : lk "InTraysPurgatory" 40 3 9 (.array .int) := lk_of "InTraysPurgatory" okC3 (by decide) rfl rfl mw_268 (Or.inl rfl)
theorem lk_C_43_3 : lk "InTraysPurgatory" 43 3 10 (.array .int) := lk_of "InTraysPurgatory" okC3 (by decide) rfl rfl mw_269 (Or.inl rfl)
theorem lk_C_46_3 : lk "InTraysPurgatory" 46 3 11 (.array .int) := lk_of "InTraysPurgatory" okC3 (by decide) rfl rfl mw_270 (Or.inl rfl)
theorem lk_C_49_3 : lk "InTraysPurgatory" 49 3 12 (.array .int) := lk_of "InTraysPurgatory" okC3 (by decide) rfl rfl mw_271 (Or.inl rfl)
theorem lk_C_56_3 : lk "InTraysPurgatory" 56 3 6 .int := lk_of "InTraysPurgatory" okC3 (by decide) rfl rfl mw_265 (Or.inl rfl)
theorem lk_F_15_0 : lk "InTraysPurgatory$Floor" 15 0 1 (.array .int) := lk_of "InTraysPurgatory$Floor" okC0 (by decide) rfl rfl mw_116 (Or.inl rfl)
theorem lk_F_15_1 : lk "InTraysPurgatory$Floor" 15 1 1 (.array .int) := lk_of "InTraysPurgatory$Floor" okC1 (by decide) rfl rfl mw_116 (Or.inl rfl)
theorem lkf_F_15 {f : Nat} (_ : isFl f) : lk "InTraysPurgatory$Floor" 15 (fci f) 1 (.array .int) := by
  unfold fci; split
  · exact lk_F_15_1
  · exact lk_F_15_0
theorem lk_F_18_0 : lk "InTraysPurgatory$Floor" 18 0 2 (.array .int) := lk_of "InTraysPurgatory$Floor" okC0 (by decide) rfl rfl mw_120 (Or.inl rfl)
theorem lk_F_18_1 : lk "InTraysPurgatory$Floor" 18 1 2 (.array .int) := lk_of "InTraysPurgatory$Floor" okC1 (by decide) rfl rfl mw_120 (Or.inl rfl)
theorem lkf_F_18 {f : Nat} (_ : isFl f) : lk "InTraysPurgatory$Floor" 18 (fci f) 2 (.array .int) := by
  unfold fci; split
  · exact lk_F_18_1
  · exact lk_F_18_0
theorem lk_F_21_0 : lk "InTraysPurgatory$Floor" 21 0 3 (.array .int) := lk_of "InTraysPurgatory$Floor" okC0 (by decide) rfl rfl mw_124 (Or.inl rfl)
theorem lk_F_21_1 : lk "InTraysPurgatory$Floor" 21 1 3 (.array .int) := lk_of "InTraysPurgatory$Floor" okC1 (by decide) rfl rfl mw_124 (Or.inl rfl)
theorem lkf_F_21 {f : Nat} (_ : isFl f) : lk "InTraysPurgatory$Floor" 21 (fci f) 3 (.array .int) := by
  unfold fci; split
  · exact lk_F_21_1
  · exact lk_F_21_0
theorem lk_F_24_0 : lk "InTraysPurgatory$Floor" 24 0 4 (.array .int) := lk_of "InTraysPurgatory$Floor" okC0 (by decide) rfl rfl mw_128 (Or.inl rfl)
theorem lk_F_24_1 : lk "InTraysPurgatory$Floor" 24 1 4 (.array .int) := lk_of "InTraysPurgatory$Floor" okC1 (by decide) rfl rfl mw_128 (Or.inl rfl)
theorem lkf_F_24 {f : Nat} (_ : isFl f) : lk "InTraysPurgatory$Floor" 24 (fci f) 4 (.array .int) := by
  unfold fci; split
  · exact lk_F_24_1
  · exact lk_F_24_0
theorem lk_F_27_0 : lk "InTraysPurgatory$Floor" 27 0 5 (.array .int) := lk_of "InTraysPurgatory$Floor" okC0 (by decide) rfl rfl mw_132 (Or.inl rfl)
theorem lk_F_27_1 : lk "InTraysPurgatory$Floor" 27 1 5 (.array .int) := lk_of "InTraysPurgatory$Floor" okC1 (by decide) rfl rfl mw_132 (Or.inl rfl)
theorem lkf_F_27 {f : Nat} (_ : isFl f) : lk "InTraysPurgatory$Floor" 27 (fci f) 5 (.array .int) := by
  unfold fci; split
  · exact lk_F_27_1
  · exact lk_F_27_0
theorem lk_F_30_0 : lk "InTraysPurgatory$Floor" 30 0 6 (.array .int) := lk_of "InTraysPurgatory$Floor" okC0 (by decide) rfl rfl mw_136 (Or.inl rfl)
theorem lk_F_30_1 : lk "InTraysPurgatory$Floor" 30 1 6 (.array .int) := lk_of "InTraysPurgatory$Floor" okC1 (by decide) rfl rfl mw_136 (Or.inl rfl)
theorem lkf_F_30 {f : Nat} (_ : isFl f) : lk "InTraysPurgatory$Floor" 30 (fci f) 6 (.array .int) := by
  unfold fci; split
  · exact lk_F_30_1
  · exact lk_F_30_0
theorem lk_F_33_0 : lk "InTraysPurgatory$Floor" 33 0 7 (.array .int) := lk_of "InTraysPurgatory$Floor" okC0 (by decide) rfl rfl mw_141 (Or.inl rfl)
theorem lk_F_33_1 : lk "InTraysPurgatory$Floor" 33 1 7 (.array .int) := lk_of "InTraysPurgatory$Floor" okC1 (by decide) rfl rfl mw_141 (Or.inl rfl)
theorem lkf_F_33 {f : Nat} (_ : isFl f) : lk "InTraysPurgatory$Floor" 33 (fci f) 7 (.array .int) := by
  unfold fci; split
  · exact lk_F_33_1
  · exact lk_F_33_0
theorem lk_F_36_0 : lk "InTraysPurgatory$Floor" 36 0 8 (.array .int) := lk_of "InTraysPurgatory$Floor" okC0 (by decide) rfl rfl mw_145 (Or.inl rfl)
theorem lk_F_36_1 : lk "InTraysPurgatory$Floor" 36 1 8 (.array .int) := lk_of "InTraysPurgatory$Floor" okC1 (by decide) rfl rfl mw_145 (Or.inl rfl)
theorem lkf_F_36 {f : Nat} (_ : isFl f) : lk "InTraysPurgatory$Floor" 36 (fci f) 8 (.array .int) := by
  unfold fci; split
  · exact lk_F_36_1
  · exact lk_F_36_0
theorem lk_F_39_0 : lk "InTraysPurgatory$Floor" 39 0 9 (.array .int) := lk_of "InTraysPurgatory$Floor" okC0 (by decide) rfl rfl mw_149 (Or.inl rfl)
theorem lk_F_39_1 : lk "InTraysPurgatory$Floor" 39 1 9 (.array .int) := lk_of "InTraysPurgatory$Floor" okC1 (by decide) rfl rfl mw_149 (Or.inl rfl)
theorem lkf_F_39 {f : Nat} (_ : isFl f) : lk "InTraysPurgatory$Floor" 39 (fci f) 9 (.array .int) := by
  unfold fci; split
  · exact lk_F_39_1
  · exact lk_F_39_0
theorem lk_F_48_0 : lk "InTraysPurgatory$Floor" 48 0 10 .int := lk_of "InTraysPurgatory$Floor" okC0 (by decide) rfl rfl mw_152 (Or.inl rfl)
theorem lk_F_48_1 : lk "InTraysPurgatory$Floor" 48 1 10 .int := lk_of "InTraysPurgatory$Floor" okC1 (by decide) rfl rfl mw_152 (Or.inl rfl)
theorem lkf_F_48 {f : Nat} (_ : isFl f) : lk "InTraysPurgatory$Floor" 48 (fci f) 10 .int := by
  unfold fci; split
  · exact lk_F_48_1
  · exact lk_F_48_0
theorem lk_F_52_0 : lk "InTraysPurgatory$Floor" 52 0 11 .int := lk_of "InTraysPurgatory$Floor" okC0 (by decide) rfl rfl mw_158 (Or.inl rfl)
theorem lk_F_52_1 : lk "InTraysPurgatory$Floor" 52 1 11 .int := lk_of "InTraysPurgatory$Floor" okC1 (by decide) rfl rfl mw_158 (Or.inl rfl)
theorem lkf_F_52 {f : Nat} (_ : isFl f) : lk "InTraysPurgatory$Floor" 52 (fci f) 11 .int := by
  unfold fci; split
  · exact lk_F_52_1
  · exact lk_F_52_0
theorem lk_F_55_0 : lk "InTraysPurgatory$Floor" 55 0 12 .int := lk_of "InTraysPurgatory$Floor" okC0 (by decide) rfl rfl mw_161 (Or.inl rfl)
theorem lk_F_55_1 : lk "InTraysPurgatory$Floor" 55 1 12 .int := lk_of "InTraysPurgatory$Floor" okC1 (by decide) rfl rfl mw_161 (Or.inl rfl)
theorem lkf_F_55 {f : Nat} (_ : isFl f) : lk "InTraysPurgatory$Floor" 55 (fci f) 12 .int := by
  unfold fci; split
  · exact lk_F_55_1
  · exact lk_F_55_0
theorem lk_F_9_0 : lk "InTraysPurgatory$Floor" 9 0 0 (.array .int) := lk_of "InTraysPurgatory$Floor" okC0 (by decide) rfl rfl mw_112 (Or.inl rfl)
theorem lk_F_9_1 : lk "InTraysPurgatory$Floor" 9 1 0 (.array .int) := lk_of "InTraysPurgatory$Floor" okC1 (by decide) rfl rfl mw_112 (Or.inl rfl)
theorem lkf_F_9 {f : Nat} (_ : isFl f) : lk "InTraysPurgatory$Floor" 9 (fci f) 0 (.array .int) := by
  unfold fci; split
  · exact lk_F_9_1
  · exact lk_F_9_0
theorem lk_D_15_1 : lk "InTraysPurgatory$Mind" 15 1 15 (.array .int) := lk_of "InTraysPurgatory$Mind" okC1 (by decide) rfl rfl mw_202 (Or.inl rfl)
theorem lk_D_18_1 : lk "InTraysPurgatory$Mind" 18 1 16 (.array .int) := lk_of "InTraysPurgatory$Mind" okC1 (by decide) rfl rfl mw_204 (Or.inl rfl)
theorem lk_D_21_1 : lk "InTraysPurgatory$Mind" 21 1 17 (.array .int) := lk_of "InTraysPurgatory$Mind" okC1 (by decide) rfl rfl mw_206 (Or.inl rfl)
theorem lk_D_24_1 : lk "InTraysPurgatory$Mind" 24 1 18 .int := lk_of "InTraysPurgatory$Mind" okC1 (by decide) rfl rfl mw_208 (Or.inl rfl)
theorem lk_D_28_1 : lk "InTraysPurgatory$Mind" 28 1 19 .int := lk_of "InTraysPurgatory$Mind" okC1 (by decide) rfl rfl mw_210 (Or.inl rfl)
theorem lk_D_35_1 : lk "InTraysPurgatory$Mind" 35 1 13 .int := lk_of "InTraysPurgatory$Mind" okC1 (by decide) rfl rfl mw_199 (Or.inl rfl)
theorem lk_D_38_1 : lk "InTraysPurgatory$Mind" 38 1 11 .int := lk_of "InTraysPurgatory$Mind" okC1 (by decide) rfl rfl mw_156 (Or.inr mw_157)
theorem lk_D_41_1 : lk "InTraysPurgatory$Mind" 41 1 6 (.array .int) := lk_of "InTraysPurgatory$Mind" okC1 (by decide) rfl rfl mw_137 (Or.inr mw_138)
theorem lk_D_44_1 : lk "InTraysPurgatory$Mind" 44 1 10 .int := lk_of "InTraysPurgatory$Mind" okC1 (by decide) rfl rfl mw_153 (Or.inr mw_154)
theorem lk_D_63_1 : lk "InTraysPurgatory$Mind" 63 1 9 (.array .int) := lk_of "InTraysPurgatory$Mind" okC1 (by decide) rfl rfl mw_150 (Or.inr mw_151)
theorem lk_D_9_1 : lk "InTraysPurgatory$Mind" 9 1 14 (.array .int) := lk_of "InTraysPurgatory$Mind" okC1 (by decide) rfl rfl mw_200 (Or.inl rfl)
theorem lk_P_11_2 : lk "InTraysPurgatory$Past" 11 2 0 (.array (.object "InTraysPurgatory$Floor")) := lk_of "InTraysPurgatory$Past" okC2 (by decide) rfl rfl mw_248 (Or.inl rfl)
theorem lk_P_18_2 : lk "InTraysPurgatory$Past" 18 2 1 .int := lk_of "InTraysPurgatory$Past" okC2 (by decide) rfl rfl mw_249 (Or.inl rfl)
theorem lk_P_26_2 : lk "InTraysPurgatory$Past" 26 2 2 .int := lk_of "InTraysPurgatory$Past" okC2 (by decide) rfl rfl mw_250 (Or.inl rfl)
theorem lk_M_101_4 : lk "InTraysPurgatoryModel" 101 4 20 .int := lk_of "InTraysPurgatoryModel" okC4 (by decide) rfl rfl mw_893 (Or.inl rfl)
theorem lk_M_116_4 : lk "InTraysPurgatoryModel" 116 4 21 .int := lk_of "InTraysPurgatoryModel" okC4 (by decide) rfl rfl mw_894 (Or.inl rfl)
theorem lk_M_13_4 : lk "InTraysPurgatoryModel" 13 4 1 (.array .int) := lk_of "InTraysPurgatoryModel" okC4 (by decide) rfl rfl mw_874 (Or.inl rfl)
theorem lk_M_139_4 : lk "InTraysPurgatoryModel" 139 4 12 .int := lk_of "InTraysPurgatoryModel" okC4 (by decide) rfl rfl mw_885 (Or.inl rfl)
theorem lk_M_156_4 : lk "InTraysPurgatoryModel" 156 4 26 .int := lk_of "InTraysPurgatoryModel" okC4 (by decide) rfl rfl mw_899 (Or.inl rfl)
theorem lk_M_159_4 : lk "InTraysPurgatoryModel" 159 4 24 .boolean := lk_of "InTraysPurgatoryModel" okC4 (by decide) rfl rfl mw_897 (Or.inl rfl)
theorem lk_M_16_4 : lk "InTraysPurgatoryModel" 16 4 2 (.array .int) := lk_of "InTraysPurgatoryModel" okC4 (by decide) rfl rfl mw_875 (Or.inl rfl)
theorem lk_M_163_4 : lk "InTraysPurgatoryModel" 163 4 25 .int := lk_of "InTraysPurgatoryModel" okC4 (by decide) rfl rfl mw_898 (Or.inl rfl)
theorem lk_M_173_4 : lk "InTraysPurgatoryModel" 173 4 13 .int := lk_of "InTraysPurgatoryModel" okC4 (by decide) rfl rfl mw_886 (Or.inl rfl)
theorem lk_M_176_4 : lk "InTraysPurgatoryModel" 176 4 23 .boolean := lk_of "InTraysPurgatoryModel" okC4 (by decide) rfl rfl mw_896 (Or.inl rfl)
theorem lk_M_19_4 : lk "InTraysPurgatoryModel" 19 4 3 (.array .int) := lk_of "InTraysPurgatoryModel" okC4 (by decide) rfl rfl mw_876 (Or.inl rfl)
theorem lk_M_213_4 : lk "InTraysPurgatoryModel" 213 4 28 .int := lk_of "InTraysPurgatoryModel" okC4 (by decide) rfl rfl mw_901 (Or.inl rfl)
theorem lk_M_22_4 : lk "InTraysPurgatoryModel" 22 4 4 (.array .int) := lk_of "InTraysPurgatoryModel" okC4 (by decide) rfl rfl mw_877 (Or.inl rfl)
theorem lk_M_25_4 : lk "InTraysPurgatoryModel" 25 4 5 (.array .int) := lk_of "InTraysPurgatoryModel" okC4 (by decide) rfl rfl mw_878 (Or.inl rfl)
theorem lk_M_28_4 : lk "InTraysPurgatoryModel" 28 4 6 (.array .int) := lk_of "InTraysPurgatoryModel" okC4 (by decide) rfl rfl mw_879 (Or.inl rfl)
theorem lk_M_290_4 : lk "InTraysPurgatoryModel" 290 4 32 .int := lk_of "InTraysPurgatoryModel" okC4 (by decide) rfl rfl mw_905 (Or.inl rfl)
theorem lk_M_31_4 : lk "InTraysPurgatoryModel" 31 4 7 (.array .int) := lk_of "InTraysPurgatoryModel" okC4 (by decide) rfl rfl mw_880 (Or.inl rfl)
theorem lk_M_34_4 : lk "InTraysPurgatoryModel" 34 4 8 (.array .int) := lk_of "InTraysPurgatoryModel" okC4 (by decide) rfl rfl mw_881 (Or.inl rfl)
theorem lk_M_342_4 : lk "InTraysPurgatoryModel" 342 4 35 .int := lk_of "InTraysPurgatoryModel" okC4 (by decide) rfl rfl mw_908 (Or.inl rfl)
theorem lk_M_37_4 : lk "InTraysPurgatoryModel" 37 4 9 (.array .int) := lk_of "InTraysPurgatoryModel" okC4 (by decide) rfl rfl mw_882 (Or.inl rfl)
theorem lk_M_40_4 : lk "InTraysPurgatoryModel" 40 4 10 (.array .int) := lk_of "InTraysPurgatoryModel" okC4 (by decide) rfl rfl mw_883 (Or.inl rfl)
theorem lk_M_43_4 : lk "InTraysPurgatoryModel" 43 4 14 .int := lk_of "InTraysPurgatoryModel" okC4 (by decide) rfl rfl mw_887 (Or.inl rfl)
theorem lk_M_47_4 : lk "InTraysPurgatoryModel" 47 4 15 (.array .int) := lk_of "InTraysPurgatoryModel" okC4 (by decide) rfl rfl mw_888 (Or.inl rfl)
theorem lk_M_50_4 : lk "InTraysPurgatoryModel" 50 4 16 (.array .int) := lk_of "InTraysPurgatoryModel" okC4 (by decide) rfl rfl mw_889 (Or.inl rfl)
theorem lk_M_53_4 : lk "InTraysPurgatoryModel" 53 4 17 (.array .int) := lk_of "InTraysPurgatoryModel" okC4 (by decide) rfl rfl mw_890 (Or.inl rfl)
theorem lk_M_56_4 : lk "InTraysPurgatoryModel" 56 4 18 (.array .int) := lk_of "InTraysPurgatoryModel" okC4 (by decide) rfl rfl mw_891 (Or.inl rfl)
theorem lk_M_59_4 : lk "InTraysPurgatoryModel" 59 4 22 (.array .int) := lk_of "InTraysPurgatoryModel" okC4 (by decide) rfl rfl mw_895 (Or.inl rfl)
theorem lk_M_62_4 : lk "InTraysPurgatoryModel" 62 4 27 (.array .int) := lk_of "InTraysPurgatoryModel" okC4 (by decide) rfl rfl mw_900 (Or.inl rfl)
theorem lk_M_65_4 : lk "InTraysPurgatoryModel" 65 4 29 (.array .int) := lk_of "InTraysPurgatoryModel" okC4 (by decide) rfl rfl mw_902 (Or.inl rfl)
theorem lk_M_68_4 : lk "InTraysPurgatoryModel" 68 4 30 (.array .int) := lk_of "InTraysPurgatoryModel" okC4 (by decide) rfl rfl mw_903 (Or.inl rfl)
theorem lk_M_7_4 : lk "InTraysPurgatoryModel" 7 4 0 (.array .int) := lk_of "InTraysPurgatoryModel" okC4 (by decide) rfl rfl mw_873 (Or.inl rfl)
theorem lk_M_71_4 : lk "InTraysPurgatoryModel" 71 4 31 (.array .int) := lk_of "InTraysPurgatoryModel" okC4 (by decide) rfl rfl mw_904 (Or.inl rfl)
theorem lk_M_74_4 : lk "InTraysPurgatoryModel" 74 4 33 (.array .int) := lk_of "InTraysPurgatoryModel" okC4 (by decide) rfl rfl mw_906 (Or.inl rfl)
theorem lk_M_77_4 : lk "InTraysPurgatoryModel" 77 4 34 (.array .int) := lk_of "InTraysPurgatoryModel" okC4 (by decide) rfl rfl mw_907 (Or.inl rfl)
theorem lk_M_83_4 : lk "InTraysPurgatoryModel" 83 4 11 .int := lk_of "InTraysPurgatoryModel" okC4 (by decide) rfl rfl mw_884 (Or.inl rfl)
theorem lk_M_94_4 : lk "InTraysPurgatoryModel" 94 4 19 .int := lk_of "InTraysPurgatoryModel" okC4 (by decide) rfl rfl mw_892 (Or.inl rfl)
-- call sites
theorem ss_C_104 : siteS "InTraysPurgatory" 104 2 Y_C_isRoomForDays := ⟨mw_389, mw_390, okM_C_isRoomForDays⟩
theorem sv_C_107_D : siteV "InTraysPurgatory" 107 "InTraysPurgatory$Mind" 1 Y_F_live ∨ siteU "InTraysPurgatory" 107 "InTraysPurgatory$Mind" 1 Y_F_live := Or.inr ⟨⟨"InTraysPurgatory$Mind", "live", "(I)V"⟩, Y_F_live, rfl, rfl, mw_392, mw_393, mw_395, mw_396, mw_396, okM_F_live, okM_F_live⟩
theorem ss_C_111 : siteS "InTraysPurgatory" 111 1 Y_C_isOfficial := ⟨mw_350, mw_351, okM_C_isOfficial⟩
theorem sv_C_117_D : siteV "InTraysPurgatory" 117 "InTraysPurgatory$Mind" 3 Y_F_add ∨ siteU "InTraysPurgatory" 117 "InTraysPurgatory$Mind" 3 Y_F_add := Or.inr ⟨⟨"InTraysPurgatory$Mind", "add", "(III)I"⟩, Y_F_add, rfl, rfl, mw_353, mw_354, mw_356, mw_357, mw_357, okM_F_add, okM_F_add⟩
theorem sv_C_130_D : siteV "InTraysPurgatory" 130 "InTraysPurgatory$Mind" 1 Y_F_has ∨ siteU "InTraysPurgatory" 130 "InTraysPurgatory$Mind" 1 Y_F_has := Or.inr ⟨⟨"InTraysPurgatory$Mind", "has", "(I)Z"⟩, Y_F_has, rfl, rfl, mw_377, mw_378, mw_380, mw_381, mw_381, okM_F_has, okM_F_has⟩
theorem sv_C_136_D : siteV "InTraysPurgatory" 136 "InTraysPurgatory$Mind" 1 Y_F_loseOrFind ∨ siteU "InTraysPurgatory" 136 "InTraysPurgatory$Mind" 1 Y_F_loseOrFind := Or.inr ⟨⟨"InTraysPurgatory$Mind", "loseOrFind", "(I)V"⟩, Y_F_loseOrFind, rfl, rfl, mw_383, mw_384, mw_386, mw_387, mw_387, okM_F_loseOrFind, okM_F_loseOrFind⟩
theorem sv_C_145_F : siteV "InTraysPurgatory" 145 "InTraysPurgatory$Floor" 1 Y_F_waitingIn ∨ siteU "InTraysPurgatory" 145 "InTraysPurgatory$Floor" 1 Y_F_waitingIn := Or.inl ⟨mw_516, mw_518, mw_517, rfl, okM_F_waitingIn⟩
theorem sv_C_148_F : siteV "InTraysPurgatory" 148 "InTraysPurgatory$Floor" 1 Y_F_has ∨ siteU "InTraysPurgatory" 148 "InTraysPurgatory$Floor" 1 Y_F_has := Or.inl ⟨mw_526, mw_1432, mw_381, rfl, okM_F_has⟩
theorem ss_C_162 : siteS "InTraysPurgatory" 162 2 Y_K_weight := ⟨mw_527, mw_460, okM_K_weight⟩
theorem ss_C_168 : siteS "InTraysPurgatory" 168 2 Y_K_rings := ⟨mw_528, mw_463, okM_K_rings⟩
theorem ss_C_171 : siteS "InTraysPurgatory" 171 1 Y_K_haste := ⟨mw_529, mw_437, okM_K_haste⟩
theorem sv_C_175_F : siteV "InTraysPurgatory" 175 "InTraysPurgatory$Floor" 3 Y_F_add ∨ siteU "InTraysPurgatory" 175 "InTraysPurgatory$Floor" 3 Y_F_add := Or.inl ⟨mw_534, mw_1435, mw_357, rfl, okM_F_add⟩
theorem sv_C_176_C : siteV "InTraysPurgatory" 176 "InTraysPurgatory" 5 Y_C_setsOne ∨ siteU "InTraysPurgatory" 176 "InTraysPurgatory" 5 Y_C_setsOne := Or.inl ⟨mw_539, mw_15, mw_541, rfl, okM_C_setsOne⟩
theorem sv_C_180_P : siteV "InTraysPurgatory" 180 "InTraysPurgatory$Past" 1 Y_P_keep ∨ siteU "InTraysPurgatory" 180 "InTraysPurgatory$Past" 1 Y_P_keep := Or.inl ⟨mw_543, mw_545, mw_544, rfl, okM_P_keep⟩
theorem sv_C_183_F : siteV "InTraysPurgatory" 183 "InTraysPurgatory$Floor" 1 Y_F_loseOrFind ∨ siteU "InTraysPurgatory" 183 "InTraysPurgatory$Floor" 1 Y_F_loseOrFind := Or.inl ⟨mw_553, mw_1438, mw_387, rfl, okM_F_loseOrFind⟩
theorem sv_C_184_F : siteV "InTraysPurgatory" 184 "InTraysPurgatory$Floor" 1 Y_F_howMany ∨ siteU "InTraysPurgatory" 184 "InTraysPurgatory$Floor" 1 Y_F_howMany := Or.inl ⟨mw_554, mw_556, mw_555, rfl, okM_F_howMany⟩
theorem sv_C_187_F : siteV "InTraysPurgatory" 187 "InTraysPurgatory$Floor" 2 Y_F_putBehind ∨ siteU "InTraysPurgatory" 187 "InTraysPurgatory$Floor" 2 Y_F_putBehind := Or.inl ⟨mw_576, mw_361, mw_360, rfl, okM_F_putBehind⟩
theorem sv_C_192_F : siteV "InTraysPurgatory" 192 "InTraysPurgatory$Floor" 1 Y_F_live ∨ siteU "InTraysPurgatory" 192 "InTraysPurgatory$Floor" 1 Y_F_live := Or.inl ⟨mw_581, mw_1441, mw_396, rfl, okM_F_live⟩
theorem sv_C_196_P : siteV "InTraysPurgatory" 196 "InTraysPurgatory$Past" 1 Y_P_giveBack ∨ siteU "InTraysPurgatory" 196 "InTraysPurgatory$Past" 1 Y_P_giveBack := Or.inl ⟨mw_586, mw_588, mw_587, rfl, okM_P_giveBack⟩
theorem sv_C_199_C : siteV "InTraysPurgatory" 199 "InTraysPurgatory" 1 Y_C_thinkAhead ∨ siteU "InTraysPurgatory" 199 "InTraysPurgatory" 1 Y_C_thinkAhead := Or.inl ⟨mw_595, mw_16, mw_597, rfl, okM_C_thinkAhead⟩
theorem sv_C_204_D : siteV "InTraysPurgatory" 204 "InTraysPurgatory$Mind" 1 Y_F_placeOf ∨ siteU "InTraysPurgatory" 204 "InTraysPurgatory$Mind" 1 Y_F_placeOf := Or.inr ⟨⟨"InTraysPurgatory$Mind", "placeOf", "(I)I"⟩, Y_F_placeOf, rfl, rfl, mw_599, mw_600, mw_602, mw_603, mw_603, okM_F_placeOf, okM_F_placeOf⟩
theorem sv_C_208_D : siteV "InTraysPurgatory" 208 "InTraysPurgatory$Mind" 1 Y_F_waitingIn ∨ siteU "InTraysPurgatory" 208 "InTraysPurgatory$Mind" 1 Y_F_waitingIn := Or.inr ⟨⟨"InTraysPurgatory$Mind", "waitingIn", "(I)I"⟩, Y_F_waitingIn, rfl, rfl, mw_609, mw_610, mw_612, mw_517, mw_517, okM_F_waitingIn, okM_F_waitingIn⟩
theorem sv_C_209_D : siteV "InTraysPurgatory" 209 "InTraysPurgatory$Mind" 1 Y_F_howMany ∨ siteU "InTraysPurgatory" 209 "InTraysPurgatory$Mind" 1 Y_F_howMany := Or.inr ⟨⟨"InTraysPurgatory$Mind", "howMany", "(I)I"⟩, Y_F_howMany, rfl, rfl, mw_613, mw_614, mw_616, mw_555, mw_555, okM_F_howMany, okM_F_howMany⟩
theorem sv_C_213_C : siteV "InTraysPurgatory" 213 "InTraysPurgatory" 0 Y_C_firstSigned ∨ siteU "InTraysPurgatory" 213 "InTraysPurgatory" 0 Y_C_firstSigned := Or.inl ⟨mw_625, mw_17, mw_627, rfl, okM_C_firstSigned⟩
theorem sv_C_216_D : siteV "InTraysPurgatory" 216 "InTraysPurgatory$Mind" 1 Y_F_those ∨ siteU "InTraysPurgatory" 216 "InTraysPurgatory$Mind" 1 Y_F_those := Or.inr ⟨⟨"InTraysPurgatory$Mind", "those", "(I)I"⟩, Y_F_those, rfl, rfl, mw_629, mw_630, mw_632, mw_561, mw_561, okM_F_those, okM_F_those⟩
theorem sv_C_219_C : siteV "InTraysPurgatory" 219 "InTraysPurgatory" 0 Y_C_lastSignedOn ∨ siteU "InTraysPurgatory" 219 "InTraysPurgatory" 0 Y_C_lastSignedOn := Or.inl ⟨mw_633, mw_18, mw_635, rfl, okM_C_lastSignedOn⟩
theorem sv_C_227_D : siteV "InTraysPurgatory" 227 "InTraysPurgatory$Mind" 2 Y_F_putBehind ∨ siteU "InTraysPurgatory" 227 "InTraysPurgatory$Mind" 2 Y_F_putBehind := Or.inr ⟨⟨"InTraysPurgatory$Mind", "putBehind", "(II)V"⟩, Y_F_putBehind, rfl, rfl, mw_642, mw_643, mw_645, mw_360, mw_360, okM_F_putBehind, okM_F_putBehind⟩
theorem ss_C_228 : siteS "InTraysPurgatory" 228 2 Y_C_isSooner := ⟨mw_646, mw_647, okM_C_isSooner⟩
theorem sv_C_231_C : siteV "InTraysPurgatory" 231 "InTraysPurgatory" 0 Y_C_noteAsItIs ∨ siteU "InTraysPurgatory" 231 "InTraysPurgatory" 0 Y_C_noteAsItIs := Or.inl ⟨mw_653, mw_19, mw_655, rfl, okM_C_noteAsItIs⟩
theorem sv_C_234_D : siteV "InTraysPurgatory" 234 "InTraysPurgatory$Mind" 1 Y_D_putAhead ∨ siteU "InTraysPurgatory" 234 "InTraysPurgatory$Mind" 1 Y_D_putAhead := Or.inl ⟨mw_658, mw_660, mw_659, rfl, okM_D_putAhead⟩
theorem ss_C_237 : siteS "InTraysPurgatory" 237 1 Y_C_leastOf := ⟨mw_666, mw_667, okM_C_leastOf⟩
theorem ss_C_240 : siteS "InTraysPurgatory" 240 1 Y_C_mostOf := ⟨mw_669, mw_670, okM_C_mostOf⟩
theorem sv_C_243_C : siteV "InTraysPurgatory" 243 "InTraysPurgatory" 3 Y_C_thinkWith ∨ siteU "InTraysPurgatory" 243 "InTraysPurgatory" 3 Y_C_thinkWith := Or.inl ⟨mw_672, mw_20, mw_674, rfl, okM_C_thinkWith⟩
theorem sv_C_247_F : siteV "InTraysPurgatory" 247 "InTraysPurgatory$Floor" 2 Y_F_isWilling ∨ siteU "InTraysPurgatory" 247 "InTraysPurgatory$Floor" 2 Y_F_isWilling := Or.inl ⟨mw_680, mw_449, mw_448, rfl, okM_F_isWilling⟩
theorem sv_C_253_F : siteV "InTraysPurgatory" 253 "InTraysPurgatory$Floor" 0 Y_F_allBorne ∨ siteU "InTraysPurgatory" 253 "InTraysPurgatory$Floor" 0 Y_F_allBorne := Or.inl ⟨mw_689, mw_691, mw_690, rfl, okM_F_allBorne⟩
theorem sv_C_260_F : siteV "InTraysPurgatory" 260 "InTraysPurgatory$Floor" 1 Y_F_loadOf ∨ siteU "InTraysPurgatory" 260 "InTraysPurgatory$Floor" 1 Y_F_loadOf := Or.inl ⟨mw_701, mw_455, mw_454, rfl, okM_F_loadOf⟩
theorem sv_C_263_C : siteV "InTraysPurgatory" 263 "InTraysPurgatory" 1 Y_C_isTrayCountAsRow ∨ siteU "InTraysPurgatory" 263 "InTraysPurgatory" 1 Y_C_isTrayCountAsRow := Or.inl ⟨mw_706, mw_21, mw_708, rfl, okM_C_isTrayCountAsRow⟩
theorem ss_C_266 : siteS "InTraysPurgatory" 266 1 Y_J_bitCount := ⟨mw_710, mw_567, okM_J_bitCount⟩
theorem sv_C_276_C : siteV "InTraysPurgatory" 276 "InTraysPurgatory" 1 Y_C_isWayAsRow ∨ siteU "InTraysPurgatory" 276 "InTraysPurgatory" 1 Y_C_isWayAsRow := Or.inl ⟨mw_715, mw_22, mw_717, rfl, okM_C_isWayAsRow⟩
theorem sv_C_279_C : siteV "InTraysPurgatory" 279 "InTraysPurgatory" 1 Y_C_shortestOrder ∨ siteU "InTraysPurgatory" 279 "InTraysPurgatory" 1 Y_C_shortestOrder := Or.inl ⟨mw_723, mw_23, mw_725, rfl, okM_C_shortestOrder⟩
theorem sv_C_282_C : siteV "InTraysPurgatory" 282 "InTraysPurgatory" 2 Y_C_wayOf ∨ siteU "InTraysPurgatory" 282 "InTraysPurgatory" 2 Y_C_wayOf := Or.inl ⟨mw_727, mw_24, mw_729, rfl, okM_C_wayOf⟩
theorem ss_C_285 : siteS "InTraysPurgatory" 285 3 Y_C_stopOf := ⟨mw_731, mw_732, okM_C_stopOf⟩
theorem ss_C_296 : siteS "InTraysPurgatory" 296 2 Y_C_power := ⟨mw_746, mw_747, okM_C_power⟩
theorem ss_C_300 : siteS "InTraysPurgatory" 300 3 Y_C_inLowestTerms := ⟨mw_749, mw_750, okM_C_inLowestTerms⟩
theorem ss_C_304 : siteS "InTraysPurgatory" 304 2 Y_C_greatestCommon := ⟨mw_752, mw_753, okM_C_greatestCommon⟩
theorem sv_C_311_F : siteV "InTraysPurgatory" 311 "InTraysPurgatory$Floor" 2 Y_F_nextTaken ∨ siteU "InTraysPurgatory" 311 "InTraysPurgatory$Floor" 2 Y_F_nextTaken := Or.inl ⟨mw_767, mw_420, mw_419, rfl, okM_F_nextTaken⟩
theorem sv_C_314_F : siteV "InTraysPurgatory" 314 "InTraysPurgatory$Floor" 2 Y_F_liesIn ∨ siteU "InTraysPurgatory" 314 "InTraysPurgatory$Floor" 2 Y_F_liesIn := Or.inl ⟨mw_772, mw_426, mw_425, rfl, okM_F_liesIn⟩
theorem sv_C_317_F : siteV "InTraysPurgatory" 317 "InTraysPurgatory$Floor" 2 Y_F_isTakenAhead ∨ siteU "InTraysPurgatory" 317 "InTraysPurgatory$Floor" 2 Y_F_isTakenAhead := Or.inl ⟨mw_773, mw_432, mw_431, rfl, okM_F_isTakenAhead⟩
theorem sv_C_320_D : siteV "InTraysPurgatory" 320 "InTraysPurgatory$Mind" 1 Y_D_dismiss ∨ siteU "InTraysPurgatory" 320 "InTraysPurgatory$Mind" 1 Y_D_dismiss := Or.inl ⟨mw_778, mw_780, mw_779, rfl, okM_D_dismiss⟩
theorem sv_C_323_F : siteV "InTraysPurgatory" 323 "InTraysPurgatory$Floor" 0 Y_F_allMinutes ∨ siteU "InTraysPurgatory" 323 "InTraysPurgatory$Floor" 0 Y_F_allMinutes := Or.inl ⟨mw_800, mw_802, mw_801, rfl, okM_F_allMinutes⟩
theorem sv_C_332_C : siteV "InTraysPurgatory" 332 "InTraysPurgatory" 1 Y_C_firstNotSo ∨ siteU "InTraysPurgatory" 332 "InTraysPurgatory" 1 Y_C_firstNotSo := Or.inl ⟨mw_826, mw_26, mw_828, rfl, okM_C_firstNotSo⟩
theorem sv_C_335_F : siteV "InTraysPurgatory" 335 "InTraysPurgatory$Floor" 1 Y_F_placeOf ∨ siteU "InTraysPurgatory" 335 "InTraysPurgatory$Floor" 1 Y_F_placeOf := Or.inl ⟨mw_830, mw_1445, mw_603, rfl, okM_F_placeOf⟩
theorem sv_C_339_C : siteV "InTraysPurgatory" 339 "InTraysPurgatory" 0 Y_C_dealTrays ∨ siteU "InTraysPurgatory" 339 "InTraysPurgatory" 0 Y_C_dealTrays := Or.inl ⟨mw_839, mw_27, mw_841, rfl, okM_C_dealTrays⟩
theorem sv_C_342_D : siteV "InTraysPurgatory" 342 "InTraysPurgatory$Mind" 0 Y_F_allBorne ∨ siteU "InTraysPurgatory" 342 "InTraysPurgatory$Mind" 0 Y_F_allBorne := Or.inr ⟨⟨"InTraysPurgatory$Mind", "allBorne", "()I"⟩, Y_F_allBorne, rfl, rfl, mw_850, mw_851, mw_853, mw_690, mw_690, okM_F_allBorne, okM_F_allBorne⟩
theorem sv_C_343_C : siteV "InTraysPurgatory" 343 "InTraysPurgatory" 0 Y_C_drawTray ∨ siteU "InTraysPurgatory" 343 "InTraysPurgatory" 0 Y_C_drawTray := Or.inl ⟨mw_843, mw_28, mw_845, rfl, okM_C_drawTray⟩
theorem sv_C_353_F : siteV "InTraysPurgatory" 353 "InTraysPurgatory$Floor" 1 Y_F_those ∨ siteU "InTraysPurgatory" 353 "InTraysPurgatory$Floor" 1 Y_F_those := Or.inl ⟨mw_866, mw_562, mw_561, rfl, okM_F_those⟩
theorem sv_C_52_C : siteV "InTraysPurgatory" 52 "InTraysPurgatory" 1 Y_C_refuse ∨ siteU "InTraysPurgatory" 52 "InTraysPurgatory" 1 Y_C_refuse := Or.inl ⟨mw_306, mw_3, mw_308, rfl, okM_C_refuse⟩
theorem sv_C_60_C : siteV "InTraysPurgatory" 60 "InTraysPurgatory" 0 Y_C_firstWrongLetter ∨ siteU "InTraysPurgatory" 60 "InTraysPurgatory" 0 Y_C_firstWrongLetter := Or.inl ⟨mw_314, mw_4, mw_316, rfl, okM_C_firstWrongLetter⟩
theorem sv_C_64_D : siteV "InTraysPurgatory" 64 "InTraysPurgatory$Mind" 1 Y_D_begin ∨ siteU "InTraysPurgatory" 64 "InTraysPurgatory$Mind" 1 Y_D_begin := Or.inl ⟨mw_325, mw_327, mw_326, rfl, okM_D_begin⟩
theorem sv_C_68_C : siteV "InTraysPurgatory" 68 "InTraysPurgatory" 1 Y_C_comesToPass ∨ siteU "InTraysPurgatory" 68 "InTraysPurgatory" 1 Y_C_comesToPass := Or.inl ⟨mw_338, mw_6, mw_340, rfl, okM_C_comesToPass⟩
theorem sv_C_72_C : siteV "InTraysPurgatory" 72 "InTraysPurgatory" 1 Y_C_letterAt ∨ siteU "InTraysPurgatory" 72 "InTraysPurgatory" 1 Y_C_letterAt := Or.inl ⟨mw_318, mw_5, mw_320, rfl, okM_C_letterAt⟩
theorem ss_C_75 : siteS "InTraysPurgatory" 75 1 Y_C_statementLength := ⟨mw_322, mw_323, okM_C_statementLength⟩
theorem sv_C_78_F : siteV "InTraysPurgatory" 78 "InTraysPurgatory$Floor" 1 Y_F_takeOver ∨ siteU "InTraysPurgatory" 78 "InTraysPurgatory$Floor" 1 Y_F_takeOver := Or.inl ⟨mw_507, mw_1429, mw_333, rfl, okM_F_takeOver⟩
theorem sv_C_81_P : siteV "InTraysPurgatory" 81 "InTraysPurgatory$Past" 0 Y_P_forget ∨ siteU "InTraysPurgatory" 81 "InTraysPurgatory$Past" 0 Y_P_forget := Or.inl ⟨mw_508, mw_510, mw_509, rfl, okM_P_forget⟩
theorem sv_C_84_C : siteV "InTraysPurgatory" 84 "InTraysPurgatory" 1 Y_C_digitAt ∨ siteU "InTraysPurgatory" 84 "InTraysPurgatory" 1 Y_C_digitAt := Or.inl ⟨mw_342, mw_7, mw_344, rfl, okM_C_digitAt⟩
theorem sv_C_87_C : siteV "InTraysPurgatory" 87 "InTraysPurgatory" 3 Y_C_sheetComes ∨ siteU "InTraysPurgatory" 87 "InTraysPurgatory" 3 Y_C_sheetComes := Or.inl ⟨mw_346, mw_8, mw_348, rfl, okM_C_sheetComes⟩
theorem sv_C_91_C : siteV "InTraysPurgatory" 91 "InTraysPurgatory" 3 Y_C_officialBecomes ∨ siteU "InTraysPurgatory" 91 "InTraysPurgatory" 3 Y_C_officialBecomes := Or.inl ⟨mw_365, mw_9, mw_367, rfl, okM_C_officialBecomes⟩
theorem sv_C_94_C : siteV "InTraysPurgatory" 94 "InTraysPurgatory" 2 Y_C_officialMoves ∨ siteU "InTraysPurgatory" 94 "InTraysPurgatory" 2 Y_C_officialMoves := Or.inl ⟨mw_369, mw_10, mw_371, rfl, okM_C_officialMoves⟩
theorem sv_C_98_C : siteV "InTraysPurgatory" 98 "InTraysPurgatory" 1 Y_C_sheetIsMislaid ∨ siteU "InTraysPurgatory" 98 "InTraysPurgatory" 1 Y_C_sheetIsMislaid := Or.inl ⟨mw_373, mw_11, mw_375, rfl, okM_C_sheetIsMislaid⟩
theorem sv_F_100_F : siteV "InTraysPurgatory$Floor" 100 "InTraysPurgatory$Floor" 1 Y_F_work ∨ siteU "InTraysPurgatory$Floor" 100 "InTraysPurgatory$Floor" 1 Y_F_work := Or.inl ⟨mw_414, mw_12, mw_416, rfl, okM_F_work⟩
theorem sv_F_100_D : siteV "InTraysPurgatory$Floor" 100 "InTraysPurgatory$Mind" 1 Y_F_work ∨ siteU "InTraysPurgatory$Floor" 100 "InTraysPurgatory$Mind" 1 Y_F_work := Or.inr ⟨⟨"InTraysPurgatory$Floor", "work", "(I)V"⟩, Y_F_work, rfl, rfl, mw_414, mw_1425, mw_0, mw_416, mw_416, okM_F_work, okM_F_work⟩
theorem sf_F_100 {f : Nat} (_ : isFl f) : siteV "InTraysPurgatory$Floor" 100 (fC f) 1 Y_F_work ∨ siteU "InTraysPurgatory$Floor" 100 (fC f) 1 Y_F_work := by
  by_cases e : f = 12
  · rw [show fC f = RX2 from if_pos e]
    exact sv_F_100_D
  · rw [show fC f = RX0 from if_neg e]
    exact sv_F_100_F
theorem sv_F_104_F : siteV "InTraysPurgatory$Floor" 104 "InTraysPurgatory$Floor" 2 Y_F_nextTaken ∨ siteU "InTraysPurgatory$Floor" 104 "InTraysPurgatory$Floor" 2 Y_F_nextTaken := Or.inl ⟨mw_418, mw_420, mw_419, rfl, okM_F_nextTaken⟩
theorem sv_F_104_D : siteV "InTraysPurgatory$Floor" 104 "InTraysPurgatory$Mind" 2 Y_F_nextTaken ∨ siteU "InTraysPurgatory$Floor" 104 "InTraysPurgatory$Mind" 2 Y_F_nextTaken := Or.inr ⟨⟨"InTraysPurgatory$Floor", "nextTaken", "(II)I"⟩, Y_F_nextTaken, rfl, rfl, mw_418, mw_421, mw_422, mw_419, mw_419, okM_F_nextTaken, okM_F_nextTaken⟩
theorem sf_F_104 {f : Nat} (_ : isFl f) : siteV "InTraysPurgatory$Floor" 104 (fC f) 2 Y_F_nextTaken ∨ siteU "InTraysPurgatory$Floor" 104 (fC f) 2 Y_F_nextTaken := by
  by_cases e : f = 12
  · rw [show fC f = RX2 from if_pos e]
    exact sv_F_104_D
  · rw [show fC f = RX0 from if_neg e]
    exact sv_F_104_F
theorem sv_F_107_F : siteV "InTraysPurgatory$Floor" 107 "InTraysPurgatory$Floor" 1 Y_F_noteBusy ∨ siteU "InTraysPurgatory$Floor" 107 "InTraysPurgatory$Floor" 1 Y_F_noteBusy := Or.inl ⟨mw_439, mw_441, mw_440, rfl, okM_F_noteBusy⟩
theorem sv_F_107_D : siteV "InTraysPurgatory$Floor" 107 "InTraysPurgatory$Mind" 1 Y_D_noteBusy ∨ siteU "InTraysPurgatory$Floor" 107 "InTraysPurgatory$Mind" 1 Y_D_noteBusy := Or.inr ⟨⟨"InTraysPurgatory$Floor", "noteBusy", "(I)V"⟩, Y_F_noteBusy, rfl, rfl, mw_439, mw_442, mw_443, mw_444, mw_440, okM_F_noteBusy, okM_D_noteBusy⟩
theorem sf_F_107 {f : Nat} (_ : isFl f) : siteV "InTraysPurgatory$Floor" 107 (fC f) 1 (vY f Y_D_noteBusy Y_F_noteBusy) ∨ siteU "InTraysPurgatory$Floor" 107 (fC f) 1 (vY f Y_D_noteBusy Y_F_noteBusy) := by
  by_cases e : f = 12
  · rw [show fC f = RX2 from if_pos e, show vY f Y_D_noteBusy Y_F_noteBusy = Y_D_noteBusy from if_pos e]
    exact sv_F_107_D
  · rw [show fC f = RX0 from if_neg e, show vY f Y_D_noteBusy Y_F_noteBusy = Y_F_noteBusy from if_neg e]
    exact sv_F_107_F
theorem sv_F_110_F : siteV "InTraysPurgatory$Floor" 110 "InTraysPurgatory$Floor" 2 Y_F_isWilling ∨ siteU "InTraysPurgatory$Floor" 110 "InTraysPurgatory$Floor" 2 Y_F_isWilling := Or.inl ⟨mw_447, mw_449, mw_448, rfl, okM_F_isWilling⟩
theorem sv_F_110_D : siteV "InTraysPurgatory$Floor" 110 "InTraysPurgatory$Mind" 2 Y_F_isWilling ∨ siteU "InTraysPurgatory$Floor" 110 "InTraysPurgatory$Mind" 2 Y_F_isWilling := Or.inr ⟨⟨"InTraysPurgatory$Floor", "isWilling", "(II)Z"⟩, Y_F_isWilling, rfl, rfl, mw_447, mw_450, mw_451, mw_448, mw_448, okM_F_isWilling, okM_F_isWilling⟩
theorem sf_F_110 {f : Nat} (_ : isFl f) : siteV "InTraysPurgatory$Floor" 110 (fC f) 2 Y_F_isWilling ∨ siteU "InTraysPurgatory$Floor" 110 (fC f) 2 Y_F_isWilling := by
  by_cases e : f = 12
  · rw [show fC f = RX2 from if_pos e]
    exact sv_F_110_D
  · rw [show fC f = RX0 from if_neg e]
    exact sv_F_110_F
theorem sv_F_113_F : siteV "InTraysPurgatory$Floor" 113 "InTraysPurgatory$Floor" 2 Y_F_sign ∨ siteU "InTraysPurgatory$Floor" 113 "InTraysPurgatory$Floor" 2 Y_F_sign := Or.inl ⟨mw_465, mw_13, mw_467, rfl, okM_F_sign⟩
theorem sv_F_113_D : siteV "InTraysPurgatory$Floor" 113 "InTraysPurgatory$Mind" 2 Y_F_sign ∨ siteU "InTraysPurgatory$Floor" 113 "InTraysPurgatory$Mind" 2 Y_F_sign := Or.inr ⟨⟨"InTraysPurgatory$Floor", "sign", "(II)V"⟩, Y_F_sign, rfl, rfl, mw_465, mw_1426, mw_1, mw_467, mw_467, okM_F_sign, okM_F_sign⟩
theorem sf_F_113 {f : Nat} (_ : isFl f) : siteV "InTraysPurgatory$Floor" 113 (fC f) 2 Y_F_sign ∨ siteU "InTraysPurgatory$Floor" 113 (fC f) 2 Y_F_sign := by
  by_cases e : f = 12
  · rw [show fC f = RX2 from if_pos e]
    exact sv_F_113_D
  · rw [show fC f = RX0 from if_neg e]
    exact sv_F_113_F
theorem sv_F_116_F : siteV "InTraysPurgatory$Floor" 116 "InTraysPurgatory$Floor" 2 Y_F_passOn ∨ siteU "InTraysPurgatory$Floor" 116 "InTraysPurgatory$Floor" 2 Y_F_passOn := Or.inl ⟨mw_487, mw_14, mw_489, rfl, okM_F_passOn⟩
theorem sv_F_116_D : siteV "InTraysPurgatory$Floor" 116 "InTraysPurgatory$Mind" 2 Y_F_passOn ∨ siteU "InTraysPurgatory$Floor" 116 "InTraysPurgatory$Mind" 2 Y_F_passOn := Or.inr ⟨⟨"InTraysPurgatory$Floor", "passOn", "(II)V"⟩, Y_F_passOn, rfl, rfl, mw_487, mw_1427, mw_2, mw_489, mw_489, okM_F_passOn, okM_F_passOn⟩
theorem sf_F_116 {f : Nat} (_ : isFl f) : siteV "InTraysPurgatory$Floor" 116 (fC f) 2 Y_F_passOn ∨ siteU "InTraysPurgatory$Floor" 116 (fC f) 2 Y_F_passOn := by
  by_cases e : f = 12
  · rw [show fC f = RX2 from if_pos e]
    exact sv_F_116_D
  · rw [show fC f = RX0 from if_neg e]
    exact sv_F_116_F
theorem ss_F_119 : siteS "InTraysPurgatory$Floor" 119 2 Y_K_part := ⟨mw_469, mw_470, okM_K_part⟩
theorem sv_F_130_F : siteV "InTraysPurgatory$Floor" 130 "InTraysPurgatory$Floor" 1 Y_F_noteSigned ∨ siteU "InTraysPurgatory$Floor" 130 "InTraysPurgatory$Floor" 1 Y_F_noteSigned := Or.inl ⟨mw_479, mw_481, mw_480, rfl, okM_F_noteSigned⟩
theorem sv_F_130_D : siteV "InTraysPurgatory$Floor" 130 "InTraysPurgatory$Mind" 1 Y_D_noteSigned ∨ siteU "InTraysPurgatory$Floor" 130 "InTraysPurgatory$Mind" 1 Y_D_noteSigned := Or.inr ⟨⟨"InTraysPurgatory$Floor", "noteSigned", "(I)V"⟩, Y_F_noteSigned, rfl, rfl, mw_479, mw_482, mw_483, mw_484, mw_480, okM_F_noteSigned, okM_D_noteSigned⟩
theorem sf_F_130 {f : Nat} (_ : isFl f) : siteV "InTraysPurgatory$Floor" 130 (fC f) 1 (vY f Y_D_noteSigned Y_F_noteSigned) ∨ siteU "InTraysPurgatory$Floor" 130 (fC f) 1 (vY f Y_D_noteSigned Y_F_noteSigned) := by
  by_cases e : f = 12
  · rw [show fC f = RX2 from if_pos e, show vY f Y_D_noteSigned Y_F_noteSigned = Y_D_noteSigned from if_pos e]
    exact sv_F_130_D
  · rw [show fC f = RX0 from if_neg e, show vY f Y_D_noteSigned Y_F_noteSigned = Y_F_noteSigned from if_neg e]
    exact sv_F_130_F
theorem sv_F_133_F : siteV "InTraysPurgatory$Floor" 133 "InTraysPurgatory$Floor" 1 Y_F_nextOf ∨ siteU "InTraysPurgatory$Floor" 133 "InTraysPurgatory$Floor" 1 Y_F_nextOf := Or.inl ⟨mw_491, mw_493, mw_492, rfl, okM_F_nextOf⟩
theorem sv_F_133_D : siteV "InTraysPurgatory$Floor" 133 "InTraysPurgatory$Mind" 1 Y_D_nextOf ∨ siteU "InTraysPurgatory$Floor" 133 "InTraysPurgatory$Mind" 1 Y_D_nextOf := Or.inr ⟨⟨"InTraysPurgatory$Floor", "nextOf", "(I)I"⟩, Y_F_nextOf, rfl, rfl, mw_491, mw_494, mw_495, mw_496, mw_492, okM_F_nextOf, okM_D_nextOf⟩
theorem sf_F_133 {f : Nat} (_ : isFl f) : siteV "InTraysPurgatory$Floor" 133 (fC f) 1 (vY f Y_D_nextOf Y_F_nextOf) ∨ siteU "InTraysPurgatory$Floor" 133 (fC f) 1 (vY f Y_D_nextOf Y_F_nextOf) := by
  by_cases e : f = 12
  · rw [show fC f = RX2 from if_pos e, show vY f Y_D_nextOf Y_F_nextOf = Y_D_nextOf from if_pos e]
    exact sv_F_133_D
  · rw [show fC f = RX0 from if_neg e, show vY f Y_D_nextOf Y_F_nextOf = Y_F_nextOf from if_neg e]
    exact sv_F_133_F
theorem sv_F_136_F : siteV "InTraysPurgatory$Floor" 136 "InTraysPurgatory$Floor" 1 Y_F_notePassed ∨ siteU "InTraysPurgatory$Floor" 136 "InTraysPurgatory$Floor" 1 Y_F_notePassed := Or.inl ⟨mw_499, mw_501, mw_500, rfl, okM_F_notePassed⟩
theorem sv_F_136_D : siteV "InTraysPurgatory$Floor" 136 "InTraysPurgatory$Mind" 1 Y_D_notePassed ∨ siteU "InTraysPurgatory$Floor" 136 "InTraysPurgatory$Mind" 1 Y_D_notePassed := Or.inr ⟨⟨"InTraysPurgatory$Floor", "notePassed", "(I)V"⟩, Y_F_notePassed, rfl, rfl, mw_499, mw_502, mw_503, mw_504, mw_500, okM_F_notePassed, okM_D_notePassed⟩
theorem sf_F_136 {f : Nat} (_ : isFl f) : siteV "InTraysPurgatory$Floor" 136 (fC f) 1 (vY f Y_D_notePassed Y_F_notePassed) ∨ siteU "InTraysPurgatory$Floor" 136 (fC f) 1 (vY f Y_D_notePassed Y_F_notePassed) := by
  by_cases e : f = 12
  · rw [show fC f = RX2 from if_pos e, show vY f Y_D_notePassed Y_F_notePassed = Y_D_notePassed from if_pos e]
    exact sv_F_136_D
  · rw [show fC f = RX0 from if_neg e, show vY f Y_D_notePassed Y_F_notePassed = Y_F_notePassed from if_neg e]
    exact sv_F_136_F
theorem sv_F_58_F : siteV "InTraysPurgatory$Floor" 58 "InTraysPurgatory$Floor" 2 Y_F_putBehind ∨ siteU "InTraysPurgatory$Floor" 58 "InTraysPurgatory$Floor" 2 Y_F_putBehind := Or.inl ⟨mw_359, mw_361, mw_360, rfl, okM_F_putBehind⟩
theorem sv_F_58_D : siteV "InTraysPurgatory$Floor" 58 "InTraysPurgatory$Mind" 2 Y_F_putBehind ∨ siteU "InTraysPurgatory$Floor" 58 "InTraysPurgatory$Mind" 2 Y_F_putBehind := Or.inr ⟨⟨"InTraysPurgatory$Floor", "putBehind", "(II)V"⟩, Y_F_putBehind, rfl, rfl, mw_359, mw_362, mw_363, mw_360, mw_360, okM_F_putBehind, okM_F_putBehind⟩
theorem sf_F_58 {f : Nat} (_ : isFl f) : siteV "InTraysPurgatory$Floor" 58 (fC f) 2 Y_F_putBehind ∨ siteU "InTraysPurgatory$Floor" 58 (fC f) 2 Y_F_putBehind := by
  by_cases e : f = 12
  · rw [show fC f = RX2 from if_pos e]
    exact sv_F_58_D
  · rw [show fC f = RX0 from if_neg e]
    exact sv_F_58_F
theorem sv_F_62_F : siteV "InTraysPurgatory$Floor" 62 "InTraysPurgatory$Floor" 2 Y_F_liesIn ∨ siteU "InTraysPurgatory$Floor" 62 "InTraysPurgatory$Floor" 2 Y_F_liesIn := Or.inl ⟨mw_424, mw_426, mw_425, rfl, okM_F_liesIn⟩
theorem sv_F_62_D : siteV "InTraysPurgatory$Floor" 62 "InTraysPurgatory$Mind" 2 Y_F_liesIn ∨ siteU "InTraysPurgatory$Floor" 62 "InTraysPurgatory$Mind" 2 Y_F_liesIn := Or.inr ⟨⟨"InTraysPurgatory$Floor", "liesIn", "(II)Z"⟩, Y_F_liesIn, rfl, rfl, mw_424, mw_427, mw_428, mw_425, mw_425, okM_F_liesIn, okM_F_liesIn⟩
theorem sf_F_62 {f : Nat} (_ : isFl f) : siteV "InTraysPurgatory$Floor" 62 (fC f) 2 Y_F_liesIn ∨ siteU "InTraysPurgatory$Floor" 62 (fC f) 2 Y_F_liesIn := by
  by_cases e : f = 12
  · rw [show fC f = RX2 from if_pos e]
    exact sv_F_62_D
  · rw [show fC f = RX0 from if_neg e]
    exact sv_F_62_F
theorem sv_F_66_F : siteV "InTraysPurgatory$Floor" 66 "InTraysPurgatory$Floor" 1 Y_F_those ∨ siteU "InTraysPurgatory$Floor" 66 "InTraysPurgatory$Floor" 1 Y_F_those := Or.inl ⟨mw_560, mw_562, mw_561, rfl, okM_F_those⟩
theorem sv_F_66_D : siteV "InTraysPurgatory$Floor" 66 "InTraysPurgatory$Mind" 1 Y_F_those ∨ siteU "InTraysPurgatory$Floor" 66 "InTraysPurgatory$Mind" 1 Y_F_those := Or.inr ⟨⟨"InTraysPurgatory$Floor", "those", "(I)I"⟩, Y_F_those, rfl, rfl, mw_560, mw_563, mw_564, mw_561, mw_561, okM_F_those, okM_F_those⟩
theorem sf_F_66 {f : Nat} (_ : isFl f) : siteV "InTraysPurgatory$Floor" 66 (fC f) 1 Y_F_those ∨ siteU "InTraysPurgatory$Floor" 66 (fC f) 1 Y_F_those := by
  by_cases e : f = 12
  · rw [show fC f = RX2 from if_pos e]
    exact sv_F_66_D
  · rw [show fC f = RX0 from if_neg e]
    exact sv_F_66_F
theorem ss_F_70 : siteS "InTraysPurgatory$Floor" 70 1 Y_J_bitCount := ⟨mw_566, mw_567, okM_J_bitCount⟩
theorem ss_F_75 : siteS "InTraysPurgatory$Floor" 75 2 Y_K_weight := ⟨mw_459, mw_460, okM_K_weight⟩
theorem ss_F_81 : siteS "InTraysPurgatory$Floor" 81 2 Y_K_rings := ⟨mw_462, mw_463, okM_K_rings⟩
theorem sv_F_84_F : siteV "InTraysPurgatory$Floor" 84 "InTraysPurgatory$Floor" 1 Y_F_loadOf ∨ siteU "InTraysPurgatory$Floor" 84 "InTraysPurgatory$Floor" 1 Y_F_loadOf := Or.inl ⟨mw_453, mw_455, mw_454, rfl, okM_F_loadOf⟩
theorem sv_F_84_D : siteV "InTraysPurgatory$Floor" 84 "InTraysPurgatory$Mind" 1 Y_F_loadOf ∨ siteU "InTraysPurgatory$Floor" 84 "InTraysPurgatory$Mind" 1 Y_F_loadOf := Or.inr ⟨⟨"InTraysPurgatory$Floor", "loadOf", "(I)I"⟩, Y_F_loadOf, rfl, rfl, mw_453, mw_456, mw_457, mw_454, mw_454, okM_F_loadOf, okM_F_loadOf⟩
theorem sf_F_84 {f : Nat} (_ : isFl f) : siteV "InTraysPurgatory$Floor" 84 (fC f) 1 Y_F_loadOf ∨ siteU "InTraysPurgatory$Floor" 84 (fC f) 1 Y_F_loadOf := by
  by_cases e : f = 12
  · rw [show fC f = RX2 from if_pos e]
    exact sv_F_84_D
  · rw [show fC f = RX0 from if_neg e]
    exact sv_F_84_F
theorem ss_F_87 : siteS "InTraysPurgatory$Floor" 87 1 Y_K_haste := ⟨mw_436, mw_437, okM_K_haste⟩
theorem sv_F_90_F : siteV "InTraysPurgatory$Floor" 90 "InTraysPurgatory$Floor" 2 Y_F_isTakenAhead ∨ siteU "InTraysPurgatory$Floor" 90 "InTraysPurgatory$Floor" 2 Y_F_isTakenAhead := Or.inl ⟨mw_430, mw_432, mw_431, rfl, okM_F_isTakenAhead⟩
theorem sv_F_90_D : siteV "InTraysPurgatory$Floor" 90 "InTraysPurgatory$Mind" 2 Y_F_isTakenAhead ∨ siteU "InTraysPurgatory$Floor" 90 "InTraysPurgatory$Mind" 2 Y_F_isTakenAhead := Or.inr ⟨⟨"InTraysPurgatory$Floor", "isTakenAhead", "(II)Z"⟩, Y_F_isTakenAhead, rfl, rfl, mw_430, mw_433, mw_434, mw_431, mw_431, okM_F_isTakenAhead, okM_F_isTakenAhead⟩
theorem sf_F_90 {f : Nat} (_ : isFl f) : siteV "InTraysPurgatory$Floor" 90 (fC f) 2 Y_F_isTakenAhead ∨ siteU "InTraysPurgatory$Floor" 90 (fC f) 2 Y_F_isTakenAhead := by
  by_cases e : f = 12
  · rw [show fC f = RX2 from if_pos e]
    exact sv_F_90_D
  · rw [show fC f = RX0 from if_neg e]
    exact sv_F_90_F
theorem sv_F_93_F : siteV "InTraysPurgatory$Floor" 93 "InTraysPurgatory$Floor" 0 Y_F_noteDay ∨ siteU "InTraysPurgatory$Floor" 93 "InTraysPurgatory$Floor" 0 Y_F_noteDay := Or.inl ⟨mw_398, mw_400, mw_399, rfl, okM_F_noteDay⟩
theorem sv_F_93_D : siteV "InTraysPurgatory$Floor" 93 "InTraysPurgatory$Mind" 0 Y_D_noteDay ∨ siteU "InTraysPurgatory$Floor" 93 "InTraysPurgatory$Mind" 0 Y_D_noteDay := Or.inr ⟨⟨"InTraysPurgatory$Floor", "noteDay", "()V"⟩, Y_F_noteDay, rfl, rfl, mw_398, mw_401, mw_402, mw_403, mw_399, okM_F_noteDay, okM_D_noteDay⟩
theorem sf_F_93 {f : Nat} (_ : isFl f) : siteV "InTraysPurgatory$Floor" 93 (fC f) 0 (vY f Y_D_noteDay Y_F_noteDay) ∨ siteU "InTraysPurgatory$Floor" 93 (fC f) 0 (vY f Y_D_noteDay Y_F_noteDay) := by
  by_cases e : f = 12
  · rw [show fC f = RX2 from if_pos e, show vY f Y_D_noteDay Y_F_noteDay = Y_D_noteDay from if_pos e]
    exact sv_F_93_D
  · rw [show fC f = RX0 from if_neg e, show vY f Y_D_noteDay Y_F_noteDay = Y_F_noteDay from if_neg e]
    exact sv_F_93_F
theorem sv_F_96_F : siteV "InTraysPurgatory$Floor" 96 "InTraysPurgatory$Floor" 1 Y_F_isThere ∨ siteU "InTraysPurgatory$Floor" 96 "InTraysPurgatory$Floor" 1 Y_F_isThere := Or.inl ⟨mw_406, mw_408, mw_407, rfl, okM_F_isThere⟩
theorem sv_F_96_D : siteV "InTraysPurgatory$Floor" 96 "InTraysPurgatory$Mind" 1 Y_D_isThere ∨ siteU "InTraysPurgatory$Floor" 96 "InTraysPurgatory$Mind" 1 Y_D_isThere := Or.inr ⟨⟨"InTraysPurgatory$Floor", "isThere", "(I)Z"⟩, Y_F_isThere, rfl, rfl, mw_406, mw_409, mw_410, mw_411, mw_407, okM_F_isThere, okM_D_isThere⟩
theorem sf_F_96 {f : Nat} (_ : isFl f) : siteV "InTraysPurgatory$Floor" 96 (fC f) 1 (vY f Y_D_isThere Y_F_isThere) ∨ siteU "InTraysPurgatory$Floor" 96 (fC f) 1 (vY f Y_D_isThere Y_F_isThere) := by
  by_cases e : f = 12
  · rw [show fC f = RX2 from if_pos e, show vY f Y_D_isThere Y_F_isThere = Y_D_isThere from if_pos e]
    exact sv_F_96_D
  · rw [show fC f = RX0 from if_neg e, show vY f Y_D_isThere Y_F_isThere = Y_F_isThere from if_neg e]
    exact sv_F_96_F
theorem ss_K_9 : siteS "InTraysPurgatory$Kinds" 9 2 Y_K_weight := ⟨mw_472, mw_460, okM_K_weight⟩
theorem sv_D_31_D : siteV "InTraysPurgatory$Mind" 31 "InTraysPurgatory$Mind" 1 Y_F_takeOver ∨ siteU "InTraysPurgatory$Mind" 31 "InTraysPurgatory$Mind" 1 Y_F_takeOver := Or.inr ⟨⟨"InTraysPurgatory$Mind", "takeOver", "(LInTraysPurgatory$Floor;)V"⟩, Y_F_takeOver, rfl, rfl, mw_329, mw_330, mw_332, mw_333, mw_333, okM_F_takeOver, okM_F_takeOver⟩
theorem sv_D_47_D : siteV "InTraysPurgatory$Mind" 47 "InTraysPurgatory$Mind" 2 Y_D_aheadIn ∨ siteU "InTraysPurgatory$Mind" 47 "InTraysPurgatory$Mind" 2 Y_D_aheadIn := Or.inl ⟨mw_782, mw_25, mw_784, rfl, okM_D_aheadIn⟩
theorem sv_D_51_D : siteV "InTraysPurgatory$Mind" 51 "InTraysPurgatory$Mind" 1 Y_D_nextOf ∨ siteU "InTraysPurgatory$Mind" 51 "InTraysPurgatory$Mind" 1 Y_D_nextOf := Or.inl ⟨mw_790, mw_1443, mw_496, rfl, okM_D_nextOf⟩
theorem sv_D_55_D : siteV "InTraysPurgatory$Mind" 55 "InTraysPurgatory$Mind" 2 Y_F_putBehind ∨ siteU "InTraysPurgatory$Mind" 55 "InTraysPurgatory$Mind" 2 Y_F_putBehind := Or.inr ⟨⟨"InTraysPurgatory$Mind", "putBehind", "(II)V"⟩, Y_F_putBehind, rfl, rfl, mw_791, mw_643, mw_645, mw_360, mw_360, okM_F_putBehind, okM_F_putBehind⟩
theorem sv_D_59_D : siteV "InTraysPurgatory$Mind" 59 "InTraysPurgatory$Mind" 2 Y_F_liesIn ∨ siteU "InTraysPurgatory$Mind" 59 "InTraysPurgatory$Mind" 2 Y_F_liesIn := Or.inr ⟨⟨"InTraysPurgatory$Mind", "liesIn", "(II)Z"⟩, Y_F_liesIn, rfl, rfl, mw_786, mw_787, mw_789, mw_425, mw_425, okM_F_liesIn, okM_F_liesIn⟩
theorem sv_P_22_F : siteV "InTraysPurgatory$Past" 22 "InTraysPurgatory$Floor" 1 Y_F_takeOver ∨ siteU "InTraysPurgatory$Past" 22 "InTraysPurgatory$Floor" 1 Y_F_takeOver := Or.inl ⟨mw_547, mw_1429, mw_333, rfl, okM_F_takeOver⟩
theorem sv_P_22_D : siteV "InTraysPurgatory$Past" 22 "InTraysPurgatory$Mind" 1 Y_F_takeOver ∨ siteU "InTraysPurgatory$Past" 22 "InTraysPurgatory$Mind" 1 Y_F_takeOver := Or.inr ⟨⟨"InTraysPurgatory$Floor", "takeOver", "(LInTraysPurgatory$Floor;)V"⟩, Y_F_takeOver, rfl, rfl, mw_547, mw_1428, mw_1430, mw_333, mw_333, okM_F_takeOver, okM_F_takeOver⟩
theorem sf_P_22 {f : Nat} (_ : isFl f) : siteV "InTraysPurgatory$Past" 22 (fC f) 1 Y_F_takeOver ∨ siteU "InTraysPurgatory$Past" 22 (fC f) 1 Y_F_takeOver := by
  by_cases e : f = 12
  · rw [show fC f = RX2 from if_pos e]
    exact sv_P_22_D
  · rw [show fC f = RX0 from if_neg e]
    exact sv_P_22_F
theorem sv_M_104_M : siteV "InTraysPurgatoryModel" 104 "InTraysPurgatoryModel" 0 Y_M_next ∨ siteU "InTraysPurgatoryModel" 104 "InTraysPurgatoryModel" 0 Y_M_next := Or.inl ⟨mw_1001, mw_31, mw_1003, rfl, okM_M_next⟩
theorem ss_M_108 : siteS "InTraysPurgatoryModel" 108 3 Y_M_isIn := ⟨mw_1013, mw_1014, okM_M_isIn⟩
theorem sv_M_112_M : siteV "InTraysPurgatoryModel" 112 "InTraysPurgatoryModel" 2 Y_M_readsDigits ∨ siteU "InTraysPurgatoryModel" 112 "InTraysPurgatoryModel" 2 Y_M_readsDigits := Or.inl ⟨mw_1009, mw_33, mw_1011, rfl, okM_M_readsDigits⟩
theorem sv_M_119_M : siteV "InTraysPurgatoryModel" 119 "InTraysPurgatoryModel" 2 Y_M_readsAll ∨ siteU "InTraysPurgatoryModel" 119 "InTraysPurgatoryModel" 2 Y_M_readsAll := Or.inl ⟨mw_1005, mw_32, mw_1007, rfl, okM_M_readsAll⟩
theorem ss_M_122 : siteS "InTraysPurgatoryModel" 122 1 Y_M_isOfficial := ⟨mw_1036, mw_1037, okM_M_isOfficial⟩
theorem sv_M_125_M : siteV "InTraysPurgatoryModel" 125 "InTraysPurgatoryModel" 3 Y_M_adds ∨ siteU "InTraysPurgatoryModel" 125 "InTraysPurgatoryModel" 3 Y_M_adds := Or.inl ⟨mw_1039, mw_39, mw_1041, rfl, okM_M_adds⟩
theorem sv_M_129_M : siteV "InTraysPurgatoryModel" 129 "InTraysPurgatoryModel" 1 Y_M_comesSheet ∨ siteU "InTraysPurgatoryModel" 129 "InTraysPurgatoryModel" 1 Y_M_comesSheet := Or.inl ⟨mw_1032, mw_38, mw_1034, rfl, okM_M_comesSheet⟩
theorem sv_M_132_M : siteV "InTraysPurgatoryModel" 132 "InTraysPurgatoryModel" 3 Y_M_comesOfficial ∨ siteU "InTraysPurgatoryModel" 132 "InTraysPurgatoryModel" 3 Y_M_comesOfficial := Or.inl ⟨mw_1047, mw_41, mw_1049, rfl, okM_M_comesOfficial⟩
theorem sv_M_135_M : siteV "InTraysPurgatoryModel" 135 "InTraysPurgatoryModel" 1 Y_M_mislaysOne ∨ siteU "InTraysPurgatoryModel" 135 "InTraysPurgatoryModel" 1 Y_M_mislaysOne := Or.inl ⟨mw_1055, mw_43, mw_1057, rfl, okM_M_mislaysOne⟩
theorem sv_M_142_M : siteV "InTraysPurgatoryModel" 142 "InTraysPurgatoryModel" 1 Y_M_goes ∨ siteU "InTraysPurgatoryModel" 142 "InTraysPurgatoryModel" 1 Y_M_goes := Or.inl ⟨mw_1059, mw_44, mw_1061, rfl, okM_M_goes⟩
theorem sv_M_145_M : siteV "InTraysPurgatoryModel" 145 "InTraysPurgatoryModel" 0 Y_M_statement ∨ siteU "InTraysPurgatoryModel" 145 "InTraysPurgatoryModel" 0 Y_M_statement := Or.inl ⟨mw_997, mw_30, mw_999, rfl, okM_M_statement⟩
theorem sv_M_149_M : siteV "InTraysPurgatoryModel" 149 "InTraysPurgatoryModel" 2 Y_M_passesAll ∨ siteU "InTraysPurgatoryModel" 149 "InTraysPurgatoryModel" 2 Y_M_passesAll := Or.inl ⟨mw_1016, mw_34, mw_1018, rfl, okM_M_passesAll⟩
theorem sv_M_153_M : siteV "InTraysPurgatoryModel" 153 "InTraysPurgatoryModel" 1 Y_M_comes ∨ siteU "InTraysPurgatoryModel" 153 "InTraysPurgatoryModel" 1 Y_M_comes := Or.inl ⟨mw_1028, mw_37, mw_1030, rfl, okM_M_comes⟩
theorem sv_M_166_M : siteV "InTraysPurgatoryModel" 166 "InTraysPurgatoryModel" 1 Y_M_passesRow ∨ siteU "InTraysPurgatoryModel" 166 "InTraysPurgatoryModel" 1 Y_M_passesRow := Or.inl ⟨mw_1020, mw_35, mw_1022, rfl, okM_M_passesRow⟩
theorem sv_M_170_M : siteV "InTraysPurgatoryModel" 170 "InTraysPurgatoryModel" 1 Y_M_passOne ∨ siteU "InTraysPurgatoryModel" 170 "InTraysPurgatoryModel" 1 Y_M_passOne := Or.inl ⟨mw_1024, mw_36, mw_1026, rfl, okM_M_passOne⟩
theorem sv_M_179_M : siteV "InTraysPurgatoryModel" 179 "InTraysPurgatoryModel" 2 Y_M_goesTo ∨ siteU "InTraysPurgatoryModel" 179 "InTraysPurgatoryModel" 2 Y_M_goesTo := Or.inl ⟨mw_1043, mw_40, mw_1045, rfl, okM_M_goesTo⟩
theorem sv_M_183_M : siteV "InTraysPurgatoryModel" 183 "InTraysPurgatoryModel" 1 Y_M_weightOf ∨ siteU "InTraysPurgatoryModel" 183 "InTraysPurgatoryModel" 1 Y_M_weightOf := Or.inl ⟨mw_1098, mw_53, mw_1100, rfl, okM_M_weightOf⟩
theorem sv_M_186_M : siteV "InTraysPurgatoryModel" 186 "InTraysPurgatoryModel" 1 Y_M_ringsOf ∨ siteU "InTraysPurgatoryModel" 186 "InTraysPurgatoryModel" 1 Y_M_ringsOf := Or.inl ⟨mw_1102, mw_54, mw_1104, rfl, okM_M_ringsOf⟩
theorem sv_M_189_M : siteV "InTraysPurgatoryModel" 189 "InTraysPurgatoryModel" 1 Y_M_loadOf ∨ siteU "InTraysPurgatoryModel" 189 "InTraysPurgatoryModel" 1 Y_M_loadOf := Or.inl ⟨mw_1094, mw_52, mw_1096, rfl, okM_M_loadOf⟩
theorem ss_M_192 : siteS "InTraysPurgatoryModel" 192 2 Y_M_has := ⟨mw_1079, mw_1080, okM_M_has⟩
theorem sv_M_195_M : siteV "InTraysPurgatoryModel" 195 "InTraysPurgatoryModel" 1 Y_M_hasteOf ∨ siteU "InTraysPurgatoryModel" 195 "InTraysPurgatoryModel" 1 Y_M_hasteOf := Or.inl ⟨mw_1082, mw_49, mw_1084, rfl, okM_M_hasteOf⟩
theorem sv_M_198_M : siteV "InTraysPurgatoryModel" 198 "InTraysPurgatoryModel" 2 Y_M_isWilling ∨ siteU "InTraysPurgatoryModel" 198 "InTraysPurgatoryModel" 2 Y_M_isWilling := Or.inl ⟨mw_1090, mw_51, mw_1092, rfl, okM_M_isWilling⟩
theorem sv_M_201_M : siteV "InTraysPurgatoryModel" 201 "InTraysPurgatoryModel" 1 Y_M_partOf ∨ siteU "InTraysPurgatoryModel" 201 "InTraysPurgatoryModel" 1 Y_M_partOf := Or.inl ⟨mw_1106, mw_55, mw_1108, rfl, okM_M_partOf⟩
theorem ss_M_204 : siteS "InTraysPurgatoryModel" 204 3 Y_M_held := ⟨mw_1110, mw_1111, okM_M_held⟩
theorem sv_M_207_M : siteV "InTraysPurgatoryModel" 207 "InTraysPurgatoryModel" 1 Y_M_nextOf ∨ siteU "InTraysPurgatoryModel" 207 "InTraysPurgatoryModel" 1 Y_M_nextOf := Or.inl ⟨mw_1113, mw_56, mw_1115, rfl, okM_M_nextOf⟩
theorem sv_M_210_M : siteV "InTraysPurgatoryModel" 210 "InTraysPurgatoryModel" 1 Y_M_trayOf ∨ siteU "InTraysPurgatoryModel" 210 "InTraysPurgatoryModel" 1 Y_M_trayOf := Or.inl ⟨mw_1071, mw_47, mw_1073, rfl, okM_M_trayOf⟩
theorem sv_M_216_M : siteV "InTraysPurgatoryModel" 216 "InTraysPurgatoryModel" 1 Y_M_topOf ∨ siteU "InTraysPurgatoryModel" 216 "InTraysPurgatoryModel" 1 Y_M_topOf := Or.inl ⟨mw_1075, mw_48, mw_1077, rfl, okM_M_topOf⟩
theorem sv_M_219_M : siteV "InTraysPurgatoryModel" 219 "InTraysPurgatoryModel" 2 Y_M_takes ∨ siteU "InTraysPurgatoryModel" 219 "InTraysPurgatoryModel" 2 Y_M_takes := Or.inl ⟨mw_1086, mw_50, mw_1088, rfl, okM_M_takes⟩
theorem sv_M_222_M : siteV "InTraysPurgatoryModel" 222 "InTraysPurgatoryModel" 1 Y_M_works ∨ siteU "InTraysPurgatoryModel" 222 "InTraysPurgatoryModel" 1 Y_M_works := Or.inl ⟨mw_1067, mw_46, mw_1069, rfl, okM_M_works⟩
theorem sv_M_225_M : siteV "InTraysPurgatoryModel" 225 "InTraysPurgatoryModel" 1 Y_M_goesDay ∨ siteU "InTraysPurgatoryModel" 225 "InTraysPurgatoryModel" 1 Y_M_goesDay := Or.inl ⟨mw_1063, mw_45, mw_1065, rfl, okM_M_goesDay⟩
theorem sv_M_228_M : siteV "InTraysPurgatoryModel" 228 "InTraysPurgatoryModel" 2 Y_M_setIn ∨ siteU "InTraysPurgatoryModel" 228 "InTraysPurgatoryModel" 2 Y_M_setIn := Or.inl ⟨mw_1156, mw_58, mw_1158, rfl, okM_M_setIn⟩
theorem ss_M_232 : siteS "InTraysPurgatoryModel" 232 1 Y_M_bits := ⟨mw_1133, mw_1134, okM_M_bits⟩
theorem sv_M_235_M : siteV "InTraysPurgatoryModel" 235 "InTraysPurgatoryModel" 0 Y_M_keepsBack ∨ siteU "InTraysPurgatoryModel" 235 "InTraysPurgatoryModel" 0 Y_M_keepsBack := Or.inl ⟨mw_1148, mw_57, mw_1150, rfl, okM_M_keepsBack⟩
theorem sv_M_238_M : siteV "InTraysPurgatoryModel" 238 "InTraysPurgatoryModel" 1 Y_M_waits ∨ siteU "InTraysPurgatoryModel" 238 "InTraysPurgatoryModel" 1 Y_M_waits := Or.inl ⟨mw_1164, mw_59, mw_1166, rfl, okM_M_waits⟩
theorem sv_M_241_M : siteV "InTraysPurgatoryModel" 241 "InTraysPurgatoryModel" 0 Y_M_allSigned ∨ siteU "InTraysPurgatoryModel" 241 "InTraysPurgatoryModel" 0 Y_M_allSigned := Or.inl ⟨mw_1172, mw_60, mw_1174, rfl, okM_M_allSigned⟩
theorem ss_M_244 : siteS "InTraysPurgatoryModel" 244 1 Y_M_notDays := ⟨mw_1180, mw_1181, okM_M_notDays⟩
theorem sv_M_247_M : siteV "InTraysPurgatoryModel" 247 "InTraysPurgatoryModel" 0 Y_M_thinks ∨ siteU "InTraysPurgatoryModel" 247 "InTraysPurgatoryModel" 0 Y_M_thinks := Or.inl ⟨mw_1183, mw_61, mw_1185, rfl, okM_M_thinks⟩
theorem sv_M_250_M : siteV "InTraysPurgatoryModel" 250 "InTraysPurgatoryModel" 1 Y_M_placeOf ∨ siteU "InTraysPurgatoryModel" 250 "InTraysPurgatoryModel" 1 Y_M_placeOf := Or.inl ⟨mw_1187, mw_62, mw_1189, rfl, okM_M_placeOf⟩
theorem sv_M_253_M : siteV "InTraysPurgatoryModel" 253 "InTraysPurgatoryModel" 0 Y_M_forgets ∨ siteU "InTraysPurgatoryModel" 253 "InTraysPurgatoryModel" 0 Y_M_forgets := Or.inl ⟨mw_1191, mw_63, mw_1193, rfl, okM_M_forgets⟩
theorem sv_M_256_M : siteV "InTraysPurgatoryModel" 256 "InTraysPurgatoryModel" 1 Y_M_findSigned ∨ siteU "InTraysPurgatoryModel" 256 "InTraysPurgatoryModel" 1 Y_M_findSigned := Or.inl ⟨mw_1203, mw_64, mw_1205, rfl, okM_M_findSigned⟩
theorem sv_M_259_M : siteV "InTraysPurgatoryModel" 259 "InTraysPurgatoryModel" 0 Y_M_waiting ∨ siteU "InTraysPurgatoryModel" 259 "InTraysPurgatoryModel" 0 Y_M_waiting := Or.inl ⟨mw_1215, mw_66, mw_1217, rfl, okM_M_waiting⟩
theorem sv_M_262_M : siteV "InTraysPurgatoryModel" 262 "InTraysPurgatoryModel" 0 Y_M_emptyAt ∨ siteU "InTraysPurgatoryModel" 262 "InTraysPurgatoryModel" 0 Y_M_emptyAt := Or.inl ⟨mw_1211, mw_65, mw_1213, rfl, okM_M_emptyAt⟩
theorem sv_M_265_M : siteV "InTraysPurgatoryModel" 265 "InTraysPurgatoryModel" 2 Y_M_whenIn ∨ siteU "InTraysPurgatoryModel" 265 "InTraysPurgatoryModel" 2 Y_M_whenIn := Or.inl ⟨mw_1223, mw_67, mw_1225, rfl, okM_M_whenIn⟩
theorem sv_M_268_M : siteV "InTraysPurgatoryModel" 268 "InTraysPurgatoryModel" 1 Y_M_whenUp ∨ siteU "InTraysPurgatoryModel" 268 "InTraysPurgatoryModel" 1 Y_M_whenUp := Or.inl ⟨mw_1231, mw_68, mw_1233, rfl, okM_M_whenUp⟩
theorem sv_M_271_M : siteV "InTraysPurgatoryModel" 271 "InTraysPurgatoryModel" 1 Y_M_allIn ∨ siteU "InTraysPurgatoryModel" 271 "InTraysPurgatoryModel" 1 Y_M_allIn := Or.inl ⟨mw_1243, mw_70, mw_1245, rfl, okM_M_allIn⟩
theorem sv_M_274_M : siteV "InTraysPurgatoryModel" 274 "InTraysPurgatoryModel" 5 Y_M_leastFor ∨ siteU "InTraysPurgatoryModel" 274 "InTraysPurgatoryModel" 5 Y_M_leastFor := Or.inl ⟨mw_1239, mw_69, mw_1241, rfl, okM_M_leastFor⟩
theorem sv_M_278_M : siteV "InTraysPurgatoryModel" 278 "InTraysPurgatoryModel" 0 Y_M_startsPassings ∨ siteU "InTraysPurgatoryModel" 278 "InTraysPurgatoryModel" 0 Y_M_startsPassings := Or.inl ⟨mw_1259, mw_72, mw_1261, rfl, okM_M_startsPassings⟩
theorem sv_M_281_M : siteV "InTraysPurgatoryModel" 281 "InTraysPurgatoryModel" 1 Y_M_roundOf ∨ siteU "InTraysPurgatoryModel" 281 "InTraysPurgatoryModel" 1 Y_M_roundOf := Or.inl ⟨mw_1255, mw_71, mw_1257, rfl, okM_M_roundOf⟩
theorem sv_M_284_M : siteV "InTraysPurgatoryModel" 284 "InTraysPurgatoryModel" 0 Y_M_allBorne ∨ siteU "InTraysPurgatoryModel" 284 "InTraysPurgatoryModel" 0 Y_M_allBorne := Or.inl ⟨mw_1267, mw_73, mw_1269, rfl, okM_M_allBorne⟩
theorem sv_M_287_M : siteV "InTraysPurgatoryModel" 287 "InTraysPurgatoryModel" 1 Y_M_lower ∨ siteU "InTraysPurgatoryModel" 287 "InTraysPurgatoryModel" 1 Y_M_lower := Or.inl ⟨mw_1275, mw_74, mw_1277, rfl, okM_M_lower⟩
theorem sv_M_293_M : siteV "InTraysPurgatoryModel" 293 "InTraysPurgatoryModel" 1 Y_M_isTraySo ∨ siteU "InTraysPurgatoryModel" 293 "InTraysPurgatoryModel" 1 Y_M_isTraySo := Or.inl ⟨mw_1288, mw_76, mw_1290, rfl, okM_M_isTraySo⟩
theorem sv_M_296_M : siteV "InTraysPurgatoryModel" 296 "InTraysPurgatoryModel" 1 Y_M_pacesOf ∨ siteU "InTraysPurgatoryModel" 296 "InTraysPurgatoryModel" 1 Y_M_pacesOf := Or.inl ⟨mw_1284, mw_75, mw_1286, rfl, okM_M_pacesOf⟩
theorem sv_M_299_M : siteV "InTraysPurgatoryModel" 299 "InTraysPurgatoryModel" 1 Y_M_isSheetSo ∨ siteU "InTraysPurgatoryModel" 299 "InTraysPurgatoryModel" 1 Y_M_isSheetSo := Or.inl ⟨mw_1300, mw_78, mw_1302, rfl, okM_M_isSheetSo⟩
theorem sv_M_302_M : siteV "InTraysPurgatoryModel" 302 "InTraysPurgatoryModel" 3 Y_M_bitsFor ∨ siteU "InTraysPurgatoryModel" 302 "InTraysPurgatoryModel" 3 Y_M_bitsFor := Or.inl ⟨mw_1296, mw_77, mw_1298, rfl, okM_M_bitsFor⟩
theorem ss_M_306 : siteS "InTraysPurgatoryModel" 306 2 Y_M_far := ⟨mw_1312, mw_1313, okM_M_far⟩
theorem sv_M_309_M : siteV "InTraysPurgatoryModel" 309 "InTraysPurgatoryModel" 0 Y_M_findShortest ∨ siteU "InTraysPurgatoryModel" 309 "InTraysPurgatoryModel" 0 Y_M_findShortest := Or.inl ⟨mw_1308, mw_79, mw_1310, rfl, okM_M_findShortest⟩
theorem sv_M_312_M : siteV "InTraysPurgatoryModel" 312 "InTraysPurgatoryModel" 0 Y_M_fullTrays ∨ siteU "InTraysPurgatoryModel" 312 "InTraysPurgatoryModel" 0 Y_M_fullTrays := Or.inl ⟨mw_1315, mw_80, mw_1317, rfl, okM_M_fullTrays⟩
theorem sv_M_315_M : siteV "InTraysPurgatoryModel" 315 "InTraysPurgatoryModel" 2 Y_M_findBears ∨ siteU "InTraysPurgatoryModel" 315 "InTraysPurgatoryModel" 2 Y_M_findBears := Or.inl ⟨mw_1323, mw_81, mw_1325, rfl, okM_M_findBears⟩
theorem ss_M_318 : siteS "InTraysPurgatoryModel" 318 2 Y_M_divisor := ⟨mw_1339, mw_1340, okM_M_divisor⟩
theorem sv_M_322_M : siteV "InTraysPurgatoryModel" 322 "InTraysPurgatoryModel" 1 Y_M_lowest ∨ siteU "InTraysPurgatoryModel" 322 "InTraysPurgatoryModel" 1 Y_M_lowest := Or.inl ⟨mw_1331, mw_82, mw_1333, rfl, okM_M_lowest⟩
theorem ss_M_326 : siteS "InTraysPurgatoryModel" 326 3 Y_M_inLeast := ⟨mw_1336, mw_1337, okM_M_inLeast⟩
theorem sv_M_330_M : siteV "InTraysPurgatoryModel" 330 "InTraysPurgatoryModel" 1 Y_M_signedWithout ∨ siteU "InTraysPurgatoryModel" 330 "InTraysPurgatoryModel" 1 Y_M_signedWithout := Or.inl ⟨mw_1362, mw_83, mw_1364, rfl, okM_M_signedWithout⟩
theorem sv_M_333_M : siteV "InTraysPurgatoryModel" 333 "InTraysPurgatoryModel" 0 Y_M_signedIn30 ∨ siteU "InTraysPurgatoryModel" 333 "InTraysPurgatoryModel" 0 Y_M_signedIn30 := Or.inl ⟨mw_1370, mw_84, mw_1372, rfl, okM_M_signedIn30⟩
theorem sv_M_336_M : siteV "InTraysPurgatoryModel" 336 "InTraysPurgatoryModel" 0 Y_M_allPasses ∨ siteU "InTraysPurgatoryModel" 336 "InTraysPurgatoryModel" 0 Y_M_allPasses := Or.inl ⟨mw_1378, mw_85, mw_1380, rfl, okM_M_allPasses⟩
theorem sv_M_339_M : siteV "InTraysPurgatoryModel" 339 "InTraysPurgatoryModel" 2 Y_M_atPlace ∨ siteU "InTraysPurgatoryModel" 339 "InTraysPurgatoryModel" 2 Y_M_atPlace := Or.inl ⟨mw_1402, mw_86, mw_1404, rfl, okM_M_atPlace⟩
theorem sv_M_348_M : siteV "InTraysPurgatoryModel" 348 "InTraysPurgatoryModel" 1 Y_M_draw ∨ siteU "InTraysPurgatoryModel" 348 "InTraysPurgatoryModel" 1 Y_M_draw := Or.inl ⟨mw_1414, mw_87, mw_1416, rfl, okM_M_draw⟩
theorem sv_M_86_M : siteV "InTraysPurgatoryModel" 86 "InTraysPurgatoryModel" 1 Y_M_isSheet ∨ siteU "InTraysPurgatoryModel" 86 "InTraysPurgatoryModel" 1 Y_M_isSheet := Or.inl ⟨mw_1051, mw_42, mw_1053, rfl, okM_M_isSheet⟩
theorem ss_M_90 : siteS "InTraysPurgatoryModel" 90 3 Y_M_bound := ⟨mw_986, mw_987, okM_M_bound⟩
theorem sv_M_97_M : siteV "InTraysPurgatoryModel" 97 "InTraysPurgatoryModel" 1 Y_M_no ∨ siteU "InTraysPurgatoryModel" 97 "InTraysPurgatoryModel" 1 Y_M_no := Or.inl ⟨mw_989, mw_29, mw_991, rfl, okM_M_no⟩
-- contracts
abbrev t_C_clear (G : Gh) (μ : Mem) (Q : Int32 → Mem → Prop) : Prop := tI G 0 Y_C_clear [.ref (gA G 0)] μ Q
abbrev t_C_drawTray (G : Gh) (μ : Mem) (Q : Int32 → Mem → Prop) : Prop := tI G 0 Y_C_drawTray [.ref (gA G 0)] μ Q
abbrev t_C_firstSigned (G : Gh) (μ : Mem) (Q : Int32 → Mem → Prop) : Prop := tI G 0 Y_C_firstSigned [.ref (gA G 0)] μ Q
abbrev t_C_greatestCommon (G : Gh) (x0 : Int64) (x2 : Int64) (μ : Mem) (Q : Int64 → Mem → Prop) : Prop := tL G 0 Y_C_greatestCommon [.long x0, .long x2] μ Q
abbrev t_C_isOfficial (G : Gh) (x0 : Int32) (μ : Mem) (Q : Int32 → Mem → Prop) : Prop := tI G 0 Y_C_isOfficial [.int x0] μ Q
abbrev t_C_isRoomForDays (G : Gh) (x0 : Int32) (x1 : Int32) (μ : Mem) (Q : Int32 → Mem → Prop) : Prop := tI G 0 Y_C_isRoomForDays [.int x0, .int x1] μ Q
abbrev t_C_isSooner (G : Gh) (x0 : Int32) (x1 : Int32) (μ : Mem) (Q : Int32 → Mem → Prop) : Prop := tI G 0 Y_C_isSooner [.int x0, .int x1] μ Q
abbrev t_C_leastOf (G : Gh) (x0 : Int32) (μ : Mem) (Q : Int32 → Mem → Prop) : Prop := tI G 0 Y_C_leastOf [.int x0] μ Q
abbrev t_C_letterAt (G : Gh) (x1 : Int32) (μ : Mem) (Q : Int32 → Mem → Prop) : Prop := tI G 0 Y_C_letterAt [.ref (gA G 0), .int x1] μ Q
abbrev t_C_mostOf (G : Gh) (x0 : Int32) (μ : Mem) (Q : Int32 → Mem → Prop) : Prop := tI G 0 Y_C_mostOf [.int x0] μ Q
abbrev t_C_power (G : Gh) (x0 : Int64) (x2 : Int32) (μ : Mem) (Q : Int64 → Mem → Prop) : Prop := tL G 0 Y_C_power [.long x0, .int x2] μ Q
abbrev t_C_refuse (G : Gh) (x1 : Int32) (μ : Mem) (Q : Int32 → Mem → Prop) : Prop := tI G 0 Y_C_refuse [.ref (gA G 0), .int x1] μ Q
abbrev t_C_statementLength (G : Gh) (x0 : Int32) (μ : Mem) (Q : Int32 → Mem → Prop) : Prop := tI G 0 Y_C_statementLength [.int x0] μ Q
abbrev t_C_stopOf (G : Gh) (x0 : Int32) (x1 : Int32) (x2 : Int32) (μ : Mem) (Q : Int32 → Mem → Prop) : Prop := tI G 0 Y_C_stopOf [.int x0, .int x1, .int x2] μ Q
abbrev t_D_isThere (G : Gh) (x1 : Int32) (μ : Mem) (Q : Int32 → Mem → Prop) : Prop := tI G 0 Y_D_isThere [.ref (gA G 12), .int x1] μ Q
abbrev t_D_nextOf (G : Gh) (x1 : Int32) (μ : Mem) (Q : Int32 → Mem → Prop) : Prop := tI G 0 Y_D_nextOf [.ref (gA G 12), .int x1] μ Q
abbrev t_D_noteBusy (G : Gh) (x1 : Int32) (μ : Mem) (Q : Mem → Prop) : Prop := tV G 0 Y_D_noteBusy [.ref (gA G 12), .int x1] μ Q
abbrev t_D_noteDay (G : Gh) (μ : Mem) (Q : Mem → Prop) : Prop := tV G 0 Y_D_noteDay [.ref (gA G 12)] μ Q
abbrev t_D_notePassed (G : Gh) (x1 : Int32) (μ : Mem) (Q : Mem → Prop) : Prop := tV G 0 Y_D_notePassed [.ref (gA G 12), .int x1] μ Q
abbrev t_D_noteSigned (G : Gh) (x1 : Int32) (μ : Mem) (Q : Mem → Prop) : Prop := tV G 0 Y_D_noteSigned [.ref (gA G 12), .int x1] μ Q
abbrev t_D_putAhead (G : Gh) (x1 : Int32) (μ : Mem) (Q : Mem → Prop) : Prop := tV G 0 Y_D_putAhead [.ref (gA G 12), .int x1] μ Q
abbrev t_F_allBorne (G : Gh) (f : Nat) (μ : Mem) (Q : Int32 → Mem → Prop) : Prop := tI G 0 Y_F_allBorne [.ref (gA G f)] μ Q
abbrev t_F_allMinutes (G : Gh) (f : Nat) (μ : Mem) (Q : Int32 → Mem → Prop) : Prop := tI G 0 Y_F_allMinutes [.ref (gA G f)] μ Q
abbrev t_F_has (G : Gh) (f : Nat) (x1 : Int32) (μ : Mem) (Q : Int32 → Mem → Prop) : Prop := tI G 0 Y_F_has [.ref (gA G f), .int x1] μ Q
abbrev t_F_isThere (G : Gh) (f : Nat) (x1 : Int32) (μ : Mem) (Q : Int32 → Mem → Prop) : Prop := tI G 0 Y_F_isThere [.ref (gA G f), .int x1] μ Q
abbrev t_F_liesIn (G : Gh) (f : Nat) (x1 : Int32) (x2 : Int32) (μ : Mem) (Q : Int32 → Mem → Prop) : Prop := tI G 0 Y_F_liesIn [.ref (gA G f), .int x1, .int x2] μ Q
abbrev t_F_nextOf (G : Gh) (f : Nat) (x1 : Int32) (μ : Mem) (Q : Int32 → Mem → Prop) : Prop := tI G 0 Y_F_nextOf [.ref (gA G f), .int x1] μ Q
abbrev t_F_noteBusy (G : Gh) (f : Nat) (x1 : Int32) (μ : Mem) (Q : Mem → Prop) : Prop := tV G 0 Y_F_noteBusy [.ref (gA G f), .int x1] μ Q
abbrev t_F_noteDay (G : Gh) (f : Nat) (μ : Mem) (Q : Mem → Prop) : Prop := tV G 0 Y_F_noteDay [.ref (gA G f)] μ Q
abbrev t_F_notePassed (G : Gh) (f : Nat) (x1 : Int32) (μ : Mem) (Q : Mem → Prop) : Prop := tV G 0 Y_F_notePassed [.ref (gA G f), .int x1] μ Q
abbrev t_F_noteSigned (G : Gh) (f : Nat) (x1 : Int32) (μ : Mem) (Q : Mem → Prop) : Prop := tV G 0 Y_F_noteSigned [.ref (gA G f), .int x1] μ Q
abbrev t_F_putBehind (G : Gh) (f : Nat) (x1 : Int32) (x2 : Int32) (μ : Mem) (Q : Mem → Prop) : Prop := tV G 0 Y_F_putBehind [.ref (gA G f), .int x1, .int x2] μ Q
abbrev t_F_those (G : Gh) (f : Nat) (x1 : Int32) (μ : Mem) (Q : Int32 → Mem → Prop) : Prop := tI G 0 Y_F_those [.ref (gA G f), .int x1] μ Q
abbrev t_J_bitCount (G : Gh) (x0 : Int32) (μ : Mem) (Q : Int32 → Mem → Prop) : Prop := tI G 0 Y_J_bitCount [.int x0] μ Q
abbrev t_K_haste (G : Gh) (x0 : Int32) (μ : Mem) (Q : Int32 → Mem → Prop) : Prop := tI G 0 Y_K_haste [.int x0] μ Q
abbrev t_K_rings (G : Gh) (x0 : Int32) (x1 : Int32) (μ : Mem) (Q : Int32 → Mem → Prop) : Prop := tI G 0 Y_K_rings [.int x0, .int x1] μ Q
abbrev t_K_weight (G : Gh) (x0 : Int32) (x1 : Int32) (μ : Mem) (Q : Int32 → Mem → Prop) : Prop := tI G 0 Y_K_weight [.int x0, .int x1] μ Q
abbrev t_M_allBorne (G : Gh) (μ : Mem) (Q : Int32 → Mem → Prop) : Prop := tI G 0 Y_M_allBorne [.ref (gA G 134)] μ Q
abbrev t_M_allPasses (G : Gh) (μ : Mem) (Q : Int32 → Mem → Prop) : Prop := tI G 0 Y_M_allPasses [.ref (gA G 134)] μ Q
abbrev t_M_bits (G : Gh) (x0 : Int32) (μ : Mem) (Q : Int32 → Mem → Prop) : Prop := tI G 0 Y_M_bits [.int x0] μ Q
abbrev t_M_bound (G : Gh) (x0 : Int32) (x1 : Int32) (x2 : Int32) (μ : Mem) (Q : Int32 → Mem → Prop) : Prop := tI G 0 Y_M_bound [.int x0, .int x1, .int x2] μ Q
abbrev t_M_clear (G : Gh) (μ : Mem) (Q : Int32 → Mem → Prop) : Prop := tI G 0 Y_M_clear [.ref (gA G 134)] μ Q
abbrev t_M_divisor (G : Gh) (x0 : Int64) (x2 : Int64) (μ : Mem) (Q : Int64 → Mem → Prop) : Prop := tL G 0 Y_M_divisor [.long x0, .long x2] μ Q
abbrev t_M_draw (G : Gh) (x1 : Int32) (μ : Mem) (Q : Int32 → Mem → Prop) : Prop := tI G 0 Y_M_draw [.ref (gA G 134), .int x1] μ Q
abbrev t_M_far (G : Gh) (x0 : Int32) (x1 : Int32) (μ : Mem) (Q : Int32 → Mem → Prop) : Prop := tI G 0 Y_M_far [.int x0, .int x1] μ Q
abbrev t_M_goesTo (G : Gh) (x1 : Int32) (x2 : Int32) (μ : Mem) (Q : Mem → Prop) : Prop := tV G 0 Y_M_goesTo [.ref (gA G 134), .int x1, .int x2] μ Q
abbrev t_M_has (G : Gh) (x0 : Int32) (x1 : Int32) (μ : Mem) (Q : Int32 → Mem → Prop) : Prop := tI G 0 Y_M_has [.int x0, .int x1] μ Q
abbrev t_M_hasteOf (G : Gh) (x1 : Int32) (μ : Mem) (Q : Int32 → Mem → Prop) : Prop := tI G 0 Y_M_hasteOf [.ref (gA G 134), .int x1] μ Q
abbrev t_M_held (G : Gh) (x0 : Int32) (x1 : Int32) (x2 : Int32) (μ : Mem) (Q : Int32 → Mem → Prop) : Prop := tI G 0 Y_M_held [.int x0, .int x1, .int x2] μ Q
abbrev t_M_isIn (G : Gh) (x0 : Int32) (x1 : Int32) (x2 : Int32) (μ : Mem) (Q : Int32 → Mem → Prop) : Prop := tI G 0 Y_M_isIn [.int x0, .int x1, .int x2] μ Q
abbrev t_M_isOfficial (G : Gh) (x0 : Int32) (μ : Mem) (Q : Int32 → Mem → Prop) : Prop := tI G 0 Y_M_isOfficial [.int x0] μ Q
abbrev t_M_isSheet (G : Gh) (x1 : Int32) (μ : Mem) (Q : Int32 → Mem → Prop) : Prop := tI G 0 Y_M_isSheet [.ref (gA G 134), .int x1] μ Q
abbrev t_M_lower (G : Gh) (x1 : Int32) (μ : Mem) (Q : Int32 → Mem → Prop) : Prop := tI G 0 Y_M_lower [.ref (gA G 134), .int x1] μ Q
abbrev t_M_lowest (G : Gh) (x1 : Int32) (μ : Mem) (Q : Int64 → Mem → Prop) : Prop := tL G 0 Y_M_lowest [.ref (gA G 134), .int x1] μ Q
abbrev t_M_next (G : Gh) (μ : Mem) (Q : Int32 → Mem → Prop) : Prop := tI G 0 Y_M_next [.ref (gA G 134)] μ Q
abbrev t_M_nextOf (G : Gh) (x1 : Int32) (μ : Mem) (Q : Int32 → Mem → Prop) : Prop := tI G 0 Y_M_nextOf [.ref (gA G 134), .int x1] μ Q
abbrev t_M_no (G : Gh) (x1 : Int32) (μ : Mem) (Q : Int32 → Mem → Prop) : Prop := tI G 0 Y_M_no [.ref (gA G 134), .int x1] μ Q
abbrev t_M_passOne (G : Gh) (x1 : Int32) (μ : Mem) (Q : Int32 → Mem → Prop) : Prop := tI G 0 Y_M_passOne [.ref (gA G 134), .int x1] μ Q
abbrev t_M_passesRow (G : Gh) (c1 : Nat) (k1 : Nat) (μ : Mem) (Q : Mem → Prop) : Prop := tV G 0 Y_M_passesRow [.ref (gA G 134), .ref (gA G c1)] μ Q
abbrev t_M_ringsOf (G : Gh) (x1 : Int32) (μ : Mem) (Q : Int32 → Mem → Prop) : Prop := tI G 0 Y_M_ringsOf [.ref (gA G 134), .int x1] μ Q
abbrev t_M_startsPassings (G : Gh) (μ : Mem) (Q : Mem → Prop) : Prop := tV G 0 Y_M_startsPassings [.ref (gA G 134)] μ Q
abbrev t_M_trayOf (G : Gh) (x1 : Int32) (μ : Mem) (Q : Int32 → Mem → Prop) : Prop := tI G 0 Y_M_trayOf [.ref (gA G 134), .int x1] μ Q
abbrev t_M_weightOf (G : Gh) (x1 : Int32) (μ : Mem) (Q : Int32 → Mem → Prop) : Prop := tI G 0 Y_M_weightOf [.ref (gA G 134), .int x1] μ Q
abbrev t_P_forget (G : Gh) (μ : Mem) (Q : Mem → Prop) : Prop := tV G 0 Y_P_forget [.ref (gA G 38)] μ Q
abbrev t_C_count (G : Gh) (x1 : Int32) (μ : Mem) (Q : Int32 → Mem → Prop) : Prop := tI G 1 Y_C_count [.ref (gA G 0), .int x1] μ Q
abbrev t_C_dealTrays (G : Gh) (μ : Mem) (Q : Mem → Prop) : Prop := tV G 1 Y_C_dealTrays [.ref (gA G 0)] μ Q
abbrev t_C_digitAt (G : Gh) (x1 : Int32) (μ : Mem) (Q : Int32 → Mem → Prop) : Prop := tI G 1 Y_C_digitAt [.ref (gA G 0), .int x1] μ Q
abbrev t_C_fair (G : Gh) (x1 : Int32) (μ : Mem) (Q : Int32 → Mem → Prop) : Prop := tI G 1 Y_C_fair [.ref (gA G 0), .int x1] μ Q
abbrev t_C_feed (G : Gh) (x1 : Int32) (μ : Mem) (Q : Int32 → Mem → Prop) : Prop := tI G 1 Y_C_feed [.ref (gA G 0), .int x1] μ Q
abbrev t_C_firstWrongLetter (G : Gh) (μ : Mem) (Q : Int32 → Mem → Prop) : Prop := tI G 1 Y_C_firstWrongLetter [.ref (gA G 0)] μ Q
abbrev t_C_inLowestTerms (G : Gh) (x0 : Int64) (x2 : Int64) (x4 : Int32) (μ : Mem) (Q : Int64 → Mem → Prop) : Prop := tL G 1 Y_C_inLowestTerms [.long x0, .long x2, .int x4] μ Q
abbrev t_C_lastSignedOn (G : Gh) (μ : Mem) (Q : Int32 → Mem → Prop) : Prop := tI G 1 Y_C_lastSignedOn [.ref (gA G 0)] μ Q
abbrev t_C_longest (G : Gh) (x1 : Int32) (μ : Mem) (Q : Int32 → Mem → Prop) : Prop := tI G 1 Y_C_longest [.ref (gA G 0), .int x1] μ Q
abbrev t_C_noteAsItIs (G : Gh) (μ : Mem) (Q : Mem → Prop) : Prop := tV G 1 Y_C_noteAsItIs [.ref (gA G 0)] μ Q
abbrev t_C_officialBecomes (G : Gh) (x1 : Int32) (x2 : Int32) (x3 : Int32) (μ : Mem) (Q : Int32 → Mem → Prop) : Prop := tI G 1 Y_C_officialBecomes [.ref (gA G 0), .int x1, .int x2, .int x3] μ Q
abbrev t_C_officialMoves (G : Gh) (x1 : Int32) (x2 : Int32) (μ : Mem) (Q : Int32 → Mem → Prop) : Prop := tI G 1 Y_C_officialMoves [.ref (gA G 0), .int x1, .int x2] μ Q
abbrev t_C_row (G : Gh) (x1 : Int32) (μ : Mem) (Q : Int32 → Mem → Prop) : Prop := tI G 1 Y_C_row [.ref (gA G 0), .int x1] μ Q
abbrev t_C_sheetOf (G : Gh) (x1 : Int32) (x2 : Int32) (μ : Mem) (Q : Int32 → Mem → Prop) : Prop := tI G 1 Y_C_sheetOf [.ref (gA G 0), .int x1, .int x2] μ Q
abbrev t_D_aheadIn (G : Gh) (x1 : Int32) (x2 : Int32) (μ : Mem) (Q : Int32 → Mem → Prop) : Prop := tI G 1 Y_D_aheadIn [.ref (gA G 12), .int x1, .int x2] μ Q
abbrev t_F_add (G : Gh) (f : Nat) (x1 : Int32) (x2 : Int32) (x3 : Int32) (μ : Mem) (Q : Int32 → Mem → Prop) : Prop := tI G 1 Y_F_add [.ref (gA G f), .int x1, .int x2, .int x3] μ Q
abbrev t_F_howMany (G : Gh) (f : Nat) (x1 : Int32) (μ : Mem) (Q : Int32 → Mem → Prop) : Prop := tI G 1 Y_F_howMany [.ref (gA G f), .int x1] μ Q
abbrev t_F_isTakenAhead (G : Gh) (f : Nat) (x1 : Int32) (x2 : Int32) (μ : Mem) (Q : Int32 → Mem → Prop) : Prop := tI G 1 Y_F_isTakenAhead [.ref (gA G f), .int x1, .int x2] μ Q
abbrev t_F_loadOf (G : Gh) (f : Nat) (x1 : Int32) (μ : Mem) (Q : Int32 → Mem → Prop) : Prop := tI G 1 Y_F_loadOf [.ref (gA G f), .int x1] μ Q
abbrev t_F_loseOrFind (G : Gh) (f : Nat) (x1 : Int32) (μ : Mem) (Q : Mem → Prop) : Prop := tV G 1 Y_F_loseOrFind [.ref (gA G f), .int x1] μ Q
abbrev t_F_passOn (G : Gh) (f : Nat) (x1 : Int32) (x2 : Int32) (μ : Mem) (Q : Mem → Prop) : Prop := tV G 1 Y_F_passOn [.ref (gA G f), .int x1, .int x2] μ Q
abbrev t_F_placeOf (G : Gh) (f : Nat) (x1 : Int32) (μ : Mem) (Q : Int32 → Mem → Prop) : Prop := tI G 1 Y_F_placeOf [.ref (gA G f), .int x1] μ Q
abbrev t_F_takeOver (G : Gh) (f : Nat) (g1 : Nat) (μ : Mem) (Q : Mem → Prop) : Prop := tV G 1 Y_F_takeOver [.ref (gA G f), .ref (gA G g1)] μ Q
abbrev t_F_waitingIn (G : Gh) (f : Nat) (x1 : Int32) (μ : Mem) (Q : Int32 → Mem → Prop) : Prop := tI G 1 Y_F_waitingIn [.ref (gA G f), .int x1] μ Q
abbrev t_K_part (G : Gh) (x0 : Int32) (x1 : Int32) (μ : Mem) (Q : Int32 → Mem → Prop) : Prop := tI G 1 Y_K_part [.int x0, .int x1] μ Q
abbrev t_M_adds (G : Gh) (x1 : Int32) (x2 : Int32) (x3 : Int32) (μ : Mem) (Q : Mem → Prop) : Prop := tV G 1 Y_M_adds [.ref (gA G 134), .int x1, .int x2, .int x3] μ Q
abbrev t_M_comesOfficial (G : Gh) (x1 : Int32) (x2 : Int32) (x3 : Int32) (μ : Mem) (Q : Int32 → Mem → Prop) : Prop := tI G 1 Y_M_comesOfficial [.ref (gA G 134), .int x1, .int x2, .int x3] μ Q
abbrev t_M_fair (G : Gh) (x1 : Int32) (μ : Mem) (Q : Int32 → Mem → Prop) : Prop := tI G 1 Y_M_fair [.ref (gA G 134), .int x1] μ Q
abbrev t_M_feed (G : Gh) (x1 : Int32) (μ : Mem) (Q : Int32 → Mem → Prop) : Prop := tI G 1 Y_M_feed [.ref (gA G 134), .int x1] μ Q
abbrev t_M_findShortest (G : Gh) (μ : Mem) (Q : Mem → Prop) : Prop := tV G 1 Y_M_findShortest [.ref (gA G 134)] μ Q
abbrev t_M_fullTrays (G : Gh) (μ : Mem) (Q : Int32 → Mem → Prop) : Prop := tI G 1 Y_M_fullTrays [.ref (gA G 134)] μ Q
abbrev t_M_fullest (G : Gh) (x1 : Int32) (μ : Mem) (Q : Int32 → Mem → Prop) : Prop := tI G 1 Y_M_fullest [.ref (gA G 134), .int x1] μ Q
abbrev t_M_inLeast (G : Gh) (x0 : Int64) (x2 : Int64) (x4 : Int32) (μ : Mem) (Q : Int64 → Mem → Prop) : Prop := tL G 1 Y_M_inLeast [.long x0, .long x2, .int x4] μ Q
abbrev t_M_loadOf (G : Gh) (x1 : Int32) (μ : Mem) (Q : Int32 → Mem → Prop) : Prop := tI G 1 Y_M_loadOf [.ref (gA G 134), .int x1] μ Q
abbrev t_M_mislaysOne (G : Gh) (x1 : Int32) (μ : Mem) (Q : Mem → Prop) : Prop := tV G 1 Y_M_mislaysOne [.ref (gA G 134), .int x1] μ Q
abbrev t_M_notDays (G : Gh) (x0 : Int32) (μ : Mem) (Q : Int32 → Mem → Prop) : Prop := tI G 1 Y_M_notDays [.int x0] μ Q
abbrev t_M_officialOf (G : Gh) (x1 : Int32) (x2 : Int32) (μ : Mem) (Q : Int32 → Mem → Prop) : Prop := tI G 1 Y_M_officialOf [.ref (gA G 134), .int x1, .int x2] μ Q
abbrev t_M_partOf (G : Gh) (x1 : Int32) (μ : Mem) (Q : Int32 → Mem → Prop) : Prop := tI G 1 Y_M_partOf [.ref (gA G 134), .int x1] μ Q
abbrev t_M_passesAll (G : Gh) (x1 : Int32) (x2 : Int32) (μ : Mem) (Q : Mem → Prop) : Prop := tV G 1 Y_M_passesAll [.ref (gA G 134), .int x1, .int x2] μ Q
abbrev t_M_readsDigits (G : Gh) (x1 : Int32) (x2 : Int32) (μ : Mem) (Q : Int32 → Mem → Prop) : Prop := tI G 1 Y_M_readsDigits [.ref (gA G 134), .int x1, .int x2] μ Q
abbrev t_M_row (G : Gh) (x1 : Int32) (μ : Mem) (Q : Int32 → Mem → Prop) : Prop := tI G 1 Y_M_row [.ref (gA G 134), .int x1] μ Q
abbrev t_M_setIn (G : Gh) (x1 : Int32) (x2 : Int32) (μ : Mem) (Q : Int32 → Mem → Prop) : Prop := tI G 1 Y_M_setIn [.ref (gA G 134), .int x1, .int x2] μ Q
abbrev t_M_sheetOf (G : Gh) (x1 : Int32) (x2 : Int32) (μ : Mem) (Q : Int32 → Mem → Prop) : Prop := tI G 1 Y_M_sheetOf [.ref (gA G 134), .int x1, .int x2] μ Q
abbrev t_M_topOf (G : Gh) (x1 : Int32) (μ : Mem) (Q : Int32 → Mem → Prop) : Prop := tI G 1 Y_M_topOf [.ref (gA G 134), .int x1] μ Q
abbrev t_M_waits (G : Gh) (x1 : Int32) (μ : Mem) (Q : Int32 → Mem → Prop) : Prop := tI G 1 Y_M_waits [.ref (gA G 134), .int x1] μ Q
abbrev t_C_average (G : Gh) (x1 : Int32) (μ : Mem) (Q : Int64 → Mem → Prop) : Prop := tL G 2 Y_C_average [.ref (gA G 0), .int x1] μ Q
abbrev t_C_firstNotSo (G : Gh) (x1 : Int32) (μ : Mem) (Q : Int32 → Mem → Prop) : Prop := tI G 2 Y_C_firstNotSo [.ref (gA G 0), .int x1] μ Q
abbrev t_C_fullest (G : Gh) (x1 : Int32) (μ : Mem) (Q : Int32 → Mem → Prop) : Prop := tI G 2 Y_C_fullest [.ref (gA G 0), .int x1] μ Q
abbrev t_C_heaviest (G : Gh) (x1 : Int32) (μ : Mem) (Q : Int32 → Mem → Prop) : Prop := tI G 2 Y_C_heaviest [.ref (gA G 0), .int x1] μ Q
abbrev t_C_image (G : Gh) (μ : Mem) (Q : Int32 → Mem → Prop) : Prop := tI G 2 Y_C_image [.ref (gA G 0)] μ Q
abbrev t_C_officialOf (G : Gh) (x1 : Int32) (x2 : Int32) (μ : Mem) (Q : Int32 → Mem → Prop) : Prop := tI G 2 Y_C_officialOf [.ref (gA G 0), .int x1, .int x2] μ Q
abbrev t_C_queue (G : Gh) (x1 : Int32) (x2 : Int32) (μ : Mem) (Q : Int32 → Mem → Prop) : Prop := tI G 2 Y_C_queue [.ref (gA G 0), .int x1, .int x2] μ Q
abbrev t_C_restore (G : Gh) (μ : Mem) (Q : Int32 → Mem → Prop) : Prop := tI G 2 Y_C_restore [.ref (gA G 0)] μ Q
abbrev t_C_sheet (G : Gh) (x1 : Int32) (x2 : Int32) (x3 : Int32) (μ : Mem) (Q : Int32 → Mem → Prop) : Prop := tI G 2 Y_C_sheet [.ref (gA G 0), .int x1, .int x2, .int x3] μ Q
abbrev t_C_sheetComes (G : Gh) (x1 : Int32) (x2 : Int32) (x3 : Int32) (μ : Mem) (Q : Int32 → Mem → Prop) : Prop := tI G 2 Y_C_sheetComes [.ref (gA G 0), .int x1, .int x2, .int x3] μ Q
abbrev t_C_sheetIsMislaid (G : Gh) (x1 : Int32) (μ : Mem) (Q : Int32 → Mem → Prop) : Prop := tI G 2 Y_C_sheetIsMislaid [.ref (gA G 0), .int x1] μ Q
abbrev t_C_wayOf (G : Gh) (x1 : Int32) (x2 : Int32) (μ : Mem) (Q : Int32 → Mem → Prop) : Prop := tI G 2 Y_C_wayOf [.ref (gA G 0), .int x1, .int x2] μ Q
abbrev t_D_begin (G : Gh) (g1 : Nat) (μ : Mem) (Q : Mem → Prop) : Prop := tV G 2 Y_D_begin [.ref (gA G 12), .ref (gA G g1)] μ Q
abbrev t_D_dismiss (G : Gh) (x1 : Int32) (μ : Mem) (Q : Mem → Prop) : Prop := tV G 2 Y_D_dismiss [.ref (gA G 12), .int x1] μ Q
abbrev t_F_isWilling (G : Gh) (f : Nat) (x1 : Int32) (x2 : Int32) (μ : Mem) (Q : Int32 → Mem → Prop) : Prop := tI G 2 Y_F_isWilling [.ref (gA G f), .int x1, .int x2] μ Q
abbrev t_F_nextTaken (G : Gh) (f : Nat) (x1 : Int32) (x2 : Int32) (μ : Mem) (Q : Int32 → Mem → Prop) : Prop := tI G 2 Y_F_nextTaken [.ref (gA G f), .int x1, .int x2] μ Q
abbrev t_F_sign (G : Gh) (f : Nat) (x1 : Int32) (x2 : Int32) (μ : Mem) (Q : Mem → Prop) : Prop := tV G 2 Y_F_sign [.ref (gA G f), .int x1, .int x2] μ Q
abbrev t_M_allSigned (G : Gh) (μ : Mem) (Q : Int32 → Mem → Prop) : Prop := tI G 2 Y_M_allSigned [.ref (gA G 134)] μ Q
abbrev t_M_average (G : Gh) (x1 : Int32) (μ : Mem) (Q : Int64 → Mem → Prop) : Prop := tL G 2 Y_M_average [.ref (gA G 134), .int x1] μ Q
abbrev t_M_back (G : Gh) (μ : Mem) (Q : Int32 → Mem → Prop) : Prop := tI G 2 Y_M_back [.ref (gA G 134)] μ Q
abbrev t_M_comesSheet (G : Gh) (x1 : Int32) (μ : Mem) (Q : Int32 → Mem → Prop) : Prop := tI G 2 Y_M_comesSheet [.ref (gA G 134), .int x1] μ Q
abbrev t_M_forgets (G : Gh) (μ : Mem) (Q : Mem → Prop) : Prop := tV G 2 Y_M_forgets [.ref (gA G 134)] μ Q
abbrev t_M_heaviest (G : Gh) (x1 : Int32) (μ : Mem) (Q : Int32 → Mem → Prop) : Prop := tI G 2 Y_M_heaviest [.ref (gA G 134), .int x1] μ Q
abbrev t_M_image (G : Gh) (μ : Mem) (Q : Int32 → Mem → Prop) : Prop := tI G 2 Y_M_image [.ref (gA G 134)] μ Q
abbrev t_M_isWilling (G : Gh) (x1 : Int32) (x2 : Int32) (μ : Mem) (Q : Int32 → Mem → Prop) : Prop := tI G 2 Y_M_isWilling [.ref (gA G 134), .int x1, .int x2] μ Q
abbrev t_M_keepsBack (G : Gh) (μ : Mem) (Q : Mem → Prop) : Prop := tV G 2 Y_M_keepsBack [.ref (gA G 134)] μ Q
abbrev t_M_longest (G : Gh) (x1 : Int32) (μ : Mem) (Q : Int32 → Mem → Prop) : Prop := tI G 2 Y_M_longest [.ref (gA G 134), .int x1] μ Q
abbrev t_M_placeOf (G : Gh) (x1 : Int32) (μ : Mem) (Q : Int32 → Mem → Prop) : Prop := tI G 2 Y_M_placeOf [.ref (gA G 134), .int x1] μ Q
abbrev t_M_queue (G : Gh) (x1 : Int32) (x2 : Int32) (μ : Mem) (Q : Int32 → Mem → Prop) : Prop := tI G 2 Y_M_queue [.ref (gA G 134), .int x1, .int x2] μ Q
abbrev t_M_readsAll (G : Gh) (x1 : Int32) (x2 : Int32) (μ : Mem) (Q : Int32 → Mem → Prop) : Prop := tI G 2 Y_M_readsAll [.ref (gA G 134), .int x1, .int x2] μ Q
abbrev t_M_restore (G : Gh) (μ : Mem) (Q : Int32 → Mem → Prop) : Prop := tI G 2 Y_M_restore [.ref (gA G 134)] μ Q
abbrev t_M_sheet (G : Gh) (x1 : Int32) (x2 : Int32) (x3 : Int32) (μ : Mem) (Q : Int32 → Mem → Prop) : Prop := tI G 2 Y_M_sheet [.ref (gA G 134), .int x1, .int x2, .int x3] μ Q
abbrev t_M_thinks (G : Gh) (μ : Mem) (Q : Mem → Prop) : Prop := tV G 2 Y_M_thinks [.ref (gA G 134)] μ Q
abbrev t_M_top (G : Gh) (x1 : Int32) (μ : Mem) (Q : Int32 → Mem → Prop) : Prop := tI G 2 Y_M_top [.ref (gA G 134), .int x1] μ Q
abbrev t_M_trolley (G : Gh) (x1 : Int32) (μ : Mem) (Q : Int32 → Mem → Prop) : Prop := tI G 2 Y_M_trolley [.ref (gA G 134), .int x1] μ Q
abbrev t_M_waiting (G : Gh) (μ : Mem) (Q : Int32 → Mem → Prop) : Prop := tI G 2 Y_M_waiting [.ref (gA G 134)] μ Q
abbrev t_P_giveBack (G : Gh) (g1 : Nat) (μ : Mem) (Q : Mem → Prop) : Prop := tV G 2 Y_P_giveBack [.ref (gA G 38), .ref (gA G g1)] μ Q
abbrev t_P_keep (G : Gh) (g1 : Nat) (μ : Mem) (Q : Mem → Prop) : Prop := tV G 2 Y_P_keep [.ref (gA G 38), .ref (gA G g1)] μ Q
abbrev t_C_back (G : Gh) (μ : Mem) (Q : Int32 → Mem → Prop) : Prop := tI G 3 Y_C_back [.ref (gA G 0)] μ Q
abbrev t_C_judge (G : Gh) (x1 : Int32) (μ : Mem) (Q : Int32 → Mem → Prop) : Prop := tI G 3 Y_C_judge [.ref (gA G 0), .int x1] μ Q
abbrev t_C_mislays (G : Gh) (x1 : Int32) (μ : Mem) (Q : Int32 → Mem → Prop) : Prop := tI G 3 Y_C_mislays [.ref (gA G 0), .int x1] μ Q
abbrev t_C_moves (G : Gh) (x1 : Int32) (x2 : Int32) (μ : Mem) (Q : Int32 → Mem → Prop) : Prop := tI G 3 Y_C_moves [.ref (gA G 0), .int x1, .int x2] μ Q
abbrev t_C_setsOne (G : Gh) (c1 : Nat) (k1 : Nat) (x2 : Int32) (x3 : Int32) (x4 : Int32) (x5 : Int32) (μ : Mem) (Q : Int32 → Mem → Prop) : Prop := tI G 3 Y_C_setsOne [.ref (gA G 0), .ref (gA G c1), .int x2, .int x3, .int x4, .int x5] μ Q
abbrev t_C_shortestOrder (G : Gh) (x1 : Int32) (μ : Mem) (Q : Int32 → Mem → Prop) : Prop := tI G 3 Y_C_shortestOrder [.ref (gA G 0), .int x1] μ Q
abbrev t_C_thinkWith (G : Gh) (x1 : Int32) (x2 : Int32) (x3 : Int32) (μ : Mem) (Q : Mem → Prop) : Prop := tV G 3 Y_C_thinkWith [.ref (gA G 0), .int x1, .int x2, .int x3] μ Q
abbrev t_C_top (G : Gh) (x1 : Int32) (μ : Mem) (Q : Int32 → Mem → Prop) : Prop := tI G 3 Y_C_top [.ref (gA G 0), .int x1] μ Q
abbrev t_C_who (G : Gh) (x1 : Int32) (μ : Mem) (Q : Int32 → Mem → Prop) : Prop := tI G 3 Y_C_who [.ref (gA G 0), .int x1] μ Q
abbrev t_F_work (G : Gh) (f : Nat) (x1 : Int32) (μ : Mem) (Q : Mem → Prop) : Prop := tV G 3 Y_F_work [.ref (gA G f), .int x1] μ Q
abbrev t_M_atPlace (G : Gh) (x1 : Int32) (x2 : Int32) (μ : Mem) (Q : Int32 → Mem → Prop) : Prop := tI G 3 Y_M_atPlace [.ref (gA G 134), .int x1, .int x2] μ Q
abbrev t_M_count (G : Gh) (x1 : Int32) (μ : Mem) (Q : Int32 → Mem → Prop) : Prop := tI G 3 Y_M_count [.ref (gA G 134), .int x1] μ Q
abbrev t_M_mislays (G : Gh) (x1 : Int32) (μ : Mem) (Q : Int32 → Mem → Prop) : Prop := tI G 3 Y_M_mislays [.ref (gA G 134), .int x1] μ Q
abbrev t_M_moves (G : Gh) (x1 : Int32) (x2 : Int32) (μ : Mem) (Q : Int32 → Mem → Prop) : Prop := tI G 3 Y_M_moves [.ref (gA G 134), .int x1, .int x2] μ Q
abbrev t_M_sets (G : Gh) (x1 : Int32) (x2 : Int32) (x3 : Int32) (μ : Mem) (Q : Int32 → Mem → Prop) : Prop := tI G 3 Y_M_sets [.ref (gA G 134), .int x1, .int x2, .int x3] μ Q
abbrev t_M_statement (G : Gh) (μ : Mem) (Q : Int32 → Mem → Prop) : Prop := tI G 3 Y_M_statement [.ref (gA G 134)] μ Q
abbrev t_M_takes (G : Gh) (x1 : Int32) (x2 : Int32) (μ : Mem) (Q : Mem → Prop) : Prop := tV G 3 Y_M_takes [.ref (gA G 134), .int x1, .int x2] μ Q
abbrev t_M_who (G : Gh) (x1 : Int32) (μ : Mem) (Q : Int32 → Mem → Prop) : Prop := tI G 3 Y_M_who [.ref (gA G 134), .int x1] μ Q
abbrev t_C_sets (G : Gh) (x1 : Int32) (x2 : Int32) (x3 : Int32) (μ : Mem) (Q : Int32 → Mem → Prop) : Prop := tI G 4 Y_C_sets [.ref (gA G 0), .int x1, .int x2, .int x3] μ Q
abbrev t_C_trolley (G : Gh) (x1 : Int32) (μ : Mem) (Q : Int32 → Mem → Prop) : Prop := tI G 4 Y_C_trolley [.ref (gA G 0), .int x1] μ Q
abbrev t_F_live (G : Gh) (f : Nat) (x1 : Int32) (μ : Mem) (Q : Mem → Prop) : Prop := tV G 4 Y_F_live [.ref (gA G f), .int x1] μ Q
abbrev t_M_judge (G : Gh) (x1 : Int32) (μ : Mem) (Q : Int32 → Mem → Prop) : Prop := tI G 4 Y_M_judge [.ref (gA G 134), .int x1] μ Q
abbrev t_M_works (G : Gh) (x1 : Int32) (μ : Mem) (Q : Mem → Prop) : Prop := tV G 4 Y_M_works [.ref (gA G 134), .int x1] μ Q
abbrev t_C_bestTray (G : Gh) (x1 : Int32) (x2 : Int32) (μ : Mem) (Q : Int32 → Mem → Prop) : Prop := tI G 5 Y_C_bestTray [.ref (gA G 0), .int x1, .int x2] μ Q
abbrev t_C_clerk (G : Gh) (μ : Mem) (Q : Int32 → Mem → Prop) : Prop := tI G 5 Y_C_clerk [.ref (gA G 0)] μ Q
abbrev t_C_comesToPass (G : Gh) (x1 : Int32) (μ : Mem) (Q : Int32 → Mem → Prop) : Prop := tI G 5 Y_C_comesToPass [.ref (gA G 0), .int x1] μ Q
abbrev t_C_days (G : Gh) (x1 : Int32) (μ : Mem) (Q : Int32 → Mem → Prop) : Prop := tI G 5 Y_C_days [.ref (gA G 0), .int x1] μ Q
abbrev t_C_holidays (G : Gh) (x1 : Int32) (x2 : Int32) (x3 : Int32) (x4 : Int32) (x5 : Int32) (μ : Mem) (Q : Int64 → Mem → Prop) : Prop := tL G 5 Y_C_holidays [.ref (gA G 0), .int x1, .int x2, .int x3, .int x4, .int x5] μ Q
abbrev t_C_isTrayCountAsRow (G : Gh) (x1 : Int32) (μ : Mem) (Q : Int32 → Mem → Prop) : Prop := tI G 5 Y_C_isTrayCountAsRow [.ref (gA G 0), .int x1] μ Q
abbrev t_C_isWayAsRow (G : Gh) (x1 : Int32) (μ : Mem) (Q : Int32 → Mem → Prop) : Prop := tI G 5 Y_C_isWayAsRow [.ref (gA G 0), .int x1] μ Q
abbrev t_C_lots (G : Gh) (x1 : Int32) (x2 : Int32) (x3 : Int32) (μ : Mem) (Q : Int32 → Mem → Prop) : Prop := tI G 5 Y_C_lots [.ref (gA G 0), .int x1, .int x2, .int x3] μ Q
abbrev t_C_thinkAhead (G : Gh) (x1 : Int32) (μ : Mem) (Q : Mem → Prop) : Prop := tV G 5 Y_C_thinkAhead [.ref (gA G 0), .int x1] μ Q
abbrev t_C_two (G : Gh) (x1 : Int32) (x2 : Int32) (μ : Mem) (Q : Int32 → Mem → Prop) : Prop := tI G 5 Y_C_two [.ref (gA G 0), .int x1, .int x2] μ Q
abbrev t_C_wanted (G : Gh) (x1 : Int32) (x2 : Int32) (x3 : Int32) (μ : Mem) (Q : Int32 → Mem → Prop) : Prop := tI G 5 Y_C_wanted [.ref (gA G 0), .int x1, .int x2, .int x3] μ Q
abbrev t_M_goesDay (G : Gh) (x1 : Int32) (μ : Mem) (Q : Mem → Prop) : Prop := tV G 5 Y_M_goesDay [.ref (gA G 134), .int x1] μ Q
abbrev t_C_all (G : Gh) (x1 : Int32) (μ : Mem) (Q : Int32 → Mem → Prop) : Prop := tI G 6 Y_C_all [.ref (gA G 0), .int x1] μ Q
abbrev t_C_behind (G : Gh) (x1 : Int32) (x2 : Int32) (x3 : Int32) (μ : Mem) (Q : Int32 → Mem → Prop) : Prop := tI G 6 Y_C_behind [.ref (gA G 0), .int x1, .int x2, .int x3] μ Q
abbrev t_C_busy (G : Gh) (x1 : Int32) (x2 : Int32) (μ : Mem) (Q : Int32 → Mem → Prop) : Prop := tI G 6 Y_C_busy [.ref (gA G 0), .int x1, .int x2] μ Q
abbrev t_C_light (G : Gh) (μ : Mem) (Q : Int32 → Mem → Prop) : Prop := tI G 6 Y_C_light [.ref (gA G 0)] μ Q
abbrev t_C_office (G : Gh) (μ : Mem) (Q : Int32 → Mem → Prop) : Prop := tI G 6 Y_C_office [.ref (gA G 0)] μ Q
abbrev t_C_passed (G : Gh) (x1 : Int32) (μ : Mem) (Q : Int32 → Mem → Prop) : Prop := tI G 6 Y_C_passed [.ref (gA G 0), .int x1] μ Q
abbrev t_C_rounds (G : Gh) (x1 : Int32) (μ : Mem) (Q : Int32 → Mem → Prop) : Prop := tI G 6 Y_C_rounds [.ref (gA G 0), .int x1] μ Q
abbrev t_C_same (G : Gh) (μ : Mem) (Q : Int32 → Mem → Prop) : Prop := tI G 6 Y_C_same [.ref (gA G 0)] μ Q
abbrev t_C_signed (G : Gh) (x1 : Int32) (x2 : Int32) (μ : Mem) (Q : Int32 → Mem → Prop) : Prop := tI G 6 Y_C_signed [.ref (gA G 0), .int x1, .int x2] μ Q
abbrev t_C_then (G : Gh) (x1 : Int32) (x2 : Int32) (x3 : Int32) (μ : Mem) (Q : Int32 → Mem → Prop) : Prop := tI G 6 Y_C_then [.ref (gA G 0), .int x1, .int x2, .int x3] μ Q
abbrev t_C_up (G : Gh) (μ : Mem) (Q : Int32 → Mem → Prop) : Prop := tI G 6 Y_C_up [.ref (gA G 0)] μ Q
abbrev t_C_which (G : Gh) (x1 : Int32) (x2 : Int32) (μ : Mem) (Q : Int32 → Mem → Prop) : Prop := tI G 6 Y_C_which [.ref (gA G 0), .int x1, .int x2] μ Q
abbrev t_C_whose (G : Gh) (x1 : Int32) (x2 : Int32) (μ : Mem) (Q : Int32 → Mem → Prop) : Prop := tI G 6 Y_C_whose [.ref (gA G 0), .int x1, .int x2] μ Q
abbrev t_M_busy (G : Gh) (x1 : Int32) (x2 : Int32) (μ : Mem) (Q : Int32 → Mem → Prop) : Prop := tI G 6 Y_M_busy [.ref (gA G 134), .int x1, .int x2] μ Q
abbrev t_M_emptyAt (G : Gh) (μ : Mem) (Q : Int32 → Mem → Prop) : Prop := tI G 6 Y_M_emptyAt [.ref (gA G 134)] μ Q
abbrev t_M_findSigned (G : Gh) (x1 : Int32) (μ : Mem) (Q : Mem → Prop) : Prop := tV G 6 Y_M_findSigned [.ref (gA G 134), .int x1] μ Q
abbrev t_M_goes (G : Gh) (x1 : Int32) (μ : Mem) (Q : Mem → Prop) : Prop := tV G 6 Y_M_goes [.ref (gA G 134), .int x1] μ Q
abbrev t_M_holidays (G : Gh) (x1 : Int32) (x2 : Int32) (x3 : Int32) (x4 : Int32) (x5 : Int32) (μ : Mem) (Q : Int64 → Mem → Prop) : Prop := tL G 6 Y_M_holidays [.ref (gA G 134), .int x1, .int x2, .int x3, .int x4, .int x5] μ Q
abbrev t_M_isSheetSo (G : Gh) (x1 : Int32) (μ : Mem) (Q : Int32 → Mem → Prop) : Prop := tI G 6 Y_M_isSheetSo [.ref (gA G 134), .int x1] μ Q
abbrev t_M_isTraySo (G : Gh) (x1 : Int32) (μ : Mem) (Q : Int32 → Mem → Prop) : Prop := tI G 6 Y_M_isTraySo [.ref (gA G 134), .int x1] μ Q
abbrev t_M_roundOf (G : Gh) (x1 : Int32) (μ : Mem) (Q : Int32 → Mem → Prop) : Prop := tI G 6 Y_M_roundOf [.ref (gA G 134), .int x1] μ Q
abbrev t_M_all (G : Gh) (x1 : Int32) (μ : Mem) (Q : Int32 → Mem → Prop) : Prop := tI G 7 Y_M_all [.ref (gA G 134), .int x1] μ Q
abbrev t_M_allIn (G : Gh) (x1 : Int32) (μ : Mem) (Q : Int32 → Mem → Prop) : Prop := tI G 7 Y_M_allIn [.ref (gA G 134), .int x1] μ Q
abbrev t_M_behind (G : Gh) (x1 : Int32) (x2 : Int32) (x3 : Int32) (μ : Mem) (Q : Int32 → Mem → Prop) : Prop := tI G 7 Y_M_behind [.ref (gA G 134), .int x1, .int x2, .int x3] μ Q
abbrev t_M_bitsFor (G : Gh) (c1 : Nat) (k1 : Nat) (x2 : Int32) (x3 : Int32) (μ : Mem) (Q : Int32 → Mem → Prop) : Prop := tI G 7 Y_M_bitsFor [.ref (gA G 134), .ref (gA G c1), .int x2, .int x3] μ Q
abbrev t_M_comes (G : Gh) (x1 : Int32) (μ : Mem) (Q : Int32 → Mem → Prop) : Prop := tI G 7 Y_M_comes [.ref (gA G 134), .int x1] μ Q
abbrev t_M_days (G : Gh) (x1 : Int32) (μ : Mem) (Q : Int32 → Mem → Prop) : Prop := tI G 7 Y_M_days [.ref (gA G 134), .int x1] μ Q
abbrev t_M_findBears (G : Gh) (x1 : Int32) (x2 : Int32) (μ : Mem) (Q : Mem → Prop) : Prop := tV G 7 Y_M_findBears [.ref (gA G 134), .int x1, .int x2] μ Q
abbrev t_M_lots (G : Gh) (x1 : Int32) (x2 : Int32) (x3 : Int32) (μ : Mem) (Q : Int32 → Mem → Prop) : Prop := tI G 7 Y_M_lots [.ref (gA G 134), .int x1, .int x2, .int x3] μ Q
abbrev t_M_pacesOf (G : Gh) (x1 : Int32) (μ : Mem) (Q : Int32 → Mem → Prop) : Prop := tI G 7 Y_M_pacesOf [.ref (gA G 134), .int x1] μ Q
abbrev t_M_passed (G : Gh) (x1 : Int32) (μ : Mem) (Q : Int32 → Mem → Prop) : Prop := tI G 7 Y_M_passed [.ref (gA G 134), .int x1] μ Q
abbrev t_M_rounds (G : Gh) (x1 : Int32) (μ : Mem) (Q : Int32 → Mem → Prop) : Prop := tI G 7 Y_M_rounds [.ref (gA G 134), .int x1] μ Q
abbrev t_M_same (G : Gh) (μ : Mem) (Q : Int32 → Mem → Prop) : Prop := tI G 7 Y_M_same [.ref (gA G 134)] μ Q
abbrev t_M_signed (G : Gh) (x1 : Int32) (x2 : Int32) (μ : Mem) (Q : Int32 → Mem → Prop) : Prop := tI G 7 Y_M_signed [.ref (gA G 134), .int x1, .int x2] μ Q
abbrev t_M_signedIn30 (G : Gh) (μ : Mem) (Q : Int32 → Mem → Prop) : Prop := tI G 7 Y_M_signedIn30 [.ref (gA G 134)] μ Q
abbrev t_M_signedWithout (G : Gh) (x1 : Int32) (μ : Mem) (Q : Int32 → Mem → Prop) : Prop := tI G 7 Y_M_signedWithout [.ref (gA G 134), .int x1] μ Q
abbrev t_M_then (G : Gh) (x1 : Int32) (x2 : Int32) (x3 : Int32) (μ : Mem) (Q : Int32 → Mem → Prop) : Prop := tI G 7 Y_M_then [.ref (gA G 134), .int x1, .int x2, .int x3] μ Q
abbrev t_M_whenIn (G : Gh) (x1 : Int32) (x2 : Int32) (μ : Mem) (Q : Int32 → Mem → Prop) : Prop := tI G 7 Y_M_whenIn [.ref (gA G 134), .int x1, .int x2] μ Q
abbrev t_M_whenUp (G : Gh) (x1 : Int32) (μ : Mem) (Q : Int32 → Mem → Prop) : Prop := tI G 7 Y_M_whenUp [.ref (gA G 134), .int x1] μ Q
abbrev t_M_bestTray (G : Gh) (x1 : Int32) (x2 : Int32) (μ : Mem) (Q : Int32 → Mem → Prop) : Prop := tI G 8 Y_M_bestTray [.ref (gA G 134), .int x1, .int x2] μ Q
abbrev t_M_clerk (G : Gh) (μ : Mem) (Q : Int32 → Mem → Prop) : Prop := tI G 8 Y_M_clerk [.ref (gA G 134)] μ Q
abbrev t_M_leastFor (G : Gh) (c1 : Nat) (k1 : Nat) (x2 : Int32) (x3 : Int32) (x4 : Int32) (x5 : Int32) (μ : Mem) (Q : Int32 → Mem → Prop) : Prop := tI G 8 Y_M_leastFor [.ref (gA G 134), .ref (gA G c1), .int x2, .int x3, .int x4, .int x5] μ Q
abbrev t_M_light (G : Gh) (μ : Mem) (Q : Int32 → Mem → Prop) : Prop := tI G 8 Y_M_light [.ref (gA G 134)] μ Q
abbrev t_M_office (G : Gh) (μ : Mem) (Q : Int32 → Mem → Prop) : Prop := tI G 8 Y_M_office [.ref (gA G 134)] μ Q
abbrev t_M_two (G : Gh) (x1 : Int32) (x2 : Int32) (μ : Mem) (Q : Int32 → Mem → Prop) : Prop := tI G 8 Y_M_two [.ref (gA G 134), .int x1, .int x2] μ Q
abbrev t_M_up (G : Gh) (μ : Mem) (Q : Int32 → Mem → Prop) : Prop := tI G 8 Y_M_up [.ref (gA G 134)] μ Q
abbrev t_M_which (G : Gh) (x1 : Int32) (x2 : Int32) (μ : Mem) (Q : Int32 → Mem → Prop) : Prop := tI G 8 Y_M_which [.ref (gA G 134), .int x1, .int x2] μ Q
abbrev t_M_whose (G : Gh) (x1 : Int32) (x2 : Int32) (μ : Mem) (Q : Int32 → Mem → Prop) : Prop := tI G 8 Y_M_whose [.ref (gA G 134), .int x1, .int x2] μ Q
abbrev t_M_wanted (G : Gh) (x1 : Int32) (x2 : Int32) (x3 : Int32) (μ : Mem) (Q : Int32 → Mem → Prop) : Prop := tI G 9 Y_M_wanted [.ref (gA G 134), .int x1, .int x2, .int x3] μ Q
abbrev t_v_isThere (G : Gh) (f : Nat) (x1 : Int32) (μ : Mem) (Q : Int32 → Mem → Prop) : Prop := tI G 0 (vY f Y_D_isThere Y_F_isThere) [.ref (gA G f), .int x1] μ Q
theorem vroom_isThere {f h : Nat} (h1 : 0 + 1 ≤ h) (h2 : 19 + 2 + 35 * 0 ≤ 35 * h) : 0 + 1 ≤ h ∧ 19 + (vY f Y_D_isThere Y_F_isThere).2.2.1 + 35 * 0 ≤ 35 * h := by
  refine ⟨h1, ?_⟩
  unfold vY
  split
  · show 19 + 2 + 35 * 0 ≤ 35 * h; omega
  · show 19 + 2 + 35 * 0 ≤ 35 * h; omega
abbrev t_v_nextOf (G : Gh) (f : Nat) (x1 : Int32) (μ : Mem) (Q : Int32 → Mem → Prop) : Prop := tI G 0 (vY f Y_D_nextOf Y_F_nextOf) [.ref (gA G f), .int x1] μ Q
theorem vroom_nextOf {f h : Nat} (h1 : 0 + 1 ≤ h) (h2 : 19 + 3 + 35 * 0 ≤ 35 * h) : 0 + 1 ≤ h ∧ 19 + (vY f Y_D_nextOf Y_F_nextOf).2.2.1 + 35 * 0 ≤ 35 * h := by
  refine ⟨h1, ?_⟩
  unfold vY
  split
  · show 19 + 3 + 35 * 0 ≤ 35 * h; omega
  · show 19 + 2 + 35 * 0 ≤ 35 * h; omega
abbrev t_v_noteBusy (G : Gh) (f : Nat) (x1 : Int32) (μ : Mem) (Q : Mem → Prop) : Prop := tV G 0 (vY f Y_D_noteBusy Y_F_noteBusy) [.ref (gA G f), .int x1] μ Q
theorem vroom_noteBusy {f h : Nat} (h1 : 0 + 1 ≤ h) (h2 : 19 + 2 + 35 * 0 ≤ 35 * h) : 0 + 1 ≤ h ∧ 19 + (vY f Y_D_noteBusy Y_F_noteBusy).2.2.1 + 35 * 0 ≤ 35 * h := by
  refine ⟨h1, ?_⟩
  unfold vY
  split
  · show 19 + 2 + 35 * 0 ≤ 35 * h; omega
  · show 19 + 2 + 35 * 0 ≤ 35 * h; omega
abbrev t_v_noteDay (G : Gh) (f : Nat) (μ : Mem) (Q : Mem → Prop) : Prop := tV G 0 (vY f Y_D_noteDay Y_F_noteDay) [.ref (gA G f)] μ Q
theorem vroom_noteDay {f h : Nat} (h1 : 0 + 1 ≤ h) (h2 : 19 + 1 + 35 * 0 ≤ 35 * h) : 0 + 1 ≤ h ∧ 19 + (vY f Y_D_noteDay Y_F_noteDay).2.2.1 + 35 * 0 ≤ 35 * h := by
  refine ⟨h1, ?_⟩
  unfold vY
  split
  · show 19 + 1 + 35 * 0 ≤ 35 * h; omega
  · show 19 + 1 + 35 * 0 ≤ 35 * h; omega
abbrev t_v_notePassed (G : Gh) (f : Nat) (x1 : Int32) (μ : Mem) (Q : Mem → Prop) : Prop := tV G 0 (vY f Y_D_notePassed Y_F_notePassed) [.ref (gA G f), .int x1] μ Q
theorem vroom_notePassed {f h : Nat} (h1 : 0 + 1 ≤ h) (h2 : 19 + 2 + 35 * 0 ≤ 35 * h) : 0 + 1 ≤ h ∧ 19 + (vY f Y_D_notePassed Y_F_notePassed).2.2.1 + 35 * 0 ≤ 35 * h := by
  refine ⟨h1, ?_⟩
  unfold vY
  split
  · show 19 + 2 + 35 * 0 ≤ 35 * h; omega
  · show 19 + 2 + 35 * 0 ≤ 35 * h; omega
abbrev t_v_noteSigned (G : Gh) (f : Nat) (x1 : Int32) (μ : Mem) (Q : Mem → Prop) : Prop := tV G 0 (vY f Y_D_noteSigned Y_F_noteSigned) [.ref (gA G f), .int x1] μ Q
theorem vroom_noteSigned {f h : Nat} (h1 : 0 + 1 ≤ h) (h2 : 19 + 2 + 35 * 0 ≤ 35 * h) : 0 + 1 ≤ h ∧ 19 + (vY f Y_D_noteSigned Y_F_noteSigned).2.2.1 + 35 * 0 ≤ 35 * h := by
  refine ⟨h1, ?_⟩
  unfold vY
  split
  · show 19 + 2 + 35 * 0 ≤ 35 * h; omega
  · show 19 + 2 + 35 * 0 ≤ 35 * h; omega
