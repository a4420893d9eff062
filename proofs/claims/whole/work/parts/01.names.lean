-- ===== PART A: goes FIRST, ahead of the names: the tables' words, and 'selects' of the private methods out of them =====
/-- a private method of a class that the tables say can be made, by its rows of tables_1 -/
def lw_okq (q : MethodName × Nat) : Prop := (q.1.cls ≠ "java/lang/invoke/MethodHandle" ∧ q.1.cls ≠ "java/lang/invoke/VarHandle") ∧ Cond.instantiable q.1.cls q.2 ∈ tables_1 ∧ Cond.privateMethod q.1 ∈ tables_1 ∧ Cond.instanceMethod q.1 ∈ tables_1
theorem lw_p0 : lw_okq (⟨"InTraysPurgatory", "refuse", "(I)I"⟩, 14) := ⟨⟨by decide +kernel, by decide +kernel⟩, List.mem_of_getElem? (i := 11) (by decide +kernel), List.mem_of_getElem? (i := 219) (by decide +kernel), List.mem_of_getElem? (i := 220) (by decide +kernel)⟩
theorem lw_p1 : lw_okq (⟨"InTraysPurgatory", "firstWrongLetter", "()I"⟩, 14) := ⟨⟨by decide +kernel, by decide +kernel⟩, List.mem_of_getElem? (i := 11) (by decide +kernel), List.mem_of_getElem? (i := 227) (by decide +kernel), List.mem_of_getElem? (i := 228) (by decide +kernel)⟩
theorem lw_p2 : lw_okq (⟨"InTraysPurgatory", "letterAt", "(I)I"⟩, 14) := ⟨⟨by decide +kernel, by decide +kernel⟩, List.mem_of_getElem? (i := 11) (by decide +kernel), List.mem_of_getElem? (i := 231) (by decide +kernel), List.mem_of_getElem? (i := 232) (by decide +kernel)⟩
theorem lw_p3 : lw_okq (⟨"InTraysPurgatory", "comesToPass", "(I)Z"⟩, 14) := ⟨⟨by decide +kernel, by decide +kernel⟩, List.mem_of_getElem? (i := 11) (by decide +kernel), List.mem_of_getElem? (i := 251) (by decide +kernel), List.mem_of_getElem? (i := 252) (by decide +kernel)⟩
theorem lw_p4 : lw_okq (⟨"InTraysPurgatory", "digitAt", "(I)I"⟩, 14) := ⟨⟨by decide +kernel, by decide +kernel⟩, List.mem_of_getElem? (i := 11) (by decide +kernel), List.mem_of_getElem? (i := 255) (by decide +kernel), List.mem_of_getElem? (i := 256) (by decide +kernel)⟩
theorem lw_p5 : lw_okq (⟨"InTraysPurgatory", "sheetComes", "(III)Z"⟩, 14) := ⟨⟨by decide +kernel, by decide +kernel⟩, List.mem_of_getElem? (i := 11) (by decide +kernel), List.mem_of_getElem? (i := 259) (by decide +kernel), List.mem_of_getElem? (i := 260) (by decide +kernel)⟩
theorem lw_p6 : lw_okq (⟨"InTraysPurgatory", "officialBecomes", "(III)Z"⟩, 14) := ⟨⟨by decide +kernel, by decide +kernel⟩, List.mem_of_getElem? (i := 11) (by decide +kernel), List.mem_of_getElem? (i := 278) (by decide +kernel), List.mem_of_getElem? (i := 279) (by decide +kernel)⟩
theorem lw_p7 : lw_okq (⟨"InTraysPurgatory", "officialMoves", "(II)Z"⟩, 14) := ⟨⟨by decide +kernel, by decide +kernel⟩, List.mem_of_getElem? (i := 11) (by decide +kernel), List.mem_of_getElem? (i := 282) (by decide +kernel), List.mem_of_getElem? (i := 283) (by decide +kernel)⟩
theorem lw_p8 : lw_okq (⟨"InTraysPurgatory", "sheetIsMislaid", "(I)Z"⟩, 14) := ⟨⟨by decide +kernel, by decide +kernel⟩, List.mem_of_getElem? (i := 11) (by decide +kernel), List.mem_of_getElem? (i := 286) (by decide +kernel), List.mem_of_getElem? (i := 287) (by decide +kernel)⟩
theorem lw_p9 : lw_okq (⟨"InTraysPurgatory$Floor", "work", "(I)V"⟩, 13) := ⟨⟨by decide +kernel, by decide +kernel⟩, List.mem_of_getElem? (i := 19) (by decide +kernel), List.mem_of_getElem? (i := 327) (by decide +kernel), List.mem_of_getElem? (i := 328) (by decide +kernel)⟩
theorem lw_p10 : lw_okq (⟨"InTraysPurgatory$Floor", "sign", "(II)V"⟩, 13) := ⟨⟨by decide +kernel, by decide +kernel⟩, List.mem_of_getElem? (i := 19) (by decide +kernel), List.mem_of_getElem? (i := 378) (by decide +kernel), List.mem_of_getElem? (i := 379) (by decide +kernel)⟩
theorem lw_p11 : lw_okq (⟨"InTraysPurgatory$Floor", "passOn", "(II)V"⟩, 13) := ⟨⟨by decide +kernel, by decide +kernel⟩, List.mem_of_getElem? (i := 19) (by decide +kernel), List.mem_of_getElem? (i := 400) (by decide +kernel), List.mem_of_getElem? (i := 401) (by decide +kernel)⟩
theorem lw_p12 : lw_okq (⟨"InTraysPurgatory", "setsOne", "([IIIII)I"⟩, 14) := ⟨⟨by decide +kernel, by decide +kernel⟩, List.mem_of_getElem? (i := 11) (by decide +kernel), List.mem_of_getElem? (i := 452) (by decide +kernel), List.mem_of_getElem? (i := 453) (by decide +kernel)⟩
theorem lw_p13 : lw_okq (⟨"InTraysPurgatory", "thinkAhead", "(I)V"⟩, 14) := ⟨⟨by decide +kernel, by decide +kernel⟩, List.mem_of_getElem? (i := 11) (by decide +kernel), List.mem_of_getElem? (i := 508) (by decide +kernel), List.mem_of_getElem? (i := 509) (by decide +kernel)⟩
theorem lw_p14 : lw_okq (⟨"InTraysPurgatory", "firstSigned", "()I"⟩, 14) := ⟨⟨by decide +kernel, by decide +kernel⟩, List.mem_of_getElem? (i := 11) (by decide +kernel), List.mem_of_getElem? (i := 538) (by decide +kernel), List.mem_of_getElem? (i := 539) (by decide +kernel)⟩
theorem lw_p15 : lw_okq (⟨"InTraysPurgatory", "lastSignedOn", "()I"⟩, 14) := ⟨⟨by decide +kernel, by decide +kernel⟩, List.mem_of_getElem? (i := 11) (by decide +kernel), List.mem_of_getElem? (i := 546) (by decide +kernel), List.mem_of_getElem? (i := 547) (by decide +kernel)⟩
def lw_privs_1 : List (MethodName × Nat) := [(⟨"InTraysPurgatory", "refuse", "(I)I"⟩, 14), (⟨"InTraysPurgatory", "firstWrongLetter", "()I"⟩, 14), (⟨"InTraysPurgatory", "letterAt", "(I)I"⟩, 14), (⟨"InTraysPurgatory", "comesToPass", "(I)Z"⟩, 14), (⟨"InTraysPurgatory", "digitAt", "(I)I"⟩, 14), (⟨"InTraysPurgatory", "sheetComes", "(III)Z"⟩, 14), (⟨"InTraysPurgatory", "officialBecomes", "(III)Z"⟩, 14), (⟨"InTraysPurgatory", "officialMoves", "(II)Z"⟩, 14), (⟨"InTraysPurgatory", "sheetIsMislaid", "(I)Z"⟩, 14), (⟨"InTraysPurgatory$Floor", "work", "(I)V"⟩, 13), (⟨"InTraysPurgatory$Floor", "sign", "(II)V"⟩, 13), (⟨"InTraysPurgatory$Floor", "passOn", "(II)V"⟩, 13), (⟨"InTraysPurgatory", "setsOne", "([IIIII)I"⟩, 14), (⟨"InTraysPurgatory", "thinkAhead", "(I)V"⟩, 14), (⟨"InTraysPurgatory", "firstSigned", "()I"⟩, 14), (⟨"InTraysPurgatory", "lastSignedOn", "()I"⟩, 14)]
theorem lw_r1 : ∀ q ∈ lw_privs_1, lw_okq q := List.forall_mem_cons.mpr ⟨lw_p0, List.forall_mem_cons.mpr ⟨lw_p1, List.forall_mem_cons.mpr ⟨lw_p2, List.forall_mem_cons.mpr ⟨lw_p3, List.forall_mem_cons.mpr ⟨lw_p4, List.forall_mem_cons.mpr ⟨lw_p5, List.forall_mem_cons.mpr ⟨lw_p6, List.forall_mem_cons.mpr ⟨lw_p7, List.forall_mem_cons.mpr ⟨lw_p8, List.forall_mem_cons.mpr ⟨lw_p9, List.forall_mem_cons.mpr ⟨lw_p10, List.forall_mem_cons.mpr ⟨lw_p11, List.forall_mem_cons.mpr ⟨lw_p12, List.forall_mem_cons.mpr ⟨lw_p13, List.forall_mem_cons.mpr ⟨lw_p14, List.forall_mem_cons.mpr ⟨lw_p15, fun _ h => absurd h List.not_mem_nil⟩⟩⟩⟩⟩⟩⟩⟩⟩⟩⟩⟩⟩⟩⟩⟩
theorem lw_p16 : lw_okq (⟨"InTraysPurgatory", "noteAsItIs", "()V"⟩, 14) := ⟨⟨by decide +kernel, by decide +kernel⟩, List.mem_of_getElem? (i := 11) (by decide +kernel), List.mem_of_getElem? (i := 566) (by decide +kernel), List.mem_of_getElem? (i := 567) (by decide +kernel)⟩
theorem lw_p17 : lw_okq (⟨"InTraysPurgatory", "thinkWith", "(III)V"⟩, 14) := ⟨⟨by decide +kernel, by decide +kernel⟩, List.mem_of_getElem? (i := 11) (by decide +kernel), List.mem_of_getElem? (i := 585) (by decide +kernel), List.mem_of_getElem? (i := 586) (by decide +kernel)⟩
theorem lw_p18 : lw_okq (⟨"InTraysPurgatory", "isTrayCountAsRow", "(I)Z"⟩, 14) := ⟨⟨by decide +kernel, by decide +kernel⟩, List.mem_of_getElem? (i := 11) (by decide +kernel), List.mem_of_getElem? (i := 619) (by decide +kernel), List.mem_of_getElem? (i := 620) (by decide +kernel)⟩
theorem lw_p19 : lw_okq (⟨"InTraysPurgatory", "isWayAsRow", "(I)Z"⟩, 14) := ⟨⟨by decide +kernel, by decide +kernel⟩, List.mem_of_getElem? (i := 11) (by decide +kernel), List.mem_of_getElem? (i := 628) (by decide +kernel), List.mem_of_getElem? (i := 629) (by decide +kernel)⟩
theorem lw_p20 : lw_okq (⟨"InTraysPurgatory", "shortestOrder", "(I)I"⟩, 14) := ⟨⟨by decide +kernel, by decide +kernel⟩, List.mem_of_getElem? (i := 11) (by decide +kernel), List.mem_of_getElem? (i := 636) (by decide +kernel), List.mem_of_getElem? (i := 637) (by decide +kernel)⟩
theorem lw_p21 : lw_okq (⟨"InTraysPurgatory", "wayOf", "(II)I"⟩, 14) := ⟨⟨by decide +kernel, by decide +kernel⟩, List.mem_of_getElem? (i := 11) (by decide +kernel), List.mem_of_getElem? (i := 640) (by decide +kernel), List.mem_of_getElem? (i := 641) (by decide +kernel)⟩
theorem lw_p22 : lw_okq (⟨"InTraysPurgatory$Mind", "aheadIn", "(II)I"⟩, 20) := ⟨⟨by decide +kernel, by decide +kernel⟩, List.mem_of_getElem? (i := 106) (by decide +kernel), List.mem_of_getElem? (i := 695) (by decide +kernel), List.mem_of_getElem? (i := 696) (by decide +kernel)⟩
theorem lw_p23 : lw_okq (⟨"InTraysPurgatory", "firstNotSo", "(I)I"⟩, 14) := ⟨⟨by decide +kernel, by decide +kernel⟩, List.mem_of_getElem? (i := 11) (by decide +kernel), List.mem_of_getElem? (i := 739) (by decide +kernel), List.mem_of_getElem? (i := 740) (by decide +kernel)⟩
theorem lw_p24 : lw_okq (⟨"InTraysPurgatory", "dealTrays", "()V"⟩, 14) := ⟨⟨by decide +kernel, by decide +kernel⟩, List.mem_of_getElem? (i := 11) (by decide +kernel), List.mem_of_getElem? (i := 752) (by decide +kernel), List.mem_of_getElem? (i := 753) (by decide +kernel)⟩
theorem lw_p25 : lw_okq (⟨"InTraysPurgatory", "drawTray", "()I"⟩, 14) := ⟨⟨by decide +kernel, by decide +kernel⟩, List.mem_of_getElem? (i := 11) (by decide +kernel), List.mem_of_getElem? (i := 756) (by decide +kernel), List.mem_of_getElem? (i := 757) (by decide +kernel)⟩
theorem lw_p26 : lw_okq (⟨"InTraysPurgatoryModel", "no", "(I)I"⟩, 36) := ⟨⟨by decide +kernel, by decide +kernel⟩, List.mem_of_getElem? (i := 780) (by decide +kernel), List.mem_of_getElem? (i := 902) (by decide +kernel), List.mem_of_getElem? (i := 903) (by decide +kernel)⟩
theorem lw_p27 : lw_okq (⟨"InTraysPurgatoryModel", "statement", "()Z"⟩, 36) := ⟨⟨by decide +kernel, by decide +kernel⟩, List.mem_of_getElem? (i := 780) (by decide +kernel), List.mem_of_getElem? (i := 910) (by decide +kernel), List.mem_of_getElem? (i := 911) (by decide +kernel)⟩
theorem lw_p28 : lw_okq (⟨"InTraysPurgatoryModel", "next", "()I"⟩, 36) := ⟨⟨by decide +kernel, by decide +kernel⟩, List.mem_of_getElem? (i := 780) (by decide +kernel), List.mem_of_getElem? (i := 914) (by decide +kernel), List.mem_of_getElem? (i := 915) (by decide +kernel)⟩
theorem lw_p29 : lw_okq (⟨"InTraysPurgatoryModel", "readsAll", "(II)Z"⟩, 36) := ⟨⟨by decide +kernel, by decide +kernel⟩, List.mem_of_getElem? (i := 780) (by decide +kernel), List.mem_of_getElem? (i := 918) (by decide +kernel), List.mem_of_getElem? (i := 919) (by decide +kernel)⟩
theorem lw_p30 : lw_okq (⟨"InTraysPurgatoryModel", "readsDigits", "(II)Z"⟩, 36) := ⟨⟨by decide +kernel, by decide +kernel⟩, List.mem_of_getElem? (i := 780) (by decide +kernel), List.mem_of_getElem? (i := 922) (by decide +kernel), List.mem_of_getElem? (i := 923) (by decide +kernel)⟩
theorem lw_p31 : lw_okq (⟨"InTraysPurgatoryModel", "passesAll", "(IZ)V"⟩, 36) := ⟨⟨by decide +kernel, by decide +kernel⟩, List.mem_of_getElem? (i := 780) (by decide +kernel), List.mem_of_getElem? (i := 929) (by decide +kernel), List.mem_of_getElem? (i := 930) (by decide +kernel)⟩
def lw_privs_2 : List (MethodName × Nat) := [(⟨"InTraysPurgatory", "noteAsItIs", "()V"⟩, 14), (⟨"InTraysPurgatory", "thinkWith", "(III)V"⟩, 14), (⟨"InTraysPurgatory", "isTrayCountAsRow", "(I)Z"⟩, 14), (⟨"InTraysPurgatory", "isWayAsRow", "(I)Z"⟩, 14), (⟨"InTraysPurgatory", "shortestOrder", "(I)I"⟩, 14), (⟨"InTraysPurgatory", "wayOf", "(II)I"⟩, 14), (⟨"InTraysPurgatory$Mind", "aheadIn", "(II)I"⟩, 20), (⟨"InTraysPurgatory", "firstNotSo", "(I)I"⟩, 14), (⟨"InTraysPurgatory", "dealTrays", "()V"⟩, 14), (⟨"InTraysPurgatory", "drawTray", "()I"⟩, 14), (⟨"InTraysPurgatoryModel", "no", "(I)I"⟩, 36), (⟨"InTraysPurgatoryModel", "statement", "()Z"⟩, 36), (⟨"InTraysPurgatoryModel", "next", "()I"⟩, 36), (⟨"InTraysPurgatoryModel", "readsAll", "(II)Z"⟩, 36), (⟨"InTraysPurgatoryModel", "readsDigits", "(II)Z"⟩, 36), (⟨"InTraysPurgatoryModel", "passesAll", "(IZ)V"⟩, 36)]
theorem lw_r2 : ∀ q ∈ lw_privs_2, lw_okq q := List.forall_mem_cons.mpr ⟨lw_p16, List.forall_mem_cons.mpr ⟨lw_p17, List.forall_mem_cons.mpr ⟨lw_p18, List.forall_mem_cons.mpr ⟨lw_p19, List.forall_mem_cons.mpr ⟨lw_p20, List.forall_mem_cons.mpr ⟨lw_p21, List.forall_mem_cons.mpr ⟨lw_p22, List.forall_mem_cons.mpr ⟨lw_p23, List.forall_mem_cons.mpr ⟨lw_p24, List.forall_mem_cons.mpr ⟨lw_p25, List.forall_mem_cons.mpr ⟨lw_p26, List.forall_mem_cons.mpr ⟨lw_p27, List.forall_mem_cons.mpr ⟨lw_p28, List.forall_mem_cons.mpr ⟨lw_p29, List.forall_mem_cons.mpr ⟨lw_p30, List.forall_mem_cons.mpr ⟨lw_p31, fun _ h => absurd h List.not_mem_nil⟩⟩⟩⟩⟩⟩⟩⟩⟩⟩⟩⟩⟩⟩⟩⟩
theorem lw_p32 : lw_okq (⟨"InTraysPurgatoryModel", "passesRow", "([I)V"⟩, 36) := ⟨⟨by decide +kernel, by decide +kernel⟩, List.mem_of_getElem? (i := 780) (by decide +kernel), List.mem_of_getElem? (i := 933) (by decide +kernel), List.mem_of_getElem? (i := 934) (by decide +kernel)⟩
theorem lw_p33 : lw_okq (⟨"InTraysPurgatoryModel", "passOne", "(I)I"⟩, 36) := ⟨⟨by decide +kernel, by decide +kernel⟩, List.mem_of_getElem? (i := 780) (by decide +kernel), List.mem_of_getElem? (i := 937) (by decide +kernel), List.mem_of_getElem? (i := 938) (by decide +kernel)⟩
theorem lw_p34 : lw_okq (⟨"InTraysPurgatoryModel", "comes", "(I)Z"⟩, 36) := ⟨⟨by decide +kernel, by decide +kernel⟩, List.mem_of_getElem? (i := 780) (by decide +kernel), List.mem_of_getElem? (i := 941) (by decide +kernel), List.mem_of_getElem? (i := 942) (by decide +kernel)⟩
theorem lw_p35 : lw_okq (⟨"InTraysPurgatoryModel", "comesSheet", "(I)Z"⟩, 36) := ⟨⟨by decide +kernel, by decide +kernel⟩, List.mem_of_getElem? (i := 780) (by decide +kernel), List.mem_of_getElem? (i := 945) (by decide +kernel), List.mem_of_getElem? (i := 946) (by decide +kernel)⟩
theorem lw_p36 : lw_okq (⟨"InTraysPurgatoryModel", "adds", "(III)V"⟩, 36) := ⟨⟨by decide +kernel, by decide +kernel⟩, List.mem_of_getElem? (i := 780) (by decide +kernel), List.mem_of_getElem? (i := 952) (by decide +kernel), List.mem_of_getElem? (i := 953) (by decide +kernel)⟩
theorem lw_p37 : lw_okq (⟨"InTraysPurgatoryModel", "goesTo", "(II)V"⟩, 36) := ⟨⟨by decide +kernel, by decide +kernel⟩, List.mem_of_getElem? (i := 780) (by decide +kernel), List.mem_of_getElem? (i := 956) (by decide +kernel), List.mem_of_getElem? (i := 957) (by decide +kernel)⟩
theorem lw_p38 : lw_okq (⟨"InTraysPurgatoryModel", "comesOfficial", "(III)Z"⟩, 36) := ⟨⟨by decide +kernel, by decide +kernel⟩, List.mem_of_getElem? (i := 780) (by decide +kernel), List.mem_of_getElem? (i := 960) (by decide +kernel), List.mem_of_getElem? (i := 961) (by decide +kernel)⟩
theorem lw_p39 : lw_okq (⟨"InTraysPurgatoryModel", "isSheet", "(I)Z"⟩, 36) := ⟨⟨by decide +kernel, by decide +kernel⟩, List.mem_of_getElem? (i := 780) (by decide +kernel), List.mem_of_getElem? (i := 964) (by decide +kernel), List.mem_of_getElem? (i := 965) (by decide +kernel)⟩
theorem lw_p40 : lw_okq (⟨"InTraysPurgatoryModel", "mislaysOne", "(I)V"⟩, 36) := ⟨⟨by decide +kernel, by decide +kernel⟩, List.mem_of_getElem? (i := 780) (by decide +kernel), List.mem_of_getElem? (i := 968) (by decide +kernel), List.mem_of_getElem? (i := 969) (by decide +kernel)⟩
theorem lw_p41 : lw_okq (⟨"InTraysPurgatoryModel", "goes", "(I)V"⟩, 36) := ⟨⟨by decide +kernel, by decide +kernel⟩, List.mem_of_getElem? (i := 780) (by decide +kernel), List.mem_of_getElem? (i := 972) (by decide +kernel), List.mem_of_getElem? (i := 973) (by decide +kernel)⟩
theorem lw_p42 : lw_okq (⟨"InTraysPurgatoryModel", "goesDay", "(I)V"⟩, 36) := ⟨⟨by decide +kernel, by decide +kernel⟩, List.mem_of_getElem? (i := 780) (by decide +kernel), List.mem_of_getElem? (i := 976) (by decide +kernel), List.mem_of_getElem? (i := 977) (by decide +kernel)⟩
theorem lw_p43 : lw_okq (⟨"InTraysPurgatoryModel", "works", "(I)V"⟩, 36) := ⟨⟨by decide +kernel, by decide +kernel⟩, List.mem_of_getElem? (i := 780) (by decide +kernel), List.mem_of_getElem? (i := 980) (by decide +kernel), List.mem_of_getElem? (i := 981) (by decide +kernel)⟩
theorem lw_p44 : lw_okq (⟨"InTraysPurgatoryModel", "trayOf", "(I)I"⟩, 36) := ⟨⟨by decide +kernel, by decide +kernel⟩, List.mem_of_getElem? (i := 780) (by decide +kernel), List.mem_of_getElem? (i := 984) (by decide +kernel), List.mem_of_getElem? (i := 985) (by decide +kernel)⟩
theorem lw_p45 : lw_okq (⟨"InTraysPurgatoryModel", "topOf", "(I)I"⟩, 36) := ⟨⟨by decide +kernel, by decide +kernel⟩, List.mem_of_getElem? (i := 780) (by decide +kernel), List.mem_of_getElem? (i := 988) (by decide +kernel), List.mem_of_getElem? (i := 989) (by decide +kernel)⟩
theorem lw_p46 : lw_okq (⟨"InTraysPurgatoryModel", "hasteOf", "(I)I"⟩, 36) := ⟨⟨by decide +kernel, by decide +kernel⟩, List.mem_of_getElem? (i := 780) (by decide +kernel), List.mem_of_getElem? (i := 995) (by decide +kernel), List.mem_of_getElem? (i := 996) (by decide +kernel)⟩
theorem lw_p47 : lw_okq (⟨"InTraysPurgatoryModel", "takes", "(II)V"⟩, 36) := ⟨⟨by decide +kernel, by decide +kernel⟩, List.mem_of_getElem? (i := 780) (by decide +kernel), List.mem_of_getElem? (i := 999) (by decide +kernel), List.mem_of_getElem? (i := 1000) (by decide +kernel)⟩
def lw_privs_3 : List (MethodName × Nat) := [(⟨"InTraysPurgatoryModel", "passesRow", "([I)V"⟩, 36), (⟨"InTraysPurgatoryModel", "passOne", "(I)I"⟩, 36), (⟨"InTraysPurgatoryModel", "comes", "(I)Z"⟩, 36), (⟨"InTraysPurgatoryModel", "comesSheet", "(I)Z"⟩, 36), (⟨"InTraysPurgatoryModel", "adds", "(III)V"⟩, 36), (⟨"InTraysPurgatoryModel", "goesTo", "(II)V"⟩, 36), (⟨"InTraysPurgatoryModel", "comesOfficial", "(III)Z"⟩, 36), (⟨"InTraysPurgatoryModel", "isSheet", "(I)Z"⟩, 36), (⟨"InTraysPurgatoryModel", "mislaysOne", "(I)V"⟩, 36), (⟨"InTraysPurgatoryModel", "goes", "(I)V"⟩, 36), (⟨"InTraysPurgatoryModel", "goesDay", "(I)V"⟩, 36), (⟨"InTraysPurgatoryModel", "works", "(I)V"⟩, 36), (⟨"InTraysPurgatoryModel", "trayOf", "(I)I"⟩, 36), (⟨"InTraysPurgatoryModel", "topOf", "(I)I"⟩, 36), (⟨"InTraysPurgatoryModel", "hasteOf", "(I)I"⟩, 36), (⟨"InTraysPurgatoryModel", "takes", "(II)V"⟩, 36)]
theorem lw_r3 : ∀ q ∈ lw_privs_3, lw_okq q := List.forall_mem_cons.mpr ⟨lw_p32, List.forall_mem_cons.mpr ⟨lw_p33, List.forall_mem_cons.mpr ⟨lw_p34, List.forall_mem_cons.mpr ⟨lw_p35, List.forall_mem_cons.mpr ⟨lw_p36, List.forall_mem_cons.mpr ⟨lw_p37, List.forall_mem_cons.mpr ⟨lw_p38, List.forall_mem_cons.mpr ⟨lw_p39, List.forall_mem_cons.mpr ⟨lw_p40, List.forall_mem_cons.mpr ⟨lw_p41, List.forall_mem_cons.mpr ⟨lw_p42, List.forall_mem_cons.mpr ⟨lw_p43, List.forall_mem_cons.mpr ⟨lw_p44, List.forall_mem_cons.mpr ⟨lw_p45, List.forall_mem_cons.mpr ⟨lw_p46, List.forall_mem_cons.mpr ⟨lw_p47, fun _ h => absurd h List.not_mem_nil⟩⟩⟩⟩⟩⟩⟩⟩⟩⟩⟩⟩⟩⟩⟩⟩
theorem lw_p48 : lw_okq (⟨"InTraysPurgatoryModel", "isWilling", "(II)Z"⟩, 36) := ⟨⟨by decide +kernel, by decide +kernel⟩, List.mem_of_getElem? (i := 780) (by decide +kernel), List.mem_of_getElem? (i := 1003) (by decide +kernel), List.mem_of_getElem? (i := 1004) (by decide +kernel)⟩
theorem lw_p49 : lw_okq (⟨"InTraysPurgatoryModel", "loadOf", "(I)I"⟩, 36) := ⟨⟨by decide +kernel, by decide +kernel⟩, List.mem_of_getElem? (i := 780) (by decide +kernel), List.mem_of_getElem? (i := 1007) (by decide +kernel), List.mem_of_getElem? (i := 1008) (by decide +kernel)⟩
theorem lw_p50 : lw_okq (⟨"InTraysPurgatoryModel", "weightOf", "(I)I"⟩, 36) := ⟨⟨by decide +kernel, by decide +kernel⟩, List.mem_of_getElem? (i := 780) (by decide +kernel), List.mem_of_getElem? (i := 1011) (by decide +kernel), List.mem_of_getElem? (i := 1012) (by decide +kernel)⟩
theorem lw_p51 : lw_okq (⟨"InTraysPurgatoryModel", "ringsOf", "(I)I"⟩, 36) := ⟨⟨by decide +kernel, by decide +kernel⟩, List.mem_of_getElem? (i := 780) (by decide +kernel), List.mem_of_getElem? (i := 1015) (by decide +kernel), List.mem_of_getElem? (i := 1016) (by decide +kernel)⟩
theorem lw_p52 : lw_okq (⟨"InTraysPurgatoryModel", "partOf", "(I)I"⟩, 36) := ⟨⟨by decide +kernel, by decide +kernel⟩, List.mem_of_getElem? (i := 780) (by decide +kernel), List.mem_of_getElem? (i := 1019) (by decide +kernel), List.mem_of_getElem? (i := 1020) (by decide +kernel)⟩
theorem lw_p53 : lw_okq (⟨"InTraysPurgatoryModel", "nextOf", "(I)I"⟩, 36) := ⟨⟨by decide +kernel, by decide +kernel⟩, List.mem_of_getElem? (i := 780) (by decide +kernel), List.mem_of_getElem? (i := 1026) (by decide +kernel), List.mem_of_getElem? (i := 1027) (by decide +kernel)⟩
theorem lw_p54 : lw_okq (⟨"InTraysPurgatoryModel", "keepsBack", "()V"⟩, 36) := ⟨⟨by decide +kernel, by decide +kernel⟩, List.mem_of_getElem? (i := 780) (by decide +kernel), List.mem_of_getElem? (i := 1061) (by decide +kernel), List.mem_of_getElem? (i := 1062) (by decide +kernel)⟩
theorem lw_p55 : lw_okq (⟨"InTraysPurgatoryModel", "setIn", "(II)I"⟩, 36) := ⟨⟨by decide +kernel, by decide +kernel⟩, List.mem_of_getElem? (i := 780) (by decide +kernel), List.mem_of_getElem? (i := 1069) (by decide +kernel), List.mem_of_getElem? (i := 1070) (by decide +kernel)⟩
theorem lw_p56 : lw_okq (⟨"InTraysPurgatoryModel", "waits", "(I)Z"⟩, 36) := ⟨⟨by decide +kernel, by decide +kernel⟩, List.mem_of_getElem? (i := 780) (by decide +kernel), List.mem_of_getElem? (i := 1077) (by decide +kernel), List.mem_of_getElem? (i := 1078) (by decide +kernel)⟩
theorem lw_p57 : lw_okq (⟨"InTraysPurgatoryModel", "allSigned", "()I"⟩, 36) := ⟨⟨by decide +kernel, by decide +kernel⟩, List.mem_of_getElem? (i := 780) (by decide +kernel), List.mem_of_getElem? (i := 1085) (by decide +kernel), List.mem_of_getElem? (i := 1086) (by decide +kernel)⟩
theorem lw_p58 : lw_okq (⟨"InTraysPurgatoryModel", "thinks", "()V"⟩, 36) := ⟨⟨by decide +kernel, by decide +kernel⟩, List.mem_of_getElem? (i := 780) (by decide +kernel), List.mem_of_getElem? (i := 1096) (by decide +kernel), List.mem_of_getElem? (i := 1097) (by decide +kernel)⟩
theorem lw_p59 : lw_okq (⟨"InTraysPurgatoryModel", "placeOf", "(I)I"⟩, 36) := ⟨⟨by decide +kernel, by decide +kernel⟩, List.mem_of_getElem? (i := 780) (by decide +kernel), List.mem_of_getElem? (i := 1100) (by decide +kernel), List.mem_of_getElem? (i := 1101) (by decide +kernel)⟩
theorem lw_p60 : lw_okq (⟨"InTraysPurgatoryModel", "forgets", "()V"⟩, 36) := ⟨⟨by decide +kernel, by decide +kernel⟩, List.mem_of_getElem? (i := 780) (by decide +kernel), List.mem_of_getElem? (i := 1104) (by decide +kernel), List.mem_of_getElem? (i := 1105) (by decide +kernel)⟩
theorem lw_p61 : lw_okq (⟨"InTraysPurgatoryModel", "findSigned", "(I)V"⟩, 36) := ⟨⟨by decide +kernel, by decide +kernel⟩, List.mem_of_getElem? (i := 780) (by decide +kernel), List.mem_of_getElem? (i := 1116) (by decide +kernel), List.mem_of_getElem? (i := 1117) (by decide +kernel)⟩
theorem lw_p62 : lw_okq (⟨"InTraysPurgatoryModel", "emptyAt", "()I"⟩, 36) := ⟨⟨by decide +kernel, by decide +kernel⟩, List.mem_of_getElem? (i := 780) (by decide +kernel), List.mem_of_getElem? (i := 1124) (by decide +kernel), List.mem_of_getElem? (i := 1125) (by decide +kernel)⟩
theorem lw_p63 : lw_okq (⟨"InTraysPurgatoryModel", "waiting", "()I"⟩, 36) := ⟨⟨by decide +kernel, by decide +kernel⟩, List.mem_of_getElem? (i := 780) (by decide +kernel), List.mem_of_getElem? (i := 1128) (by decide +kernel), List.mem_of_getElem? (i := 1129) (by decide +kernel)⟩
def lw_privs_4 : List (MethodName × Nat) := [(⟨"InTraysPurgatoryModel", "isWilling", "(II)Z"⟩, 36), (⟨"InTraysPurgatoryModel", "loadOf", "(I)I"⟩, 36), (⟨"InTraysPurgatoryModel", "weightOf", "(I)I"⟩, 36), (⟨"InTraysPurgatoryModel", "ringsOf", "(I)I"⟩, 36), (⟨"InTraysPurgatoryModel", "partOf", "(I)I"⟩, 36), (⟨"InTraysPurgatoryModel", "nextOf", "(I)I"⟩, 36), (⟨"InTraysPurgatoryModel", "keepsBack", "()V"⟩, 36), (⟨"InTraysPurgatoryModel", "setIn", "(II)I"⟩, 36), (⟨"InTraysPurgatoryModel", "waits", "(I)Z"⟩, 36), (⟨"InTraysPurgatoryModel", "allSigned", "()I"⟩, 36), (⟨"InTraysPurgatoryModel", "thinks", "()V"⟩, 36), (⟨"InTraysPurgatoryModel", "placeOf", "(I)I"⟩, 36), (⟨"InTraysPurgatoryModel", "forgets", "()V"⟩, 36), (⟨"InTraysPurgatoryModel", "findSigned", "(I)V"⟩, 36), (⟨"InTraysPurgatoryModel", "emptyAt", "()I"⟩, 36), (⟨"InTraysPurgatoryModel", "waiting", "()I"⟩, 36)]
theorem lw_r4 : ∀ q ∈ lw_privs_4, lw_okq q := List.forall_mem_cons.mpr ⟨lw_p48, List.forall_mem_cons.mpr ⟨lw_p49, List.forall_mem_cons.mpr ⟨lw_p50, List.forall_mem_cons.mpr ⟨lw_p51, List.forall_mem_cons.mpr ⟨lw_p52, List.forall_mem_cons.mpr ⟨lw_p53, List.forall_mem_cons.mpr ⟨lw_p54, List.forall_mem_cons.mpr ⟨lw_p55, List.forall_mem_cons.mpr ⟨lw_p56, List.forall_mem_cons.mpr ⟨lw_p57, List.forall_mem_cons.mpr ⟨lw_p58, List.forall_mem_cons.mpr ⟨lw_p59, List.forall_mem_cons.mpr ⟨lw_p60, List.forall_mem_cons.mpr ⟨lw_p61, List.forall_mem_cons.mpr ⟨lw_p62, List.forall_mem_cons.mpr ⟨lw_p63, fun _ h => absurd h List.not_mem_nil⟩⟩⟩⟩⟩⟩⟩⟩⟩⟩⟩⟩⟩⟩⟩⟩
theorem lw_p64 : lw_okq (⟨"InTraysPurgatoryModel", "whenIn", "(II)I"⟩, 36) := ⟨⟨by decide +kernel, by decide +kernel⟩, List.mem_of_getElem? (i := 780) (by decide +kernel), List.mem_of_getElem? (i := 1136) (by decide +kernel), List.mem_of_getElem? (i := 1137) (by decide +kernel)⟩
theorem lw_p65 : lw_okq (⟨"InTraysPurgatoryModel", "whenUp", "(I)I"⟩, 36) := ⟨⟨by decide +kernel, by decide +kernel⟩, List.mem_of_getElem? (i := 780) (by decide +kernel), List.mem_of_getElem? (i := 1144) (by decide +kernel), List.mem_of_getElem? (i := 1145) (by decide +kernel)⟩
theorem lw_p66 : lw_okq (⟨"InTraysPurgatoryModel", "leastFor", "([IIIII)I"⟩, 36) := ⟨⟨by decide +kernel, by decide +kernel⟩, List.mem_of_getElem? (i := 780) (by decide +kernel), List.mem_of_getElem? (i := 1152) (by decide +kernel), List.mem_of_getElem? (i := 1153) (by decide +kernel)⟩
theorem lw_p67 : lw_okq (⟨"InTraysPurgatoryModel", "allIn", "(I)Z"⟩, 36) := ⟨⟨by decide +kernel, by decide +kernel⟩, List.mem_of_getElem? (i := 780) (by decide +kernel), List.mem_of_getElem? (i := 1156) (by decide +kernel), List.mem_of_getElem? (i := 1157) (by decide +kernel)⟩
theorem lw_p68 : lw_okq (⟨"InTraysPurgatoryModel", "roundOf", "(I)I"⟩, 36) := ⟨⟨by decide +kernel, by decide +kernel⟩, List.mem_of_getElem? (i := 780) (by decide +kernel), List.mem_of_getElem? (i := 1168) (by decide +kernel), List.mem_of_getElem? (i := 1169) (by decide +kernel)⟩
theorem lw_p69 : lw_okq (⟨"InTraysPurgatoryModel", "startsPassings", "()V"⟩, 36) := ⟨⟨by decide +kernel, by decide +kernel⟩, List.mem_of_getElem? (i := 780) (by decide +kernel), List.mem_of_getElem? (i := 1172) (by decide +kernel), List.mem_of_getElem? (i := 1173) (by decide +kernel)⟩
theorem lw_p70 : lw_okq (⟨"InTraysPurgatoryModel", "allBorne", "()I"⟩, 36) := ⟨⟨by decide +kernel, by decide +kernel⟩, List.mem_of_getElem? (i := 780) (by decide +kernel), List.mem_of_getElem? (i := 1180) (by decide +kernel), List.mem_of_getElem? (i := 1181) (by decide +kernel)⟩
theorem lw_p71 : lw_okq (⟨"InTraysPurgatoryModel", "lower", "(I)I"⟩, 36) := ⟨⟨by decide +kernel, by decide +kernel⟩, List.mem_of_getElem? (i := 780) (by decide +kernel), List.mem_of_getElem? (i := 1188) (by decide +kernel), List.mem_of_getElem? (i := 1189) (by decide +kernel)⟩
theorem lw_p72 : lw_okq (⟨"InTraysPurgatoryModel", "pacesOf", "(I)I"⟩, 36) := ⟨⟨by decide +kernel, by decide +kernel⟩, List.mem_of_getElem? (i := 780) (by decide +kernel), List.mem_of_getElem? (i := 1197) (by decide +kernel), List.mem_of_getElem? (i := 1198) (by decide +kernel)⟩
theorem lw_p73 : lw_okq (⟨"InTraysPurgatoryModel", "isTraySo", "(I)Z"⟩, 36) := ⟨⟨by decide +kernel, by decide +kernel⟩, List.mem_of_getElem? (i := 780) (by decide +kernel), List.mem_of_getElem? (i := 1201) (by decide +kernel), List.mem_of_getElem? (i := 1202) (by decide +kernel)⟩
theorem lw_p74 : lw_okq (⟨"InTraysPurgatoryModel", "bitsFor", "([III)I"⟩, 36) := ⟨⟨by decide +kernel, by decide +kernel⟩, List.mem_of_getElem? (i := 780) (by decide +kernel), List.mem_of_getElem? (i := 1209) (by decide +kernel), List.mem_of_getElem? (i := 1210) (by decide +kernel)⟩
theorem lw_p75 : lw_okq (⟨"InTraysPurgatoryModel", "isSheetSo", "(I)Z"⟩, 36) := ⟨⟨by decide +kernel, by decide +kernel⟩, List.mem_of_getElem? (i := 780) (by decide +kernel), List.mem_of_getElem? (i := 1213) (by decide +kernel), List.mem_of_getElem? (i := 1214) (by decide +kernel)⟩
theorem lw_p76 : lw_okq (⟨"InTraysPurgatoryModel", "findShortest", "()V"⟩, 36) := ⟨⟨by decide +kernel, by decide +kernel⟩, List.mem_of_getElem? (i := 780) (by decide +kernel), List.mem_of_getElem? (i := 1221) (by decide +kernel), List.mem_of_getElem? (i := 1222) (by decide +kernel)⟩
theorem lw_p77 : lw_okq (⟨"InTraysPurgatoryModel", "fullTrays", "()I"⟩, 36) := ⟨⟨by decide +kernel, by decide +kernel⟩, List.mem_of_getElem? (i := 780) (by decide +kernel), List.mem_of_getElem? (i := 1228) (by decide +kernel), List.mem_of_getElem? (i := 1229) (by decide +kernel)⟩
theorem lw_p78 : lw_okq (⟨"InTraysPurgatoryModel", "findBears", "(II)V"⟩, 36) := ⟨⟨by decide +kernel, by decide +kernel⟩, List.mem_of_getElem? (i := 780) (by decide +kernel), List.mem_of_getElem? (i := 1236) (by decide +kernel), List.mem_of_getElem? (i := 1237) (by decide +kernel)⟩
theorem lw_p79 : lw_okq (⟨"InTraysPurgatoryModel", "lowest", "(I)J"⟩, 36) := ⟨⟨by decide +kernel, by decide +kernel⟩, List.mem_of_getElem? (i := 780) (by decide +kernel), List.mem_of_getElem? (i := 1244) (by decide +kernel), List.mem_of_getElem? (i := 1245) (by decide +kernel)⟩
def lw_privs_5 : List (MethodName × Nat) := [(⟨"InTraysPurgatoryModel", "whenIn", "(II)I"⟩, 36), (⟨"InTraysPurgatoryModel", "whenUp", "(I)I"⟩, 36), (⟨"InTraysPurgatoryModel", "leastFor", "([IIIII)I"⟩, 36), (⟨"InTraysPurgatoryModel", "allIn", "(I)Z"⟩, 36), (⟨"InTraysPurgatoryModel", "roundOf", "(I)I"⟩, 36), (⟨"InTraysPurgatoryModel", "startsPassings", "()V"⟩, 36), (⟨"InTraysPurgatoryModel", "allBorne", "()I"⟩, 36), (⟨"InTraysPurgatoryModel", "lower", "(I)I"⟩, 36), (⟨"InTraysPurgatoryModel", "pacesOf", "(I)I"⟩, 36), (⟨"InTraysPurgatoryModel", "isTraySo", "(I)Z"⟩, 36), (⟨"InTraysPurgatoryModel", "bitsFor", "([III)I"⟩, 36), (⟨"InTraysPurgatoryModel", "isSheetSo", "(I)Z"⟩, 36), (⟨"InTraysPurgatoryModel", "findShortest", "()V"⟩, 36), (⟨"InTraysPurgatoryModel", "fullTrays", "()I"⟩, 36), (⟨"InTraysPurgatoryModel", "findBears", "(II)V"⟩, 36), (⟨"InTraysPurgatoryModel", "lowest", "(I)J"⟩, 36)]
theorem lw_r5 : ∀ q ∈ lw_privs_5, lw_okq q := List.forall_mem_cons.mpr ⟨lw_p64, List.forall_mem_cons.mpr ⟨lw_p65, List.forall_mem_cons.mpr ⟨lw_p66, List.forall_mem_cons.mpr ⟨lw_p67, List.forall_mem_cons.mpr ⟨lw_p68, List.forall_mem_cons.mpr ⟨lw_p69, List.forall_mem_cons.mpr ⟨lw_p70, List.forall_mem_cons.mpr ⟨lw_p71, List.forall_mem_cons.mpr ⟨lw_p72, List.forall_mem_cons.mpr ⟨lw_p73, List.forall_mem_cons.mpr ⟨lw_p74, List.forall_mem_cons.mpr ⟨lw_p75, List.forall_mem_cons.mpr ⟨lw_p76, List.forall_mem_cons.mpr ⟨lw_p77, List.forall_mem_cons.mpr ⟨lw_p78, List.forall_mem_cons.mpr ⟨lw_p79, fun _ h => absurd h List.not_mem_nil⟩⟩⟩⟩⟩⟩⟩⟩⟩⟩⟩⟩⟩⟩⟩⟩
theorem lw_p80 : lw_okq (⟨"InTraysPurgatoryModel", "signedWithout", "(I)I"⟩, 36) := ⟨⟨by decide +kernel, by decide +kernel⟩, List.mem_of_getElem? (i := 780) (by decide +kernel), List.mem_of_getElem? (i := 1275) (by decide +kernel), List.mem_of_getElem? (i := 1276) (by decide +kernel)⟩
theorem lw_p81 : lw_okq (⟨"InTraysPurgatoryModel", "signedIn30", "()I"⟩, 36) := ⟨⟨by decide +kernel, by decide +kernel⟩, List.mem_of_getElem? (i := 780) (by decide +kernel), List.mem_of_getElem? (i := 1283) (by decide +kernel), List.mem_of_getElem? (i := 1284) (by decide +kernel)⟩
theorem lw_p82 : lw_okq (⟨"InTraysPurgatoryModel", "allPasses", "()I"⟩, 36) := ⟨⟨by decide +kernel, by decide +kernel⟩, List.mem_of_getElem? (i := 780) (by decide +kernel), List.mem_of_getElem? (i := 1291) (by decide +kernel), List.mem_of_getElem? (i := 1292) (by decide +kernel)⟩
theorem lw_p83 : lw_okq (⟨"InTraysPurgatoryModel", "atPlace", "(II)I"⟩, 36) := ⟨⟨by decide +kernel, by decide +kernel⟩, List.mem_of_getElem? (i := 780) (by decide +kernel), List.mem_of_getElem? (i := 1315) (by decide +kernel), List.mem_of_getElem? (i := 1316) (by decide +kernel)⟩
theorem lw_p84 : lw_okq (⟨"InTraysPurgatoryModel", "draw", "(I)I"⟩, 36) := ⟨⟨by decide +kernel, by decide +kernel⟩, List.mem_of_getElem? (i := 780) (by decide +kernel), List.mem_of_getElem? (i := 1327) (by decide +kernel), List.mem_of_getElem? (i := 1328) (by decide +kernel)⟩
def lw_privs_6 : List (MethodName × Nat) := [(⟨"InTraysPurgatoryModel", "signedWithout", "(I)I"⟩, 36), (⟨"InTraysPurgatoryModel", "signedIn30", "()I"⟩, 36), (⟨"InTraysPurgatoryModel", "allPasses", "()I"⟩, 36), (⟨"InTraysPurgatoryModel", "atPlace", "(II)I"⟩, 36), (⟨"InTraysPurgatoryModel", "draw", "(I)I"⟩, 36)]
theorem lw_r6 : ∀ q ∈ lw_privs_6, lw_okq q := List.forall_mem_cons.mpr ⟨lw_p80, List.forall_mem_cons.mpr ⟨lw_p81, List.forall_mem_cons.mpr ⟨lw_p82, List.forall_mem_cons.mpr ⟨lw_p83, List.forall_mem_cons.mpr ⟨lw_p84, fun _ h => absurd h List.not_mem_nil⟩⟩⟩⟩⟩
def lw_privs : List (MethodName × Nat) := lw_privs_1 ++ (lw_privs_2 ++ (lw_privs_3 ++ (lw_privs_4 ++ (lw_privs_5 ++ (lw_privs_6)))))
def lw_tbl : List Cond := k2_sels lw_privs ++ tables_1
theorem lw_privs_ok : ∀ q ∈ lw_privs, lw_okq q := by
  show ∀ q ∈ lw_privs_1 ++ (lw_privs_2 ++ (lw_privs_3 ++ (lw_privs_4 ++ (lw_privs_5 ++ (lw_privs_6))))), lw_okq q
  exact List.forall_mem_append.mpr ⟨lw_r1, List.forall_mem_append.mpr ⟨lw_r2, List.forall_mem_append.mpr ⟨lw_r3, List.forall_mem_append.mpr ⟨lw_r4, List.forall_mem_append.mpr ⟨lw_r5, lw_r6⟩⟩⟩⟩⟩
/-- a private method of another class, chosen for an object of a class under it -/
theorem sel_priv {C : String} {y : MethodName} {s : State} {args : Array Value} {n n2 : Nat} (hy : y.cls ≠ "java/lang/invoke/MethodHandle" ∧ y.cls ≠ "java/lang/invoke/VarHandle")
    (hinC : (Cond.instantiable C n).before args s = true) (hins : (Cond.instantiable y.cls n2).before args s = true) (hpriv : (Cond.privateMethod y).before args s = true) (hinst : (Cond.instanceMethod y).before args s = true) :
    (Cond.selects C y y).before args s = true := by
  obtain ⟨c1, k1, hc1, hk1, -, -, -, -⟩ := Cond.instantiable_spec hinC
  obtain ⟨c, k, hc, hk, -, hniab, -, -⟩ := Cond.instantiable_spec hins
  have hni : k.isInterface = false := (Bool.or_eq_false_iff.mp hniab).1
  obtain ⟨mk, methM, hnamed, hmethM, -, -⟩ := Cond.instanceMethod_spec hinst
  have hfound : s.methodFound? y.cls y.name y.desc = some mk := State.methodFound?_of_named hnamed hy
  have hcls : mk.cls = c := Option.some.inj ((findClass_of_methodNamed hnamed).symm.trans hc)
  have hsel : selectMethod {} s.vm c1 mk = .method mk := selectMethod_private hmethM (Cond.privateMethod_at hpriv mk methM hnamed hmethM)
  simp only [Cond.before, Cond.holds, Cond.value, hc1, hfound, hnamed, hsel, hcls, hk]
  simp; exact hni
def lw_xs : List Cond := [Cond.selects "InTraysPurgatory$Mind" ⟨"InTraysPurgatory$Floor", "work", "(I)V"⟩ ⟨"InTraysPurgatory$Floor", "work", "(I)V"⟩, Cond.selects "InTraysPurgatory$Mind" ⟨"InTraysPurgatory$Floor", "sign", "(II)V"⟩ ⟨"InTraysPurgatory$Floor", "sign", "(II)V"⟩, Cond.selects "InTraysPurgatory$Mind" ⟨"InTraysPurgatory$Floor", "passOn", "(II)V"⟩ ⟨"InTraysPurgatory$Floor", "passOn", "(II)V"⟩]
def bigT : List Cond := (lw_xs ++ lw_tbl).filter goodWord
theorem big_of {w : Cond} (h : w ∈ lw_xs ++ lw_tbl) (g : goodWord w = true) : w ∈ bigT := List.mem_filter.mpr ⟨h, g⟩
theorem big_hts {args : Array Value} {s : State} (h : ∀ w ∈ lw_tbl, w.before args s = true) : ∀ w ∈ bigT, w.before args s = true := by
  intro w hw
  rcases List.mem_append.mp (List.mem_filter.mp hw).1 with q | q
  · have hM : (Cond.instantiable "InTraysPurgatory$Mind" 20).before args s = true := h _ (List.mem_of_getElem? (i := 191) (by decide +kernel))
    have hF : (Cond.instantiable "InTraysPurgatory$Floor" 13).before args s = true := h _ (List.mem_of_getElem? (i := 104) (by decide +kernel))
    unfold lw_xs at q
    rcases List.mem_cons.mp q with rfl | q
    · exact sel_priv ⟨by decide, by decide⟩ hM hF (h _ (List.mem_of_getElem? (i := 412) (by decide +kernel))) (h _ (List.mem_of_getElem? (i := 413) (by decide +kernel)))
    rcases List.mem_cons.mp q with rfl | q
    · exact sel_priv ⟨by decide, by decide⟩ hM hF (h _ (List.mem_of_getElem? (i := 463) (by decide +kernel))) (h _ (List.mem_of_getElem? (i := 464) (by decide +kernel)))
    rcases List.mem_cons.mp q with rfl | q
    · exact sel_priv ⟨by decide, by decide⟩ hM hF (h _ (List.mem_of_getElem? (i := 485) (by decide +kernel))) (h _ (List.mem_of_getElem? (i := 486) (by decide +kernel)))
    · exact absurd q List.not_mem_nil
  · exact h w q
def RX0 : String := "InTraysPurgatory$Floor"
def TX0 : u_T := fun k => match k with
  | 0 => ("InTraysPurgatory$Floor", "pace", "[I", true)
  | 1 => ("InTraysPurgatory$Floor", "mercy", "[I", true)
  | 2 => ("InTraysPurgatory$Floor", "borne", "[I", true)
  | 3 => ("InTraysPurgatory$Floor", "room", "[I", true)
  | 4 => ("InTraysPurgatory$Floor", "kind", "[I", true)
  | 5 => ("InTraysPurgatory$Floor", "figure", "[I", true)
  | 6 => ("InTraysPurgatory$Floor", "state", "[I", true)
  | 7 => ("InTraysPurgatory$Floor", "at", "[I", true)
  | 8 => ("InTraysPurgatory$Floor", "minutes", "[I", true)
  | 9 => ("InTraysPurgatory$Floor", "rank", "[I", true)
  | 10 => ("InTraysPurgatory$Floor", "nextRank", "I", false)
  | 11 => ("InTraysPurgatory$Floor", "sheets", "I", false)
  | _ => ("InTraysPurgatory$Floor", "day", "I", false)
def tyX0 : Nat → FieldType := fun k => match k with
  | 0 => .array .int
  | 1 => .array .int
  | 2 => .array .int
  | 3 => .array .int
  | 4 => .array .int
  | 5 => .array .int
  | 6 => .array .int
  | 7 => .array .int
  | 8 => .array .int
  | 9 => .array .int
  | 10 => .int
  | 11 => .int
  | _ => .int
theorem nmX0 : ∀ a, a < 13 → ∀ b, b < 13 → a ≠ b → (TX0 a).2.1 ≠ (TX0 b).2.1 := by decide +kernel
theorem tyX0_ok : ∀ k, k < 13 → parseFieldDescriptor (TX0 k).2.2.1 = some (tyX0 k) := by decide +kernel
def RX2 : String := "InTraysPurgatory$Mind"
def TX2 : u_T := fun k => match k with
  | 0 => ("InTraysPurgatory$Floor", "pace", "[I", true)
  | 1 => ("InTraysPurgatory$Floor", "mercy", "[I", true)
  | 2 => ("InTraysPurgatory$Floor", "borne", "[I", true)
  | 3 => ("InTraysPurgatory$Floor", "room", "[I", true)
  | 4 => ("InTraysPurgatory$Floor", "kind", "[I", true)
  | 5 => ("InTraysPurgatory$Floor", "figure", "[I", true)
  | 6 => ("InTraysPurgatory$Floor", "state", "[I", true)
  | 7 => ("InTraysPurgatory$Floor", "at", "[I", true)
  | 8 => ("InTraysPurgatory$Floor", "minutes", "[I", true)
  | 9 => ("InTraysPurgatory$Floor", "rank", "[I", true)
  | 10 => ("InTraysPurgatory$Floor", "nextRank", "I", false)
  | 11 => ("InTraysPurgatory$Floor", "sheets", "I", false)
  | 12 => ("InTraysPurgatory$Floor", "day", "I", false)
  | 13 => ("InTraysPurgatory$Mind", "elapsed", "I", false)
  | 14 => ("InTraysPurgatory$Mind", "signedOn", "[I", true)
  | 15 => ("InTraysPurgatory$Mind", "passings", "[I", true)
  | 16 => ("InTraysPurgatory$Mind", "roundOn", "[I", true)
  | 17 => ("InTraysPurgatory$Mind", "busyDays", "[I", true)
  | 18 => ("InTraysPurgatory$Mind", "away", "I", false)
  | _ => ("InTraysPurgatory$Mind", "dismissed", "I", false)
def tyX2 : Nat → FieldType := fun k => match k with
  | 0 => .array .int
  | 1 => .array .int
  | 2 => .array .int
  | 3 => .array .int
  | 4 => .array .int
  | 5 => .array .int
  | 6 => .array .int
  | 7 => .array .int
  | 8 => .array .int
  | 9 => .array .int
  | 10 => .int
  | 11 => .int
  | 12 => .int
  | 13 => .int
  | 14 => .array .int
  | 15 => .array .int
  | 16 => .array .int
  | 17 => .array .int
  | 18 => .int
  | _ => .int
theorem nmX2 : ∀ a, a < 20 → ∀ b, b < 20 → a ≠ b → (TX2 a).2.1 ≠ (TX2 b).2.1 := by decide +kernel
theorem tyX2_ok : ∀ k, k < 20 → parseFieldDescriptor (TX2 k).2.2.1 = some (tyX2 k) := by decide +kernel
def RX3 : String := "InTraysPurgatory$Past"
def TX3 : u_T := fun k => match k with
  | 0 => ("InTraysPurgatory$Past", "floors", "[LInTraysPurgatory$Floor;", true)
  | 1 => ("InTraysPurgatory$Past", "latest", "I", false)
  | _ => ("InTraysPurgatory$Past", "kept", "I", false)
def tyX3 : Nat → FieldType := fun k => match k with
  | 0 => .array (.object "InTraysPurgatory$Floor")
  | 1 => .int
  | _ => .int
theorem nmX3 : ∀ a, a < 3 → ∀ b, b < 3 → a ≠ b → (TX3 a).2.1 ≠ (TX3 b).2.1 := by decide +kernel
theorem tyX3_ok : ∀ k, k < 3 → parseFieldDescriptor (TX3 k).2.2.1 = some (tyX3 k) := by decide +kernel
def RX4 : String := "InTraysPurgatory"
def TX4 : u_T := fun k => match k with
  | 0 => ("InTraysPurgatory", "now", "LInTraysPurgatory$Floor;", true)
  | 1 => ("InTraysPurgatory", "mind", "LInTraysPurgatory$Mind;", true)
  | 2 => ("InTraysPurgatory", "picture", "LInTraysPurgatory$Floor;", true)
  | 3 => ("InTraysPurgatory", "pictured", "Z", false)
  | 4 => ("InTraysPurgatory", "past", "LInTraysPurgatory$Past;", true)
  | 5 => ("InTraysPurgatory", "letters", "[I", true)
  | 6 => ("InTraysPurgatory", "lettersIn", "I", false)
  | 7 => ("InTraysPurgatory", "numbers", "[I", true)
  | 8 => ("InTraysPurgatory", "numbersIn", "I", false)
  | 9 => ("InTraysPurgatory", "refusals", "[I", true)
  | 10 => ("InTraysPurgatory", "signedAsItIs", "[I", true)
  | 11 => ("InTraysPurgatory", "borneByOne", "[I", true)
  | 12 => ("InTraysPurgatory", "borneByOther", "[I", true)
  | _ => ("InTraysPurgatory", "seed", "I", false)
def tyX4 : Nat → FieldType := fun k => match k with
  | 0 => .object "InTraysPurgatory$Floor"
  | 1 => .object "InTraysPurgatory$Mind"
  | 2 => .object "InTraysPurgatory$Floor"
  | 3 => .boolean
  | 4 => .object "InTraysPurgatory$Past"
  | 5 => .array .int
  | 6 => .int
  | 7 => .array .int
  | 8 => .int
  | 9 => .array .int
  | 10 => .array .int
  | 11 => .array .int
  | 12 => .array .int
  | _ => .int
theorem nmX4 : ∀ a, a < 14 → ∀ b, b < 14 → a ≠ b → (TX4 a).2.1 ≠ (TX4 b).2.1 := by decide +kernel
theorem tyX4_ok : ∀ k, k < 14 → parseFieldDescriptor (TX4 k).2.2.1 = some (tyX4 k) := by decide +kernel
def RX5 : String := "InTraysPurgatoryModel"
def TX5 : u_T := fun k => match k with
  | 0 => ("InTraysPurgatoryModel", "refused", "[I", true)
  | 1 => ("InTraysPurgatoryModel", "pace", "[I", true)
  | 2 => ("InTraysPurgatoryModel", "mercy", "[I", true)
  | 3 => ("InTraysPurgatoryModel", "borne", "[I", true)
  | 4 => ("InTraysPurgatoryModel", "room", "[I", true)
  | 5 => ("InTraysPurgatoryModel", "kind", "[I", true)
  | 6 => ("InTraysPurgatoryModel", "figure", "[I", true)
  | 7 => ("InTraysPurgatoryModel", "in", "[I", true)
  | 8 => ("InTraysPurgatoryModel", "by", "[I", true)
  | 9 => ("InTraysPurgatoryModel", "passes", "[I", true)
  | 10 => ("InTraysPurgatoryModel", "stamp", "[I", true)
  | 11 => ("InTraysPurgatoryModel", "sheets", "I", false)
  | 12 => ("InTraysPurgatoryModel", "day", "I", false)
  | 13 => ("InTraysPurgatoryModel", "stamps", "I", false)
  | 14 => ("InTraysPurgatoryModel", "out", "I", false)
  | 15 => ("InTraysPurgatoryModel", "tape", "[I", true)
  | 16 => ("InTraysPurgatoryModel", "letter", "[I", true)
  | 17 => ("InTraysPurgatoryModel", "letterAt", "[I", true)
  | 18 => ("InTraysPurgatoryModel", "told", "[I", true)
  | 19 => ("InTraysPurgatoryModel", "taped", "I", false)
  | 20 => ("InTraysPurgatoryModel", "at", "I", false)
  | 21 => ("InTraysPurgatoryModel", "statements", "I", false)
  | 22 => ("InTraysPurgatoryModel", "kept", "[I", true)
  | 23 => ("InTraysPurgatoryModel", "hasImage", "Z", false)
  | 24 => ("InTraysPurgatoryModel", "isKeeping", "Z", false)
  | 25 => ("InTraysPurgatoryModel", "cursor", "I", false)
  | 26 => ("InTraysPurgatoryModel", "backs", "I", false)
  | 27 => ("InTraysPurgatoryModel", "passings", "[I", true)
  | 28 => ("InTraysPurgatoryModel", "tookOn", "I", false)
  | 29 => ("InTraysPurgatoryModel", "when", "[I", true)
  | 30 => ("InTraysPurgatoryModel", "whom", "[I", true)
  | 31 => ("InTraysPurgatoryModel", "row", "[I", true)
  | 32 => ("InTraysPurgatoryModel", "rowMany", "I", false)
  | 33 => ("InTraysPurgatoryModel", "shortest", "[I", true)
  | 34 => ("InTraysPurgatoryModel", "bears", "[I", true)
  | _ => ("InTraysPurgatoryModel", "lots", "I", false)
def tyX5 : Nat → FieldType := fun k => match k with
  | 0 => .array .int
  | 1 => .array .int
  | 2 => .array .int
  | 3 => .array .int
  | 4 => .array .int
  | 5 => .array .int
  | 6 => .array .int
  | 7 => .array .int
  | 8 => .array .int
  | 9 => .array .int
  | 10 => .array .int
  | 11 => .int
  | 12 => .int
  | 13 => .int
  | 14 => .int
  | 15 => .array .int
  | 16 => .array .int
  | 17 => .array .int
  | 18 => .array .int
  | 19 => .int
  | 20 => .int
  | 21 => .int
  | 22 => .array .int
  | 23 => .boolean
  | 24 => .boolean
  | 25 => .int
  | 26 => .int
  | 27 => .array .int
  | 28 => .int
  | 29 => .array .int
  | 30 => .array .int
  | 31 => .array .int
  | 32 => .int
  | 33 => .array .int
  | 34 => .array .int
  | _ => .int
theorem nmX5 : ∀ a, a < 36 → ∀ b, b < 36 → a ≠ b → (TX5 a).2.1 ≠ (TX5 b).2.1 := by decide +kernel
theorem tyX5_ok : ∀ k, k < 36 → parseFieldDescriptor (TX5 k).2.2.1 = some (tyX5 k) := by decide +kernel
set_option maxRecDepth 20000 in
theorem inX0 : ∀ w ∈ u_ws RX0 TX0 13, w ∈ bigT := by decide +kernel
set_option maxRecDepth 20000 in
theorem inX2 : ∀ w ∈ u_ws RX2 TX2 20, w ∈ bigT := by decide +kernel
set_option maxRecDepth 20000 in
theorem inX3 : ∀ w ∈ u_ws RX3 TX3 3, w ∈ bigT := by decide +kernel
set_option maxRecDepth 20000 in
theorem inX4 : ∀ w ∈ u_ws RX4 TX4 14, w ∈ bigT := by decide +kernel
set_option maxRecDepth 20000 in
theorem inX5 : ∀ w ∈ u_ws RX5 TX5 36, w ∈ bigT := by decide +kernel
abbrev cls : List vw_C := [(RX0, TX0, 13), (RX2, TX2, 20), (RX3, TX3, 3), (RX4, TX4, 14), (RX5, TX5, 36)]
